abbrev rm_X8_trace : Room := { frames := 0, cells := 0, slots := 0, locals := 0 }
theorem in_X8_trace_X8 : ∀ w ∈ wsX80, w ∈ wsX8_trace := fun _ h => List.mem_cons_of_mem _ (List.mem_append_right _ h)
theorem k_X8_trace_f184 {s : State} {args : Array Value} (hts : ∀ w ∈ wsX8_trace, w.before args s = true) : (Cond.fieldLink RX8 184 "FoldRuleModel" "trace" "J").before args s = true := hts _ (by decide +kernel)
set_option maxHeartbeats 4000000 in
set_option maxRecDepth 100000 in
theorem c_X8_trace {l : Launch} {D : va_G} {Y : ClassId × ClassId × ClassId} {q q_row q_isKept q_text q_seenFold q_seenSpan q_readLong q_marks q_isMeasured q_waysAre q_haveSpan : Nat} {g_links g_undos g_length g_seenMany : Int32} {g_trace : Int64} {g_at g_behind g_number g_readLinks g_readFolded g_readStiff g_wayMany : Int32} {Q : Int64 → Prop} (h : wp_X8_trace g_trace Q) (sz : Nat) : MtL l yX8_trace wsX8_trace rm_X8_trace [.ref q] D Y (w_X8_trace Y q q_row q_isKept q_text q_seenFold q_seenSpan q_readLong q_marks q_isMeasured q_waysAre q_haveSpan g_links g_undos g_length g_seenMany g_trace g_at g_behind g_number g_readLinks g_readFolded g_readStiff g_wayMany) (fun r (_ : Unit) => Q r) (fun _ : Unit => (w_X8_trace Y q q_row q_isKept q_text q_seenFold q_seenSpan q_readLong q_marks q_isMeasured q_waysAre q_haveSpan g_links g_undos g_length g_seenMany g_trace g_at g_behind g_number g_readLinks g_readFolded g_readStiff g_wayMany)) sz := by
  refine ct_l (cc := cX8_trace) (nL := 1) (ret := (some .long)) (by decide) rfl (Nat.le_of_ble_eq_true rfl) ?_ sz
  intro p e s m below meth c A ls C hK hA hP hD hS hl
  obtain ⟨⟨hx, hb, hml, hown, hts⟩, hr, hlocks, hN⟩ := id C
  have hown : s.vm.findClass RX8 = some m.cls := hown
  have hl : lv_has ls 1 [(0, .ref q)] := hl
  unfold wp_X8_trace at h
  refine lv_aload_n hx hb dX8_trace_0 rfl (lv_at hl 0 rfl) ?_
  refine va_get (D := D) (ci := 8) (v := .long g_trace) (C := RX8) (T := TX8) (N := 22) hx hb hts in_X8_trace_X8 hown hK hP 0 rfl rfl 9 (by decide) (k_X8_trace_f184 hts) (fun _ h9 => h9) rfl dX8_trace_1 ?_
  exact ret_l () hx hb hr hlocks hK hP hD hS h dX8_trace_4
