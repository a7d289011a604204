abbrev rm_X8_layWays : Room := { frames := 4, cells := 0, slots := 0, locals := 93 }
theorem in_X8_layWays_X8 : ∀ w ∈ wsX80, w ∈ wsX8_layWays := fun _ h => List.mem_cons_of_mem _ (List.mem_append_right _ h)
theorem k_X8_layWays_f41 {s : State} {args : Array Value} (hts : ∀ w ∈ wsX8_layWays, w.before args s = true) : (Cond.fieldLink RX8 41 "FoldRuleModel" "links" "I").before args s = true := hts _ (by decide +kernel)
theorem k_X8_layWays_f35 {s : State} {args : Array Value} (hts : ∀ w ∈ wsX8_layWays, w.before args s = true) : (Cond.fieldLink RX8 35 "FoldRuleModel" "waysAre" "[I").before args s = true := hts _ (by decide +kernel)
theorem k_X8_layWays_f175 {s : State} {args : Array Value} (hts : ∀ w ∈ wsX8_layWays, w.before args s = true) : (Cond.fieldLink RX8 175 "FoldRuleModel" "wayMany" "I").before args s = true := hts _ (by decide +kernel)
set_option maxHeartbeats 4000000 in
set_option maxRecDepth 100000 in
theorem L_X8_layWays_7 {p : Program} {l : Launch} {e : Env} {s : State} {m : MethodId} {args : Array Value} {below : List Frame} {meth : Method} {c : Code} {D : va_G} {Y : ClassId × ClassId × ClassId} {A : Nat → Prop} {q q_row q_isKept q_text q_seenFold q_seenSpan q_readLong q_marks q_isMeasured q_waysAre q_haveSpan : Nat} {g_links g_undos g_length g_seenMany : Int32} {g_trace : Int64} {g_at g_behind g_number g_readLinks g_readFolded g_readStiff : Int32} {g_row g_seenFold g_seenSpan : Nat → Int32} {Q : Int32 → (Nat → Int32) → (Nat → Int32) → Prop} (C : Ctx p s m args meth c cX8_layWays 2 none wsX8_layWays RX8) (hK : va_K D vwCl (tyS Y) s) (hA : ∀ q, s.heap.size ≤ q → A q) : ∀ (n : Nat) (x1 g_wayMany : Int32) (g_marks g_waysAre : Nat → Int32), itr4 (B_X8_layWays_7 g_links g_seenMany g_row g_seenFold g_seenSpan Q) n x1 g_wayMany g_marks g_waysAre → ∀ (H : Heap) (locs : List Loc) (ls : Array Slot), va_P D vwCl (w_X8_layWays Y q q_row q_isKept q_text q_seenFold q_seenSpan q_readLong q_marks q_isMeasured q_waysAre q_haveSpan g_links g_undos g_length g_seenMany g_trace g_at g_behind g_number g_readLinks g_readFolded g_readStiff g_wayMany g_row g_seenFold g_marks g_seenSpan g_waysAre) H → va_D A (w_X8_layWays Y q q_row q_isKept q_text q_seenFold q_seenSpan q_readLong q_marks q_isMeasured q_waysAre q_haveSpan g_links g_undos g_length g_seenMany g_trace g_at g_behind g_number g_readLinks g_readFolded g_readStiff g_wayMany g_row g_seenFold g_marks g_seenSpan g_waysAre) → va_S A s.heap H locs → lv_has ls 2 [(0, .ref q), (1, .int x1)] → W p l e rm_X8_layWays s m args below meth c H locs 0 0 (QV below args s D Y A (fun (u : Int32 × (Nat → Int32) × (Nat → Int32)) => Q u.1 u.2.1 u.2.2) (fun u : Int32 × (Nat → Int32) × (Nat → Int32) => (w_X8_layWays Y q q_row q_isKept q_text q_seenFold q_seenSpan q_readLong q_marks q_isMeasured q_waysAre q_haveSpan g_links g_undos g_length g_seenMany g_trace g_at g_behind g_number g_readLinks g_readFolded g_readStiff u.1 g_row g_seenFold u.2.1 g_seenSpan u.2.2))) (F0 m 7 ls []) := by
  intro n
  induction n with
  | zero => intro x1 g_wayMany g_marks g_waysAre h; exact False.elim h
  | succ n ih =>
    intro x1 g_wayMany g_marks g_waysAre h H locs ls hP hD hS hl
    obtain ⟨⟨hx, hb, hml, hown, hts⟩, hr, hlocks, hN⟩ := id C
    have h : B_X8_layWays_7 g_links g_seenMany g_row g_seenFold g_seenSpan Q (itr4 (B_X8_layWays_7 g_links g_seenMany g_row g_seenFold g_seenSpan Q) n) x1 g_wayMany g_marks g_waysAre := h
    unfold B_X8_layWays_7 at h
    refine lv_iload_n hx hb dX8_layWays_7 rfl (lv_at hl 1 rfl) ?_
    refine lv_bipush (v := 9) hx hb dX8_layWays_8 (by decide) ?_
    refine lv_aload_n hx hb dX8_layWays_10 rfl (lv_at hl 0 rfl) ?_
    refine va_get (D := D) (ci := 8) (v := .int g_links) (C := RX8) (T := TX8) (N := 22) hx hb hts in_X8_layWays_X8 hown hK hP 0 rfl rfl 1 (by decide) (k_X8_layWays_f41 hts) (fun _ h9 => h9) rfl dX8_layWays_11 ?_
    refine lv_imul hx hb dX8_layWays_14 ?_
    refine lv_icmp_ge (tgt := 74) hx hb dX8_layWays_15 (by decide) (fun c7 => ?_) (fun c7 => ?_)
    · have h := h.1 c7
      exact ret_v (g_wayMany, g_marks, g_waysAre) hx hb hr hlocks hK hP hD hS h dX8_layWays_74
    · have h := h.2 c7
      refine lv_aload_n hx hb dX8_layWays_18 rfl (lv_at hl 0 rfl) ?_
      refine lv_iload_n hx hb dX8_layWays_19 rfl (lv_at hl 1 rfl) ?_
      refine lv_bipush (v := 9) hx hb dX8_layWays_20 (by decide) ?_
      obtain ⟨hne, h⟩ := h
      refine lv_idiv hx hb dX8_layWays_22 hne ?_
      refine lv_iconst (v := 1) hx hb dX8_layWays_23 (by decide) ?_
      refine lv_iload_n hx hb dX8_layWays_24 rfl (lv_at hl 1 rfl) ?_
      refine lv_bipush (v := 9) hx hb dX8_layWays_25 (by decide) ?_
      obtain ⟨hne, h⟩ := h
      refine lv_irem hx hb dX8_layWays_27 hne ?_
      refine lv_iadd hx hb dX8_layWays_28 ?_
      have hp : Pt (w_X8_layWays Y q q_row q_isKept q_text q_seenFold q_seenSpan q_readLong q_marks q_isMeasured q_waysAre q_haveSpan g_links g_undos g_length g_seenMany g_trace g_at g_behind g_number g_readLinks g_readFolded g_readStiff g_wayMany g_row g_seenFold g_marks g_seenSpan g_waysAre) (w_X8_isWay Y q q_row q_isKept q_text q_seenFold q_seenSpan q_readLong q_marks q_isMeasured q_waysAre q_haveSpan g_links g_undos g_length g_seenMany g_trace g_at g_behind g_number g_readLinks g_readFolded g_readStiff g_wayMany g_row g_seenFold g_marks g_seenSpan) [0, 1, 2, 3, 4] := ⟨rfl, by decide +kernel⟩
      refine go_i hp hP hD hS hA (fun _ => rfl) (va_runV (As := [.int (x1 / (9 : Int32)), .int ((1 : Int32) + (x1 - x1 / (9 : Int32) * (9 : Int32)))]) (rest := []) ⟨hx, hb, hml, hown, hts⟩ (c_X8_isWay h _) (cwV 2 hts gX8_layWays_X8_isWay rfl rfl rfl (by decide +kernel) ⟨Nat.le_of_ble_eq_true rfl, Nat.le_of_ble_eq_true rfl⟩) (pre_V (b := q) (q0 := 0) (ci := 8) (q := (RX8, TX8, 22)) hp hK hN hP hD rfl rfl) rfl rfl hl.1 rfl (lv_room (Nat.le_of_ble_eq_true rfl)) dX8_layWays_29 ⟨Nat.le_of_ble_eq_true rfl, Nat.le_of_ble_eq_true rfl⟩) (fun r8 u H locs h hP hD hS => ?_)
      obtain ⟨u9, rfl⟩ : ∃ z, z = u := ⟨_, rfl⟩
      try dsimp only at h
      have hP : va_P D vwCl (w_X8_layWays Y q q_row q_isKept q_text q_seenFold q_seenSpan q_readLong q_marks q_isMeasured q_waysAre q_haveSpan g_links g_undos g_length g_seenMany g_trace g_at g_behind g_number g_readLinks g_readFolded g_readStiff g_wayMany g_row g_seenFold u9 g_seenSpan g_waysAre) H := hP
      have hD : va_D A (w_X8_layWays Y q q_row q_isKept q_text q_seenFold q_seenSpan q_readLong q_marks q_isMeasured q_waysAre q_haveSpan g_links g_undos g_length g_seenMany g_trace g_at g_behind g_number g_readLinks g_readFolded g_readStiff g_wayMany g_row g_seenFold u9 g_seenSpan g_waysAre) := hD
      refine lv_if_eq (tgt := 68) hx hb dX8_layWays_32 (by decide) (fun c10 => ?_) (fun c10 => ?_)
      · have h := h.1 c10
        obtain ⟨z11, ez11⟩ : ∃ y : Int32, y = (x1 + (1 : Int32)) := ⟨_, rfl⟩
        have h := h z11 ez11
        refine lv_iinc (v := z11) (lv' := [(1, .int z11), (0, .ref q)]) hx hb dX8_layWays_68 hl (k := 1) rfl (by rw [ez11]; rfl) (by decide) rfl (fun ls hl => ?_)
        refine lv_goto (tgt := 7) hx hb dX8_layWays_71 (by decide) ?_
        exact ih _ _ _ _ h _ _ _ hP hD hS (lv_sub hl [1, 0] rfl)
      · have h := h.2 c10
        refine lv_aload_n hx hb dX8_layWays_35 rfl (lv_at hl 0 rfl) ?_
        refine va_get (D := D) (ci := 8) (v := .ref q_waysAre) (C := RX8) (T := TX8) (N := 22) hx hb hts in_X8_layWays_X8 hown hK hP 0 rfl rfl 19 (by decide) (k_X8_layWays_f35 hts) (fun _ h9 => h9) rfl dX8_layWays_36 ?_
        refine lv_aload_n hx hb dX8_layWays_39 rfl (lv_at hl 0 rfl) ?_
        refine va_get (D := D) (ci := 8) (v := .int g_wayMany) (C := RX8) (T := TX8) (N := 22) hx hb hts in_X8_layWays_X8 hown hK hP 0 rfl rfl 20 (by decide) (k_X8_layWays_f175 hts) (fun _ h9 => h9) rfl dX8_layWays_40 ?_
        refine lv_bipush (v := 10) hx hb dX8_layWays_43 (by decide) ?_
        refine lv_iload_n hx hb dX8_layWays_45 rfl (lv_at hl 1 rfl) ?_
        refine lv_bipush (v := 9) hx hb dX8_layWays_46 (by decide) ?_
        obtain ⟨hne, h⟩ := h
        refine lv_idiv hx hb dX8_layWays_48 hne ?_
        refine lv_imul hx hb dX8_layWays_49 ?_
        refine lv_iconst (v := 1) hx hb dX8_layWays_50 (by decide) ?_
        refine lv_iadd hx hb dX8_layWays_51 ?_
        refine lv_iload_n hx hb dX8_layWays_52 rfl (lv_at hl 1 rfl) ?_
        refine lv_bipush (v := 9) hx hb dX8_layWays_53 (by decide) ?_
        obtain ⟨hne, h⟩ := h
        refine lv_irem hx hb dX8_layWays_55 hne ?_
        refine lv_iadd hx hb dX8_layWays_56 ?_
        refine lv_topi (fun z12 ez12 => ?_)
        have h := h z12 ez12
        obtain ⟨hin, h⟩ := h
        refine va_iast hx hb hK hP hD hS 5 0 rfl rfl hin dX8_layWays_57 (fun H locs hP hD hS => ?_)
        have hP : va_P D vwCl (w_X8_layWays Y q q_row q_isKept q_text q_seenFold q_seenSpan q_readLong q_marks q_isMeasured q_waysAre q_haveSpan g_links g_undos g_length g_seenMany g_trace g_at g_behind g_number g_readLinks g_readFolded g_readStiff g_wayMany g_row g_seenFold u9 g_seenSpan (upd g_waysAre (g_wayMany).toNatClampNeg z12)) H := hP
        have hD : va_D A (w_X8_layWays Y q q_row q_isKept q_text q_seenFold q_seenSpan q_readLong q_marks q_isMeasured q_waysAre q_haveSpan g_links g_undos g_length g_seenMany g_trace g_at g_behind g_number g_readLinks g_readFolded g_readStiff g_wayMany g_row g_seenFold u9 g_seenSpan (upd g_waysAre (g_wayMany).toNatClampNeg z12)) := hD
        refine lv_aload_n hx hb dX8_layWays_58 rfl (lv_at hl 0 rfl) ?_
        refine lv_dup hx hb dX8_layWays_59 rfl ?_
        refine va_get (D := D) (ci := 8) (v := .int g_wayMany) (C := RX8) (T := TX8) (N := 22) hx hb hts in_X8_layWays_X8 hown hK hP 0 rfl rfl 20 (by decide) (k_X8_layWays_f175 hts) (fun _ h9 => h9) rfl dX8_layWays_60 ?_
        refine lv_iconst (v := 1) hx hb dX8_layWays_63 (by decide) ?_
        refine lv_iadd hx hb dX8_layWays_64 ?_
        refine lv_topi (fun z13 ez13 => ?_)
        have h := h z13 ez13
        refine va_put (D := D) (ci := 8) (v := .int z13) (ty := .int) (C := RX8) (T := TX8) (N := 22) hx hb hts in_X8_layWays_X8 tyX8 tyX8_ok nmX8 hown hK hP hD hS 0 rfl rfl 20 (by decide) (k_X8_layWays_f175 hts) (fun _ h9 => h9) rfl (by decide +kernel) rfl rfl (Nat.le_of_ble_eq_true rfl) dX8_layWays_65 (fun H locs hP hD hS => ?_)
        have hP : va_P D vwCl (w_X8_layWays Y q q_row q_isKept q_text q_seenFold q_seenSpan q_readLong q_marks q_isMeasured q_waysAre q_haveSpan g_links g_undos g_length g_seenMany g_trace g_at g_behind g_number g_readLinks g_readFolded g_readStiff z13 g_row g_seenFold u9 g_seenSpan (upd g_waysAre (g_wayMany).toNatClampNeg z12)) H := hP
        have hD : va_D A (w_X8_layWays Y q q_row q_isKept q_text q_seenFold q_seenSpan q_readLong q_marks q_isMeasured q_waysAre q_haveSpan g_links g_undos g_length g_seenMany g_trace g_at g_behind g_number g_readLinks g_readFolded g_readStiff z13 g_row g_seenFold u9 g_seenSpan (upd g_waysAre (g_wayMany).toNatClampNeg z12)) := hD
        obtain ⟨z14, ez14⟩ : ∃ y : Int32, y = (x1 + (1 : Int32)) := ⟨_, rfl⟩
        have h := h z14 ez14
        refine lv_iinc (v := z14) (lv' := [(1, .int z14), (0, .ref q)]) hx hb dX8_layWays_68 hl (k := 1) rfl (by rw [ez14]; rfl) (by decide) rfl (fun ls hl => ?_)
        refine lv_goto (tgt := 7) hx hb dX8_layWays_71 (by decide) ?_
        exact ih _ _ _ _ h _ _ _ hP hD hS (lv_sub hl [1, 0] rfl)
set_option maxHeartbeats 4000000 in
set_option maxRecDepth 100000 in
theorem c_X8_layWays {l : Launch} {D : va_G} {Y : ClassId × ClassId × ClassId} {q q_row q_isKept q_text q_seenFold q_seenSpan q_readLong q_marks q_isMeasured q_waysAre q_haveSpan : Nat} {g_links g_undos g_length g_seenMany : Int32} {g_trace : Int64} {g_at g_behind g_number g_readLinks g_readFolded g_readStiff g_wayMany : Int32} {g_row g_seenFold g_marks g_seenSpan g_waysAre : Nat → Int32} {Q : Int32 → (Nat → Int32) → (Nat → Int32) → Prop} (h : wp_X8_layWays g_links g_seenMany g_wayMany g_row g_seenFold g_marks g_seenSpan g_waysAre Q) (sz : Nat) : MtV l yX8_layWays wsX8_layWays rm_X8_layWays [.ref q] D Y (w_X8_layWays Y q q_row q_isKept q_text q_seenFold q_seenSpan q_readLong q_marks q_isMeasured q_waysAre q_haveSpan g_links g_undos g_length g_seenMany g_trace g_at g_behind g_number g_readLinks g_readFolded g_readStiff g_wayMany g_row g_seenFold g_marks g_seenSpan g_waysAre) (fun (u : Int32 × (Nat → Int32) × (Nat → Int32)) => Q u.1 u.2.1 u.2.2) (fun u : Int32 × (Nat → Int32) × (Nat → Int32) => (w_X8_layWays Y q q_row q_isKept q_text q_seenFold q_seenSpan q_readLong q_marks q_isMeasured q_waysAre q_haveSpan g_links g_undos g_length g_seenMany g_trace g_at g_behind g_number g_readLinks g_readFolded g_readStiff u.1 g_row g_seenFold u.2.1 g_seenSpan u.2.2)) sz := by
  refine ct_v (cc := cX8_layWays) (nL := 2) (ret := none) (by decide) rfl (Nat.le_of_ble_eq_true rfl) ?_ sz
  intro p e s m below meth c A ls C hK hA hP hD hS hl
  obtain ⟨⟨hx, hb, hml, hown, hts⟩, hr, hlocks, hN⟩ := id C
  have hown : s.vm.findClass RX8 = some m.cls := hown
  have hl : lv_has ls 2 [(0, .ref q)] := hl
  unfold wp_X8_layWays at h
  refine lv_aload_n hx hb dX8_layWays_0 rfl (lv_at hl 0 rfl) ?_
  refine lv_iconst (v := 0) hx hb dX8_layWays_1 (by decide) ?_
  refine va_put (D := D) (ci := 8) (v := .int (0 : Int32)) (ty := .int) (C := RX8) (T := TX8) (N := 22) hx hb hts in_X8_layWays_X8 tyX8 tyX8_ok nmX8 hown hK hP hD hS 0 rfl rfl 20 (by decide) (k_X8_layWays_f175 hts) (fun _ h9 => h9) rfl (by decide +kernel) rfl rfl (Nat.le_of_ble_eq_true rfl) dX8_layWays_2 (fun H locs hP hD hS => ?_)
  have hP : va_P D vwCl (w_X8_layWays Y q q_row q_isKept q_text q_seenFold q_seenSpan q_readLong q_marks q_isMeasured q_waysAre q_haveSpan g_links g_undos g_length g_seenMany g_trace g_at g_behind g_number g_readLinks g_readFolded g_readStiff (0 : Int32) g_row g_seenFold g_marks g_seenSpan g_waysAre) H := hP
  have hD : va_D A (w_X8_layWays Y q q_row q_isKept q_text q_seenFold q_seenSpan q_readLong q_marks q_isMeasured q_waysAre q_haveSpan g_links g_undos g_length g_seenMany g_trace g_at g_behind g_number g_readLinks g_readFolded g_readStiff (0 : Int32) g_row g_seenFold g_marks g_seenSpan g_waysAre) := hD
  refine lv_iconst (v := 0) hx hb dX8_layWays_5 (by decide) ?_
  refine lv_istore_n (lv' := [(1, .int (0 : Int32)), (0, .ref q)]) hx hb dX8_layWays_6 rfl hl (by decide) rfl (fun ls hl => ?_)
  obtain ⟨n, h⟩ := h
  exact L_X8_layWays_7 C hK hA  n _ _ _ _ h _ _ _ hP hD hS (lv_sub hl [1, 0] rfl)
abbrev rm_X8_ways : Room := { frames := 5, cells := 0, slots := 0, locals := 114 }
theorem in_X8_ways_X8 : ∀ w ∈ wsX80, w ∈ wsX8_ways := fun _ h => List.mem_cons_of_mem _ (List.mem_append_right _ h)
theorem k_X8_ways_f175 {s : State} {args : Array Value} (hts : ∀ w ∈ wsX8_ways, w.before args s = true) : (Cond.fieldLink RX8 175 "FoldRuleModel" "wayMany" "I").before args s = true := hts _ (by decide +kernel)
theorem k_X8_ways_f35 {s : State} {args : Array Value} (hts : ∀ w ∈ wsX8_ways, w.before args s = true) : (Cond.fieldLink RX8 35 "FoldRuleModel" "waysAre" "[I").before args s = true := hts _ (by decide +kernel)
set_option maxHeartbeats 4000000 in
set_option maxRecDepth 100000 in
theorem c_X8_ways {l : Launch} {D : va_G} {Y : ClassId × ClassId × ClassId} {q q_row q_isKept q_text q_seenFold q_seenSpan q_readLong q_marks q_isMeasured q_waysAre q_haveSpan : Nat} {g_links g_undos g_length g_seenMany : Int32} {g_trace : Int64} {g_at g_behind g_number g_readLinks g_readFolded g_readStiff g_wayMany : Int32} {g_row g_seenFold g_marks g_seenSpan g_waysAre : Nat → Int32} {x1 : Int32} {Q : Int32 → Int32 → (Nat → Int32) → (Nat → Int32) → Prop} (h : wp_X8_ways g_links g_seenMany g_wayMany g_row g_seenFold g_marks g_seenSpan g_waysAre x1 Q) (sz : Nat) : MtI l yX8_ways wsX8_ways rm_X8_ways [.ref q, .int x1] D Y (w_X8_ways Y q q_row q_isKept q_text q_seenFold q_seenSpan q_readLong q_marks q_isMeasured q_waysAre q_haveSpan g_links g_undos g_length g_seenMany g_trace g_at g_behind g_number g_readLinks g_readFolded g_readStiff g_wayMany g_row g_seenFold g_marks g_seenSpan g_waysAre) (fun r (u : Int32 × (Nat → Int32) × (Nat → Int32)) => Q r u.1 u.2.1 u.2.2) (fun u : Int32 × (Nat → Int32) × (Nat → Int32) => (w_X8_ways Y q q_row q_isKept q_text q_seenFold q_seenSpan q_readLong q_marks q_isMeasured q_waysAre q_haveSpan g_links g_undos g_length g_seenMany g_trace g_at g_behind g_number g_readLinks g_readFolded g_readStiff u.1 g_row g_seenFold u.2.1 g_seenSpan u.2.2)) sz := by
  refine ct_i (cc := cX8_ways) (nL := 2) (ret := (some .int)) (by decide) rfl (Nat.le_of_ble_eq_true rfl) ?_ sz
  intro p e s m below meth c A ls C hK hA hP hD hS hl
  obtain ⟨⟨hx, hb, hml, hown, hts⟩, hr, hlocks, hN⟩ := id C
  have hown : s.vm.findClass RX8 = some m.cls := hown
  have hl : lv_has ls 2 [(0, .ref q), (1, .int x1)] := hl
  unfold wp_X8_ways at h
  refine lv_iload_n hx hb dX8_ways_0 rfl (lv_at hl 1 rfl) ?_
  refine lv_iconst (v := 0) hx hb dX8_ways_1 (by decide) ?_
  refine lv_iconst (v := 1) hx hb dX8_ways_2 (by decide) ?_
  have hp : Pt (w_X8_ways Y q q_row q_isKept q_text q_seenFold q_seenSpan q_readLong q_marks q_isMeasured q_waysAre q_haveSpan g_links g_undos g_length g_seenMany g_trace g_at g_behind g_number g_readLinks g_readFolded g_readStiff g_wayMany g_row g_seenFold g_marks g_seenSpan g_waysAre) (w_X8_in Y ) [] := ⟨rfl, by decide +kernel⟩
  refine go_i hp hP hD hS hA (fun _ => rfl) (va_runS (As := [.int x1, .int (0 : Int32), .int (1 : Int32)]) (rest := []) ⟨hx, hb, hml, hown, hts⟩ (c_X8_in h _) (va_cwS 3 hts gX8_ways_X8_in rfl rfl rfl (by decide +kernel) ⟨Nat.le_of_ble_eq_true rfl, Nat.le_of_ble_eq_true rfl⟩) (pre_S hp hK hN hP hD) rfl rfl hl.1 rfl (lv_room (Nat.le_of_ble_eq_true rfl)) dX8_ways_3 ⟨Nat.le_of_ble_eq_true rfl, Nat.le_of_ble_eq_true rfl⟩) (fun r5 u H locs h hP hD hS => ?_)
  try dsimp only at h
  have hP : va_P D vwCl (w_X8_ways Y q q_row q_isKept q_text q_seenFold q_seenSpan q_readLong q_marks q_isMeasured q_waysAre q_haveSpan g_links g_undos g_length g_seenMany g_trace g_at g_behind g_number g_readLinks g_readFolded g_readStiff g_wayMany g_row g_seenFold g_marks g_seenSpan g_waysAre) H := hP
  have hD : va_D A (w_X8_ways Y q q_row q_isKept q_text q_seenFold q_seenSpan q_readLong q_marks q_isMeasured q_waysAre q_haveSpan g_links g_undos g_length g_seenMany g_trace g_at g_behind g_number g_readLinks g_readFolded g_readStiff g_wayMany g_row g_seenFold g_marks g_seenSpan g_waysAre) := hD
  refine lv_if_ne (tgt := 11) hx hb dX8_ways_6 (by decide) (fun c6 => ?_) (fun c6 => ?_)
  · have h := h.1 c6
    refine lv_aload_n hx hb dX8_ways_11 rfl (lv_at hl 0 rfl) ?_
    have hp : Pt (w_X8_ways Y q q_row q_isKept q_text q_seenFold q_seenSpan q_readLong q_marks q_isMeasured q_waysAre q_haveSpan g_links g_undos g_length g_seenMany g_trace g_at g_behind g_number g_readLinks g_readFolded g_readStiff g_wayMany g_row g_seenFold g_marks g_seenSpan g_waysAre) (w_X8_layWays Y q q_row q_isKept q_text q_seenFold q_seenSpan q_readLong q_marks q_isMeasured q_waysAre q_haveSpan g_links g_undos g_length g_seenMany g_trace g_at g_behind g_number g_readLinks g_readFolded g_readStiff g_wayMany g_row g_seenFold g_marks g_seenSpan g_waysAre) [0, 1, 2, 3, 4, 5] := ⟨rfl, by decide +kernel⟩
    refine go_v hp hP hD hS hA (fun _ => rfl) (va_runV (As := []) (rest := []) ⟨hx, hb, hml, hown, hts⟩ (c_X8_layWays h _) (cwV 0 hts gX8_ways_X8_layWays rfl rfl rfl (by decide +kernel) ⟨Nat.le_of_ble_eq_true rfl, Nat.le_of_ble_eq_true rfl⟩) (pre_V (b := q) (q0 := 0) (ci := 8) (q := (RX8, TX8, 22)) hp hK hN hP hD rfl rfl) rfl rfl hl.1 rfl (lv_room (Nat.le_of_ble_eq_true rfl)) dX8_ways_12 ⟨Nat.le_of_ble_eq_true rfl, Nat.le_of_ble_eq_true rfl⟩) (fun u H locs h hP hD hS => ?_)
    obtain ⟨u8, u9, u10⟩ := u
    try dsimp only at h
    have hP : va_P D vwCl (w_X8_ways Y q q_row q_isKept q_text q_seenFold q_seenSpan q_readLong q_marks q_isMeasured q_waysAre q_haveSpan g_links g_undos g_length g_seenMany g_trace g_at g_behind g_number g_readLinks g_readFolded g_readStiff u8 g_row g_seenFold u9 g_seenSpan u10) H := hP
    have hD : va_D A (w_X8_ways Y q q_row q_isKept q_text q_seenFold q_seenSpan q_readLong q_marks q_isMeasured q_waysAre q_haveSpan g_links g_undos g_length g_seenMany g_trace g_at g_behind g_number g_readLinks g_readFolded g_readStiff u8 g_row g_seenFold u9 g_seenSpan u10) := hD
    refine lv_iload_n hx hb dX8_ways_15 rfl (lv_at hl 1 rfl) ?_
    refine lv_if_ne (tgt := 26) hx hb dX8_ways_16 (by decide) (fun c11 => ?_) (fun c11 => ?_)
    · have h := h.1 c11
      refine lv_aload_n hx hb dX8_ways_26 rfl (lv_at hl 0 rfl) ?_
      refine va_get (D := D) (ci := 8) (v := .int u8) (C := RX8) (T := TX8) (N := 22) hx hb hts in_X8_ways_X8 hown hK hP 0 rfl rfl 20 (by decide) (k_X8_ways_f175 hts) (fun _ h9 => h9) rfl dX8_ways_27 ?_
      refine lv_if_ne (tgt := 38) hx hb dX8_ways_30 (by decide) (fun c12 => ?_) (fun c12 => ?_)
      · have h := h.1 c12
        refine lv_aload_n hx hb dX8_ways_38 rfl (lv_at hl 0 rfl) ?_
        refine va_get (D := D) (ci := 8) (v := .ref q_waysAre) (C := RX8) (T := TX8) (N := 22) hx hb hts in_X8_ways_X8 hown hK hP 0 rfl rfl 19 (by decide) (k_X8_ways_f35 hts) (fun _ h9 => h9) rfl dX8_ways_39 ?_
        refine lv_iconst (v := 0) hx hb dX8_ways_42 (by decide) ?_
        obtain ⟨hin, h⟩ := h
        refine va_iald hx hb hK hP 5 0 rfl rfl hin dX8_ways_43 ?_
        exact ret_i (u8, u9, u10) hx hb hr hlocks hK hP hD hS h dX8_ways_44
      · have h := h.2 c12
        refine lv_bipush (v := (-9)) hx hb dX8_ways_33 (by decide) ?_
        refine lv_goto (tgt := 44) hx hb dX8_ways_35 (by decide) ?_
        exact ret_i (u8, u9, u10) hx hb hr hlocks hK hP hD hS h dX8_ways_44
    · have h := h.2 c11
      refine lv_aload_n hx hb dX8_ways_19 rfl (lv_at hl 0 rfl) ?_
      refine va_get (D := D) (ci := 8) (v := .int u8) (C := RX8) (T := TX8) (N := 22) hx hb hts in_X8_ways_X8 hown hK hP 0 rfl rfl 20 (by decide) (k_X8_ways_f175 hts) (fun _ h9 => h9) rfl dX8_ways_20 ?_
      refine lv_goto (tgt := 44) hx hb dX8_ways_23 (by decide) ?_
      exact ret_i (u8, u9, u10) hx hb hr hlocks hK hP hD hS h dX8_ways_44
  · have h := h.2 c6
    refine lv_iconst (v := (-1)) hx hb dX8_ways_9 (by decide) ?_
    exact ret_i (g_wayMany, g_marks, g_waysAre) hx hb hr hlocks hK hP hD hS h dX8_ways_10
abbrev rm_X8_next : Room := { frames := 5, cells := 0, slots := 0, locals := 114 }
theorem in_X8_next_X8 : ∀ w ∈ wsX80, w ∈ wsX8_next := fun _ h => List.mem_cons_of_mem _ (List.mem_append_right _ h)
theorem k_X8_next_f175 {s : State} {args : Array Value} (hts : ∀ w ∈ wsX8_next, w.before args s = true) : (Cond.fieldLink RX8 175 "FoldRuleModel" "wayMany" "I").before args s = true := hts _ (by decide +kernel)
theorem k_X8_next_c138 {s : State} {args : Array Value} (hts : ∀ w ∈ wsX8_next, w.before args s = true) : (Cond.constant RX8 138 (99999)).before args s = true := hts _ (by decide +kernel)
theorem k_X8_next_f35 {s : State} {args : Array Value} (hts : ∀ w ∈ wsX8_next, w.before args s = true) : (Cond.fieldLink RX8 35 "FoldRuleModel" "waysAre" "[I").before args s = true := hts _ (by decide +kernel)
theorem k_X8_next_f38 {s : State} {args : Array Value} (hts : ∀ w ∈ wsX8_next, w.before args s = true) : (Cond.fieldLink RX8 38 "FoldRuleModel" "haveSpan" "[I").before args s = true := hts _ (by decide +kernel)
set_option maxHeartbeats 4000000 in
set_option maxRecDepth 100000 in
theorem L_X8_next_72 {p : Program} {l : Launch} {e : Env} {s : State} {m : MethodId} {args : Array Value} {below : List Frame} {meth : Method} {c : Code} {D : va_G} {Y : ClassId × ClassId × ClassId} {A : Nat → Prop} {q q_row q_isKept q_text q_seenFold q_seenSpan q_readLong q_marks q_isMeasured q_waysAre q_haveSpan : Nat} {g_links g_undos g_length g_seenMany : Int32} {g_trace : Int64} {g_at g_behind g_number g_readLinks g_readFolded g_readStiff g_wayMany : Int32} {g_row g_seenFold g_seenSpan g_waysAre : Nat → Int32} {x1 x2 x3 : Int32} {Q : Int32 → Int32 → (Nat → Int32) → (Nat → Int32) → (Nat → Int32) → Prop} {K12 : Int32 → Int32 → Int32 → (Nat → Int32) → (Nat → Int32) → Prop} (C : Ctx p s m args meth c cX8_next 7 (some .int) wsX8_next RX8) (hK : va_K D vwCl (tyS Y) s) (hA : ∀ q, s.heap.size ≤ q → A q) (hk12 : ∀ (x1 x2 x3 : Int32) (g_marks g_haveSpan : Nat → Int32), K12 x1 x2 x3 g_marks g_haveSpan → ∀ (H : Heap) (locs : List Loc) (ls : Array Slot), va_P D vwCl (w_X8_next Y q q_row q_isKept q_text q_seenFold q_seenSpan q_readLong q_marks q_isMeasured q_waysAre q_haveSpan g_links g_undos g_length g_seenMany g_trace g_at g_behind g_number g_readLinks g_readFolded g_readStiff g_wayMany g_row g_seenFold g_marks g_seenSpan g_waysAre g_haveSpan) H → va_D A (w_X8_next Y q q_row q_isKept q_text q_seenFold q_seenSpan q_readLong q_marks q_isMeasured q_waysAre q_haveSpan g_links g_undos g_length g_seenMany g_trace g_at g_behind g_number g_readLinks g_readFolded g_readStiff g_wayMany g_row g_seenFold g_marks g_seenSpan g_waysAre g_haveSpan) → va_S A s.heap H locs → lv_has ls 7 [(0, .ref q), (1, .int x1), (2, .int x2), (3, .int x3)] → W p l e rm_X8_next s m args below meth c H locs 0 0 (QI below args s D Y A (fun r (u : Int32 × (Nat → Int32) × (Nat → Int32) × (Nat → Int32)) => Q r u.1 u.2.1 u.2.2.1 u.2.2.2) (fun u : Int32 × (Nat → Int32) × (Nat → Int32) × (Nat → Int32) => (w_X8_next Y q q_row q_isKept q_text q_seenFold q_seenSpan q_readLong q_marks q_isMeasured q_waysAre q_haveSpan g_links g_undos g_length g_seenMany g_trace g_at g_behind g_number g_readLinks g_readFolded g_readStiff u.1 g_row g_seenFold u.2.1 g_seenSpan u.2.2.1 u.2.2.2))) (F0 m 12 ls [])) : ∀ (n : Nat) (x4 x5 : Int32) (g_marks g_haveSpan : Nat → Int32), itr4 (B_X8_next_72 g_links g_wayMany g_row g_waysAre x1 x2 x3 K12) n x4 x5 g_marks g_haveSpan → ∀ (H : Heap) (locs : List Loc) (ls : Array Slot), va_P D vwCl (w_X8_next Y q q_row q_isKept q_text q_seenFold q_seenSpan q_readLong q_marks q_isMeasured q_waysAre q_haveSpan g_links g_undos g_length g_seenMany g_trace g_at g_behind g_number g_readLinks g_readFolded g_readStiff g_wayMany g_row g_seenFold g_marks g_seenSpan g_waysAre g_haveSpan) H → va_D A (w_X8_next Y q q_row q_isKept q_text q_seenFold q_seenSpan q_readLong q_marks q_isMeasured q_waysAre q_haveSpan g_links g_undos g_length g_seenMany g_trace g_at g_behind g_number g_readLinks g_readFolded g_readStiff g_wayMany g_row g_seenFold g_marks g_seenSpan g_waysAre g_haveSpan) → va_S A s.heap H locs → lv_has ls 7 [(0, .ref q), (1, .int x1), (2, .int x2), (3, .int x3), (4, .int x4), (5, .int x5)] → W p l e rm_X8_next s m args below meth c H locs 0 0 (QI below args s D Y A (fun r (u : Int32 × (Nat → Int32) × (Nat → Int32) × (Nat → Int32)) => Q r u.1 u.2.1 u.2.2.1 u.2.2.2) (fun u : Int32 × (Nat → Int32) × (Nat → Int32) × (Nat → Int32) => (w_X8_next Y q q_row q_isKept q_text q_seenFold q_seenSpan q_readLong q_marks q_isMeasured q_waysAre q_haveSpan g_links g_undos g_length g_seenMany g_trace g_at g_behind g_number g_readLinks g_readFolded g_readStiff u.1 g_row g_seenFold u.2.1 g_seenSpan u.2.2.1 u.2.2.2))) (F0 m 72 ls []) := by
  intro n
  induction n with
  | zero => intro x4 x5 g_marks g_haveSpan h; exact False.elim h
  | succ n ih =>
    intro x4 x5 g_marks g_haveSpan h H locs ls hP hD hS hl
    obtain ⟨⟨hx, hb, hml, hown, hts⟩, hr, hlocks, hN⟩ := id C
    have h : B_X8_next_72 g_links g_wayMany g_row g_waysAre x1 x2 x3 K12 (itr4 (B_X8_next_72 g_links g_wayMany g_row g_waysAre x1 x2 x3 K12) n) x4 x5 g_marks g_haveSpan := h
    unfold B_X8_next_72 at h
    refine lv_iload hx hb dX8_next_72 (lv_at hl 5 rfl) ?_
    refine lv_aload_n hx hb dX8_next_74 rfl (lv_at hl 0 rfl) ?_
    refine va_get (D := D) (ci := 8) (v := .int g_wayMany) (C := RX8) (T := TX8) (N := 22) hx hb hts in_X8_next_X8 hown hK hP 0 rfl rfl 20 (by decide) (k_X8_next_f175 hts) (fun _ h9 => h9) rfl dX8_next_75 ?_
    refine lv_icmp_ge (tgt := 158) hx hb dX8_next_78 (by decide) (fun c21 => ?_) (fun c21 => ?_)
    · have h := h.1 c21
      refine lv_iload hx hb dX8_next_158 (lv_at hl 4 rfl) ?_
      refine lv_iload_n hx hb dX8_next_160 rfl (lv_at hl 2 rfl) ?_
      refine lv_icmp_ge (tgt := 168) hx hb dX8_next_161 (by decide) (fun c22 => ?_) (fun c22 => ?_)
      · have h := h.1 c22
        refine lv_iload_n hx hb dX8_next_168 rfl (lv_at hl 1 rfl) ?_
        refine lv_istore_n (lv' := [(1, .int x1), (0, .ref q), (2, .int x2), (3, .int x3), (4, .int x4), (5, .int x5)]) hx hb dX8_next_169 rfl hl (by decide) rfl (fun ls hl => ?_)
        refine lv_iload hx hb dX8_next_170 (lv_at hl 4 rfl) ?_
        refine lv_iload_n hx hb dX8_next_172 rfl (lv_at hl 2 rfl) ?_
        refine lv_icmp_ge (tgt := 181) hx hb dX8_next_173 (by decide) (fun c23 => ?_) (fun c23 => ?_)
        · have h := h.1 c23
          refine lv_iload_n hx hb dX8_next_181 rfl (lv_at hl 2 rfl) ?_
          refine lv_istore_n (lv' := [(2, .int x2), (1, .int x1), (0, .ref q), (3, .int x3), (4, .int x4), (5, .int x5)]) hx hb dX8_next_182 rfl hl (by decide) rfl (fun ls hl => ?_)
          obtain ⟨z24, ez24⟩ : ∃ y : Int32, y = (x3 + (1 : Int32)) := ⟨_, rfl⟩
          have h := h z24 ez24
          refine lv_iinc (v := z24) (lv' := [(3, .int z24), (2, .int x2), (1, .int x1), (0, .ref q), (4, .int x4), (5, .int x5)]) hx hb dX8_next_183 hl (k := 3) rfl (by rw [ez24]; rfl) (by decide) rfl (fun ls hl => ?_)
          refine lv_goto (tgt := 12) hx hb dX8_next_186 (by decide) ?_
          exact hk12 _ _ _ _ _ h _ _ _ hP hD hS (lv_sub hl [3, 2, 1, 0] rfl)
        · have h := h.2 c23
          refine lv_iload hx hb dX8_next_176 (lv_at hl 4 rfl) ?_
          refine lv_goto (tgt := 182) hx hb dX8_next_178 (by decide) ?_
          refine lv_istore_n (lv' := [(2, .int x4), (1, .int x1), (0, .ref q), (3, .int x3), (4, .int x4), (5, .int x5)]) hx hb dX8_next_182 rfl hl (by decide) rfl (fun ls hl => ?_)
          obtain ⟨z25, ez25⟩ : ∃ y : Int32, y = (x3 + (1 : Int32)) := ⟨_, rfl⟩
          have h := h z25 ez25
          refine lv_iinc (v := z25) (lv' := [(3, .int z25), (2, .int x4), (1, .int x1), (0, .ref q), (4, .int x4), (5, .int x5)]) hx hb dX8_next_183 hl (k := 3) rfl (by rw [ez25]; rfl) (by decide) rfl (fun ls hl => ?_)
          refine lv_goto (tgt := 12) hx hb dX8_next_186 (by decide) ?_
          exact hk12 _ _ _ _ _ h _ _ _ hP hD hS (lv_sub hl [3, 2, 1, 0] rfl)
      · have h := h.2 c22
        refine lv_iload_n hx hb dX8_next_164 rfl (lv_at hl 3 rfl) ?_
        refine lv_goto (tgt := 169) hx hb dX8_next_165 (by decide) ?_
        refine lv_istore_n (lv' := [(1, .int x3), (0, .ref q), (2, .int x2), (3, .int x3), (4, .int x4), (5, .int x5)]) hx hb dX8_next_169 rfl hl (by decide) rfl (fun ls hl => ?_)
        refine lv_iload hx hb dX8_next_170 (lv_at hl 4 rfl) ?_
        refine lv_iload_n hx hb dX8_next_172 rfl (lv_at hl 2 rfl) ?_
        refine lv_icmp_ge (tgt := 181) hx hb dX8_next_173 (by decide) (fun c26 => ?_) (fun c26 => ?_)
        · have h := h.1 c26
          refine lv_iload_n hx hb dX8_next_181 rfl (lv_at hl 2 rfl) ?_
          refine lv_istore_n (lv' := [(2, .int x2), (1, .int x3), (0, .ref q), (3, .int x3), (4, .int x4), (5, .int x5)]) hx hb dX8_next_182 rfl hl (by decide) rfl (fun ls hl => ?_)
          obtain ⟨z27, ez27⟩ : ∃ y : Int32, y = (x3 + (1 : Int32)) := ⟨_, rfl⟩
          have h := h z27 ez27
          refine lv_iinc (v := z27) (lv' := [(3, .int z27), (2, .int x2), (1, .int x3), (0, .ref q), (4, .int x4), (5, .int x5)]) hx hb dX8_next_183 hl (k := 3) rfl (by rw [ez27]; rfl) (by decide) rfl (fun ls hl => ?_)
          refine lv_goto (tgt := 12) hx hb dX8_next_186 (by decide) ?_
          exact hk12 _ _ _ _ _ h _ _ _ hP hD hS (lv_sub hl [3, 2, 1, 0] rfl)
        · have h := h.2 c26
          refine lv_iload hx hb dX8_next_176 (lv_at hl 4 rfl) ?_
          refine lv_goto (tgt := 182) hx hb dX8_next_178 (by decide) ?_
          refine lv_istore_n (lv' := [(2, .int x4), (1, .int x3), (0, .ref q), (3, .int x3), (4, .int x4), (5, .int x5)]) hx hb dX8_next_182 rfl hl (by decide) rfl (fun ls hl => ?_)
          obtain ⟨z28, ez28⟩ : ∃ y : Int32, y = (x3 + (1 : Int32)) := ⟨_, rfl⟩
          have h := h z28 ez28
          refine lv_iinc (v := z28) (lv' := [(3, .int z28), (2, .int x4), (1, .int x3), (0, .ref q), (4, .int x4), (5, .int x5)]) hx hb dX8_next_183 hl (k := 3) rfl (by rw [ez28]; rfl) (by decide) rfl (fun ls hl => ?_)
          refine lv_goto (tgt := 12) hx hb dX8_next_186 (by decide) ?_
          exact hk12 _ _ _ _ _ h _ _ _ hP hD hS (lv_sub hl [3, 2, 1, 0] rfl)
    · have h := h.2 c21
      refine lv_iload hx hb dX8_next_81 (lv_at hl 4 rfl) ?_
      refine lv_ldc hx hb hown (k_X8_next_c138 hts) dX8_next_83 ?_
      refine lv_icmp_ge (tgt := 158) hx hb dX8_next_85 (by decide) (fun c29 => ?_) (fun c29 => ?_)
      · have h := h.1 c29
        refine lv_iload hx hb dX8_next_158 (lv_at hl 4 rfl) ?_
        refine lv_iload_n hx hb dX8_next_160 rfl (lv_at hl 2 rfl) ?_
        refine lv_icmp_ge (tgt := 168) hx hb dX8_next_161 (by decide) (fun c30 => ?_) (fun c30 => ?_)
        · have h := h.1 c30
          refine lv_iload_n hx hb dX8_next_168 rfl (lv_at hl 1 rfl) ?_
          refine lv_istore_n (lv' := [(1, .int x1), (0, .ref q), (2, .int x2), (3, .int x3), (4, .int x4), (5, .int x5)]) hx hb dX8_next_169 rfl hl (by decide) rfl (fun ls hl => ?_)
          refine lv_iload hx hb dX8_next_170 (lv_at hl 4 rfl) ?_
          refine lv_iload_n hx hb dX8_next_172 rfl (lv_at hl 2 rfl) ?_
          refine lv_icmp_ge (tgt := 181) hx hb dX8_next_173 (by decide) (fun c31 => ?_) (fun c31 => ?_)
          · have h := h.1 c31
            refine lv_iload_n hx hb dX8_next_181 rfl (lv_at hl 2 rfl) ?_
            refine lv_istore_n (lv' := [(2, .int x2), (1, .int x1), (0, .ref q), (3, .int x3), (4, .int x4), (5, .int x5)]) hx hb dX8_next_182 rfl hl (by decide) rfl (fun ls hl => ?_)
            obtain ⟨z32, ez32⟩ : ∃ y : Int32, y = (x3 + (1 : Int32)) := ⟨_, rfl⟩
            have h := h z32 ez32
            refine lv_iinc (v := z32) (lv' := [(3, .int z32), (2, .int x2), (1, .int x1), (0, .ref q), (4, .int x4), (5, .int x5)]) hx hb dX8_next_183 hl (k := 3) rfl (by rw [ez32]; rfl) (by decide) rfl (fun ls hl => ?_)
            refine lv_goto (tgt := 12) hx hb dX8_next_186 (by decide) ?_
            exact hk12 _ _ _ _ _ h _ _ _ hP hD hS (lv_sub hl [3, 2, 1, 0] rfl)
          · have h := h.2 c31
            refine lv_iload hx hb dX8_next_176 (lv_at hl 4 rfl) ?_
            refine lv_goto (tgt := 182) hx hb dX8_next_178 (by decide) ?_
            refine lv_istore_n (lv' := [(2, .int x4), (1, .int x1), (0, .ref q), (3, .int x3), (4, .int x4), (5, .int x5)]) hx hb dX8_next_182 rfl hl (by decide) rfl (fun ls hl => ?_)
            obtain ⟨z33, ez33⟩ : ∃ y : Int32, y = (x3 + (1 : Int32)) := ⟨_, rfl⟩
            have h := h z33 ez33
            refine lv_iinc (v := z33) (lv' := [(3, .int z33), (2, .int x4), (1, .int x1), (0, .ref q), (4, .int x4), (5, .int x5)]) hx hb dX8_next_183 hl (k := 3) rfl (by rw [ez33]; rfl) (by decide) rfl (fun ls hl => ?_)
            refine lv_goto (tgt := 12) hx hb dX8_next_186 (by decide) ?_
            exact hk12 _ _ _ _ _ h _ _ _ hP hD hS (lv_sub hl [3, 2, 1, 0] rfl)
        · have h := h.2 c30
          refine lv_iload_n hx hb dX8_next_164 rfl (lv_at hl 3 rfl) ?_
          refine lv_goto (tgt := 169) hx hb dX8_next_165 (by decide) ?_
          refine lv_istore_n (lv' := [(1, .int x3), (0, .ref q), (2, .int x2), (3, .int x3), (4, .int x4), (5, .int x5)]) hx hb dX8_next_169 rfl hl (by decide) rfl (fun ls hl => ?_)
          refine lv_iload hx hb dX8_next_170 (lv_at hl 4 rfl) ?_
          refine lv_iload_n hx hb dX8_next_172 rfl (lv_at hl 2 rfl) ?_
          refine lv_icmp_ge (tgt := 181) hx hb dX8_next_173 (by decide) (fun c34 => ?_) (fun c34 => ?_)
          · have h := h.1 c34
            refine lv_iload_n hx hb dX8_next_181 rfl (lv_at hl 2 rfl) ?_
            refine lv_istore_n (lv' := [(2, .int x2), (1, .int x3), (0, .ref q), (3, .int x3), (4, .int x4), (5, .int x5)]) hx hb dX8_next_182 rfl hl (by decide) rfl (fun ls hl => ?_)
            obtain ⟨z35, ez35⟩ : ∃ y : Int32, y = (x3 + (1 : Int32)) := ⟨_, rfl⟩
            have h := h z35 ez35
            refine lv_iinc (v := z35) (lv' := [(3, .int z35), (2, .int x2), (1, .int x3), (0, .ref q), (4, .int x4), (5, .int x5)]) hx hb dX8_next_183 hl (k := 3) rfl (by rw [ez35]; rfl) (by decide) rfl (fun ls hl => ?_)
            refine lv_goto (tgt := 12) hx hb dX8_next_186 (by decide) ?_
            exact hk12 _ _ _ _ _ h _ _ _ hP hD hS (lv_sub hl [3, 2, 1, 0] rfl)
          · have h := h.2 c34
            refine lv_iload hx hb dX8_next_176 (lv_at hl 4 rfl) ?_
            refine lv_goto (tgt := 182) hx hb dX8_next_178 (by decide) ?_
            refine lv_istore_n (lv' := [(2, .int x4), (1, .int x3), (0, .ref q), (3, .int x3), (4, .int x4), (5, .int x5)]) hx hb dX8_next_182 rfl hl (by decide) rfl (fun ls hl => ?_)
            obtain ⟨z36, ez36⟩ : ∃ y : Int32, y = (x3 + (1 : Int32)) := ⟨_, rfl⟩
            have h := h z36 ez36
            refine lv_iinc (v := z36) (lv' := [(3, .int z36), (2, .int x4), (1, .int x3), (0, .ref q), (4, .int x4), (5, .int x5)]) hx hb dX8_next_183 hl (k := 3) rfl (by rw [ez36]; rfl) (by decide) rfl (fun ls hl => ?_)
            refine lv_goto (tgt := 12) hx hb dX8_next_186 (by decide) ?_
            exact hk12 _ _ _ _ _ h _ _ _ hP hD hS (lv_sub hl [3, 2, 1, 0] rfl)
      · have h := h.2 c29
        refine lv_aload_n hx hb dX8_next_88 rfl (lv_at hl 0 rfl) ?_
        refine lv_iload_n hx hb dX8_next_89 rfl (lv_at hl 3 rfl) ?_
        refine lv_aload_n hx hb dX8_next_90 rfl (lv_at hl 0 rfl) ?_
        refine va_get (D := D) (ci := 8) (v := .ref q_waysAre) (C := RX8) (T := TX8) (N := 22) hx hb hts in_X8_next_X8 hown hK hP 0 rfl rfl 19 (by decide) (k_X8_next_f35 hts) (fun _ h9 => h9) rfl dX8_next_91 ?_
        refine lv_iload hx hb dX8_next_94 (lv_at hl 5 rfl) ?_
        obtain ⟨hin, h⟩ := h
        refine va_iald hx hb hK hP 5 0 rfl rfl hin dX8_next_96 ?_
        refine lv_bipush (v := 10) hx hb dX8_next_97 (by decide) ?_
        obtain ⟨hne, h⟩ := h
        refine lv_idiv hx hb dX8_next_99 hne ?_
        refine lv_aload_n hx hb dX8_next_100 rfl (lv_at hl 0 rfl) ?_
        refine va_get (D := D) (ci := 8) (v := .ref q_waysAre) (C := RX8) (T := TX8) (N := 22) hx hb hts in_X8_next_X8 hown hK hP 0 rfl rfl 19 (by decide) (k_X8_next_f35 hts) (fun _ h9 => h9) rfl dX8_next_101 ?_
        refine lv_iload hx hb dX8_next_104 (lv_at hl 5 rfl) ?_
        obtain ⟨hin, h⟩ := h
        refine va_iald hx hb hK hP 5 0 rfl rfl hin dX8_next_106 ?_
        refine lv_bipush (v := 10) hx hb dX8_next_107 (by decide) ?_
        obtain ⟨hne, h⟩ := h
        refine lv_irem hx hb dX8_next_109 hne ?_
        have hp : Pt (w_X8_next Y q q_row q_isKept q_text q_seenFold q_seenSpan q_readLong q_marks q_isMeasured q_waysAre q_haveSpan g_links g_undos g_length g_seenMany g_trace g_at g_behind g_number g_readLinks g_readFolded g_readStiff g_wayMany g_row g_seenFold g_marks g_seenSpan g_waysAre g_haveSpan) (w_X8_spanFiled Y q q_row q_isKept q_text q_seenFold q_seenSpan q_readLong q_marks q_isMeasured q_waysAre q_haveSpan g_links g_undos g_length g_seenMany g_trace g_at g_behind g_number g_readLinks g_readFolded g_readStiff g_wayMany g_marks g_row) [0, 3, 1] := ⟨rfl, by decide +kernel⟩
        refine go_i hp hP hD hS hA (fun _ => rfl) (va_runV (As := [.int x3, .int ((g_waysAre (x5).toNatClampNeg) / (10 : Int32)), .int ((g_waysAre (x5).toNatClampNeg) - (g_waysAre (x5).toNatClampNeg) / (10 : Int32) * (10 : Int32))]) (rest := []) ⟨hx, hb, hml, hown, hts⟩ (c_X8_spanFiled h _) (cwV 3 hts gX8_next_X8_spanFiled rfl rfl rfl (by decide +kernel) ⟨Nat.le_of_ble_eq_true rfl, Nat.le_of_ble_eq_true rfl⟩) (pre_V (b := q) (q0 := 0) (ci := 8) (q := (RX8, TX8, 22)) hp hK hN hP hD rfl rfl) rfl rfl hl.1 rfl (lv_room (Nat.le_of_ble_eq_true rfl)) dX8_next_110 ⟨Nat.le_of_ble_eq_true rfl, Nat.le_of_ble_eq_true rfl⟩) (fun r37 u H locs h hP hD hS => ?_)
        obtain ⟨u38, rfl⟩ : ∃ z, z = u := ⟨_, rfl⟩
        try dsimp only at h
        have hP : va_P D vwCl (w_X8_next Y q q_row q_isKept q_text q_seenFold q_seenSpan q_readLong q_marks q_isMeasured q_waysAre q_haveSpan g_links g_undos g_length g_seenMany g_trace g_at g_behind g_number g_readLinks g_readFolded g_readStiff g_wayMany g_row g_seenFold u38 g_seenSpan g_waysAre g_haveSpan) H := hP
        have hD : va_D A (w_X8_next Y q q_row q_isKept q_text q_seenFold q_seenSpan q_readLong q_marks q_isMeasured q_waysAre q_haveSpan g_links g_undos g_length g_seenMany g_trace g_at g_behind g_number g_readLinks g_readFolded g_readStiff g_wayMany g_row g_seenFold u38 g_seenSpan g_waysAre g_haveSpan) := hD
        refine lv_istore (lv' := [(6, .int r37), (0, .ref q), (1, .int x1), (2, .int x2), (3, .int x3), (4, .int x4), (5, .int x5)]) hx hb dX8_next_113 hl (by decide) rfl (fun ls hl => ?_)
        refine lv_aload_n hx hb dX8_next_115 rfl (lv_at hl 1 rfl) ?_
        refine va_get (D := D) (ci := 8) (v := .ref q_haveSpan) (C := RX8) (T := TX8) (N := 22) hx hb hts in_X8_next_X8 hown hK hP 0 rfl rfl 21 (by decide) (k_X8_next_f38 hts) (fun _ h9 => h9) rfl dX8_next_116 ?_
        refine lv_iload hx hb dX8_next_119 (lv_at hl 0 rfl) ?_
        refine lv_dup2_11 hx hb dX8_next_121 rfl rfl ?_
        obtain ⟨hin, h⟩ := h
        refine va_iald hx hb hK hP 6 0 rfl rfl hin dX8_next_122 ?_
        refine lv_iconst (v := 1) hx hb dX8_next_123 (by decide) ?_
        refine lv_iadd hx hb dX8_next_124 ?_
        refine lv_topi (fun z39 ez39 => ?_)
        have h := h z39 ez39
        obtain ⟨hin, h⟩ := h
        refine va_iast hx hb hK hP hD hS 6 0 rfl rfl hin dX8_next_125 (fun H locs hP hD hS => ?_)
        have hP : va_P D vwCl (w_X8_next Y q q_row q_isKept q_text q_seenFold q_seenSpan q_readLong q_marks q_isMeasured q_waysAre q_haveSpan g_links g_undos g_length g_seenMany g_trace g_at g_behind g_number g_readLinks g_readFolded g_readStiff g_wayMany g_row g_seenFold u38 g_seenSpan g_waysAre (upd g_haveSpan (r37).toNatClampNeg z39)) H := hP
        have hD : va_D A (w_X8_next Y q q_row q_isKept q_text q_seenFold q_seenSpan q_readLong q_marks q_isMeasured q_waysAre q_haveSpan g_links g_undos g_length g_seenMany g_trace g_at g_behind g_number g_readLinks g_readFolded g_readStiff g_wayMany g_row g_seenFold u38 g_seenSpan g_waysAre (upd g_haveSpan (r37).toNatClampNeg z39)) := hD
        refine lv_aload_n hx hb dX8_next_126 rfl (lv_at hl 1 rfl) ?_
        refine va_get (D := D) (ci := 8) (v := .ref q_haveSpan) (C := RX8) (T := TX8) (N := 22) hx hb hts in_X8_next_X8 hown hK hP 0 rfl rfl 21 (by decide) (k_X8_next_f38 hts) (fun _ h9 => h9) rfl dX8_next_127 ?_
        refine lv_iload hx hb dX8_next_130 (lv_at hl 0 rfl) ?_
        obtain ⟨hin, h⟩ := h
        refine va_iald hx hb hK hP 6 0 rfl rfl hin dX8_next_132 ?_
        refine lv_iload hx hb dX8_next_133 (lv_at hl 5 rfl) ?_
        refine lv_icmp_le (tgt := 148) hx hb dX8_next_135 (by decide) (fun c40 => ?_) (fun c40 => ?_)
        · have h := h.1 c40
          refine lv_iload hx hb dX8_next_148 (lv_at hl 5 rfl) ?_
          refine lv_istore (lv' := [(4, .int x4), (6, .int r37), (0, .ref q), (1, .int x1), (2, .int x2), (3, .int x3), (5, .int x5)]) hx hb dX8_next_150 hl (by decide) rfl (fun ls hl => ?_)
          obtain ⟨z41, ez41⟩ : ∃ y : Int32, y = (x5 + (1 : Int32)) := ⟨_, rfl⟩
          have h := h z41 ez41
          refine lv_iinc (v := z41) (lv' := [(5, .int z41), (4, .int x4), (6, .int r37), (0, .ref q), (1, .int x1), (2, .int x2), (3, .int x3)]) hx hb dX8_next_152 hl (k := 6) rfl (by rw [ez41]; rfl) (by decide) rfl (fun ls hl => ?_)
          refine lv_goto (tgt := 72) hx hb dX8_next_155 (by decide) ?_
          exact ih _ _ _ _ h _ _ _ hP hD hS (lv_sub hl [3, 4, 5, 6, 1, 0] rfl)
        · have h := h.2 c40
          refine lv_aload_n hx hb dX8_next_138 rfl (lv_at hl 1 rfl) ?_
          refine va_get (D := D) (ci := 8) (v := .ref q_haveSpan) (C := RX8) (T := TX8) (N := 22) hx hb hts in_X8_next_X8 hown hK hP 0 rfl rfl 21 (by decide) (k_X8_next_f38 hts) (fun _ h9 => h9) rfl dX8_next_139 ?_
          refine lv_iload hx hb dX8_next_142 (lv_at hl 0 rfl) ?_
          obtain ⟨hin, h⟩ := h
          refine va_iald hx hb hK hP 6 0 rfl rfl hin dX8_next_144 ?_
          refine lv_goto (tgt := 150) hx hb dX8_next_145 (by decide) ?_
          refine lv_topi (fun z42 ez42 => ?_)
          have h := h z42 ez42
          refine lv_istore (lv' := [(4, .int z42), (6, .int r37), (0, .ref q), (1, .int x1), (2, .int x2), (3, .int x3), (5, .int x5)]) hx hb dX8_next_150 hl (by decide) rfl (fun ls hl => ?_)
          obtain ⟨z43, ez43⟩ : ∃ y : Int32, y = (x5 + (1 : Int32)) := ⟨_, rfl⟩
          have h := h z43 ez43
          refine lv_iinc (v := z43) (lv' := [(5, .int z43), (4, .int z42), (6, .int r37), (0, .ref q), (1, .int x1), (2, .int x2), (3, .int x3)]) hx hb dX8_next_152 hl (k := 6) rfl (by rw [ez43]; rfl) (by decide) rfl (fun ls hl => ?_)
          refine lv_goto (tgt := 72) hx hb dX8_next_155 (by decide) ?_
          exact ih _ _ _ _ h _ _ _ hP hD hS (lv_sub hl [3, 4, 5, 6, 1, 0] rfl)
set_option maxHeartbeats 4000000 in
set_option maxRecDepth 100000 in
theorem L_X8_next_47 {p : Program} {l : Launch} {e : Env} {s : State} {m : MethodId} {args : Array Value} {below : List Frame} {meth : Method} {c : Code} {D : va_G} {Y : ClassId × ClassId × ClassId} {A : Nat → Prop} {q q_row q_isKept q_text q_seenFold q_seenSpan q_readLong q_marks q_isMeasured q_waysAre q_haveSpan : Nat} {g_links g_undos g_length g_seenMany : Int32} {g_trace : Int64} {g_at g_behind g_number g_readLinks g_readFolded g_readStiff g_wayMany : Int32} {g_row g_seenFold g_marks g_seenSpan g_waysAre : Nat → Int32} {x1 x2 x3 x4 : Int32} {Q : Int32 → Int32 → (Nat → Int32) → (Nat → Int32) → (Nat → Int32) → Prop} {K12 : Int32 → Int32 → Int32 → (Nat → Int32) → (Nat → Int32) → Prop} (C : Ctx p s m args meth c cX8_next 7 (some .int) wsX8_next RX8) (hK : va_K D vwCl (tyS Y) s) (hA : ∀ q, s.heap.size ≤ q → A q) (hk12 : ∀ (x1 x2 x3 : Int32) (g_marks g_haveSpan : Nat → Int32), K12 x1 x2 x3 g_marks g_haveSpan → ∀ (H : Heap) (locs : List Loc) (ls : Array Slot), va_P D vwCl (w_X8_next Y q q_row q_isKept q_text q_seenFold q_seenSpan q_readLong q_marks q_isMeasured q_waysAre q_haveSpan g_links g_undos g_length g_seenMany g_trace g_at g_behind g_number g_readLinks g_readFolded g_readStiff g_wayMany g_row g_seenFold g_marks g_seenSpan g_waysAre g_haveSpan) H → va_D A (w_X8_next Y q q_row q_isKept q_text q_seenFold q_seenSpan q_readLong q_marks q_isMeasured q_waysAre q_haveSpan g_links g_undos g_length g_seenMany g_trace g_at g_behind g_number g_readLinks g_readFolded g_readStiff g_wayMany g_row g_seenFold g_marks g_seenSpan g_waysAre g_haveSpan) → va_S A s.heap H locs → lv_has ls 7 [(0, .ref q), (1, .int x1), (2, .int x2), (3, .int x3)] → W p l e rm_X8_next s m args below meth c H locs 0 0 (QI below args s D Y A (fun r (u : Int32 × (Nat → Int32) × (Nat → Int32) × (Nat → Int32)) => Q r u.1 u.2.1 u.2.2.1 u.2.2.2) (fun u : Int32 × (Nat → Int32) × (Nat → Int32) × (Nat → Int32) => (w_X8_next Y q q_row q_isKept q_text q_seenFold q_seenSpan q_readLong q_marks q_isMeasured q_waysAre q_haveSpan g_links g_undos g_length g_seenMany g_trace g_at g_behind g_number g_readLinks g_readFolded g_readStiff u.1 g_row g_seenFold u.2.1 g_seenSpan u.2.2.1 u.2.2.2))) (F0 m 12 ls [])) : ∀ (n : Nat) (x5 : Int32) (g_haveSpan : Nat → Int32), itr2 (B_X8_next_47 g_links g_wayMany g_row g_marks g_waysAre x1 x2 x3 x4 K12) n x5 g_haveSpan → ∀ (H : Heap) (locs : List Loc) (ls : Array Slot), va_P D vwCl (w_X8_next Y q q_row q_isKept q_text q_seenFold q_seenSpan q_readLong q_marks q_isMeasured q_waysAre q_haveSpan g_links g_undos g_length g_seenMany g_trace g_at g_behind g_number g_readLinks g_readFolded g_readStiff g_wayMany g_row g_seenFold g_marks g_seenSpan g_waysAre g_haveSpan) H → va_D A (w_X8_next Y q q_row q_isKept q_text q_seenFold q_seenSpan q_readLong q_marks q_isMeasured q_waysAre q_haveSpan g_links g_undos g_length g_seenMany g_trace g_at g_behind g_number g_readLinks g_readFolded g_readStiff g_wayMany g_row g_seenFold g_marks g_seenSpan g_waysAre g_haveSpan) → va_S A s.heap H locs → lv_has ls 7 [(0, .ref q), (1, .int x1), (2, .int x2), (3, .int x3), (4, .int x4), (5, .int x5)] → W p l e rm_X8_next s m args below meth c H locs 0 0 (QI below args s D Y A (fun r (u : Int32 × (Nat → Int32) × (Nat → Int32) × (Nat → Int32)) => Q r u.1 u.2.1 u.2.2.1 u.2.2.2) (fun u : Int32 × (Nat → Int32) × (Nat → Int32) × (Nat → Int32) => (w_X8_next Y q q_row q_isKept q_text q_seenFold q_seenSpan q_readLong q_marks q_isMeasured q_waysAre q_haveSpan g_links g_undos g_length g_seenMany g_trace g_at g_behind g_number g_readLinks g_readFolded g_readStiff u.1 g_row g_seenFold u.2.1 g_seenSpan u.2.2.1 u.2.2.2))) (F0 m 47 ls []) := by
  intro n
  induction n with
  | zero => intro x5 g_haveSpan h; exact False.elim h
  | succ n ih =>
    intro x5 g_haveSpan h H locs ls hP hD hS hl
    obtain ⟨⟨hx, hb, hml, hown, hts⟩, hr, hlocks, hN⟩ := id C
    have h : B_X8_next_47 g_links g_wayMany g_row g_marks g_waysAre x1 x2 x3 x4 K12 (itr2 (B_X8_next_47 g_links g_wayMany g_row g_marks g_waysAre x1 x2 x3 x4 K12) n) x5 g_haveSpan := h
    unfold B_X8_next_47 at h
    refine lv_iload hx hb dX8_next_47 (lv_at hl 5 rfl) ?_
    refine lv_sipush (v := 181) hx hb dX8_next_49 (by decide) ?_
    refine lv_icmp_ge (tgt := 69) hx hb dX8_next_52 (by decide) (fun c44 => ?_) (fun c44 => ?_)
    · have h := h.1 c44
      refine lv_iconst (v := 0) hx hb dX8_next_69 (by decide) ?_
      refine lv_istore (lv' := [(5, .int (0 : Int32)), (0, .ref q), (1, .int x1), (2, .int x2), (3, .int x3), (4, .int x4)]) hx hb dX8_next_70 hl (by decide) rfl (fun ls hl => ?_)
      obtain ⟨n, h⟩ := h
      exact L_X8_next_72 C hK hA hk12 n _ _ _ _ h _ _ _ hP hD hS (lv_sub hl [1, 2, 3, 4, 5, 0] rfl)
    · have h := h.2 c44
      refine lv_aload_n hx hb dX8_next_55 rfl (lv_at hl 0 rfl) ?_
      refine va_get (D := D) (ci := 8) (v := .ref q_haveSpan) (C := RX8) (T := TX8) (N := 22) hx hb hts in_X8_next_X8 hown hK hP 0 rfl rfl 21 (by decide) (k_X8_next_f38 hts) (fun _ h9 => h9) rfl dX8_next_56 ?_
      refine lv_iload hx hb dX8_next_59 (lv_at hl 5 rfl) ?_
      refine lv_iconst (v := 0) hx hb dX8_next_61 (by decide) ?_
      obtain ⟨hin, h⟩ := h
      refine va_iast hx hb hK hP hD hS 6 0 rfl rfl hin dX8_next_62 (fun H locs hP hD hS => ?_)
      have hP : va_P D vwCl (w_X8_next Y q q_row q_isKept q_text q_seenFold q_seenSpan q_readLong q_marks q_isMeasured q_waysAre q_haveSpan g_links g_undos g_length g_seenMany g_trace g_at g_behind g_number g_readLinks g_readFolded g_readStiff g_wayMany g_row g_seenFold g_marks g_seenSpan g_waysAre (upd g_haveSpan (x5).toNatClampNeg (0 : Int32))) H := hP
      have hD : va_D A (w_X8_next Y q q_row q_isKept q_text q_seenFold q_seenSpan q_readLong q_marks q_isMeasured q_waysAre q_haveSpan g_links g_undos g_length g_seenMany g_trace g_at g_behind g_number g_readLinks g_readFolded g_readStiff g_wayMany g_row g_seenFold g_marks g_seenSpan g_waysAre (upd g_haveSpan (x5).toNatClampNeg (0 : Int32))) := hD
      obtain ⟨z45, ez45⟩ : ∃ y : Int32, y = (x5 + (1 : Int32)) := ⟨_, rfl⟩
      have h := h z45 ez45
      refine lv_iinc (v := z45) (lv' := [(5, .int z45), (0, .ref q), (1, .int x1), (2, .int x2), (3, .int x3), (4, .int x4)]) hx hb dX8_next_63 hl (k := 5) rfl (by rw [ez45]; rfl) (by decide) rfl (fun ls hl => ?_)
      refine lv_goto (tgt := 47) hx hb dX8_next_66 (by decide) ?_
      exact ih _ _ h _ _ _ hP hD hS (lv_sub hl [1, 2, 3, 4, 5, 0] rfl)
set_option maxHeartbeats 4000000 in
set_option maxRecDepth 100000 in
theorem L_X8_next_12 {p : Program} {l : Launch} {e : Env} {s : State} {m : MethodId} {args : Array Value} {below : List Frame} {meth : Method} {c : Code} {D : va_G} {Y : ClassId × ClassId × ClassId} {A : Nat → Prop} {q q_row q_isKept q_text q_seenFold q_seenSpan q_readLong q_marks q_isMeasured q_waysAre q_haveSpan : Nat} {g_links g_undos g_length g_seenMany : Int32} {g_trace : Int64} {g_at g_behind g_number g_readLinks g_readFolded g_readStiff g_wayMany : Int32} {g_row g_seenFold g_seenSpan g_waysAre : Nat → Int32} {Q : Int32 → Int32 → (Nat → Int32) → (Nat → Int32) → (Nat → Int32) → Prop} (C : Ctx p s m args meth c cX8_next 7 (some .int) wsX8_next RX8) (hK : va_K D vwCl (tyS Y) s) (hA : ∀ q, s.heap.size ≤ q → A q) : ∀ (n : Nat) (x1 x2 x3 : Int32) (g_marks g_haveSpan : Nat → Int32), itr5 (B_X8_next_12 g_links g_wayMany g_row g_waysAre Q) n x1 x2 x3 g_marks g_haveSpan → ∀ (H : Heap) (locs : List Loc) (ls : Array Slot), va_P D vwCl (w_X8_next Y q q_row q_isKept q_text q_seenFold q_seenSpan q_readLong q_marks q_isMeasured q_waysAre q_haveSpan g_links g_undos g_length g_seenMany g_trace g_at g_behind g_number g_readLinks g_readFolded g_readStiff g_wayMany g_row g_seenFold g_marks g_seenSpan g_waysAre g_haveSpan) H → va_D A (w_X8_next Y q q_row q_isKept q_text q_seenFold q_seenSpan q_readLong q_marks q_isMeasured q_waysAre q_haveSpan g_links g_undos g_length g_seenMany g_trace g_at g_behind g_number g_readLinks g_readFolded g_readStiff g_wayMany g_row g_seenFold g_marks g_seenSpan g_waysAre g_haveSpan) → va_S A s.heap H locs → lv_has ls 7 [(0, .ref q), (1, .int x1), (2, .int x2), (3, .int x3)] → W p l e rm_X8_next s m args below meth c H locs 0 0 (QI below args s D Y A (fun r (u : Int32 × (Nat → Int32) × (Nat → Int32) × (Nat → Int32)) => Q r u.1 u.2.1 u.2.2.1 u.2.2.2) (fun u : Int32 × (Nat → Int32) × (Nat → Int32) × (Nat → Int32) => (w_X8_next Y q q_row q_isKept q_text q_seenFold q_seenSpan q_readLong q_marks q_isMeasured q_waysAre q_haveSpan g_links g_undos g_length g_seenMany g_trace g_at g_behind g_number g_readLinks g_readFolded g_readStiff u.1 g_row g_seenFold u.2.1 g_seenSpan u.2.2.1 u.2.2.2))) (F0 m 12 ls []) := by
  intro n
  induction n with
  | zero => intro x1 x2 x3 g_marks g_haveSpan h; exact False.elim h
  | succ n ih =>
    intro x1 x2 x3 g_marks g_haveSpan h H locs ls hP hD hS hl
    obtain ⟨⟨hx, hb, hml, hown, hts⟩, hr, hlocks, hN⟩ := id C
    have h : B_X8_next_12 g_links g_wayMany g_row g_waysAre Q (itr5 (B_X8_next_12 g_links g_wayMany g_row g_waysAre Q) n) x1 x2 x3 g_marks g_haveSpan := h
    unfold B_X8_next_12 at h
    refine lv_iload_n hx hb dX8_next_12 rfl (lv_at hl 3 rfl) ?_
    refine lv_aload_n hx hb dX8_next_13 rfl (lv_at hl 0 rfl) ?_
    have hp : Pt (w_X8_next Y q q_row q_isKept q_text q_seenFold q_seenSpan q_readLong q_marks q_isMeasured q_waysAre q_haveSpan g_links g_undos g_length g_seenMany g_trace g_at g_behind g_number g_readLinks g_readFolded g_readStiff g_wayMany g_row g_seenFold g_marks g_seenSpan g_waysAre g_haveSpan) (w_X8_folds Y q q_row q_isKept q_text q_seenFold q_seenSpan q_readLong q_marks q_isMeasured q_waysAre q_haveSpan g_links g_undos g_length g_seenMany g_trace g_at g_behind g_number g_readLinks g_readFolded g_readStiff g_wayMany) [0] := ⟨rfl, by decide +kernel⟩
    refine go_i hp hP hD hS hA (fun _ => rfl) (va_runV (As := []) (rest := [.int x3]) ⟨hx, hb, hml, hown, hts⟩ (c_X8_folds h _) (cwV 0 hts gX8_next_X8_folds rfl rfl rfl (by decide +kernel) ⟨Nat.le_of_ble_eq_true rfl, Nat.le_of_ble_eq_true rfl⟩) (pre_V (b := q) (q0 := 0) (ci := 8) (q := (RX8, TX8, 22)) hp hK hN hP hD rfl rfl) rfl rfl hl.1 rfl (lv_room (Nat.le_of_ble_eq_true rfl)) dX8_next_14 ⟨Nat.le_of_ble_eq_true rfl, Nat.le_of_ble_eq_true rfl⟩) (fun r46 u H locs h hP hD hS => ?_)
    try dsimp only at h
    have hP : va_P D vwCl (w_X8_next Y q q_row q_isKept q_text q_seenFold q_seenSpan q_readLong q_marks q_isMeasured q_waysAre q_haveSpan g_links g_undos g_length g_seenMany g_trace g_at g_behind g_number g_readLinks g_readFolded g_readStiff g_wayMany g_row g_seenFold g_marks g_seenSpan g_waysAre g_haveSpan) H := hP
    have hD : va_D A (w_X8_next Y q q_row q_isKept q_text q_seenFold q_seenSpan q_readLong q_marks q_isMeasured q_waysAre q_haveSpan g_links g_undos g_length g_seenMany g_trace g_at g_behind g_number g_readLinks g_readFolded g_readStiff g_wayMany g_row g_seenFold g_marks g_seenSpan g_waysAre g_haveSpan) := hD
    refine lv_icmp_ge (tgt := 189) hx hb dX8_next_17 (by decide) (fun c47 => ?_) (fun c47 => ?_)
    · have h := h.1 c47
      refine lv_iload_n hx hb dX8_next_189 rfl (lv_at hl 1 rfl) ?_
      exact ret_i (g_wayMany, g_marks, g_waysAre, g_haveSpan) hx hb hr hlocks hK hP hD hS h dX8_next_190
    · have h := h.2 c47
      refine lv_aload_n hx hb dX8_next_20 rfl (lv_at hl 0 rfl) ?_
      refine va_get (D := D) (ci := 8) (v := .int g_wayMany) (C := RX8) (T := TX8) (N := 22) hx hb hts in_X8_next_X8 hown hK hP 0 rfl rfl 20 (by decide) (k_X8_next_f175 hts) (fun _ h9 => h9) rfl dX8_next_21 ?_
      refine lv_iconst (v := 1) hx hb dX8_next_24 (by decide) ?_
      refine lv_icmp_le (tgt := 189) hx hb dX8_next_25 (by decide) (fun c48 => ?_) (fun c48 => ?_)
      · have h := h.1 c48
        refine lv_iload_n hx hb dX8_next_189 rfl (lv_at hl 1 rfl) ?_
        exact ret_i (g_wayMany, g_marks, g_waysAre, g_haveSpan) hx hb hr hlocks hK hP hD hS h dX8_next_190
      · have h := h.2 c48
        refine lv_aload_n hx hb dX8_next_28 rfl (lv_at hl 0 rfl) ?_
        refine lv_iload_n hx hb dX8_next_29 rfl (lv_at hl 3 rfl) ?_
        have hp : Pt (w_X8_next Y q q_row q_isKept q_text q_seenFold q_seenSpan q_readLong q_marks q_isMeasured q_waysAre q_haveSpan g_links g_undos g_length g_seenMany g_trace g_at g_behind g_number g_readLinks g_readFolded g_readStiff g_wayMany g_row g_seenFold g_marks g_seenSpan g_waysAre g_haveSpan) (w_X8_isFold Y q q_row q_isKept q_text q_seenFold q_seenSpan q_readLong q_marks q_isMeasured q_waysAre q_haveSpan g_links g_undos g_length g_seenMany g_trace g_at g_behind g_number g_readLinks g_readFolded g_readStiff g_wayMany g_row) [0, 1] := ⟨rfl, by decide +kernel⟩
        refine go_i hp hP hD hS hA (fun _ => rfl) (va_runV (As := [.int x3]) (rest := []) ⟨hx, hb, hml, hown, hts⟩ (c_X8_isFold h _) (cwV 1 hts gX8_next_X8_isFold rfl rfl rfl (by decide +kernel) ⟨Nat.le_of_ble_eq_true rfl, Nat.le_of_ble_eq_true rfl⟩) (pre_V (b := q) (q0 := 0) (ci := 8) (q := (RX8, TX8, 22)) hp hK hN hP hD rfl rfl) rfl rfl hl.1 rfl (lv_room (Nat.le_of_ble_eq_true rfl)) dX8_next_30 ⟨Nat.le_of_ble_eq_true rfl, Nat.le_of_ble_eq_true rfl⟩) (fun r49 u H locs h hP hD hS => ?_)
        try dsimp only at h
        have hP : va_P D vwCl (w_X8_next Y q q_row q_isKept q_text q_seenFold q_seenSpan q_readLong q_marks q_isMeasured q_waysAre q_haveSpan g_links g_undos g_length g_seenMany g_trace g_at g_behind g_number g_readLinks g_readFolded g_readStiff g_wayMany g_row g_seenFold g_marks g_seenSpan g_waysAre g_haveSpan) H := hP
        have hD : va_D A (w_X8_next Y q q_row q_isKept q_text q_seenFold q_seenSpan q_readLong q_marks q_isMeasured q_waysAre q_haveSpan g_links g_undos g_length g_seenMany g_trace g_at g_behind g_number g_readLinks g_readFolded g_readStiff g_wayMany g_row g_seenFold g_marks g_seenSpan g_waysAre g_haveSpan) := hD
        refine lv_if_eq (tgt := 40) hx hb dX8_next_33 (by decide) (fun c50 => ?_) (fun c50 => ?_)
        · have h := h.1 c50
          refine lv_ldc hx hb hown (k_X8_next_c138 hts) dX8_next_40 ?_
          refine lv_istore (lv' := [(4, .int (99999 : Int32)), (0, .ref q), (1, .int x1), (2, .int x2), (3, .int x3)]) hx hb dX8_next_42 hl (by decide) rfl (fun ls hl => ?_)
          refine lv_iconst (v := 0) hx hb dX8_next_44 (by decide) ?_
          refine lv_istore (lv' := [(5, .int (0 : Int32)), (4, .int (99999 : Int32)), (0, .ref q), (1, .int x1), (2, .int x2), (3, .int x3)]) hx hb dX8_next_45 hl (by decide) rfl (fun ls hl => ?_)
          obtain ⟨n, h⟩ := h
          exact L_X8_next_47 C hK hA ih n _ _ h _ _ _ hP hD hS (lv_sub hl [2, 3, 4, 5, 1, 0] rfl)
        · have h := h.2 c50
          refine lv_iconst (v := 0) hx hb dX8_next_36 (by decide) ?_
          refine lv_goto (tgt := 42) hx hb dX8_next_37 (by decide) ?_
          refine lv_istore (lv' := [(4, .int (0 : Int32)), (0, .ref q), (1, .int x1), (2, .int x2), (3, .int x3)]) hx hb dX8_next_42 hl (by decide) rfl (fun ls hl => ?_)
          refine lv_iconst (v := 0) hx hb dX8_next_44 (by decide) ?_
          refine lv_istore (lv' := [(5, .int (0 : Int32)), (4, .int (0 : Int32)), (0, .ref q), (1, .int x1), (2, .int x2), (3, .int x3)]) hx hb dX8_next_45 hl (by decide) rfl (fun ls hl => ?_)
          obtain ⟨n, h⟩ := h
          exact L_X8_next_47 C hK hA ih n _ _ h _ _ _ hP hD hS (lv_sub hl [2, 3, 4, 5, 1, 0] rfl)
set_option maxHeartbeats 4000000 in
set_option maxRecDepth 100000 in
theorem c_X8_next {l : Launch} {D : va_G} {Y : ClassId × ClassId × ClassId} {q q_row q_isKept q_text q_seenFold q_seenSpan q_readLong q_marks q_isMeasured q_waysAre q_haveSpan : Nat} {g_links g_undos g_length g_seenMany : Int32} {g_trace : Int64} {g_at g_behind g_number g_readLinks g_readFolded g_readStiff g_wayMany : Int32} {g_row g_seenFold g_marks g_seenSpan g_waysAre g_haveSpan : Nat → Int32} {Q : Int32 → Int32 → (Nat → Int32) → (Nat → Int32) → (Nat → Int32) → Prop} (h : wp_X8_next g_links g_seenMany g_wayMany g_row g_seenFold g_marks g_seenSpan g_waysAre g_haveSpan Q) (sz : Nat) : MtI l yX8_next wsX8_next rm_X8_next [.ref q] D Y (w_X8_next Y q q_row q_isKept q_text q_seenFold q_seenSpan q_readLong q_marks q_isMeasured q_waysAre q_haveSpan g_links g_undos g_length g_seenMany g_trace g_at g_behind g_number g_readLinks g_readFolded g_readStiff g_wayMany g_row g_seenFold g_marks g_seenSpan g_waysAre g_haveSpan) (fun r (u : Int32 × (Nat → Int32) × (Nat → Int32) × (Nat → Int32)) => Q r u.1 u.2.1 u.2.2.1 u.2.2.2) (fun u : Int32 × (Nat → Int32) × (Nat → Int32) × (Nat → Int32) => (w_X8_next Y q q_row q_isKept q_text q_seenFold q_seenSpan q_readLong q_marks q_isMeasured q_waysAre q_haveSpan g_links g_undos g_length g_seenMany g_trace g_at g_behind g_number g_readLinks g_readFolded g_readStiff u.1 g_row g_seenFold u.2.1 g_seenSpan u.2.2.1 u.2.2.2)) sz := by
  refine ct_i (cc := cX8_next) (nL := 7) (ret := (some .int)) (by decide) rfl (Nat.le_of_ble_eq_true rfl) ?_ sz
  intro p e s m below meth c A ls C hK hA hP hD hS hl
  obtain ⟨⟨hx, hb, hml, hown, hts⟩, hr, hlocks, hN⟩ := id C
  have hown : s.vm.findClass RX8 = some m.cls := hown
  have hl : lv_has ls 7 [(0, .ref q)] := hl
  unfold wp_X8_next at h
  refine lv_aload_n hx hb dX8_next_0 rfl (lv_at hl 0 rfl) ?_
  have hp : Pt (w_X8_next Y q q_row q_isKept q_text q_seenFold q_seenSpan q_readLong q_marks q_isMeasured q_waysAre q_haveSpan g_links g_undos g_length g_seenMany g_trace g_at g_behind g_number g_readLinks g_readFolded g_readStiff g_wayMany g_row g_seenFold g_marks g_seenSpan g_waysAre g_haveSpan) (w_X8_layWays Y q q_row q_isKept q_text q_seenFold q_seenSpan q_readLong q_marks q_isMeasured q_waysAre q_haveSpan g_links g_undos g_length g_seenMany g_trace g_at g_behind g_number g_readLinks g_readFolded g_readStiff g_wayMany g_row g_seenFold g_marks g_seenSpan g_waysAre) [0, 1, 2, 3, 4, 5] := ⟨rfl, by decide +kernel⟩
  refine go_v hp hP hD hS hA (fun _ => rfl) (va_runV (As := []) (rest := []) ⟨hx, hb, hml, hown, hts⟩ (c_X8_layWays h _) (cwV 0 hts gX8_next_X8_layWays rfl rfl rfl (by decide +kernel) ⟨Nat.le_of_ble_eq_true rfl, Nat.le_of_ble_eq_true rfl⟩) (pre_V (b := q) (q0 := 0) (ci := 8) (q := (RX8, TX8, 22)) hp hK hN hP hD rfl rfl) rfl rfl hl.1 rfl (lv_room (Nat.le_of_ble_eq_true rfl)) dX8_next_1 ⟨Nat.le_of_ble_eq_true rfl, Nat.le_of_ble_eq_true rfl⟩) (fun u H locs h hP hD hS => ?_)
  obtain ⟨u52, u53, u54⟩ := u
  try dsimp only at h
  have hP : va_P D vwCl (w_X8_next Y q q_row q_isKept q_text q_seenFold q_seenSpan q_readLong q_marks q_isMeasured q_waysAre q_haveSpan g_links g_undos g_length g_seenMany g_trace g_at g_behind g_number g_readLinks g_readFolded g_readStiff u52 g_row g_seenFold u53 g_seenSpan u54 g_haveSpan) H := hP
  have hD : va_D A (w_X8_next Y q q_row q_isKept q_text q_seenFold q_seenSpan q_readLong q_marks q_isMeasured q_waysAre q_haveSpan g_links g_undos g_length g_seenMany g_trace g_at g_behind g_number g_readLinks g_readFolded g_readStiff u52 g_row g_seenFold u53 g_seenSpan u54 g_haveSpan) := hD
  refine lv_bipush (v := (-9)) hx hb dX8_next_4 (by decide) ?_
  refine lv_istore_n (lv' := [(1, .int (-9 : Int32)), (0, .ref q)]) hx hb dX8_next_6 rfl hl (by decide) rfl (fun ls hl => ?_)
  refine lv_ldc hx hb hown (k_X8_next_c138 hts) dX8_next_7 ?_
  refine lv_istore_n (lv' := [(2, .int (99999 : Int32)), (1, .int (-9 : Int32)), (0, .ref q)]) hx hb dX8_next_9 rfl hl (by decide) rfl (fun ls hl => ?_)
  refine lv_iconst (v := 0) hx hb dX8_next_10 (by decide) ?_
  refine lv_istore_n (lv' := [(3, .int (0 : Int32)), (2, .int (99999 : Int32)), (1, .int (-9 : Int32)), (0, .ref q)]) hx hb dX8_next_11 rfl hl (by decide) rfl (fun ls hl => ?_)
  obtain ⟨n, h⟩ := h
  exact L_X8_next_12 C hK hA  n _ _ _ _ _ h _ _ _ hP hD hS (lv_sub hl [3, 2, 1, 0] rfl)
abbrev rm_X8_linkRate : Room := { frames := 0, cells := 0, slots := 0, locals := 0 }
theorem in_X8_linkRate_X8 : ∀ w ∈ wsX80, w ∈ wsX8_linkRate := fun _ h => List.mem_cons_of_mem _ (List.mem_append_right _ h)
theorem k_X8_linkRate_f184 {s : State} {args : Array Value} (hts : ∀ w ∈ wsX8_linkRate, w.before args s = true) : (Cond.fieldLink RX8 184 "FoldRuleModel" "trace" "J").before args s = true := hts _ (by decide +kernel)
theorem k_X8_linkRate_f7 {s : State} {args : Array Value} (hts : ∀ w ∈ wsX8_linkRate, w.before args s = true) : (Cond.fieldLink RX8 7 "FoldRuleModel" "row" "[I").before args s = true := hts _ (by decide +kernel)
set_option maxHeartbeats 4000000 in
set_option maxRecDepth 100000 in
theorem c_X8_linkRate {l : Launch} {D : va_G} {Y : ClassId × ClassId × ClassId} {q q_row q_isKept q_text q_seenFold q_seenSpan q_readLong q_marks q_isMeasured q_waysAre q_haveSpan : Nat} {g_links g_undos g_length g_seenMany : Int32} {g_trace : Int64} {g_at g_behind g_number g_readLinks g_readFolded g_readStiff g_wayMany : Int32} {g_row : Nat → Int32} {x1 : Int32} {Q : Int32 → Int64 → Prop} (h : wp_X8_linkRate g_trace g_row x1 Q) (sz : Nat) : MtI l yX8_linkRate wsX8_linkRate rm_X8_linkRate [.ref q, .int x1] D Y (w_X8_linkRate Y q q_row q_isKept q_text q_seenFold q_seenSpan q_readLong q_marks q_isMeasured q_waysAre q_haveSpan g_links g_undos g_length g_seenMany g_trace g_at g_behind g_number g_readLinks g_readFolded g_readStiff g_wayMany g_row) (fun r (u : Int64) => Q r u) (fun u : Int64 => (w_X8_linkRate Y q q_row q_isKept q_text q_seenFold q_seenSpan q_readLong q_marks q_isMeasured q_waysAre q_haveSpan g_links g_undos g_length g_seenMany u g_at g_behind g_number g_readLinks g_readFolded g_readStiff g_wayMany g_row)) sz := by
  refine ct_i (cc := cX8_linkRate) (nL := 2) (ret := (some .int)) (by decide) rfl (Nat.le_of_ble_eq_true rfl) ?_ sz
  intro p e s m below meth c A ls C hK hA hP hD hS hl
  obtain ⟨⟨hx, hb, hml, hown, hts⟩, hr, hlocks, hN⟩ := id C
  have hown : s.vm.findClass RX8 = some m.cls := hown
  have hl : lv_has ls 2 [(0, .ref q), (1, .int x1)] := hl
  unfold wp_X8_linkRate at h
  refine lv_aload_n hx hb dX8_linkRate_0 rfl (lv_at hl 0 rfl) ?_
  refine lv_dup hx hb dX8_linkRate_1 rfl ?_
  refine va_get (D := D) (ci := 8) (v := .long g_trace) (C := RX8) (T := TX8) (N := 22) hx hb hts in_X8_linkRate_X8 hown hK hP 0 rfl rfl 9 (by decide) (k_X8_linkRate_f184 hts) (fun _ h9 => h9) rfl dX8_linkRate_2 ?_
  refine lv_lconst (v := 1) hx hb dX8_linkRate_5 (by decide) ?_
  refine lv_ladd hx hb dX8_linkRate_6 ?_
  refine lv_topl (fun z2 ez2 => ?_)
  have h := h z2 ez2
  refine va_put (D := D) (ci := 8) (v := .long z2) (ty := .long) (C := RX8) (T := TX8) (N := 22) hx hb hts in_X8_linkRate_X8 tyX8 tyX8_ok nmX8 hown hK hP hD hS 0 rfl rfl 9 (by decide) (k_X8_linkRate_f184 hts) (fun _ h9 => h9) rfl (by decide +kernel) rfl rfl (Nat.le_of_ble_eq_true rfl) dX8_linkRate_7 (fun H locs hP hD hS => ?_)
  have hP : va_P D vwCl (w_X8_linkRate Y q q_row q_isKept q_text q_seenFold q_seenSpan q_readLong q_marks q_isMeasured q_waysAre q_haveSpan g_links g_undos g_length g_seenMany z2 g_at g_behind g_number g_readLinks g_readFolded g_readStiff g_wayMany g_row) H := hP
  have hD : va_D A (w_X8_linkRate Y q q_row q_isKept q_text q_seenFold q_seenSpan q_readLong q_marks q_isMeasured q_waysAre q_haveSpan g_links g_undos g_length g_seenMany z2 g_at g_behind g_number g_readLinks g_readFolded g_readStiff g_wayMany g_row) := hD
  refine lv_aload_n hx hb dX8_linkRate_10 rfl (lv_at hl 0 rfl) ?_
  refine va_get (D := D) (ci := 8) (v := .ref q_row) (C := RX8) (T := TX8) (N := 22) hx hb hts in_X8_linkRate_X8 hown hK hP 0 rfl rfl 0 (by decide) (k_X8_linkRate_f7 hts) (fun _ h9 => h9) rfl dX8_linkRate_11 ?_
  refine lv_iconst (v := 0) hx hb dX8_linkRate_14 (by decide) ?_
  refine lv_iload_n hx hb dX8_linkRate_15 rfl (lv_at hl 1 rfl) ?_
  refine lv_iadd hx hb dX8_linkRate_16 ?_
  obtain ⟨hin, h⟩ := h
  refine va_iald hx hb hK hP 1 0 rfl rfl hin dX8_linkRate_17 ?_
  exact ret_i (z2) hx hb hr hlocks hK hP hD hS h dX8_linkRate_18
abbrev rm_X8_woodRate : Room := { frames := 3, cells := 0, slots := 0, locals := 67 }
theorem in_X8_woodRate_X8 : ∀ w ∈ wsX80, w ∈ wsX8_woodRate := fun _ h => List.mem_cons_of_mem _ (List.mem_append_right _ h)
theorem k_X8_woodRate_f184 {s : State} {args : Array Value} (hts : ∀ w ∈ wsX8_woodRate, w.before args s = true) : (Cond.fieldLink RX8 184 "FoldRuleModel" "trace" "J").before args s = true := hts _ (by decide +kernel)
theorem k_X8_woodRate_c188 {s : State} {args : Array Value} (hts : ∀ w ∈ wsX8_woodRate, w.before args s = true) : (Cond.constantLong RX8 188 (10)).before args s = true := hts _ (by decide +kernel)
set_option maxHeartbeats 4000000 in
set_option maxRecDepth 100000 in
theorem c_X8_woodRate {l : Launch} {D : va_G} {Y : ClassId × ClassId × ClassId} {q q_row q_isKept q_text q_seenFold q_seenSpan q_readLong q_marks q_isMeasured q_waysAre q_haveSpan : Nat} {g_links g_undos g_length g_seenMany : Int32} {g_trace : Int64} {g_at g_behind g_number g_readLinks g_readFolded g_readStiff g_wayMany : Int32} {g_row g_marks : Nat → Int32} {x1 : Int32} {Q : Int32 → Int64 → (Nat → Int32) → Prop} (h : wp_X8_woodRate g_links g_trace g_row g_marks x1 Q) (sz : Nat) : MtI l yX8_woodRate wsX8_woodRate rm_X8_woodRate [.ref q, .int x1] D Y (w_X8_woodRate Y q q_row q_isKept q_text q_seenFold q_seenSpan q_readLong q_marks q_isMeasured q_waysAre q_haveSpan g_links g_undos g_length g_seenMany g_trace g_at g_behind g_number g_readLinks g_readFolded g_readStiff g_wayMany g_row g_marks) (fun r (u : Int64 × (Nat → Int32)) => Q r u.1 u.2) (fun u : Int64 × (Nat → Int32) => (w_X8_woodRate Y q q_row q_isKept q_text q_seenFold q_seenSpan q_readLong q_marks q_isMeasured q_waysAre q_haveSpan g_links g_undos g_length g_seenMany u.1 g_at g_behind g_number g_readLinks g_readFolded g_readStiff g_wayMany g_row u.2)) sz := by
  refine ct_i (cc := cX8_woodRate) (nL := 2) (ret := (some .int)) (by decide) rfl (Nat.le_of_ble_eq_true rfl) ?_ sz
  intro p e s m below meth c A ls C hK hA hP hD hS hl
  obtain ⟨⟨hx, hb, hml, hown, hts⟩, hr, hlocks, hN⟩ := id C
  have hown : s.vm.findClass RX8 = some m.cls := hown
  have hl : lv_has ls 2 [(0, .ref q), (1, .int x1)] := hl
  unfold wp_X8_woodRate at h
  refine lv_aload_n hx hb dX8_woodRate_0 rfl (lv_at hl 0 rfl) ?_
  refine lv_dup hx hb dX8_woodRate_1 rfl ?_
  refine va_get (D := D) (ci := 8) (v := .long g_trace) (C := RX8) (T := TX8) (N := 22) hx hb hts in_X8_woodRate_X8 hown hK hP 0 rfl rfl 9 (by decide) (k_X8_woodRate_f184 hts) (fun _ h9 => h9) rfl dX8_woodRate_2 ?_
  refine lv_ldc2 hx hb hown (k_X8_woodRate_c188 hts) dX8_woodRate_5 ?_
  refine lv_ladd hx hb dX8_woodRate_8 ?_
  refine lv_topl (fun z6 ez6 => ?_)
  have h := h z6 ez6
  refine va_put (D := D) (ci := 8) (v := .long z6) (ty := .long) (C := RX8) (T := TX8) (N := 22) hx hb hts in_X8_woodRate_X8 tyX8 tyX8_ok nmX8 hown hK hP hD hS 0 rfl rfl 9 (by decide) (k_X8_woodRate_f184 hts) (fun _ h9 => h9) rfl (by decide +kernel) rfl rfl (Nat.le_of_ble_eq_true rfl) dX8_woodRate_9 (fun H locs hP hD hS => ?_)
  have hP : va_P D vwCl (w_X8_woodRate Y q q_row q_isKept q_text q_seenFold q_seenSpan q_readLong q_marks q_isMeasured q_waysAre q_haveSpan g_links g_undos g_length g_seenMany z6 g_at g_behind g_number g_readLinks g_readFolded g_readStiff g_wayMany g_row g_marks) H := hP
  have hD : va_D A (w_X8_woodRate Y q q_row q_isKept q_text q_seenFold q_seenSpan q_readLong q_marks q_isMeasured q_waysAre q_haveSpan g_links g_undos g_length g_seenMany z6 g_at g_behind g_number g_readLinks g_readFolded g_readStiff g_wayMany g_row g_marks) := hD
  refine lv_aload_n hx hb dX8_woodRate_12 rfl (lv_at hl 0 rfl) ?_
  refine lv_iload_n hx hb dX8_woodRate_13 rfl (lv_at hl 1 rfl) ?_
  have hp : Pt (w_X8_woodRate Y q q_row q_isKept q_text q_seenFold q_seenSpan q_readLong q_marks q_isMeasured q_waysAre q_haveSpan g_links g_undos g_length g_seenMany z6 g_at g_behind g_number g_readLinks g_readFolded g_readStiff g_wayMany g_row g_marks) (w_X8_linkRate Y q q_row q_isKept q_text q_seenFold q_seenSpan q_readLong q_marks q_isMeasured q_waysAre q_haveSpan g_links g_undos g_length g_seenMany z6 g_at g_behind g_number g_readLinks g_readFolded g_readStiff g_wayMany g_row) [0, 1] := ⟨rfl, by decide +kernel⟩
  refine go_i hp hP hD hS hA (fun _ => rfl) (va_runV (As := [.int x1]) (rest := []) ⟨hx, hb, hml, hown, hts⟩ (c_X8_linkRate h _) (cwV 1 hts gX8_woodRate_X8_linkRate rfl rfl rfl (by decide +kernel) ⟨Nat.le_of_ble_eq_true rfl, Nat.le_of_ble_eq_true rfl⟩) (pre_V (b := q) (q0 := 0) (ci := 8) (q := (RX8, TX8, 22)) hp hK hN hP hD rfl rfl) rfl rfl hl.1 rfl (lv_room (Nat.le_of_ble_eq_true rfl)) dX8_woodRate_14 ⟨Nat.le_of_ble_eq_true rfl, Nat.le_of_ble_eq_true rfl⟩) (fun r7 u H locs h hP hD hS => ?_)
  obtain ⟨u8, rfl⟩ : ∃ z, z = u := ⟨_, rfl⟩
  try dsimp only at h
  have hP : va_P D vwCl (w_X8_woodRate Y q q_row q_isKept q_text q_seenFold q_seenSpan q_readLong q_marks q_isMeasured q_waysAre q_haveSpan g_links g_undos g_length g_seenMany u8 g_at g_behind g_number g_readLinks g_readFolded g_readStiff g_wayMany g_row g_marks) H := hP
  have hD : va_D A (w_X8_woodRate Y q q_row q_isKept q_text q_seenFold q_seenSpan q_readLong q_marks q_isMeasured q_waysAre q_haveSpan g_links g_undos g_length g_seenMany u8 g_at g_behind g_number g_readLinks g_readFolded g_readStiff g_wayMany g_row g_marks) := hD
  refine lv_aload_n hx hb dX8_woodRate_17 rfl (lv_at hl 0 rfl) ?_
  refine lv_iload_n hx hb dX8_woodRate_18 rfl (lv_at hl 1 rfl) ?_
  have hp : Pt (w_X8_woodRate Y q q_row q_isKept q_text q_seenFold q_seenSpan q_readLong q_marks q_isMeasured q_waysAre q_haveSpan g_links g_undos g_length g_seenMany u8 g_at g_behind g_number g_readLinks g_readFolded g_readStiff g_wayMany g_row g_marks) (w_X8_mark Y q q_row q_isKept q_text q_seenFold q_seenSpan q_readLong q_marks q_isMeasured q_waysAre q_haveSpan g_links g_undos g_length g_seenMany u8 g_at g_behind g_number g_readLinks g_readFolded g_readStiff g_wayMany g_row g_marks) [0, 1, 2] := ⟨rfl, by decide +kernel⟩
  refine go_i hp hP hD hS hA (fun _ => rfl) (va_runV (As := [.int x1]) (rest := [.int r7]) ⟨hx, hb, hml, hown, hts⟩ (c_X8_mark h _) (cwV 1 hts gX8_woodRate_X8_mark rfl rfl rfl (by decide +kernel) ⟨Nat.le_of_ble_eq_true rfl, Nat.le_of_ble_eq_true rfl⟩) (pre_V (b := q) (q0 := 0) (ci := 8) (q := (RX8, TX8, 22)) hp hK hN hP hD rfl rfl) rfl rfl hl.1 rfl (lv_room (Nat.le_of_ble_eq_true rfl)) dX8_woodRate_19 ⟨Nat.le_of_ble_eq_true rfl, Nat.le_of_ble_eq_true rfl⟩) (fun r9 u H locs h hP hD hS => ?_)
  obtain ⟨u10, rfl⟩ : ∃ z, z = u := ⟨_, rfl⟩
  try dsimp only at h
  have hP : va_P D vwCl (w_X8_woodRate Y q q_row q_isKept q_text q_seenFold q_seenSpan q_readLong q_marks q_isMeasured q_waysAre q_haveSpan g_links g_undos g_length g_seenMany u8 g_at g_behind g_number g_readLinks g_readFolded g_readStiff g_wayMany g_row u10) H := hP
  have hD : va_D A (w_X8_woodRate Y q q_row q_isKept q_text q_seenFold q_seenSpan q_readLong q_marks q_isMeasured q_waysAre q_haveSpan g_links g_undos g_length g_seenMany u8 g_at g_behind g_number g_readLinks g_readFolded g_readStiff g_wayMany g_row u10) := hD
  refine lv_iadd hx hb dX8_woodRate_22 ?_
  exact ret_i (u8, u10) hx hb hr hlocks hK hP hD hS h dX8_woodRate_23
abbrev rm_X8_brassRate : Room := { frames := 3, cells := 0, slots := 0, locals := 67 }
theorem in_X8_brassRate_X8 : ∀ w ∈ wsX80, w ∈ wsX8_brassRate := fun _ h => List.mem_cons_of_mem _ (List.mem_append_right _ h)
theorem k_X8_brassRate_f184 {s : State} {args : Array Value} (hts : ∀ w ∈ wsX8_brassRate, w.before args s = true) : (Cond.fieldLink RX8 184 "FoldRuleModel" "trace" "J").before args s = true := hts _ (by decide +kernel)
theorem k_X8_brassRate_c196 {s : State} {args : Array Value} (hts : ∀ w ∈ wsX8_brassRate, w.before args s = true) : (Cond.constantLong RX8 196 (100)).before args s = true := hts _ (by decide +kernel)
theorem k_X8_brassRate_f7 {s : State} {args : Array Value} (hts : ∀ w ∈ wsX8_brassRate, w.before args s = true) : (Cond.fieldLink RX8 7 "FoldRuleModel" "row" "[I").before args s = true := hts _ (by decide +kernel)
set_option maxHeartbeats 4000000 in
set_option maxRecDepth 100000 in
theorem c_X8_brassRate {l : Launch} {D : va_G} {Y : ClassId × ClassId × ClassId} {q q_row q_isKept q_text q_seenFold q_seenSpan q_readLong q_marks q_isMeasured q_waysAre q_haveSpan : Nat} {g_links g_undos g_length g_seenMany : Int32} {g_trace : Int64} {g_at g_behind g_number g_readLinks g_readFolded g_readStiff g_wayMany : Int32} {g_row g_marks : Nat → Int32} {x1 : Int32} {Q : Int32 → Int64 → (Nat → Int32) → Prop} (h : wp_X8_brassRate g_links g_trace g_row g_marks x1 Q) (sz : Nat) : MtI l yX8_brassRate wsX8_brassRate rm_X8_brassRate [.ref q, .int x1] D Y (w_X8_brassRate Y q q_row q_isKept q_text q_seenFold q_seenSpan q_readLong q_marks q_isMeasured q_waysAre q_haveSpan g_links g_undos g_length g_seenMany g_trace g_at g_behind g_number g_readLinks g_readFolded g_readStiff g_wayMany g_row g_marks) (fun r (u : Int64 × (Nat → Int32)) => Q r u.1 u.2) (fun u : Int64 × (Nat → Int32) => (w_X8_brassRate Y q q_row q_isKept q_text q_seenFold q_seenSpan q_readLong q_marks q_isMeasured q_waysAre q_haveSpan g_links g_undos g_length g_seenMany u.1 g_at g_behind g_number g_readLinks g_readFolded g_readStiff g_wayMany g_row u.2)) sz := by
  refine ct_i (cc := cX8_brassRate) (nL := 2) (ret := (some .int)) (by decide) rfl (Nat.le_of_ble_eq_true rfl) ?_ sz
  intro p e s m below meth c A ls C hK hA hP hD hS hl
  obtain ⟨⟨hx, hb, hml, hown, hts⟩, hr, hlocks, hN⟩ := id C
  have hown : s.vm.findClass RX8 = some m.cls := hown
  have hl : lv_has ls 2 [(0, .ref q), (1, .int x1)] := hl
  unfold wp_X8_brassRate at h
  refine lv_aload_n hx hb dX8_brassRate_0 rfl (lv_at hl 0 rfl) ?_
  refine lv_dup hx hb dX8_brassRate_1 rfl ?_
  refine va_get (D := D) (ci := 8) (v := .long g_trace) (C := RX8) (T := TX8) (N := 22) hx hb hts in_X8_brassRate_X8 hown hK hP 0 rfl rfl 9 (by decide) (k_X8_brassRate_f184 hts) (fun _ h9 => h9) rfl dX8_brassRate_2 ?_
  refine lv_ldc2 hx hb hown (k_X8_brassRate_c196 hts) dX8_brassRate_5 ?_
  refine lv_ladd hx hb dX8_brassRate_8 ?_
  refine lv_topl (fun z6 ez6 => ?_)
  have h := h z6 ez6
  refine va_put (D := D) (ci := 8) (v := .long z6) (ty := .long) (C := RX8) (T := TX8) (N := 22) hx hb hts in_X8_brassRate_X8 tyX8 tyX8_ok nmX8 hown hK hP hD hS 0 rfl rfl 9 (by decide) (k_X8_brassRate_f184 hts) (fun _ h9 => h9) rfl (by decide +kernel) rfl rfl (Nat.le_of_ble_eq_true rfl) dX8_brassRate_9 (fun H locs hP hD hS => ?_)
  have hP : va_P D vwCl (w_X8_brassRate Y q q_row q_isKept q_text q_seenFold q_seenSpan q_readLong q_marks q_isMeasured q_waysAre q_haveSpan g_links g_undos g_length g_seenMany z6 g_at g_behind g_number g_readLinks g_readFolded g_readStiff g_wayMany g_row g_marks) H := hP
  have hD : va_D A (w_X8_brassRate Y q q_row q_isKept q_text q_seenFold q_seenSpan q_readLong q_marks q_isMeasured q_waysAre q_haveSpan g_links g_undos g_length g_seenMany z6 g_at g_behind g_number g_readLinks g_readFolded g_readStiff g_wayMany g_row g_marks) := hD
  refine lv_aload_n hx hb dX8_brassRate_12 rfl (lv_at hl 0 rfl) ?_
  refine lv_iload_n hx hb dX8_brassRate_13 rfl (lv_at hl 1 rfl) ?_
  have hp : Pt (w_X8_brassRate Y q q_row q_isKept q_text q_seenFold q_seenSpan q_readLong q_marks q_isMeasured q_waysAre q_haveSpan g_links g_undos g_length g_seenMany z6 g_at g_behind g_number g_readLinks g_readFolded g_readStiff g_wayMany g_row g_marks) (w_X8_linkRate Y q q_row q_isKept q_text q_seenFold q_seenSpan q_readLong q_marks q_isMeasured q_waysAre q_haveSpan g_links g_undos g_length g_seenMany z6 g_at g_behind g_number g_readLinks g_readFolded g_readStiff g_wayMany g_row) [0, 1] := ⟨rfl, by decide +kernel⟩
  refine go_i hp hP hD hS hA (fun _ => rfl) (va_runV (As := [.int x1]) (rest := []) ⟨hx, hb, hml, hown, hts⟩ (c_X8_linkRate h _) (cwV 1 hts gX8_brassRate_X8_linkRate rfl rfl rfl (by decide +kernel) ⟨Nat.le_of_ble_eq_true rfl, Nat.le_of_ble_eq_true rfl⟩) (pre_V (b := q) (q0 := 0) (ci := 8) (q := (RX8, TX8, 22)) hp hK hN hP hD rfl rfl) rfl rfl hl.1 rfl (lv_room (Nat.le_of_ble_eq_true rfl)) dX8_brassRate_14 ⟨Nat.le_of_ble_eq_true rfl, Nat.le_of_ble_eq_true rfl⟩) (fun r7 u H locs h hP hD hS => ?_)
  obtain ⟨u8, rfl⟩ : ∃ z, z = u := ⟨_, rfl⟩
  try dsimp only at h
  have hP : va_P D vwCl (w_X8_brassRate Y q q_row q_isKept q_text q_seenFold q_seenSpan q_readLong q_marks q_isMeasured q_waysAre q_haveSpan g_links g_undos g_length g_seenMany u8 g_at g_behind g_number g_readLinks g_readFolded g_readStiff g_wayMany g_row g_marks) H := hP
  have hD : va_D A (w_X8_brassRate Y q q_row q_isKept q_text q_seenFold q_seenSpan q_readLong q_marks q_isMeasured q_waysAre q_haveSpan g_links g_undos g_length g_seenMany u8 g_at g_behind g_number g_readLinks g_readFolded g_readStiff g_wayMany g_row g_marks) := hD
  refine lv_aload_n hx hb dX8_brassRate_17 rfl (lv_at hl 0 rfl) ?_
  refine lv_aload_n hx hb dX8_brassRate_18 rfl (lv_at hl 0 rfl) ?_
  refine va_get (D := D) (ci := 8) (v := .ref q_row) (C := RX8) (T := TX8) (N := 22) hx hb hts in_X8_brassRate_X8 hown hK hP 0 rfl rfl 0 (by decide) (k_X8_brassRate_f7 hts) (fun _ h9 => h9) rfl dX8_brassRate_19 ?_
  refine lv_bipush (v := 9) hx hb dX8_brassRate_22 (by decide) ?_
  obtain ⟨hin, h⟩ := h
  refine va_iald hx hb hK hP 1 0 rfl rfl hin dX8_brassRate_24 ?_
  have hp : Pt (w_X8_brassRate Y q q_row q_isKept q_text q_seenFold q_seenSpan q_readLong q_marks q_isMeasured q_waysAre q_haveSpan g_links g_undos g_length g_seenMany u8 g_at g_behind g_number g_readLinks g_readFolded g_readStiff g_wayMany g_row g_marks) (w_X8_spanBy Y q q_row q_isKept q_text q_seenFold q_seenSpan q_readLong q_marks q_isMeasured q_waysAre q_haveSpan g_links g_undos g_length g_seenMany u8 g_at g_behind g_number g_readLinks g_readFolded g_readStiff g_wayMany g_marks g_row) [0, 2, 1] := ⟨rfl, by decide +kernel⟩
  refine go_i hp hP hD hS hA (fun _ => rfl) (va_runV (As := [.int (g_row ((9 : Int32)).toNatClampNeg)]) (rest := [.int r7]) ⟨hx, hb, hml, hown, hts⟩ (c_X8_spanBy h _) (cwV 1 hts gX8_brassRate_X8_spanBy rfl rfl rfl (by decide +kernel) ⟨Nat.le_of_ble_eq_true rfl, Nat.le_of_ble_eq_true rfl⟩) (pre_V (b := q) (q0 := 0) (ci := 8) (q := (RX8, TX8, 22)) hp hK hN hP hD rfl rfl) rfl rfl hl.1 rfl (lv_room (Nat.le_of_ble_eq_true rfl)) dX8_brassRate_25 ⟨Nat.le_of_ble_eq_true rfl, Nat.le_of_ble_eq_true rfl⟩) (fun r9 u H locs h hP hD hS => ?_)
  obtain ⟨u10, rfl⟩ : ∃ z, z = u := ⟨_, rfl⟩
  try dsimp only at h
  have hP : va_P D vwCl (w_X8_brassRate Y q q_row q_isKept q_text q_seenFold q_seenSpan q_readLong q_marks q_isMeasured q_waysAre q_haveSpan g_links g_undos g_length g_seenMany u8 g_at g_behind g_number g_readLinks g_readFolded g_readStiff g_wayMany g_row u10) H := hP
  have hD : va_D A (w_X8_brassRate Y q q_row q_isKept q_text q_seenFold q_seenSpan q_readLong q_marks q_isMeasured q_waysAre q_haveSpan g_links g_undos g_length g_seenMany u8 g_at g_behind g_number g_readLinks g_readFolded g_readStiff g_wayMany g_row u10) := hD
  refine lv_isub hx hb dX8_brassRate_28 ?_
  exact ret_i (u8, u10) hx hb hr hlocks hK hP hD hS h dX8_brassRate_29
abbrev rm_X8_rate : Room := { frames := 4, cells := 0, slots := 0, locals := 93 }
theorem in_X8_rate_X8 : ∀ w ∈ wsX80, w ∈ wsX8_rate := fun _ h => List.mem_cons_of_mem _ (List.mem_append_right _ h)
theorem k_X8_rate_c134 {s : State} {args : Array Value} (hts : ∀ w ∈ wsX8_rate, w.before args s = true) : (Cond.constant RX8 134 (-1000000)).before args s = true := hts _ (by decide +kernel)
theorem k_X8_rate_f184 {s : State} {args : Array Value} (hts : ∀ w ∈ wsX8_rate, w.before args s = true) : (Cond.fieldLink RX8 184 "FoldRuleModel" "trace" "J").before args s = true := hts _ (by decide +kernel)
theorem k_X8_rate_c204 {s : State} {args : Array Value} (hts : ∀ w ∈ wsX8_rate, w.before args s = true) : (Cond.constantLong RX8 204 (1000)).before args s = true := hts _ (by decide +kernel)
theorem k_X8_rate_c206 {s : State} {args : Array Value} (hts : ∀ w ∈ wsX8_rate, w.before args s = true) : (Cond.constantLong RX8 206 (10000)).before args s = true := hts _ (by decide +kernel)
theorem k_X8_rate_c208 {s : State} {args : Array Value} (hts : ∀ w ∈ wsX8_rate, w.before args s = true) : (Cond.constantLong RX8 208 (100000)).before args s = true := hts _ (by decide +kernel)
set_option maxHeartbeats 4000000 in
set_option maxRecDepth 100000 in
theorem c_X8_rate {l : Launch} {D : va_G} {Y : ClassId × ClassId × ClassId} {q q_row q_isKept q_text q_seenFold q_seenSpan q_readLong q_marks q_isMeasured q_waysAre q_haveSpan : Nat} {g_links g_undos g_length g_seenMany : Int32} {g_trace : Int64} {g_at g_behind g_number g_readLinks g_readFolded g_readStiff g_wayMany : Int32} {g_row g_marks : Nat → Int32} {x1 x2 : Int32} {Q : Int32 → Int64 → (Nat → Int32) → Prop} (h : wp_X8_rate g_links g_trace g_row g_marks x1 x2 Q) (sz : Nat) : MtI l yX8_rate wsX8_rate rm_X8_rate [.ref q, .int x1, .int x2] D Y (w_X8_rate Y q q_row q_isKept q_text q_seenFold q_seenSpan q_readLong q_marks q_isMeasured q_waysAre q_haveSpan g_links g_undos g_length g_seenMany g_trace g_at g_behind g_number g_readLinks g_readFolded g_readStiff g_wayMany g_row g_marks) (fun r (u : Int64 × (Nat → Int32)) => Q r u.1 u.2) (fun u : Int64 × (Nat → Int32) => (w_X8_rate Y q q_row q_isKept q_text q_seenFold q_seenSpan q_readLong q_marks q_isMeasured q_waysAre q_haveSpan g_links g_undos g_length g_seenMany u.1 g_at g_behind g_number g_readLinks g_readFolded g_readStiff g_wayMany g_row u.2)) sz := by
  refine ct_i (cc := cX8_rate) (nL := 3) (ret := (some .int)) (by decide) rfl (Nat.le_of_ble_eq_true rfl) ?_ sz
  intro p e s m below meth c A ls C hK hA hP hD hS hl
  obtain ⟨⟨hx, hb, hml, hown, hts⟩, hr, hlocks, hN⟩ := id C
  have hown : s.vm.findClass RX8 = some m.cls := hown
  have hl : lv_has ls 3 [(0, .ref q), (1, .int x1), (2, .int x2)] := hl
  unfold wp_X8_rate at h
  refine lv_iload_n hx hb dX8_rate_0 rfl (lv_at hl 1 rfl) ?_
  refine lv_iconst (v := 0) hx hb dX8_rate_1 (by decide) ?_
  refine lv_iconst (v := 5) hx hb dX8_rate_2 (by decide) ?_
  have hp : Pt (w_X8_rate Y q q_row q_isKept q_text q_seenFold q_seenSpan q_readLong q_marks q_isMeasured q_waysAre q_haveSpan g_links g_undos g_length g_seenMany g_trace g_at g_behind g_number g_readLinks g_readFolded g_readStiff g_wayMany g_row g_marks) (w_X8_in Y ) [] := ⟨rfl, by decide +kernel⟩
  refine go_i hp hP hD hS hA (fun _ => rfl) (va_runS (As := [.int x1, .int (0 : Int32), .int (5 : Int32)]) (rest := []) ⟨hx, hb, hml, hown, hts⟩ (c_X8_in h _) (va_cwS 3 hts gX8_rate_X8_in rfl rfl rfl (by decide +kernel) ⟨Nat.le_of_ble_eq_true rfl, Nat.le_of_ble_eq_true rfl⟩) (pre_S hp hK hN hP hD) rfl rfl hl.1 rfl (lv_room (Nat.le_of_ble_eq_true rfl)) dX8_rate_3 ⟨Nat.le_of_ble_eq_true rfl, Nat.le_of_ble_eq_true rfl⟩) (fun r24 u H locs h hP hD hS => ?_)
  try dsimp only at h
  have hP : va_P D vwCl (w_X8_rate Y q q_row q_isKept q_text q_seenFold q_seenSpan q_readLong q_marks q_isMeasured q_waysAre q_haveSpan g_links g_undos g_length g_seenMany g_trace g_at g_behind g_number g_readLinks g_readFolded g_readStiff g_wayMany g_row g_marks) H := hP
  have hD : va_D A (w_X8_rate Y q q_row q_isKept q_text q_seenFold q_seenSpan q_readLong q_marks q_isMeasured q_waysAre q_haveSpan g_links g_undos g_length g_seenMany g_trace g_at g_behind g_number g_readLinks g_readFolded g_readStiff g_wayMany g_row g_marks) := hD
  refine lv_if_eq (tgt := 17) hx hb dX8_rate_6 (by decide) (fun c25 => ?_) (fun c25 => ?_)
  · have h := h.1 c25
    refine lv_ldc hx hb hown (k_X8_rate_c134 hts) dX8_rate_17 ?_
    exact ret_i (g_trace, g_marks) hx hb hr hlocks hK hP hD hS h dX8_rate_19
  · have h := h.2 c25
    refine lv_aload_n hx hb dX8_rate_9 rfl (lv_at hl 0 rfl) ?_
    refine lv_iload_n hx hb dX8_rate_10 rfl (lv_at hl 2 rfl) ?_
    have hp : Pt (w_X8_rate Y q q_row q_isKept q_text q_seenFold q_seenSpan q_readLong q_marks q_isMeasured q_waysAre q_haveSpan g_links g_undos g_length g_seenMany g_trace g_at g_behind g_number g_readLinks g_readFolded g_readStiff g_wayMany g_row g_marks) (w_X8_isLink Y q q_row q_isKept q_text q_seenFold q_seenSpan q_readLong q_marks q_isMeasured q_waysAre q_haveSpan g_links g_undos g_length g_seenMany g_trace g_at g_behind g_number g_readLinks g_readFolded g_readStiff g_wayMany) [0] := ⟨rfl, by decide +kernel⟩
    refine go_i hp hP hD hS hA (fun _ => rfl) (va_runV (As := [.int x2]) (rest := []) ⟨hx, hb, hml, hown, hts⟩ (c_X8_isLink h _) (cwV 1 hts gX8_rate_X8_isLink rfl rfl rfl (by decide +kernel) ⟨Nat.le_of_ble_eq_true rfl, Nat.le_of_ble_eq_true rfl⟩) (pre_V (b := q) (q0 := 0) (ci := 8) (q := (RX8, TX8, 22)) hp hK hN hP hD rfl rfl) rfl rfl hl.1 rfl (lv_room (Nat.le_of_ble_eq_true rfl)) dX8_rate_11 ⟨Nat.le_of_ble_eq_true rfl, Nat.le_of_ble_eq_true rfl⟩) (fun r26 u H locs h hP hD hS => ?_)
    try dsimp only at h
    have hP : va_P D vwCl (w_X8_rate Y q q_row q_isKept q_text q_seenFold q_seenSpan q_readLong q_marks q_isMeasured q_waysAre q_haveSpan g_links g_undos g_length g_seenMany g_trace g_at g_behind g_number g_readLinks g_readFolded g_readStiff g_wayMany g_row g_marks) H := hP
    have hD : va_D A (w_X8_rate Y q q_row q_isKept q_text q_seenFold q_seenSpan q_readLong q_marks q_isMeasured q_waysAre q_haveSpan g_links g_undos g_length g_seenMany g_trace g_at g_behind g_number g_readLinks g_readFolded g_readStiff g_wayMany g_row g_marks) := hD
    refine lv_if_ne (tgt := 20) hx hb dX8_rate_14 (by decide) (fun c27 => ?_) (fun c27 => ?_)
    · have h := h.1 c27
      refine lv_iload_n hx hb dX8_rate_20 rfl (lv_at hl 1 rfl) ?_
      by_cases c28_0 : x1 = (1 : Int32)
      · have h := h.1 c28_0
        refine lv_tableIn (off := (35)) (tgt := 56) hx hb dX8_rate_21 (by rw [c28_0]; decide) (by rw [c28_0]; decide) (by rw [c28_0]; rfl) (by decide) ?_
        refine lv_aload_n hx hb dX8_rate_56 rfl (lv_at hl 0 rfl) ?_
        refine lv_iload_n hx hb dX8_rate_57 rfl (lv_at hl 2 rfl) ?_
        have hp : Pt (w_X8_rate Y q q_row q_isKept q_text q_seenFold q_seenSpan q_readLong q_marks q_isMeasured q_waysAre q_haveSpan g_links g_undos g_length g_seenMany g_trace g_at g_behind g_number g_readLinks g_readFolded g_readStiff g_wayMany g_row g_marks) (w_X8_woodRate Y q q_row q_isKept q_text q_seenFold q_seenSpan q_readLong q_marks q_isMeasured q_waysAre q_haveSpan g_links g_undos g_length g_seenMany g_trace g_at g_behind g_number g_readLinks g_readFolded g_readStiff g_wayMany g_row g_marks) [0, 1, 2] := ⟨rfl, by decide +kernel⟩
        refine go_i hp hP hD hS hA (fun _ => rfl) (va_runV (As := [.int x2]) (rest := []) ⟨hx, hb, hml, hown, hts⟩ (c_X8_woodRate h _) (cwV 1 hts gX8_rate_X8_woodRate rfl rfl rfl (by decide +kernel) ⟨Nat.le_of_ble_eq_true rfl, Nat.le_of_ble_eq_true rfl⟩) (pre_V (b := q) (q0 := 0) (ci := 8) (q := (RX8, TX8, 22)) hp hK hN hP hD rfl rfl) rfl rfl hl.1 rfl (lv_room (Nat.le_of_ble_eq_true rfl)) dX8_rate_58 ⟨Nat.le_of_ble_eq_true rfl, Nat.le_of_ble_eq_true rfl⟩) (fun r29 u H locs h hP hD hS => ?_)
        obtain ⟨u30, u31⟩ := u
        try dsimp only at h
        have hP : va_P D vwCl (w_X8_rate Y q q_row q_isKept q_text q_seenFold q_seenSpan q_readLong q_marks q_isMeasured q_waysAre q_haveSpan g_links g_undos g_length g_seenMany u30 g_at g_behind g_number g_readLinks g_readFolded g_readStiff g_wayMany g_row u31) H := hP
        have hD : va_D A (w_X8_rate Y q q_row q_isKept q_text q_seenFold q_seenSpan q_readLong q_marks q_isMeasured q_waysAre q_haveSpan g_links g_undos g_length g_seenMany u30 g_at g_behind g_number g_readLinks g_readFolded g_readStiff g_wayMany g_row u31) := hD
        exact ret_i (u30, u31) hx hb hr hlocks hK hP hD hS h dX8_rate_61
      by_cases c28_1 : x1 = (2 : Int32)
      · have h := h.2.1 c28_1
        refine lv_tableIn (off := (41)) (tgt := 62) hx hb dX8_rate_21 (by rw [c28_1]; decide) (by rw [c28_1]; decide) (by rw [c28_1]; rfl) (by decide) ?_
        refine lv_aload_n hx hb dX8_rate_62 rfl (lv_at hl 0 rfl) ?_
        refine lv_iload_n hx hb dX8_rate_63 rfl (lv_at hl 2 rfl) ?_
        have hp : Pt (w_X8_rate Y q q_row q_isKept q_text q_seenFold q_seenSpan q_readLong q_marks q_isMeasured q_waysAre q_haveSpan g_links g_undos g_length g_seenMany g_trace g_at g_behind g_number g_readLinks g_readFolded g_readStiff g_wayMany g_row g_marks) (w_X8_brassRate Y q q_row q_isKept q_text q_seenFold q_seenSpan q_readLong q_marks q_isMeasured q_waysAre q_haveSpan g_links g_undos g_length g_seenMany g_trace g_at g_behind g_number g_readLinks g_readFolded g_readStiff g_wayMany g_row g_marks) [0, 1, 2] := ⟨rfl, by decide +kernel⟩
        refine go_i hp hP hD hS hA (fun _ => rfl) (va_runV (As := [.int x2]) (rest := []) ⟨hx, hb, hml, hown, hts⟩ (c_X8_brassRate h _) (cwV 1 hts gX8_rate_X8_brassRate rfl rfl rfl (by decide +kernel) ⟨Nat.le_of_ble_eq_true rfl, Nat.le_of_ble_eq_true rfl⟩) (pre_V (b := q) (q0 := 0) (ci := 8) (q := (RX8, TX8, 22)) hp hK hN hP hD rfl rfl) rfl rfl hl.1 rfl (lv_room (Nat.le_of_ble_eq_true rfl)) dX8_rate_64 ⟨Nat.le_of_ble_eq_true rfl, Nat.le_of_ble_eq_true rfl⟩) (fun r32 u H locs h hP hD hS => ?_)
        obtain ⟨u33, u34⟩ := u
        try dsimp only at h
        have hP : va_P D vwCl (w_X8_rate Y q q_row q_isKept q_text q_seenFold q_seenSpan q_readLong q_marks q_isMeasured q_waysAre q_haveSpan g_links g_undos g_length g_seenMany u33 g_at g_behind g_number g_readLinks g_readFolded g_readStiff g_wayMany g_row u34) H := hP
        have hD : va_D A (w_X8_rate Y q q_row q_isKept q_text q_seenFold q_seenSpan q_readLong q_marks q_isMeasured q_waysAre q_haveSpan g_links g_undos g_length g_seenMany u33 g_at g_behind g_number g_readLinks g_readFolded g_readStiff g_wayMany g_row u34) := hD
        exact ret_i (u33, u34) hx hb hr hlocks hK hP hD hS h dX8_rate_67
      by_cases c28_2 : x1 = (3 : Int32)
      · have h := h.2.2.1 c28_2
        refine lv_tableIn (off := (47)) (tgt := 68) hx hb dX8_rate_21 (by rw [c28_2]; decide) (by rw [c28_2]; decide) (by rw [c28_2]; rfl) (by decide) ?_
        refine lv_aload_n hx hb dX8_rate_68 rfl (lv_at hl 0 rfl) ?_
        refine lv_dup hx hb dX8_rate_69 rfl ?_
        refine va_get (D := D) (ci := 8) (v := .long g_trace) (C := RX8) (T := TX8) (N := 22) hx hb hts in_X8_rate_X8 hown hK hP 0 rfl rfl 9 (by decide) (k_X8_rate_f184 hts) (fun _ h9 => h9) rfl dX8_rate_70 ?_
        refine lv_ldc2 hx hb hown (k_X8_rate_c204 hts) dX8_rate_73 ?_
        refine lv_ladd hx hb dX8_rate_76 ?_
        refine lv_topl (fun z35 ez35 => ?_)
        have h := h z35 ez35
        refine va_put (D := D) (ci := 8) (v := .long z35) (ty := .long) (C := RX8) (T := TX8) (N := 22) hx hb hts in_X8_rate_X8 tyX8 tyX8_ok nmX8 hown hK hP hD hS 0 rfl rfl 9 (by decide) (k_X8_rate_f184 hts) (fun _ h9 => h9) rfl (by decide +kernel) rfl rfl (Nat.le_of_ble_eq_true rfl) dX8_rate_77 (fun H locs hP hD hS => ?_)
        have hP : va_P D vwCl (w_X8_rate Y q q_row q_isKept q_text q_seenFold q_seenSpan q_readLong q_marks q_isMeasured q_waysAre q_haveSpan g_links g_undos g_length g_seenMany z35 g_at g_behind g_number g_readLinks g_readFolded g_readStiff g_wayMany g_row g_marks) H := hP
        have hD : va_D A (w_X8_rate Y q q_row q_isKept q_text q_seenFold q_seenSpan q_readLong q_marks q_isMeasured q_waysAre q_haveSpan g_links g_undos g_length g_seenMany z35 g_at g_behind g_number g_readLinks g_readFolded g_readStiff g_wayMany g_row g_marks) := hD
        refine lv_iconst (v := 2) hx hb dX8_rate_80 (by decide) ?_
        refine lv_aload_n hx hb dX8_rate_81 rfl (lv_at hl 0 rfl) ?_
        refine lv_iload_n hx hb dX8_rate_82 rfl (lv_at hl 2 rfl) ?_
        have hp : Pt (w_X8_rate Y q q_row q_isKept q_text q_seenFold q_seenSpan q_readLong q_marks q_isMeasured q_waysAre q_haveSpan g_links g_undos g_length g_seenMany z35 g_at g_behind g_number g_readLinks g_readFolded g_readStiff g_wayMany g_row g_marks) (w_X8_woodRate Y q q_row q_isKept q_text q_seenFold q_seenSpan q_readLong q_marks q_isMeasured q_waysAre q_haveSpan g_links g_undos g_length g_seenMany z35 g_at g_behind g_number g_readLinks g_readFolded g_readStiff g_wayMany g_row g_marks) [0, 1, 2] := ⟨rfl, by decide +kernel⟩
        refine go_i hp hP hD hS hA (fun _ => rfl) (va_runV (As := [.int x2]) (rest := [.int (2 : Int32)]) ⟨hx, hb, hml, hown, hts⟩ (c_X8_woodRate h _) (cwV 1 hts gX8_rate_X8_woodRate rfl rfl rfl (by decide +kernel) ⟨Nat.le_of_ble_eq_true rfl, Nat.le_of_ble_eq_true rfl⟩) (pre_V (b := q) (q0 := 0) (ci := 8) (q := (RX8, TX8, 22)) hp hK hN hP hD rfl rfl) rfl rfl hl.1 rfl (lv_room (Nat.le_of_ble_eq_true rfl)) dX8_rate_83 ⟨Nat.le_of_ble_eq_true rfl, Nat.le_of_ble_eq_true rfl⟩) (fun r36 u H locs h hP hD hS => ?_)
        obtain ⟨u37, u38⟩ := u
        try dsimp only at h
        have hP : va_P D vwCl (w_X8_rate Y q q_row q_isKept q_text q_seenFold q_seenSpan q_readLong q_marks q_isMeasured q_waysAre q_haveSpan g_links g_undos g_length g_seenMany u37 g_at g_behind g_number g_readLinks g_readFolded g_readStiff g_wayMany g_row u38) H := hP
        have hD : va_D A (w_X8_rate Y q q_row q_isKept q_text q_seenFold q_seenSpan q_readLong q_marks q_isMeasured q_waysAre q_haveSpan g_links g_undos g_length g_seenMany u37 g_at g_behind g_number g_readLinks g_readFolded g_readStiff g_wayMany g_row u38) := hD
        refine lv_imul hx hb dX8_rate_86 ?_
        exact ret_i (u37, u38) hx hb hr hlocks hK hP hD hS h dX8_rate_87
      by_cases c28_3 : x1 = (4 : Int32)
      · have h := h.2.2.2.1 c28_3
        refine lv_tableIn (off := (67)) (tgt := 88) hx hb dX8_rate_21 (by rw [c28_3]; decide) (by rw [c28_3]; decide) (by rw [c28_3]; rfl) (by decide) ?_
        refine lv_aload_n hx hb dX8_rate_88 rfl (lv_at hl 0 rfl) ?_
        refine lv_dup hx hb dX8_rate_89 rfl ?_
        refine va_get (D := D) (ci := 8) (v := .long g_trace) (C := RX8) (T := TX8) (N := 22) hx hb hts in_X8_rate_X8 hown hK hP 0 rfl rfl 9 (by decide) (k_X8_rate_f184 hts) (fun _ h9 => h9) rfl dX8_rate_90 ?_
        refine lv_ldc2 hx hb hown (k_X8_rate_c206 hts) dX8_rate_93 ?_
        refine lv_ladd hx hb dX8_rate_96 ?_
        refine lv_topl (fun z39 ez39 => ?_)
        have h := h z39 ez39
        refine va_put (D := D) (ci := 8) (v := .long z39) (ty := .long) (C := RX8) (T := TX8) (N := 22) hx hb hts in_X8_rate_X8 tyX8 tyX8_ok nmX8 hown hK hP hD hS 0 rfl rfl 9 (by decide) (k_X8_rate_f184 hts) (fun _ h9 => h9) rfl (by decide +kernel) rfl rfl (Nat.le_of_ble_eq_true rfl) dX8_rate_97 (fun H locs hP hD hS => ?_)
        have hP : va_P D vwCl (w_X8_rate Y q q_row q_isKept q_text q_seenFold q_seenSpan q_readLong q_marks q_isMeasured q_waysAre q_haveSpan g_links g_undos g_length g_seenMany z39 g_at g_behind g_number g_readLinks g_readFolded g_readStiff g_wayMany g_row g_marks) H := hP
        have hD : va_D A (w_X8_rate Y q q_row q_isKept q_text q_seenFold q_seenSpan q_readLong q_marks q_isMeasured q_waysAre q_haveSpan g_links g_undos g_length g_seenMany z39 g_at g_behind g_number g_readLinks g_readFolded g_readStiff g_wayMany g_row g_marks) := hD
        refine lv_aload_n hx hb dX8_rate_100 rfl (lv_at hl 0 rfl) ?_
        refine lv_iload_n hx hb dX8_rate_101 rfl (lv_at hl 2 rfl) ?_
        have hp : Pt (w_X8_rate Y q q_row q_isKept q_text q_seenFold q_seenSpan q_readLong q_marks q_isMeasured q_waysAre q_haveSpan g_links g_undos g_length g_seenMany z39 g_at g_behind g_number g_readLinks g_readFolded g_readStiff g_wayMany g_row g_marks) (w_X8_brassRate Y q q_row q_isKept q_text q_seenFold q_seenSpan q_readLong q_marks q_isMeasured q_waysAre q_haveSpan g_links g_undos g_length g_seenMany z39 g_at g_behind g_number g_readLinks g_readFolded g_readStiff g_wayMany g_row g_marks) [0, 1, 2] := ⟨rfl, by decide +kernel⟩
        refine go_i hp hP hD hS hA (fun _ => rfl) (va_runV (As := [.int x2]) (rest := []) ⟨hx, hb, hml, hown, hts⟩ (c_X8_brassRate h _) (cwV 1 hts gX8_rate_X8_brassRate rfl rfl rfl (by decide +kernel) ⟨Nat.le_of_ble_eq_true rfl, Nat.le_of_ble_eq_true rfl⟩) (pre_V (b := q) (q0 := 0) (ci := 8) (q := (RX8, TX8, 22)) hp hK hN hP hD rfl rfl) rfl rfl hl.1 rfl (lv_room (Nat.le_of_ble_eq_true rfl)) dX8_rate_102 ⟨Nat.le_of_ble_eq_true rfl, Nat.le_of_ble_eq_true rfl⟩) (fun r40 u H locs h hP hD hS => ?_)
        obtain ⟨u41, u42⟩ := u
        try dsimp only at h
        have hP : va_P D vwCl (w_X8_rate Y q q_row q_isKept q_text q_seenFold q_seenSpan q_readLong q_marks q_isMeasured q_waysAre q_haveSpan g_links g_undos g_length g_seenMany u41 g_at g_behind g_number g_readLinks g_readFolded g_readStiff g_wayMany g_row u42) H := hP
        have hD : va_D A (w_X8_rate Y q q_row q_isKept q_text q_seenFold q_seenSpan q_readLong q_marks q_isMeasured q_waysAre q_haveSpan g_links g_undos g_length g_seenMany u41 g_at g_behind g_number g_readLinks g_readFolded g_readStiff g_wayMany g_row u42) := hD
        refine lv_iload_n hx hb dX8_rate_105 rfl (lv_at hl 2 rfl) ?_
        refine lv_iadd hx hb dX8_rate_106 ?_
        exact ret_i (u41, u42) hx hb hr hlocks hK hP hD hS h dX8_rate_107
      by_cases c28_4 : x1 = (5 : Int32)
      · have h := h.2.2.2.2.1 c28_4
        refine lv_tableIn (off := (87)) (tgt := 108) hx hb dX8_rate_21 (by rw [c28_4]; decide) (by rw [c28_4]; decide) (by rw [c28_4]; rfl) (by decide) ?_
        refine lv_aload_n hx hb dX8_rate_108 rfl (lv_at hl 0 rfl) ?_
        refine lv_dup hx hb dX8_rate_109 rfl ?_
        refine va_get (D := D) (ci := 8) (v := .long g_trace) (C := RX8) (T := TX8) (N := 22) hx hb hts in_X8_rate_X8 hown hK hP 0 rfl rfl 9 (by decide) (k_X8_rate_f184 hts) (fun _ h9 => h9) rfl dX8_rate_110 ?_
        refine lv_ldc2 hx hb hown (k_X8_rate_c208 hts) dX8_rate_113 ?_
        refine lv_ladd hx hb dX8_rate_116 ?_
        refine lv_topl (fun z43 ez43 => ?_)
        have h := h z43 ez43
        refine va_put (D := D) (ci := 8) (v := .long z43) (ty := .long) (C := RX8) (T := TX8) (N := 22) hx hb hts in_X8_rate_X8 tyX8 tyX8_ok nmX8 hown hK hP hD hS 0 rfl rfl 9 (by decide) (k_X8_rate_f184 hts) (fun _ h9 => h9) rfl (by decide +kernel) rfl rfl (Nat.le_of_ble_eq_true rfl) dX8_rate_117 (fun H locs hP hD hS => ?_)
        have hP : va_P D vwCl (w_X8_rate Y q q_row q_isKept q_text q_seenFold q_seenSpan q_readLong q_marks q_isMeasured q_waysAre q_haveSpan g_links g_undos g_length g_seenMany z43 g_at g_behind g_number g_readLinks g_readFolded g_readStiff g_wayMany g_row g_marks) H := hP
        have hD : va_D A (w_X8_rate Y q q_row q_isKept q_text q_seenFold q_seenSpan q_readLong q_marks q_isMeasured q_waysAre q_haveSpan g_links g_undos g_length g_seenMany z43 g_at g_behind g_number g_readLinks g_readFolded g_readStiff g_wayMany g_row g_marks) := hD
        refine lv_aload_n hx hb dX8_rate_120 rfl (lv_at hl 0 rfl) ?_
        refine lv_iload_n hx hb dX8_rate_121 rfl (lv_at hl 2 rfl) ?_
        have hp : Pt (w_X8_rate Y q q_row q_isKept q_text q_seenFold q_seenSpan q_readLong q_marks q_isMeasured q_waysAre q_haveSpan g_links g_undos g_length g_seenMany z43 g_at g_behind g_number g_readLinks g_readFolded g_readStiff g_wayMany g_row g_marks) (w_X8_linkRate Y q q_row q_isKept q_text q_seenFold q_seenSpan q_readLong q_marks q_isMeasured q_waysAre q_haveSpan g_links g_undos g_length g_seenMany z43 g_at g_behind g_number g_readLinks g_readFolded g_readStiff g_wayMany g_row) [0, 1] := ⟨rfl, by decide +kernel⟩
        refine go_i hp hP hD hS hA (fun _ => rfl) (va_runV (As := [.int x2]) (rest := []) ⟨hx, hb, hml, hown, hts⟩ (c_X8_linkRate h _) (cwV 1 hts gX8_rate_X8_linkRate rfl rfl rfl (by decide +kernel) ⟨Nat.le_of_ble_eq_true rfl, Nat.le_of_ble_eq_true rfl⟩) (pre_V (b := q) (q0 := 0) (ci := 8) (q := (RX8, TX8, 22)) hp hK hN hP hD rfl rfl) rfl rfl hl.1 rfl (lv_room (Nat.le_of_ble_eq_true rfl)) dX8_rate_122 ⟨Nat.le_of_ble_eq_true rfl, Nat.le_of_ble_eq_true rfl⟩) (fun r44 u H locs h hP hD hS => ?_)
        obtain ⟨u45, rfl⟩ : ∃ z, z = u := ⟨_, rfl⟩
        try dsimp only at h
        have hP : va_P D vwCl (w_X8_rate Y q q_row q_isKept q_text q_seenFold q_seenSpan q_readLong q_marks q_isMeasured q_waysAre q_haveSpan g_links g_undos g_length g_seenMany u45 g_at g_behind g_number g_readLinks g_readFolded g_readStiff g_wayMany g_row g_marks) H := hP
        have hD : va_D A (w_X8_rate Y q q_row q_isKept q_text q_seenFold q_seenSpan q_readLong q_marks q_isMeasured q_waysAre q_haveSpan g_links g_undos g_length g_seenMany u45 g_at g_behind g_number g_readLinks g_readFolded g_readStiff g_wayMany g_row g_marks) := hD
        refine lv_aload_n hx hb dX8_rate_125 rfl (lv_at hl 0 rfl) ?_
        have hp : Pt (w_X8_rate Y q q_row q_isKept q_text q_seenFold q_seenSpan q_readLong q_marks q_isMeasured q_waysAre q_haveSpan g_links g_undos g_length g_seenMany u45 g_at g_behind g_number g_readLinks g_readFolded g_readStiff g_wayMany g_row g_marks) (w_X8_stack Y q q_row q_isKept q_text q_seenFold q_seenSpan q_readLong q_marks q_isMeasured q_waysAre q_haveSpan g_links g_undos g_length g_seenMany u45 g_at g_behind g_number g_readLinks g_readFolded g_readStiff g_wayMany g_row g_marks) [0, 1, 2] := ⟨rfl, by decide +kernel⟩
        refine go_i hp hP hD hS hA (fun _ => rfl) (va_runV (As := []) (rest := [.int r44]) ⟨hx, hb, hml, hown, hts⟩ (c_X8_stack h _) (cwV 0 hts gX8_rate_X8_stack rfl rfl rfl (by decide +kernel) ⟨Nat.le_of_ble_eq_true rfl, Nat.le_of_ble_eq_true rfl⟩) (pre_V (b := q) (q0 := 0) (ci := 8) (q := (RX8, TX8, 22)) hp hK hN hP hD rfl rfl) rfl rfl hl.1 rfl (lv_room (Nat.le_of_ble_eq_true rfl)) dX8_rate_126 ⟨Nat.le_of_ble_eq_true rfl, Nat.le_of_ble_eq_true rfl⟩) (fun r46 u H locs h hP hD hS => ?_)
        obtain ⟨u47, rfl⟩ : ∃ z, z = u := ⟨_, rfl⟩
        try dsimp only at h
        have hP : va_P D vwCl (w_X8_rate Y q q_row q_isKept q_text q_seenFold q_seenSpan q_readLong q_marks q_isMeasured q_waysAre q_haveSpan g_links g_undos g_length g_seenMany u45 g_at g_behind g_number g_readLinks g_readFolded g_readStiff g_wayMany g_row u47) H := hP
        have hD : va_D A (w_X8_rate Y q q_row q_isKept q_text q_seenFold q_seenSpan q_readLong q_marks q_isMeasured q_waysAre q_haveSpan g_links g_undos g_length g_seenMany u45 g_at g_behind g_number g_readLinks g_readFolded g_readStiff g_wayMany g_row u47) := hD
        refine lv_iadd hx hb dX8_rate_129 ?_
        exact ret_i (u45, u47) hx hb hr hlocks hK hP hD hS h dX8_rate_130
      have h := h.2.2.2.2.2 c28_0 c28_1 c28_2 c28_3 c28_4
      refine lv_tableOut (tgt := 131) hx hb dX8_rate_21 (by have := lv_neT (a := 1) c28_0 (by decide); have := lv_neT (a := 2) c28_1 (by decide); have := lv_neT (a := 3) c28_2 (by decide); have := lv_neT (a := 4) c28_3 (by decide); have := lv_neT (a := 5) c28_4 (by decide); omega) (by decide) ?_
      refine lv_aload_n hx hb dX8_rate_131 rfl (lv_at hl 0 rfl) ?_
      refine lv_iload_n hx hb dX8_rate_132 rfl (lv_at hl 2 rfl) ?_
      have hp : Pt (w_X8_rate Y q q_row q_isKept q_text q_seenFold q_seenSpan q_readLong q_marks q_isMeasured q_waysAre q_haveSpan g_links g_undos g_length g_seenMany g_trace g_at g_behind g_number g_readLinks g_readFolded g_readStiff g_wayMany g_row g_marks) (w_X8_linkRate Y q q_row q_isKept q_text q_seenFold q_seenSpan q_readLong q_marks q_isMeasured q_waysAre q_haveSpan g_links g_undos g_length g_seenMany g_trace g_at g_behind g_number g_readLinks g_readFolded g_readStiff g_wayMany g_row) [0, 1] := ⟨rfl, by decide +kernel⟩
      refine go_i hp hP hD hS hA (fun _ => rfl) (va_runV (As := [.int x2]) (rest := []) ⟨hx, hb, hml, hown, hts⟩ (c_X8_linkRate h _) (cwV 1 hts gX8_rate_X8_linkRate rfl rfl rfl (by decide +kernel) ⟨Nat.le_of_ble_eq_true rfl, Nat.le_of_ble_eq_true rfl⟩) (pre_V (b := q) (q0 := 0) (ci := 8) (q := (RX8, TX8, 22)) hp hK hN hP hD rfl rfl) rfl rfl hl.1 rfl (lv_room (Nat.le_of_ble_eq_true rfl)) dX8_rate_133 ⟨Nat.le_of_ble_eq_true rfl, Nat.le_of_ble_eq_true rfl⟩) (fun r48 u H locs h hP hD hS => ?_)
      obtain ⟨u49, rfl⟩ : ∃ z, z = u := ⟨_, rfl⟩
      try dsimp only at h
      have hP : va_P D vwCl (w_X8_rate Y q q_row q_isKept q_text q_seenFold q_seenSpan q_readLong q_marks q_isMeasured q_waysAre q_haveSpan g_links g_undos g_length g_seenMany u49 g_at g_behind g_number g_readLinks g_readFolded g_readStiff g_wayMany g_row g_marks) H := hP
      have hD : va_D A (w_X8_rate Y q q_row q_isKept q_text q_seenFold q_seenSpan q_readLong q_marks q_isMeasured q_waysAre q_haveSpan g_links g_undos g_length g_seenMany u49 g_at g_behind g_number g_readLinks g_readFolded g_readStiff g_wayMany g_row g_marks) := hD
      exact ret_i (u49, g_marks) hx hb hr hlocks hK hP hD hS h dX8_rate_136
    · have h := h.2 c27
      refine lv_ldc hx hb hown (k_X8_rate_c134 hts) dX8_rate_17 ?_
      exact ret_i (g_trace, g_marks) hx hb hr hlocks hK hP hD hS h dX8_rate_19
abbrev rm_X8_keep : Room := { frames := 3, cells := 0, slots := 0, locals := 67 }
theorem in_X8_keep_X8 : ∀ w ∈ wsX80, w ∈ wsX8_keep := fun _ h => List.mem_cons_of_mem _ (List.mem_append_right _ h)
theorem k_X8_keep_f13 {s : State} {args : Array Value} (hts : ∀ w ∈ wsX8_keep, w.before args s = true) : (Cond.fieldLink RX8 13 "FoldRuleModel" "isKept" "[Z").before args s = true := hts _ (by decide +kernel)
theorem k_X8_keep_f7 {s : State} {args : Array Value} (hts : ∀ w ∈ wsX8_keep, w.before args s = true) : (Cond.fieldLink RX8 7 "FoldRuleModel" "row" "[I").before args s = true := hts _ (by decide +kernel)
set_option maxHeartbeats 4000000 in
set_option maxRecDepth 100000 in
theorem c_X8_keep {l : Launch} {D : va_G} {Y : ClassId × ClassId × ClassId} {q q_row q_isKept q_text q_seenFold q_seenSpan q_readLong q_marks q_isMeasured q_waysAre q_haveSpan : Nat} {g_links g_undos g_length g_seenMany : Int32} {g_trace : Int64} {g_at g_behind g_number g_readLinks g_readFolded g_readStiff g_wayMany : Int32} {g_row g_isKept g_marks : Nat → Int32} {x1 : Int32} {Q : Int32 → (Nat → Int32) → (Nat → Int32) → (Nat → Int32) → Prop} (h : wp_X8_keep g_links g_row g_isKept g_marks x1 Q) (sz : Nat) : MtI l yX8_keep wsX8_keep rm_X8_keep [.ref q, .int x1] D Y (w_X8_keep Y q q_row q_isKept q_text q_seenFold q_seenSpan q_readLong q_marks q_isMeasured q_waysAre q_haveSpan g_links g_undos g_length g_seenMany g_trace g_at g_behind g_number g_readLinks g_readFolded g_readStiff g_wayMany g_row g_isKept g_marks) (fun r (u : (Nat → Int32) × (Nat → Int32) × (Nat → Int32)) => Q r u.1 u.2.1 u.2.2) (fun u : (Nat → Int32) × (Nat → Int32) × (Nat → Int32) => (w_X8_keep Y q q_row q_isKept q_text q_seenFold q_seenSpan q_readLong q_marks q_isMeasured q_waysAre q_haveSpan g_links g_undos g_length g_seenMany g_trace g_at g_behind g_number g_readLinks g_readFolded g_readStiff g_wayMany u.1 u.2.1 u.2.2)) sz := by
  refine ct_i (cc := cX8_keep) (nL := 2) (ret := (some .int)) (by decide) rfl (Nat.le_of_ble_eq_true rfl) ?_ sz
  intro p e s m below meth c A ls C hK hA hP hD hS hl
  obtain ⟨⟨hx, hb, hml, hown, hts⟩, hr, hlocks, hN⟩ := id C
  have hown : s.vm.findClass RX8 = some m.cls := hown
  have hl : lv_has ls 2 [(0, .ref q), (1, .int x1)] := hl
  unfold wp_X8_keep at h
  refine lv_iload_n hx hb dX8_keep_0 rfl (lv_at hl 1 rfl) ?_
  refine lv_iconst (v := 0) hx hb dX8_keep_1 (by decide) ?_
  refine lv_iconst (v := 1) hx hb dX8_keep_2 (by decide) ?_
  have hp : Pt (w_X8_keep Y q q_row q_isKept q_text q_seenFold q_seenSpan q_readLong q_marks q_isMeasured q_waysAre q_haveSpan g_links g_undos g_length g_seenMany g_trace g_at g_behind g_number g_readLinks g_readFolded g_readStiff g_wayMany g_row g_isKept g_marks) (w_X8_in Y ) [] := ⟨rfl, by decide +kernel⟩
  refine go_i hp hP hD hS hA (fun _ => rfl) (va_runS (As := [.int x1, .int (0 : Int32), .int (1 : Int32)]) (rest := []) ⟨hx, hb, hml, hown, hts⟩ (c_X8_in h _) (va_cwS 3 hts gX8_keep_X8_in rfl rfl rfl (by decide +kernel) ⟨Nat.le_of_ble_eq_true rfl, Nat.le_of_ble_eq_true rfl⟩) (pre_S hp hK hN hP hD) rfl rfl hl.1 rfl (lv_room (Nat.le_of_ble_eq_true rfl)) dX8_keep_3 ⟨Nat.le_of_ble_eq_true rfl, Nat.le_of_ble_eq_true rfl⟩) (fun r5 u H locs h hP hD hS => ?_)
  try dsimp only at h
  have hP : va_P D vwCl (w_X8_keep Y q q_row q_isKept q_text q_seenFold q_seenSpan q_readLong q_marks q_isMeasured q_waysAre q_haveSpan g_links g_undos g_length g_seenMany g_trace g_at g_behind g_number g_readLinks g_readFolded g_readStiff g_wayMany g_row g_isKept g_marks) H := hP
  have hD : va_D A (w_X8_keep Y q q_row q_isKept q_text q_seenFold q_seenSpan q_readLong q_marks q_isMeasured q_waysAre q_haveSpan g_links g_undos g_length g_seenMany g_trace g_at g_behind g_number g_readLinks g_readFolded g_readStiff g_wayMany g_row g_isKept g_marks) := hD
  refine lv_if_ne (tgt := 11) hx hb dX8_keep_6 (by decide) (fun c6 => ?_) (fun c6 => ?_)
  · have h := h.1 c6
    refine lv_aload_n hx hb dX8_keep_11 rfl (lv_at hl 0 rfl) ?_
    refine lv_iconst (v := 0) hx hb dX8_keep_12 (by decide) ?_
    refine lv_bipush (v := 121) hx hb dX8_keep_13 (by decide) ?_
    refine lv_bipush (v := 11) hx hb dX8_keep_15 (by decide) ?_
    refine lv_iload_n hx hb dX8_keep_17 rfl (lv_at hl 1 rfl) ?_
    refine lv_imul hx hb dX8_keep_18 ?_
    refine lv_iadd hx hb dX8_keep_19 ?_
    have hp : Pt (w_X8_keep Y q q_row q_isKept q_text q_seenFold q_seenSpan q_readLong q_marks q_isMeasured q_waysAre q_haveSpan g_links g_undos g_length g_seenMany g_trace g_at g_behind g_number g_readLinks g_readFolded g_readStiff g_wayMany g_row g_isKept g_marks) (w_X8_copyRow Y q q_row q_isKept q_text q_seenFold q_seenSpan q_readLong q_marks q_isMeasured q_waysAre q_haveSpan g_links g_undos g_length g_seenMany g_trace g_at g_behind g_number g_readLinks g_readFolded g_readStiff g_wayMany g_row) [0, 1] := ⟨rfl, by decide +kernel⟩
    refine go_v hp hP hD hS hA (fun _ => rfl) (va_runV (As := [.int (0 : Int32), .int ((121 : Int32) + ((11 : Int32) * x1))]) (rest := []) ⟨hx, hb, hml, hown, hts⟩ (c_X8_copyRow h _) (cwV 2 hts gX8_keep_X8_copyRow rfl rfl rfl (by decide +kernel) ⟨Nat.le_of_ble_eq_true rfl, Nat.le_of_ble_eq_true rfl⟩) (pre_V (b := q) (q0 := 0) (ci := 8) (q := (RX8, TX8, 22)) hp hK hN hP hD rfl rfl) rfl rfl hl.1 rfl (lv_room (Nat.le_of_ble_eq_true rfl)) dX8_keep_20 ⟨Nat.le_of_ble_eq_true rfl, Nat.le_of_ble_eq_true rfl⟩) (fun u H locs h hP hD hS => ?_)
    obtain ⟨u8, rfl⟩ : ∃ z, z = u := ⟨_, rfl⟩
    try dsimp only at h
    have hP : va_P D vwCl (w_X8_keep Y q q_row q_isKept q_text q_seenFold q_seenSpan q_readLong q_marks q_isMeasured q_waysAre q_haveSpan g_links g_undos g_length g_seenMany g_trace g_at g_behind g_number g_readLinks g_readFolded g_readStiff g_wayMany u8 g_isKept g_marks) H := hP
    have hD : va_D A (w_X8_keep Y q q_row q_isKept q_text q_seenFold q_seenSpan q_readLong q_marks q_isMeasured q_waysAre q_haveSpan g_links g_undos g_length g_seenMany g_trace g_at g_behind g_number g_readLinks g_readFolded g_readStiff g_wayMany u8 g_isKept g_marks) := hD
    refine lv_aload_n hx hb dX8_keep_23 rfl (lv_at hl 0 rfl) ?_
    refine va_get (D := D) (ci := 8) (v := .ref q_isKept) (C := RX8) (T := TX8) (N := 22) hx hb hts in_X8_keep_X8 hown hK hP 0 rfl rfl 3 (by decide) (k_X8_keep_f13 hts) (fun _ h9 => h9) rfl dX8_keep_24 ?_
    refine lv_iload_n hx hb dX8_keep_27 rfl (lv_at hl 1 rfl) ?_
    refine lv_iconst (v := 1) hx hb dX8_keep_28 (by decide) ?_
    obtain ⟨hin, h⟩ := h
    refine va_zast hx hb hK hP hD hS 2 1 rfl rfl hin dX8_keep_29 (fun H locs hP hD hS => ?_)
    have hP : va_P D vwCl (w_X8_keep Y q q_row q_isKept q_text q_seenFold q_seenSpan q_readLong q_marks q_isMeasured q_waysAre q_haveSpan g_links g_undos g_length g_seenMany g_trace g_at g_behind g_number g_readLinks g_readFolded g_readStiff g_wayMany u8 (upd g_isKept (x1).toNatClampNeg (vp_nar .boolean (1 : Int32))) g_marks) H := hP
    have hD : va_D A (w_X8_keep Y q q_row q_isKept q_text q_seenFold q_seenSpan q_readLong q_marks q_isMeasured q_waysAre q_haveSpan g_links g_undos g_length g_seenMany g_trace g_at g_behind g_number g_readLinks g_readFolded g_readStiff g_wayMany u8 (upd g_isKept (x1).toNatClampNeg (vp_nar .boolean (1 : Int32))) g_marks) := hD
    refine lv_aload_n hx hb dX8_keep_30 rfl (lv_at hl 0 rfl) ?_
    refine lv_aload_n hx hb dX8_keep_31 rfl (lv_at hl 0 rfl) ?_
    refine va_get (D := D) (ci := 8) (v := .ref q_row) (C := RX8) (T := TX8) (N := 22) hx hb hts in_X8_keep_X8 hown hK hP 0 rfl rfl 0 (by decide) (k_X8_keep_f7 hts) (fun _ h9 => h9) rfl dX8_keep_32 ?_
    refine lv_bipush (v := 9) hx hb dX8_keep_35 (by decide) ?_
    obtain ⟨hin, h⟩ := h
    refine va_iald hx hb hK hP 1 0 rfl rfl hin dX8_keep_37 ?_
    have hp : Pt (w_X8_keep Y q q_row q_isKept q_text q_seenFold q_seenSpan q_readLong q_marks q_isMeasured q_waysAre q_haveSpan g_links g_undos g_length g_seenMany g_trace g_at g_behind g_number g_readLinks g_readFolded g_readStiff g_wayMany u8 (upd g_isKept (x1).toNatClampNeg (vp_nar .boolean (1 : Int32))) g_marks) (w_X8_spanBy Y q q_row q_isKept q_text q_seenFold q_seenSpan q_readLong q_marks q_isMeasured q_waysAre q_haveSpan g_links g_undos g_length g_seenMany g_trace g_at g_behind g_number g_readLinks g_readFolded g_readStiff g_wayMany g_marks u8) [0, 3, 1] := ⟨rfl, by decide +kernel⟩
    refine go_i hp hP hD hS hA (fun _ => rfl) (va_runV (As := [.int (u8 ((9 : Int32)).toNatClampNeg)]) (rest := []) ⟨hx, hb, hml, hown, hts⟩ (c_X8_spanBy h _) (cwV 1 hts gX8_keep_X8_spanBy rfl rfl rfl (by decide +kernel) ⟨Nat.le_of_ble_eq_true rfl, Nat.le_of_ble_eq_true rfl⟩) (pre_V (b := q) (q0 := 0) (ci := 8) (q := (RX8, TX8, 22)) hp hK hN hP hD rfl rfl) rfl rfl hl.1 rfl (lv_room (Nat.le_of_ble_eq_true rfl)) dX8_keep_38 ⟨Nat.le_of_ble_eq_true rfl, Nat.le_of_ble_eq_true rfl⟩) (fun r9 u H locs h hP hD hS => ?_)
    obtain ⟨u10, rfl⟩ : ∃ z, z = u := ⟨_, rfl⟩
    try dsimp only at h
    have hP : va_P D vwCl (w_X8_keep Y q q_row q_isKept q_text q_seenFold q_seenSpan q_readLong q_marks q_isMeasured q_waysAre q_haveSpan g_links g_undos g_length g_seenMany g_trace g_at g_behind g_number g_readLinks g_readFolded g_readStiff g_wayMany u8 (upd g_isKept (x1).toNatClampNeg (vp_nar .boolean (1 : Int32))) u10) H := hP
    have hD : va_D A (w_X8_keep Y q q_row q_isKept q_text q_seenFold q_seenSpan q_readLong q_marks q_isMeasured q_waysAre q_haveSpan g_links g_undos g_length g_seenMany g_trace g_at g_behind g_number g_readLinks g_readFolded g_readStiff g_wayMany u8 (upd g_isKept (x1).toNatClampNeg (vp_nar .boolean (1 : Int32))) u10) := hD
    exact ret_i (u8, (upd g_isKept (x1).toNatClampNeg (vp_nar .boolean (1 : Int32))), u10) hx hb hr hlocks hK hP hD hS h dX8_keep_41
  · have h := h.2 c6
    refine lv_iconst (v := (-1)) hx hb dX8_keep_9 (by decide) ?_
    exact ret_i (g_row, g_isKept, g_marks) hx hb hr hlocks hK hP hD hS h dX8_keep_10
abbrev rm_X8_back : Room := { frames := 3, cells := 0, slots := 0, locals := 67 }
theorem in_X8_back_X8 : ∀ w ∈ wsX80, w ∈ wsX8_back := fun _ h => List.mem_cons_of_mem _ (List.mem_append_right _ h)
theorem k_X8_back_f13 {s : State} {args : Array Value} (hts : ∀ w ∈ wsX8_back, w.before args s = true) : (Cond.fieldLink RX8 13 "FoldRuleModel" "isKept" "[Z").before args s = true := hts _ (by decide +kernel)
theorem k_X8_back_f102 {s : State} {args : Array Value} (hts : ∀ w ∈ wsX8_back, w.before args s = true) : (Cond.fieldLink RX8 102 "FoldRuleModel" "undos" "I").before args s = true := hts _ (by decide +kernel)
theorem k_X8_back_f7 {s : State} {args : Array Value} (hts : ∀ w ∈ wsX8_back, w.before args s = true) : (Cond.fieldLink RX8 7 "FoldRuleModel" "row" "[I").before args s = true := hts _ (by decide +kernel)
set_option maxHeartbeats 4000000 in
set_option maxRecDepth 100000 in
theorem c_X8_back {l : Launch} {D : va_G} {Y : ClassId × ClassId × ClassId} {q q_row q_isKept q_text q_seenFold q_seenSpan q_readLong q_marks q_isMeasured q_waysAre q_haveSpan : Nat} {g_links g_undos g_length g_seenMany : Int32} {g_trace : Int64} {g_at g_behind g_number g_readLinks g_readFolded g_readStiff g_wayMany : Int32} {g_isKept g_row g_marks : Nat → Int32} {x1 : Int32} {Q : Int32 → Int32 → (Nat → Int32) → (Nat → Int32) → Prop} (h : wp_X8_back g_links g_undos g_isKept g_row g_marks x1 Q) (sz : Nat) : MtI l yX8_back wsX8_back rm_X8_back [.ref q, .int x1] D Y (w_X8_back Y q q_row q_isKept q_text q_seenFold q_seenSpan q_readLong q_marks q_isMeasured q_waysAre q_haveSpan g_links g_undos g_length g_seenMany g_trace g_at g_behind g_number g_readLinks g_readFolded g_readStiff g_wayMany g_isKept g_row g_marks) (fun r (u : Int32 × (Nat → Int32) × (Nat → Int32)) => Q r u.1 u.2.1 u.2.2) (fun u : Int32 × (Nat → Int32) × (Nat → Int32) => (w_X8_back Y q q_row q_isKept q_text q_seenFold q_seenSpan q_readLong q_marks q_isMeasured q_waysAre q_haveSpan g_links u.1 g_length g_seenMany g_trace g_at g_behind g_number g_readLinks g_readFolded g_readStiff g_wayMany g_isKept u.2.1 u.2.2)) sz := by
  refine ct_i (cc := cX8_back) (nL := 2) (ret := (some .int)) (by decide) rfl (Nat.le_of_ble_eq_true rfl) ?_ sz
  intro p e s m below meth c A ls C hK hA hP hD hS hl
  obtain ⟨⟨hx, hb, hml, hown, hts⟩, hr, hlocks, hN⟩ := id C
  have hown : s.vm.findClass RX8 = some m.cls := hown
  have hl : lv_has ls 2 [(0, .ref q), (1, .int x1)] := hl
  unfold wp_X8_back at h
  refine lv_iload_n hx hb dX8_back_0 rfl (lv_at hl 1 rfl) ?_
  refine lv_iconst (v := 0) hx hb dX8_back_1 (by decide) ?_
  refine lv_iconst (v := 1) hx hb dX8_back_2 (by decide) ?_
  have hp : Pt (w_X8_back Y q q_row q_isKept q_text q_seenFold q_seenSpan q_readLong q_marks q_isMeasured q_waysAre q_haveSpan g_links g_undos g_length g_seenMany g_trace g_at g_behind g_number g_readLinks g_readFolded g_readStiff g_wayMany g_isKept g_row g_marks) (w_X8_in Y ) [] := ⟨rfl, by decide +kernel⟩
  refine go_i hp hP hD hS hA (fun _ => rfl) (va_runS (As := [.int x1, .int (0 : Int32), .int (1 : Int32)]) (rest := []) ⟨hx, hb, hml, hown, hts⟩ (c_X8_in h _) (va_cwS 3 hts gX8_back_X8_in rfl rfl rfl (by decide +kernel) ⟨Nat.le_of_ble_eq_true rfl, Nat.le_of_ble_eq_true rfl⟩) (pre_S hp hK hN hP hD) rfl rfl hl.1 rfl (lv_room (Nat.le_of_ble_eq_true rfl)) dX8_back_3 ⟨Nat.le_of_ble_eq_true rfl, Nat.le_of_ble_eq_true rfl⟩) (fun r5 u H locs h hP hD hS => ?_)
  try dsimp only at h
  have hP : va_P D vwCl (w_X8_back Y q q_row q_isKept q_text q_seenFold q_seenSpan q_readLong q_marks q_isMeasured q_waysAre q_haveSpan g_links g_undos g_length g_seenMany g_trace g_at g_behind g_number g_readLinks g_readFolded g_readStiff g_wayMany g_isKept g_row g_marks) H := hP
  have hD : va_D A (w_X8_back Y q q_row q_isKept q_text q_seenFold q_seenSpan q_readLong q_marks q_isMeasured q_waysAre q_haveSpan g_links g_undos g_length g_seenMany g_trace g_at g_behind g_number g_readLinks g_readFolded g_readStiff g_wayMany g_isKept g_row g_marks) := hD
  refine lv_if_ne (tgt := 11) hx hb dX8_back_6 (by decide) (fun c6 => ?_) (fun c6 => ?_)
  · have h := h.1 c6
    refine lv_aload_n hx hb dX8_back_11 rfl (lv_at hl 0 rfl) ?_
    refine va_get (D := D) (ci := 8) (v := .ref q_isKept) (C := RX8) (T := TX8) (N := 22) hx hb hts in_X8_back_X8 hown hK hP 0 rfl rfl 3 (by decide) (k_X8_back_f13 hts) (fun _ h9 => h9) rfl dX8_back_12 ?_
    refine lv_iload_n hx hb dX8_back_15 rfl (lv_at hl 1 rfl) ?_
    obtain ⟨hin, h⟩ := h
    refine va_zald hx hb hK hP 1 1 rfl rfl hin dX8_back_16 ?_
    refine lv_if_ne (tgt := 23) hx hb dX8_back_17 (by decide) (fun c7 => ?_) (fun c7 => ?_)
    · have h := h.1 c7
      refine lv_aload_n hx hb dX8_back_23 rfl (lv_at hl 0 rfl) ?_
      refine lv_bipush (v := 121) hx hb dX8_back_24 (by decide) ?_
      refine lv_bipush (v := 11) hx hb dX8_back_26 (by decide) ?_
      refine lv_iload_n hx hb dX8_back_28 rfl (lv_at hl 1 rfl) ?_
      refine lv_imul hx hb dX8_back_29 ?_
      refine lv_iadd hx hb dX8_back_30 ?_
      refine lv_iconst (v := 0) hx hb dX8_back_31 (by decide) ?_
      have hp : Pt (w_X8_back Y q q_row q_isKept q_text q_seenFold q_seenSpan q_readLong q_marks q_isMeasured q_waysAre q_haveSpan g_links g_undos g_length g_seenMany g_trace g_at g_behind g_number g_readLinks g_readFolded g_readStiff g_wayMany g_isKept g_row g_marks) (w_X8_copyRow Y q q_row q_isKept q_text q_seenFold q_seenSpan q_readLong q_marks q_isMeasured q_waysAre q_haveSpan g_links g_undos g_length g_seenMany g_trace g_at g_behind g_number g_readLinks g_readFolded g_readStiff g_wayMany g_row) [0, 2] := ⟨rfl, by decide +kernel⟩
      refine go_v hp hP hD hS hA (fun _ => rfl) (va_runV (As := [.int ((121 : Int32) + ((11 : Int32) * x1)), .int (0 : Int32)]) (rest := []) ⟨hx, hb, hml, hown, hts⟩ (c_X8_copyRow h _) (cwV 2 hts gX8_back_X8_copyRow rfl rfl rfl (by decide +kernel) ⟨Nat.le_of_ble_eq_true rfl, Nat.le_of_ble_eq_true rfl⟩) (pre_V (b := q) (q0 := 0) (ci := 8) (q := (RX8, TX8, 22)) hp hK hN hP hD rfl rfl) rfl rfl hl.1 rfl (lv_room (Nat.le_of_ble_eq_true rfl)) dX8_back_32 ⟨Nat.le_of_ble_eq_true rfl, Nat.le_of_ble_eq_true rfl⟩) (fun u H locs h hP hD hS => ?_)
      obtain ⟨u9, rfl⟩ : ∃ z, z = u := ⟨_, rfl⟩
      try dsimp only at h
      have hP : va_P D vwCl (w_X8_back Y q q_row q_isKept q_text q_seenFold q_seenSpan q_readLong q_marks q_isMeasured q_waysAre q_haveSpan g_links g_undos g_length g_seenMany g_trace g_at g_behind g_number g_readLinks g_readFolded g_readStiff g_wayMany g_isKept u9 g_marks) H := hP
      have hD : va_D A (w_X8_back Y q q_row q_isKept q_text q_seenFold q_seenSpan q_readLong q_marks q_isMeasured q_waysAre q_haveSpan g_links g_undos g_length g_seenMany g_trace g_at g_behind g_number g_readLinks g_readFolded g_readStiff g_wayMany g_isKept u9 g_marks) := hD
      refine lv_aload_n hx hb dX8_back_35 rfl (lv_at hl 0 rfl) ?_
      refine lv_iconst (v := 0) hx hb dX8_back_36 (by decide) ?_
      refine va_put (D := D) (ci := 8) (v := .int (0 : Int32)) (ty := .int) (C := RX8) (T := TX8) (N := 22) hx hb hts in_X8_back_X8 tyX8 tyX8_ok nmX8 hown hK hP hD hS 0 rfl rfl 2 (by decide) (k_X8_back_f102 hts) (fun _ h9 => h9) rfl (by decide +kernel) rfl rfl (Nat.le_of_ble_eq_true rfl) dX8_back_37 (fun H locs hP hD hS => ?_)
      have hP : va_P D vwCl (w_X8_back Y q q_row q_isKept q_text q_seenFold q_seenSpan q_readLong q_marks q_isMeasured q_waysAre q_haveSpan g_links (0 : Int32) g_length g_seenMany g_trace g_at g_behind g_number g_readLinks g_readFolded g_readStiff g_wayMany g_isKept u9 g_marks) H := hP
      have hD : va_D A (w_X8_back Y q q_row q_isKept q_text q_seenFold q_seenSpan q_readLong q_marks q_isMeasured q_waysAre q_haveSpan g_links (0 : Int32) g_length g_seenMany g_trace g_at g_behind g_number g_readLinks g_readFolded g_readStiff g_wayMany g_isKept u9 g_marks) := hD
      refine lv_aload_n hx hb dX8_back_40 rfl (lv_at hl 0 rfl) ?_
      refine lv_aload_n hx hb dX8_back_41 rfl (lv_at hl 0 rfl) ?_
      refine va_get (D := D) (ci := 8) (v := .ref q_row) (C := RX8) (T := TX8) (N := 22) hx hb hts in_X8_back_X8 hown hK hP 0 rfl rfl 0 (by decide) (k_X8_back_f7 hts) (fun _ h9 => h9) rfl dX8_back_42 ?_
      refine lv_bipush (v := 9) hx hb dX8_back_45 (by decide) ?_
      obtain ⟨hin, h⟩ := h
      refine va_iald hx hb hK hP 2 0 rfl rfl hin dX8_back_47 ?_
      have hp : Pt (w_X8_back Y q q_row q_isKept q_text q_seenFold q_seenSpan q_readLong q_marks q_isMeasured q_waysAre q_haveSpan g_links (0 : Int32) g_length g_seenMany g_trace g_at g_behind g_number g_readLinks g_readFolded g_readStiff g_wayMany g_isKept u9 g_marks) (w_X8_spanBy Y q q_row q_isKept q_text q_seenFold q_seenSpan q_readLong q_marks q_isMeasured q_waysAre q_haveSpan g_links (0 : Int32) g_length g_seenMany g_trace g_at g_behind g_number g_readLinks g_readFolded g_readStiff g_wayMany g_marks u9) [0, 3, 2] := ⟨rfl, by decide +kernel⟩
      refine go_i hp hP hD hS hA (fun _ => rfl) (va_runV (As := [.int (u9 ((9 : Int32)).toNatClampNeg)]) (rest := []) ⟨hx, hb, hml, hown, hts⟩ (c_X8_spanBy h _) (cwV 1 hts gX8_back_X8_spanBy rfl rfl rfl (by decide +kernel) ⟨Nat.le_of_ble_eq_true rfl, Nat.le_of_ble_eq_true rfl⟩) (pre_V (b := q) (q0 := 0) (ci := 8) (q := (RX8, TX8, 22)) hp hK hN hP hD rfl rfl) rfl rfl hl.1 rfl (lv_room (Nat.le_of_ble_eq_true rfl)) dX8_back_48 ⟨Nat.le_of_ble_eq_true rfl, Nat.le_of_ble_eq_true rfl⟩) (fun r10 u H locs h hP hD hS => ?_)
      obtain ⟨u11, rfl⟩ : ∃ z, z = u := ⟨_, rfl⟩
      try dsimp only at h
      have hP : va_P D vwCl (w_X8_back Y q q_row q_isKept q_text q_seenFold q_seenSpan q_readLong q_marks q_isMeasured q_waysAre q_haveSpan g_links (0 : Int32) g_length g_seenMany g_trace g_at g_behind g_number g_readLinks g_readFolded g_readStiff g_wayMany g_isKept u9 u11) H := hP
      have hD : va_D A (w_X8_back Y q q_row q_isKept q_text q_seenFold q_seenSpan q_readLong q_marks q_isMeasured q_waysAre q_haveSpan g_links (0 : Int32) g_length g_seenMany g_trace g_at g_behind g_number g_readLinks g_readFolded g_readStiff g_wayMany g_isKept u9 u11) := hD
      exact ret_i ((0 : Int32), u9, u11) hx hb hr hlocks hK hP hD hS h dX8_back_51
    · have h := h.2 c7
      refine lv_bipush (v := (-2)) hx hb dX8_back_20 (by decide) ?_
      exact ret_i (g_undos, g_row, g_marks) hx hb hr hlocks hK hP hD hS h dX8_back_22
  · have h := h.2 c6
    refine lv_iconst (v := (-1)) hx hb dX8_back_9 (by decide) ?_
    exact ret_i (g_undos, g_row, g_marks) hx hb hr hlocks hK hP hD hS h dX8_back_10
abbrev rm_X8_count : Room := { frames := 0, cells := 0, slots := 0, locals := 0 }
theorem in_X8_count_X8 : ∀ w ∈ wsX80, w ∈ wsX8_count := fun _ h => List.mem_cons_of_mem _ (List.mem_append_right _ h)
theorem k_X8_count_f41 {s : State} {args : Array Value} (hts : ∀ w ∈ wsX8_count, w.before args s = true) : (Cond.fieldLink RX8 41 "FoldRuleModel" "links" "I").before args s = true := hts _ (by decide +kernel)
theorem k_X8_count_f7 {s : State} {args : Array Value} (hts : ∀ w ∈ wsX8_count, w.before args s = true) : (Cond.fieldLink RX8 7 "FoldRuleModel" "row" "[I").before args s = true := hts _ (by decide +kernel)
theorem k_X8_count_f105 {s : State} {args : Array Value} (hts : ∀ w ∈ wsX8_count, w.before args s = true) : (Cond.fieldLink RX8 105 "FoldRuleModel" "seenMany" "I").before args s = true := hts _ (by decide +kernel)
theorem k_X8_count_f49 {s : State} {args : Array Value} (hts : ∀ w ∈ wsX8_count, w.before args s = true) : (Cond.fieldLink RX8 49 "FoldRuleModel" "length" "I").before args s = true := hts _ (by decide +kernel)
set_option maxHeartbeats 4000000 in
set_option maxRecDepth 100000 in
theorem c_X8_count {l : Launch} {D : va_G} {Y : ClassId × ClassId × ClassId} {q q_row q_isKept q_text q_seenFold q_seenSpan q_readLong q_marks q_isMeasured q_waysAre q_haveSpan : Nat} {g_links g_undos g_length g_seenMany : Int32} {g_trace : Int64} {g_at g_behind g_number g_readLinks g_readFolded g_readStiff g_wayMany : Int32} {g_row : Nat → Int32} {x1 : Int32} {Q : Int32 → Prop} (h : wp_X8_count g_links g_length g_seenMany g_row x1 Q) (sz : Nat) : MtI l yX8_count wsX8_count rm_X8_count [.ref q, .int x1] D Y (w_X8_count Y q q_row q_isKept q_text q_seenFold q_seenSpan q_readLong q_marks q_isMeasured q_waysAre q_haveSpan g_links g_undos g_length g_seenMany g_trace g_at g_behind g_number g_readLinks g_readFolded g_readStiff g_wayMany g_row) (fun r (_ : Unit) => Q r) (fun _ : Unit => (w_X8_count Y q q_row q_isKept q_text q_seenFold q_seenSpan q_readLong q_marks q_isMeasured q_waysAre q_haveSpan g_links g_undos g_length g_seenMany g_trace g_at g_behind g_number g_readLinks g_readFolded g_readStiff g_wayMany g_row)) sz := by
  refine ct_i (cc := cX8_count) (nL := 2) (ret := (some .int)) (by decide) rfl (Nat.le_of_ble_eq_true rfl) ?_ sz
  intro p e s m below meth c A ls C hK hA hP hD hS hl
  obtain ⟨⟨hx, hb, hml, hown, hts⟩, hr, hlocks, hN⟩ := id C
  have hown : s.vm.findClass RX8 = some m.cls := hown
  have hl : lv_has ls 2 [(0, .ref q), (1, .int x1)] := hl
  unfold wp_X8_count at h
  refine lv_iload_n hx hb dX8_count_0 rfl (lv_at hl 1 rfl) ?_
  by_cases c1_0 : x1 = (0 : Int32)
  · have h := h.1 c1_0
    refine lv_tableIn (off := (31)) (tgt := 32) hx hb dX8_count_1 (by rw [c1_0]; decide) (by rw [c1_0]; decide) (by rw [c1_0]; rfl) (by decide) ?_
    refine lv_aload_n hx hb dX8_count_32 rfl (lv_at hl 0 rfl) ?_
    refine va_get (D := D) (ci := 8) (v := .int g_links) (C := RX8) (T := TX8) (N := 22) hx hb hts in_X8_count_X8 hown hK hP 0 rfl rfl 1 (by decide) (k_X8_count_f41 hts) (fun _ h9 => h9) rfl dX8_count_33 ?_
    exact ret_i () hx hb hr hlocks hK hP hD hS h dX8_count_36
  by_cases c1_1 : x1 = (1 : Int32)
  · have h := h.2.1 c1_1
    refine lv_tableIn (off := (36)) (tgt := 37) hx hb dX8_count_1 (by rw [c1_1]; decide) (by rw [c1_1]; decide) (by rw [c1_1]; rfl) (by decide) ?_
    refine lv_aload_n hx hb dX8_count_37 rfl (lv_at hl 0 rfl) ?_
    refine va_get (D := D) (ci := 8) (v := .ref q_row) (C := RX8) (T := TX8) (N := 22) hx hb hts in_X8_count_X8 hown hK hP 0 rfl rfl 0 (by decide) (k_X8_count_f7 hts) (fun _ h9 => h9) rfl dX8_count_38 ?_
    refine lv_bipush (v := 10) hx hb dX8_count_41 (by decide) ?_
    obtain ⟨hin, h⟩ := h
    refine va_iald hx hb hK hP 1 0 rfl rfl hin dX8_count_43 ?_
    exact ret_i () hx hb hr hlocks hK hP hD hS h dX8_count_44
  by_cases c1_2 : x1 = (2 : Int32)
  · have h := h.2.2.1 c1_2
    refine lv_tableIn (off := (44)) (tgt := 45) hx hb dX8_count_1 (by rw [c1_2]; decide) (by rw [c1_2]; decide) (by rw [c1_2]; rfl) (by decide) ?_
    refine lv_aload_n hx hb dX8_count_45 rfl (lv_at hl 0 rfl) ?_
    refine va_get (D := D) (ci := 8) (v := .int g_seenMany) (C := RX8) (T := TX8) (N := 22) hx hb hts in_X8_count_X8 hown hK hP 0 rfl rfl 6 (by decide) (k_X8_count_f105 hts) (fun _ h9 => h9) rfl dX8_count_46 ?_
    exact ret_i () hx hb hr hlocks hK hP hD hS h dX8_count_49
  by_cases c1_3 : x1 = (3 : Int32)
  · have h := h.2.2.2.1 c1_3
    refine lv_tableIn (off := (49)) (tgt := 50) hx hb dX8_count_1 (by rw [c1_3]; decide) (by rw [c1_3]; decide) (by rw [c1_3]; rfl) (by decide) ?_
    refine lv_aload_n hx hb dX8_count_50 rfl (lv_at hl 0 rfl) ?_
    refine va_get (D := D) (ci := 8) (v := .int g_length) (C := RX8) (T := TX8) (N := 22) hx hb hts in_X8_count_X8 hown hK hP 0 rfl rfl 5 (by decide) (k_X8_count_f49 hts) (fun _ h9 => h9) rfl dX8_count_51 ?_
    exact ret_i () hx hb hr hlocks hK hP hD hS h dX8_count_54
  have h := h.2.2.2.2 c1_0 c1_1 c1_2 c1_3
  refine lv_tableOut (tgt := 55) hx hb dX8_count_1 (by have := lv_neT (a := 0) c1_0 (by decide); have := lv_neT (a := 1) c1_1 (by decide); have := lv_neT (a := 2) c1_2 (by decide); have := lv_neT (a := 3) c1_3 (by decide); omega) (by decide) ?_
  refine lv_iconst (v := (-1)) hx hb dX8_count_55 (by decide) ?_
  exact ret_i () hx hb hr hlocks hK hP hD hS h dX8_count_56
