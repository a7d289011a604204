abbrev rm_X0_measureAll : Room := { frames := 4, cells := 0, slots := 0, locals := 74 }
theorem in_X0_measureAll_X0 : ∀ w ∈ wsX00, w ∈ wsX0_measureAll := fun _ h => List.mem_cons_of_mem _ (List.mem_append_left _ (List.mem_append_left _ (List.mem_append_right _ h)))
theorem k_X0_measureAll_f12 {s : State} {args : Array Value} (hts : ∀ w ∈ wsX0_measureAll, w.before args s = true) : (Cond.fieldLink RX0 12 "FoldRule$Folds" "lay" "LFoldRule$Lay;").before args s = true := hts _ (by decide +kernel)
theorem k_X0_measureAll_f18 {s : State} {args : Array Value} (hts : ∀ w ∈ wsX0_measureAll, w.before args s = true) : (Cond.fieldLink RX0 18 "FoldRule$Folds" "measured" "[Z").before args s = true := hts _ (by decide +kernel)
set_option maxHeartbeats 4000000 in
set_option maxRecDepth 100000 in
theorem L_X0_measureAll_24 {p : Program} {l : Launch} {e : Env} {s : State} {m : MethodId} {args : Array Value} {below : List Frame} {meth : Method} {c : Code} {D : va_G} {Y : ClassId × ClassId × ClassId} {A : Nat → Prop} {q q_lay q_measured q1 q1_lengths q_lay_places : Nat} {g1_links g1_folded g1_stiff : Int32} {g1_lengths : Nat → Int32} {Q : (Nat → Int32) → Int32 → Int32 → Int32 → (Nat → Int32) → Prop} (C : Ctx p s m args meth c cX0_measureAll 3 none wsX0_measureAll RX0) (hK : va_K D vwCl (tyS Y) s) (hA : ∀ q, s.heap.size ≤ q → A q) : ∀ (n : Nat) (x2 : Int32) (g_measured : Nat → Int32) (g_lay_links g_lay_low g_lay_high : Int32) (g_lay_places : Nat → Int32), itr6 (B_X0_measureAll_24 g1_links g1_folded g1_stiff g1_lengths Q) n x2 g_measured g_lay_links g_lay_low g_lay_high g_lay_places → ∀ (H : Heap) (locs : List Loc) (ls : Array Slot), va_P D vwCl (w_X0_measureAll Y q q_lay q_measured q1 q1_lengths q_lay_places g_measured g1_links g1_folded g1_stiff g_lay_links g_lay_low g_lay_high g1_lengths g_lay_places) H → va_D A (w_X0_measureAll Y q q_lay q_measured q1 q1_lengths q_lay_places g_measured g1_links g1_folded g1_stiff g_lay_links g_lay_low g_lay_high g1_lengths g_lay_places) → va_S A s.heap H locs → lv_has ls 3 [(0, .ref q), (1, .ref q1), (2, .int x2)] → W p l e rm_X0_measureAll s m args below meth c H locs 0 0 (QV below args s D Y A (fun (u : (Nat → Int32) × Int32 × Int32 × Int32 × (Nat → Int32)) => Q u.1 u.2.1 u.2.2.1 u.2.2.2.1 u.2.2.2.2) (fun u : (Nat → Int32) × Int32 × Int32 × Int32 × (Nat → Int32) => (w_X0_measureAll Y q q_lay q_measured q1 q1_lengths q_lay_places u.1 g1_links g1_folded g1_stiff u.2.1 u.2.2.1 u.2.2.2.1 g1_lengths u.2.2.2.2))) (F0 m 24 ls []) := by
  intro n
  induction n with
  | zero => intro x2 g_measured g_lay_links g_lay_low g_lay_high g_lay_places h; exact False.elim h
  | succ n ih =>
    intro x2 g_measured g_lay_links g_lay_low g_lay_high g_lay_places h H locs ls hP hD hS hl
    obtain ⟨⟨hx, hb, hml, hown, hts⟩, hr, hlocks, hN⟩ := id C
    have h : B_X0_measureAll_24 g1_links g1_folded g1_stiff g1_lengths Q (itr6 (B_X0_measureAll_24 g1_links g1_folded g1_stiff g1_lengths Q) n) x2 g_measured g_lay_links g_lay_low g_lay_high g_lay_places := h
    unfold B_X0_measureAll_24 at h
    refine lv_iload_n hx hb dX0_measureAll_24 rfl (lv_at hl 2 rfl) ?_
    refine lv_aload_n hx hb dX0_measureAll_25 rfl (lv_at hl 1 rfl) ?_
    have hp : Pt (w_X0_measureAll Y q q_lay q_measured q1 q1_lengths q_lay_places g_measured g1_links g1_folded g1_stiff g_lay_links g_lay_low g_lay_high g1_lengths g_lay_places) (w_X5_foldLimit Y q1 q1_lengths g1_links g1_folded g1_stiff) [2] := ⟨rfl, by decide +kernel⟩
    refine go_i hp hP hD hS hA (fun _ => rfl) (va_runV (As := []) (rest := [.int x2]) ⟨hx, hb, hml, hown, hts⟩ (c_X5_foldLimit h _) (cwV 0 hts gX0_measureAll_X5_foldLimit rfl rfl rfl (by decide +kernel) ⟨Nat.le_of_ble_eq_true rfl, Nat.le_of_ble_eq_true rfl⟩) (pre_V (b := q1) (q0 := 0) (ci := 5) (q := (RX5, TX5, 4)) hp hK hN hP hD rfl rfl) rfl rfl hl.1 rfl (lv_room (Nat.le_of_ble_eq_true rfl)) dX0_measureAll_26 ⟨Nat.le_of_ble_eq_true rfl, Nat.le_of_ble_eq_true rfl⟩) (fun r11 u H locs h hP hD hS => ?_)
    try dsimp only at h
    have hP : va_P D vwCl (w_X0_measureAll Y q q_lay q_measured q1 q1_lengths q_lay_places g_measured g1_links g1_folded g1_stiff g_lay_links g_lay_low g_lay_high g1_lengths g_lay_places) H := hP
    have hD : va_D A (w_X0_measureAll Y q q_lay q_measured q1 q1_lengths q_lay_places g_measured g1_links g1_folded g1_stiff g_lay_links g_lay_low g_lay_high g1_lengths g_lay_places) := hD
    refine lv_icmp_ge (tgt := 59) hx hb dX0_measureAll_29 (by decide) (fun c12 => ?_) (fun c12 => ?_)
    · have h := h.1 c12
      exact ret_v (g_measured, g_lay_links, g_lay_low, g_lay_high, g_lay_places) hx hb hr hlocks hK hP hD hS h dX0_measureAll_59
    · have h := h.2 c12
      refine lv_aload_n hx hb dX0_measureAll_32 rfl (lv_at hl 1 rfl) ?_
      refine lv_iload_n hx hb dX0_measureAll_33 rfl (lv_at hl 2 rfl) ?_
      have hp : Pt (w_X0_measureAll Y q q_lay q_measured q1 q1_lengths q_lay_places g_measured g1_links g1_folded g1_stiff g_lay_links g_lay_low g_lay_high g1_lengths g_lay_places) (w_X5_isFold Y q1 q1_lengths g1_links g1_folded g1_stiff) [2] := ⟨rfl, by decide +kernel⟩
      refine go_i hp hP hD hS hA (fun _ => rfl) (va_runV (As := [.int x2]) (rest := []) ⟨hx, hb, hml, hown, hts⟩ (c_X5_isFold h _) (cwV 1 hts gX0_measureAll_X5_isFold rfl rfl rfl (by decide +kernel) ⟨Nat.le_of_ble_eq_true rfl, Nat.le_of_ble_eq_true rfl⟩) (pre_V (b := q1) (q0 := 0) (ci := 5) (q := (RX5, TX5, 4)) hp hK hN hP hD rfl rfl) rfl rfl hl.1 rfl (lv_room (Nat.le_of_ble_eq_true rfl)) dX0_measureAll_34 ⟨Nat.le_of_ble_eq_true rfl, Nat.le_of_ble_eq_true rfl⟩) (fun r13 u H locs h hP hD hS => ?_)
      try dsimp only at h
      have hP : va_P D vwCl (w_X0_measureAll Y q q_lay q_measured q1 q1_lengths q_lay_places g_measured g1_links g1_folded g1_stiff g_lay_links g_lay_low g_lay_high g1_lengths g_lay_places) H := hP
      have hD : va_D A (w_X0_measureAll Y q q_lay q_measured q1 q1_lengths q_lay_places g_measured g1_links g1_folded g1_stiff g_lay_links g_lay_low g_lay_high g1_lengths g_lay_places) := hD
      refine lv_if_eq (tgt := 53) hx hb dX0_measureAll_37 (by decide) (fun c14 => ?_) (fun c14 => ?_)
      · have h := h.1 c14
        obtain ⟨z15, ez15⟩ : ∃ y : Int32, y = (x2 + (1 : Int32)) := ⟨_, rfl⟩
        have h := h z15 ez15
        refine lv_iinc (v := z15) (lv' := [(2, .int z15), (0, .ref q), (1, .ref q1)]) hx hb dX0_measureAll_53 hl (k := 2) rfl (by rw [ez15]; rfl) (by decide) rfl (fun ls hl => ?_)
        refine lv_goto (tgt := 24) hx hb dX0_measureAll_56 (by decide) ?_
        exact ih _ _ _ _ _ _ h _ _ _ hP hD hS (lv_sub hl [1, 2, 0] rfl)
      · have h := h.2 c14
        refine lv_aload_n hx hb dX0_measureAll_40 rfl (lv_at hl 0 rfl) ?_
        refine va_get (D := D) (ci := 0) (v := .ref q_lay) (C := RX0) (T := TX0) (N := 2) hx hb hts in_X0_measureAll_X0 hown hK hP 0 rfl rfl 0 (by decide) (k_X0_measureAll_f12 hts) (fun _ h9 => h9) rfl dX0_measureAll_41 ?_
        refine lv_aload_n hx hb dX0_measureAll_44 rfl (lv_at hl 1 rfl) ?_
        refine lv_iload_n hx hb dX0_measureAll_45 rfl (lv_at hl 2 rfl) ?_
        have hp : Pt (w_X0_measureAll Y q q_lay q_measured q1 q1_lengths q_lay_places g_measured g1_links g1_folded g1_stiff g_lay_links g_lay_low g_lay_high g1_lengths g_lay_places) (w_X2_layOut Y q1 q1_lengths q_lay q_lay_places g1_links g1_folded g1_stiff g_lay_links g_lay_low g_lay_high g1_lengths g_lay_places) [2, 3, 4, 5] := ⟨rfl, by decide +kernel⟩
        refine go_v hp hP hD hS hA (fun _ => rfl) (va_runV (As := [.ref q1, .int x2]) (rest := []) ⟨hx, hb, hml, hown, hts⟩ (c_X2_layOut h _) (cwV 2 hts gX0_measureAll_X2_layOut rfl rfl rfl (by decide +kernel) ⟨Nat.le_of_ble_eq_true rfl, Nat.le_of_ble_eq_true rfl⟩) (pre_V (b := q_lay) (q0 := 1) (ci := 2) (q := (RX2, TX2, 4)) hp hK hN hP hD rfl rfl) rfl rfl hl.1 rfl (lv_room (Nat.le_of_ble_eq_true rfl)) dX0_measureAll_46 ⟨Nat.le_of_ble_eq_true rfl, Nat.le_of_ble_eq_true rfl⟩) (fun u H locs h hP hD hS => ?_)
        obtain ⟨u17, u18, u19, u20⟩ := u
        try dsimp only at h
        have hP : va_P D vwCl (w_X0_measureAll Y q q_lay q_measured q1 q1_lengths q_lay_places g_measured g1_links g1_folded g1_stiff u17 u18 u19 g1_lengths u20) H := hP
        have hD : va_D A (w_X0_measureAll Y q q_lay q_measured q1 q1_lengths q_lay_places g_measured g1_links g1_folded g1_stiff u17 u18 u19 g1_lengths u20) := hD
        refine lv_aload_n hx hb dX0_measureAll_49 rfl (lv_at hl 0 rfl) ?_
        have hp : Pt (w_X0_measureAll Y q q_lay q_measured q1 q1_lengths q_lay_places g_measured g1_links g1_folded g1_stiff u17 u18 u19 g1_lengths u20) (w_X0_measureMarks Y q q_lay q_measured q_lay_places u17 u18 u19 u20 g_measured) [0, 3, 5, 1] := ⟨rfl, by decide +kernel⟩
        refine go_v hp hP hD hS hA (fun _ => rfl) (va_runV (As := []) (rest := []) ⟨hx, hb, hml, hown, hts⟩ (c_X0_measureMarks h _) (cwV 0 hts gX0_measureAll_X0_measureMarks rfl rfl rfl (by decide +kernel) ⟨Nat.le_of_ble_eq_true rfl, Nat.le_of_ble_eq_true rfl⟩) (pre_V (b := q) (q0 := 0) (ci := 0) (q := (RX0, TX0, 2)) hp hK hN hP hD rfl rfl) rfl rfl hl.1 rfl (lv_room (Nat.le_of_ble_eq_true rfl)) dX0_measureAll_50 ⟨Nat.le_of_ble_eq_true rfl, Nat.le_of_ble_eq_true rfl⟩) (fun u H locs h hP hD hS => ?_)
        obtain ⟨u22, rfl⟩ : ∃ z, z = u := ⟨_, rfl⟩
        try dsimp only at h
        have hP : va_P D vwCl (w_X0_measureAll Y q q_lay q_measured q1 q1_lengths q_lay_places u22 g1_links g1_folded g1_stiff u17 u18 u19 g1_lengths u20) H := hP
        have hD : va_D A (w_X0_measureAll Y q q_lay q_measured q1 q1_lengths q_lay_places u22 g1_links g1_folded g1_stiff u17 u18 u19 g1_lengths u20) := hD
        obtain ⟨z23, ez23⟩ : ∃ y : Int32, y = (x2 + (1 : Int32)) := ⟨_, rfl⟩
        have h := h z23 ez23
        refine lv_iinc (v := z23) (lv' := [(2, .int z23), (0, .ref q), (1, .ref q1)]) hx hb dX0_measureAll_53 hl (k := 2) rfl (by rw [ez23]; rfl) (by decide) rfl (fun ls hl => ?_)
        refine lv_goto (tgt := 24) hx hb dX0_measureAll_56 (by decide) ?_
        exact ih _ _ _ _ _ _ h _ _ _ hP hD hS (lv_sub hl [1, 2, 0] rfl)
set_option maxHeartbeats 4000000 in
set_option maxRecDepth 100000 in
theorem L_X0_measureAll_2 {p : Program} {l : Launch} {e : Env} {s : State} {m : MethodId} {args : Array Value} {below : List Frame} {meth : Method} {c : Code} {D : va_G} {Y : ClassId × ClassId × ClassId} {A : Nat → Prop} {q q_lay q_measured q1 q1_lengths q_lay_places : Nat} {g1_links g1_folded g1_stiff g_lay_links g_lay_low g_lay_high : Int32} {g1_lengths g_lay_places : Nat → Int32} {Q : (Nat → Int32) → Int32 → Int32 → Int32 → (Nat → Int32) → Prop} (C : Ctx p s m args meth c cX0_measureAll 3 none wsX0_measureAll RX0) (hK : va_K D vwCl (tyS Y) s) (hA : ∀ q, s.heap.size ≤ q → A q) : ∀ (n : Nat) (x2 : Int32) (g_measured : Nat → Int32), itr2 (B_X0_measureAll_2 g1_links g1_folded g1_stiff g_lay_links g_lay_low g_lay_high g1_lengths g_lay_places Q) n x2 g_measured → ∀ (H : Heap) (locs : List Loc) (ls : Array Slot), va_P D vwCl (w_X0_measureAll Y q q_lay q_measured q1 q1_lengths q_lay_places g_measured g1_links g1_folded g1_stiff g_lay_links g_lay_low g_lay_high g1_lengths g_lay_places) H → va_D A (w_X0_measureAll Y q q_lay q_measured q1 q1_lengths q_lay_places g_measured g1_links g1_folded g1_stiff g_lay_links g_lay_low g_lay_high g1_lengths g_lay_places) → va_S A s.heap H locs → lv_has ls 3 [(0, .ref q), (1, .ref q1), (2, .int x2)] → W p l e rm_X0_measureAll s m args below meth c H locs 0 0 (QV below args s D Y A (fun (u : (Nat → Int32) × Int32 × Int32 × Int32 × (Nat → Int32)) => Q u.1 u.2.1 u.2.2.1 u.2.2.2.1 u.2.2.2.2) (fun u : (Nat → Int32) × Int32 × Int32 × Int32 × (Nat → Int32) => (w_X0_measureAll Y q q_lay q_measured q1 q1_lengths q_lay_places u.1 g1_links g1_folded g1_stiff u.2.1 u.2.2.1 u.2.2.2.1 g1_lengths u.2.2.2.2))) (F0 m 2 ls []) := by
  intro n
  induction n with
  | zero => intro x2 g_measured h; exact False.elim h
  | succ n ih =>
    intro x2 g_measured h H locs ls hP hD hS hl
    obtain ⟨⟨hx, hb, hml, hown, hts⟩, hr, hlocks, hN⟩ := id C
    have h : B_X0_measureAll_2 g1_links g1_folded g1_stiff g_lay_links g_lay_low g_lay_high g1_lengths g_lay_places Q (itr2 (B_X0_measureAll_2 g1_links g1_folded g1_stiff g_lay_links g_lay_low g_lay_high g1_lengths g_lay_places Q) n) x2 g_measured := h
    unfold B_X0_measureAll_2 at h
    refine lv_iload_n hx hb dX0_measureAll_2 rfl (lv_at hl 2 rfl) ?_
    refine lv_sipush (v := 180) hx hb dX0_measureAll_3 (by decide) ?_
    refine lv_icmp_gt (tgt := 22) hx hb dX0_measureAll_6 (by decide) (fun c24 => ?_) (fun c24 => ?_)
    · have h := h.1 c24
      refine lv_iconst (v := 0) hx hb dX0_measureAll_22 (by decide) ?_
      refine lv_istore_n (lv' := [(2, .int (0 : Int32)), (0, .ref q), (1, .ref q1)]) hx hb dX0_measureAll_23 rfl hl (by decide) rfl (fun ls hl => ?_)
      obtain ⟨n, h⟩ := h
      exact L_X0_measureAll_24 C hK hA  n _ _ _ _ _ _ h _ _ _ hP hD hS (lv_sub hl [1, 2, 0] rfl)
    · have h := h.2 c24
      refine lv_aload_n hx hb dX0_measureAll_9 rfl (lv_at hl 0 rfl) ?_
      refine va_get (D := D) (ci := 0) (v := .ref q_measured) (C := RX0) (T := TX0) (N := 2) hx hb hts in_X0_measureAll_X0 hown hK hP 0 rfl rfl 1 (by decide) (k_X0_measureAll_f18 hts) (fun _ h9 => h9) rfl dX0_measureAll_10 ?_
      refine lv_iload_n hx hb dX0_measureAll_13 rfl (lv_at hl 2 rfl) ?_
      refine lv_iconst (v := 0) hx hb dX0_measureAll_14 (by decide) ?_
      obtain ⟨hin, h⟩ := h
      refine va_zast hx hb hK hP hD hS 1 1 rfl rfl hin dX0_measureAll_15 (fun H locs hP hD hS => ?_)
      have hP : va_P D vwCl (w_X0_measureAll Y q q_lay q_measured q1 q1_lengths q_lay_places (upd g_measured (x2).toNatClampNeg (vp_nar .boolean (0 : Int32))) g1_links g1_folded g1_stiff g_lay_links g_lay_low g_lay_high g1_lengths g_lay_places) H := hP
      have hD : va_D A (w_X0_measureAll Y q q_lay q_measured q1 q1_lengths q_lay_places (upd g_measured (x2).toNatClampNeg (vp_nar .boolean (0 : Int32))) g1_links g1_folded g1_stiff g_lay_links g_lay_low g_lay_high g1_lengths g_lay_places) := hD
      obtain ⟨z25, ez25⟩ : ∃ y : Int32, y = (x2 + (1 : Int32)) := ⟨_, rfl⟩
      have h := h z25 ez25
      refine lv_iinc (v := z25) (lv' := [(2, .int z25), (0, .ref q), (1, .ref q1)]) hx hb dX0_measureAll_16 hl (k := 2) rfl (by rw [ez25]; rfl) (by decide) rfl (fun ls hl => ?_)
      refine lv_goto (tgt := 2) hx hb dX0_measureAll_19 (by decide) ?_
      exact ih _ _ h _ _ _ hP hD hS (lv_sub hl [1, 2, 0] rfl)
set_option maxHeartbeats 4000000 in
set_option maxRecDepth 100000 in
theorem c_X0_measureAll {l : Launch} {D : va_G} {Y : ClassId × ClassId × ClassId} {q q_lay q_measured q1 q1_lengths q_lay_places : Nat} {g_measured : Nat → Int32} {g1_links g1_folded g1_stiff g_lay_links g_lay_low g_lay_high : Int32} {g1_lengths g_lay_places : Nat → Int32} {Q : (Nat → Int32) → Int32 → Int32 → Int32 → (Nat → Int32) → Prop} (h : wp_X0_measureAll g_measured g1_links g1_folded g1_stiff g_lay_links g_lay_low g_lay_high g1_lengths g_lay_places Q) (sz : Nat) : MtV l yX0_measureAll wsX0_measureAll rm_X0_measureAll [.ref q, .ref q1] D Y (w_X0_measureAll Y q q_lay q_measured q1 q1_lengths q_lay_places g_measured g1_links g1_folded g1_stiff g_lay_links g_lay_low g_lay_high g1_lengths g_lay_places) (fun (u : (Nat → Int32) × Int32 × Int32 × Int32 × (Nat → Int32)) => Q u.1 u.2.1 u.2.2.1 u.2.2.2.1 u.2.2.2.2) (fun u : (Nat → Int32) × Int32 × Int32 × Int32 × (Nat → Int32) => (w_X0_measureAll Y q q_lay q_measured q1 q1_lengths q_lay_places u.1 g1_links g1_folded g1_stiff u.2.1 u.2.2.1 u.2.2.2.1 g1_lengths u.2.2.2.2)) sz := by
  refine ct_v (cc := cX0_measureAll) (nL := 3) (ret := none) (by decide) rfl (Nat.le_of_ble_eq_true rfl) ?_ sz
  intro p e s m below meth c A ls C hK hA hP hD hS hl
  obtain ⟨⟨hx, hb, hml, hown, hts⟩, hr, hlocks, hN⟩ := id C
  have hown : s.vm.findClass RX0 = some m.cls := hown
  have hl : lv_has ls 3 [(0, .ref q), (1, .ref q1)] := hl
  unfold wp_X0_measureAll at h
  refine lv_iconst (v := 0) hx hb dX0_measureAll_0 (by decide) ?_
  refine lv_istore_n (lv' := [(2, .int (0 : Int32)), (0, .ref q), (1, .ref q1)]) hx hb dX0_measureAll_1 rfl hl (by decide) rfl (fun ls hl => ?_)
  obtain ⟨n, h⟩ := h
  exact L_X0_measureAll_2 C hK hA  n _ _ h _ _ _ hP hD hS (lv_sub hl [1, 2, 0] rfl)
abbrev rm_X0_canMeasure : Room := { frames := 5, cells := 0, slots := 0, locals := 96 }
theorem in_X0_canMeasure_X0 : ∀ w ∈ wsX00, w ∈ wsX0_canMeasure := fun _ h => List.mem_cons_of_mem _ (List.mem_append_left _ (List.mem_append_left _ (List.mem_append_right _ h)))
theorem k_X0_canMeasure_f18 {s : State} {args : Array Value} (hts : ∀ w ∈ wsX0_canMeasure, w.before args s = true) : (Cond.fieldLink RX0 18 "FoldRule$Folds" "measured" "[Z").before args s = true := hts _ (by decide +kernel)
set_option maxHeartbeats 4000000 in
set_option maxRecDepth 100000 in
theorem c_X0_canMeasure {l : Launch} {D : va_G} {Y : ClassId × ClassId × ClassId} {q q_lay q_measured q1 q1_lengths q_lay_places : Nat} {g_measured : Nat → Int32} {g1_links g1_folded g1_stiff g_lay_links g_lay_low g_lay_high : Int32} {g1_lengths g_lay_places : Nat → Int32} {x2 : Int32} {Q : Int32 → (Nat → Int32) → Int32 → Int32 → Int32 → (Nat → Int32) → Prop} (h : wp_X0_canMeasure g_measured g1_links g1_folded g1_stiff g_lay_links g_lay_low g_lay_high g1_lengths g_lay_places x2 Q) (sz : Nat) : MtI l yX0_canMeasure wsX0_canMeasure rm_X0_canMeasure [.ref q, .ref q1, .int x2] D Y (w_X0_canMeasure Y q q_lay q_measured q1 q1_lengths q_lay_places g_measured g1_links g1_folded g1_stiff g_lay_links g_lay_low g_lay_high g1_lengths g_lay_places) (fun r (u : (Nat → Int32) × Int32 × Int32 × Int32 × (Nat → Int32)) => Q r u.1 u.2.1 u.2.2.1 u.2.2.2.1 u.2.2.2.2) (fun u : (Nat → Int32) × Int32 × Int32 × Int32 × (Nat → Int32) => (w_X0_canMeasure Y q q_lay q_measured q1 q1_lengths q_lay_places u.1 g1_links g1_folded g1_stiff u.2.1 u.2.2.1 u.2.2.2.1 g1_lengths u.2.2.2.2)) sz := by
  refine ct_i (cc := cX0_canMeasure) (nL := 3) (ret := (some .boolean)) (by decide) rfl (Nat.le_of_ble_eq_true rfl) ?_ sz
  intro p e s m below meth c A ls C hK hA hP hD hS hl
  obtain ⟨⟨hx, hb, hml, hown, hts⟩, hr, hlocks, hN⟩ := id C
  have hown : s.vm.findClass RX0 = some m.cls := hown
  have hl : lv_has ls 3 [(0, .ref q), (1, .ref q1), (2, .int x2)] := hl
  unfold wp_X0_canMeasure at h
  refine lv_aload_n hx hb dX0_canMeasure_0 rfl (lv_at hl 0 rfl) ?_
  refine lv_aload_n hx hb dX0_canMeasure_1 rfl (lv_at hl 1 rfl) ?_
  have hp : Pt (w_X0_canMeasure Y q q_lay q_measured q1 q1_lengths q_lay_places g_measured g1_links g1_folded g1_stiff g_lay_links g_lay_low g_lay_high g1_lengths g_lay_places) (w_X0_measureAll Y q q_lay q_measured q1 q1_lengths q_lay_places g_measured g1_links g1_folded g1_stiff g_lay_links g_lay_low g_lay_high g1_lengths g_lay_places) [0, 1, 2, 3, 4, 5] := ⟨rfl, by decide +kernel⟩
  refine go_v hp hP hD hS hA (fun _ => rfl) (va_runV (As := [.ref q1]) (rest := []) ⟨hx, hb, hml, hown, hts⟩ (c_X0_measureAll h _) (cwV 1 hts gX0_canMeasure_X0_measureAll rfl rfl rfl (by decide +kernel) ⟨Nat.le_of_ble_eq_true rfl, Nat.le_of_ble_eq_true rfl⟩) (pre_V (b := q) (q0 := 0) (ci := 0) (q := (RX0, TX0, 2)) hp hK hN hP hD rfl rfl) rfl rfl hl.1 rfl (lv_room (Nat.le_of_ble_eq_true rfl)) dX0_canMeasure_2 ⟨Nat.le_of_ble_eq_true rfl, Nat.le_of_ble_eq_true rfl⟩) (fun u H locs h hP hD hS => ?_)
  obtain ⟨u7, u8, u9, u10, u11⟩ := u
  try dsimp only at h
  have hP : va_P D vwCl (w_X0_canMeasure Y q q_lay q_measured q1 q1_lengths q_lay_places u7 g1_links g1_folded g1_stiff u8 u9 u10 g1_lengths u11) H := hP
  have hD : va_D A (w_X0_canMeasure Y q q_lay q_measured q1 q1_lengths q_lay_places u7 g1_links g1_folded g1_stiff u8 u9 u10 g1_lengths u11) := hD
  refine lv_iload_n hx hb dX0_canMeasure_5 rfl (lv_at hl 2 rfl) ?_
  refine lv_iconst (v := 1) hx hb dX0_canMeasure_6 (by decide) ?_
  refine lv_icmp_lt (tgt := 30) hx hb dX0_canMeasure_7 (by decide) (fun c12 => ?_) (fun c12 => ?_)
  · have h := h.1 c12
    refine lv_iconst (v := 0) hx hb dX0_canMeasure_30 (by decide) ?_
    exact ret_z (u7, u8, u9, u10, u11) hx hb hr hlocks hK hP hD hS (Or.inl rfl) h dX0_canMeasure_31
  · have h := h.2 c12
    refine lv_iload_n hx hb dX0_canMeasure_10 rfl (lv_at hl 2 rfl) ?_
    refine lv_sipush (v := 180) hx hb dX0_canMeasure_11 (by decide) ?_
    refine lv_icmp_gt (tgt := 30) hx hb dX0_canMeasure_14 (by decide) (fun c13 => ?_) (fun c13 => ?_)
    · have h := h.1 c13
      refine lv_iconst (v := 0) hx hb dX0_canMeasure_30 (by decide) ?_
      exact ret_z (u7, u8, u9, u10, u11) hx hb hr hlocks hK hP hD hS (Or.inl rfl) h dX0_canMeasure_31
    · have h := h.2 c13
      refine lv_aload_n hx hb dX0_canMeasure_17 rfl (lv_at hl 0 rfl) ?_
      refine va_get (D := D) (ci := 0) (v := .ref q_measured) (C := RX0) (T := TX0) (N := 2) hx hb hts in_X0_canMeasure_X0 hown hK hP 0 rfl rfl 1 (by decide) (k_X0_canMeasure_f18 hts) (fun _ h9 => h9) rfl dX0_canMeasure_18 ?_
      refine lv_iload_n hx hb dX0_canMeasure_21 rfl (lv_at hl 2 rfl) ?_
      obtain ⟨hin, h⟩ := h
      refine va_zald hx hb hK hP 1 1 rfl rfl hin dX0_canMeasure_22 ?_
      refine lv_if_eq (tgt := 30) hx hb dX0_canMeasure_23 (by decide) (fun c14 => ?_) (fun c14 => ?_)
      · have h := h.1 c14
        refine lv_iconst (v := 0) hx hb dX0_canMeasure_30 (by decide) ?_
        exact ret_z (u7, u8, u9, u10, u11) hx hb hr hlocks hK hP hD hS (Or.inl rfl) h dX0_canMeasure_31
      · have h := h.2 c14
        refine lv_iconst (v := 1) hx hb dX0_canMeasure_26 (by decide) ?_
        refine lv_goto (tgt := 31) hx hb dX0_canMeasure_27 (by decide) ?_
        exact ret_z (u7, u8, u9, u10, u11) hx hb hr hlocks hK hP hD hS (Or.inr rfl) h dX0_canMeasure_31
abbrev rm_X0_gap : Room := { frames := 5, cells := 0, slots := 0, locals := 96 }
theorem in_X0_gap_X0 : ∀ w ∈ wsX00, w ∈ wsX0_gap := fun _ h => List.mem_cons_of_mem _ (List.mem_append_left _ (List.mem_append_left _ (List.mem_append_right _ h)))
theorem k_X0_gap_f18 {s : State} {args : Array Value} (hts : ∀ w ∈ wsX0_gap, w.before args s = true) : (Cond.fieldLink RX0 18 "FoldRule$Folds" "measured" "[Z").before args s = true := hts _ (by decide +kernel)
set_option maxHeartbeats 4000000 in
set_option maxRecDepth 100000 in
theorem L_X0_gap_7 {p : Program} {l : Launch} {e : Env} {s : State} {m : MethodId} {args : Array Value} {below : List Frame} {meth : Method} {c : Code} {D : va_G} {Y : ClassId × ClassId × ClassId} {A : Nat → Prop} {q q_lay q_measured q1 q1_lengths q_lay_places : Nat} {g_measured : Nat → Int32} {g1_links g1_folded g1_stiff g_lay_links g_lay_low g_lay_high : Int32} {g1_lengths g_lay_places : Nat → Int32} {Q : Int32 → (Nat → Int32) → Int32 → Int32 → Int32 → (Nat → Int32) → Prop} (C : Ctx p s m args meth c cX0_gap 3 (some .int) wsX0_gap RX0) (hK : va_K D vwCl (tyS Y) s) (hA : ∀ q, s.heap.size ≤ q → A q) : ∀ (n : Nat) (x2 : Int32), itr1 (B_X0_gap_7 g_measured g_lay_links g_lay_low g_lay_high g_lay_places Q) n x2 → ∀ (H : Heap) (locs : List Loc) (ls : Array Slot), va_P D vwCl (w_X0_gap Y q q_lay q_measured q1 q1_lengths q_lay_places g_measured g1_links g1_folded g1_stiff g_lay_links g_lay_low g_lay_high g1_lengths g_lay_places) H → va_D A (w_X0_gap Y q q_lay q_measured q1 q1_lengths q_lay_places g_measured g1_links g1_folded g1_stiff g_lay_links g_lay_low g_lay_high g1_lengths g_lay_places) → va_S A s.heap H locs → lv_has ls 3 [(0, .ref q), (2, .int x2)] → W p l e rm_X0_gap s m args below meth c H locs 0 0 (QI below args s D Y A (fun r (u : (Nat → Int32) × Int32 × Int32 × Int32 × (Nat → Int32)) => Q r u.1 u.2.1 u.2.2.1 u.2.2.2.1 u.2.2.2.2) (fun u : (Nat → Int32) × Int32 × Int32 × Int32 × (Nat → Int32) => (w_X0_gap Y q q_lay q_measured q1 q1_lengths q_lay_places u.1 g1_links g1_folded g1_stiff u.2.1 u.2.2.1 u.2.2.2.1 g1_lengths u.2.2.2.2))) (F0 m 7 ls []) := by
  intro n
  induction n with
  | zero => intro x2 h; exact False.elim h
  | succ n ih =>
    intro x2 h H locs ls hP hD hS hl
    obtain ⟨⟨hx, hb, hml, hown, hts⟩, hr, hlocks, hN⟩ := id C
    have h : B_X0_gap_7 g_measured g_lay_links g_lay_low g_lay_high g_lay_places Q (itr1 (B_X0_gap_7 g_measured g_lay_links g_lay_low g_lay_high g_lay_places Q) n) x2 := h
    unfold B_X0_gap_7 at h
    refine lv_iload_n hx hb dX0_gap_7 rfl (lv_at hl 1 rfl) ?_
    refine lv_sipush (v := 180) hx hb dX0_gap_8 (by decide) ?_
    refine lv_icmp_gt (tgt := 29) hx hb dX0_gap_11 (by decide) (fun c7 => ?_) (fun c7 => ?_)
    · have h := h.1 c7
      refine lv_iload_n hx hb dX0_gap_29 rfl (lv_at hl 1 rfl) ?_
      exact ret_i (g_measured, g_lay_links, g_lay_low, g_lay_high, g_lay_places) hx hb hr hlocks hK hP hD hS h dX0_gap_30
    · have h := h.2 c7
      refine lv_aload_n hx hb dX0_gap_14 rfl (lv_at hl 0 rfl) ?_
      refine va_get (D := D) (ci := 0) (v := .ref q_measured) (C := RX0) (T := TX0) (N := 2) hx hb hts in_X0_gap_X0 hown hK hP 0 rfl rfl 1 (by decide) (k_X0_gap_f18 hts) (fun _ h9 => h9) rfl dX0_gap_15 ?_
      refine lv_iload_n hx hb dX0_gap_18 rfl (lv_at hl 1 rfl) ?_
      obtain ⟨hin, h⟩ := h
      refine va_zald hx hb hK hP 1 1 rfl rfl hin dX0_gap_19 ?_
      refine lv_if_eq (tgt := 29) hx hb dX0_gap_20 (by decide) (fun c8 => ?_) (fun c8 => ?_)
      · have h := h.1 c8
        refine lv_iload_n hx hb dX0_gap_29 rfl (lv_at hl 1 rfl) ?_
        exact ret_i (g_measured, g_lay_links, g_lay_low, g_lay_high, g_lay_places) hx hb hr hlocks hK hP hD hS h dX0_gap_30
      · have h := h.2 c8
        obtain ⟨z9, ez9⟩ : ∃ y : Int32, y = (x2 + (1 : Int32)) := ⟨_, rfl⟩
        have h := h z9 ez9
        refine lv_iinc (v := z9) (lv' := [(2, .int z9), (0, .ref q)]) hx hb dX0_gap_23 hl (k := 1) rfl (by rw [ez9]; rfl) (by decide) rfl (fun ls hl => ?_)
        refine lv_goto (tgt := 7) hx hb dX0_gap_26 (by decide) ?_
        exact ih _ h _ _ _ hP hD hS (lv_sub hl [1, 0] rfl)
set_option maxHeartbeats 4000000 in
set_option maxRecDepth 100000 in
theorem c_X0_gap {l : Launch} {D : va_G} {Y : ClassId × ClassId × ClassId} {q q_lay q_measured q1 q1_lengths q_lay_places : Nat} {g_measured : Nat → Int32} {g1_links g1_folded g1_stiff g_lay_links g_lay_low g_lay_high : Int32} {g1_lengths g_lay_places : Nat → Int32} {Q : Int32 → (Nat → Int32) → Int32 → Int32 → Int32 → (Nat → Int32) → Prop} (h : wp_X0_gap g_measured g1_links g1_folded g1_stiff g_lay_links g_lay_low g_lay_high g1_lengths g_lay_places Q) (sz : Nat) : MtI l yX0_gap wsX0_gap rm_X0_gap [.ref q, .ref q1] D Y (w_X0_gap Y q q_lay q_measured q1 q1_lengths q_lay_places g_measured g1_links g1_folded g1_stiff g_lay_links g_lay_low g_lay_high g1_lengths g_lay_places) (fun r (u : (Nat → Int32) × Int32 × Int32 × Int32 × (Nat → Int32)) => Q r u.1 u.2.1 u.2.2.1 u.2.2.2.1 u.2.2.2.2) (fun u : (Nat → Int32) × Int32 × Int32 × Int32 × (Nat → Int32) => (w_X0_gap Y q q_lay q_measured q1 q1_lengths q_lay_places u.1 g1_links g1_folded g1_stiff u.2.1 u.2.2.1 u.2.2.2.1 g1_lengths u.2.2.2.2)) sz := by
  refine ct_i (cc := cX0_gap) (nL := 3) (ret := (some .int)) (by decide) rfl (Nat.le_of_ble_eq_true rfl) ?_ sz
  intro p e s m below meth c A ls C hK hA hP hD hS hl
  obtain ⟨⟨hx, hb, hml, hown, hts⟩, hr, hlocks, hN⟩ := id C
  have hown : s.vm.findClass RX0 = some m.cls := hown
  have hl : lv_has ls 3 [(0, .ref q), (1, .ref q1)] := hl
  unfold wp_X0_gap at h
  refine lv_aload_n hx hb dX0_gap_0 rfl (lv_at hl 0 rfl) ?_
  refine lv_aload_n hx hb dX0_gap_1 rfl (lv_at hl 1 rfl) ?_
  have hp : Pt (w_X0_gap Y q q_lay q_measured q1 q1_lengths q_lay_places g_measured g1_links g1_folded g1_stiff g_lay_links g_lay_low g_lay_high g1_lengths g_lay_places) (w_X0_measureAll Y q q_lay q_measured q1 q1_lengths q_lay_places g_measured g1_links g1_folded g1_stiff g_lay_links g_lay_low g_lay_high g1_lengths g_lay_places) [0, 1, 2, 3, 4, 5] := ⟨rfl, by decide +kernel⟩
  refine go_v hp hP hD hS hA (fun _ => rfl) (va_runV (As := [.ref q1]) (rest := []) ⟨hx, hb, hml, hown, hts⟩ (c_X0_measureAll h _) (cwV 1 hts gX0_gap_X0_measureAll rfl rfl rfl (by decide +kernel) ⟨Nat.le_of_ble_eq_true rfl, Nat.le_of_ble_eq_true rfl⟩) (pre_V (b := q) (q0 := 0) (ci := 0) (q := (RX0, TX0, 2)) hp hK hN hP hD rfl rfl) rfl rfl hl.1 rfl (lv_room (Nat.le_of_ble_eq_true rfl)) dX0_gap_2 ⟨Nat.le_of_ble_eq_true rfl, Nat.le_of_ble_eq_true rfl⟩) (fun u H locs h hP hD hS => ?_)
  obtain ⟨u11, u12, u13, u14, u15⟩ := u
  try dsimp only at h
  have hP : va_P D vwCl (w_X0_gap Y q q_lay q_measured q1 q1_lengths q_lay_places u11 g1_links g1_folded g1_stiff u12 u13 u14 g1_lengths u15) H := hP
  have hD : va_D A (w_X0_gap Y q q_lay q_measured q1 q1_lengths q_lay_places u11 g1_links g1_folded g1_stiff u12 u13 u14 g1_lengths u15) := hD
  refine lv_iconst (v := 1) hx hb dX0_gap_5 (by decide) ?_
  refine lv_istore_n (lv' := [(2, .int (1 : Int32)), (0, .ref q), (1, .ref q1)]) hx hb dX0_gap_6 rfl hl (by decide) rfl (fun ls hl => ?_)
  obtain ⟨n, h⟩ := h
  exact L_X0_gap_7 C hK hA  n _ h _ _ _ hP hD hS (lv_sub hl [1, 0] rfl)
abbrev rm_X7_power : Room := { frames := 0, cells := 0, slots := 0, locals := 0 }
set_option maxHeartbeats 4000000 in
set_option maxRecDepth 100000 in
theorem L_X7_power_4 {p : Program} {l : Launch} {e : Env} {s : State} {m : MethodId} {args : Array Value} {below : List Frame} {meth : Method} {c : Code} {D : va_G} {Y : ClassId × ClassId × ClassId} {A : Nat → Prop} {x0 x1 : Int32} {Q : Int32 → Prop} (C : Ctx p s m args meth c cX7_power 4 (some .int) wsX7_power RX7) (hK : va_K D vwCl (tyS Y) s) (hA : ∀ q, s.heap.size ≤ q → A q) : ∀ (n : Nat) (x2 x3 : Int32), itr2 (B_X7_power_4 x0 x1 Q) n x2 x3 → ∀ (H : Heap) (locs : List Loc) (ls : Array Slot), va_P D vwCl (w_X7_power Y ) H → va_D A (w_X7_power Y ) → va_S A s.heap H locs → lv_has ls 4 [(0, .int x0), (1, .int x1), (2, .int x2), (3, .int x3)] → W p l e rm_X7_power s m args below meth c H locs 0 0 (QI below args s D Y A (fun r (_ : Unit) => Q r) (fun _ : Unit => (w_X7_power Y ))) (F0 m 4 ls []) := by
  intro n
  induction n with
  | zero => intro x2 x3 h; exact False.elim h
  | succ n ih =>
    intro x2 x3 h H locs ls hP hD hS hl
    obtain ⟨⟨hx, hb, hml, hown, hts⟩, hr, hlocks, hN⟩ := id C
    have h : B_X7_power_4 x0 x1 Q (itr2 (B_X7_power_4 x0 x1 Q) n) x2 x3 := h
    unfold B_X7_power_4 at h
    refine lv_iload_n hx hb dX7_power_4 rfl (lv_at hl 3 rfl) ?_
    refine lv_iload_n hx hb dX7_power_5 rfl (lv_at hl 1 rfl) ?_
    refine lv_icmp_ge (tgt := 19) hx hb dX7_power_6 (by decide) (fun c3 => ?_) (fun c3 => ?_)
    · have h := h.1 c3
      refine lv_iload_n hx hb dX7_power_19 rfl (lv_at hl 2 rfl) ?_
      exact ret_i () hx hb hr hlocks hK hP hD hS h dX7_power_20
    · have h := h.2 c3
      refine lv_iload_n hx hb dX7_power_9 rfl (lv_at hl 2 rfl) ?_
      refine lv_iload_n hx hb dX7_power_10 rfl (lv_at hl 0 rfl) ?_
      refine lv_imul hx hb dX7_power_11 ?_
      refine lv_topi (fun z4 ez4 => ?_)
      have h := h z4 ez4
      refine lv_istore_n (lv' := [(2, .int z4), (0, .int x0), (1, .int x1), (3, .int x3)]) hx hb dX7_power_12 rfl hl (by decide) rfl (fun ls hl => ?_)
      obtain ⟨z5, ez5⟩ : ∃ y : Int32, y = (x3 + (1 : Int32)) := ⟨_, rfl⟩
      have h := h z5 ez5
      refine lv_iinc (v := z5) (lv' := [(3, .int z5), (2, .int z4), (0, .int x0), (1, .int x1)]) hx hb dX7_power_13 hl (k := 3) rfl (by rw [ez5]; rfl) (by decide) rfl (fun ls hl => ?_)
      refine lv_goto (tgt := 4) hx hb dX7_power_16 (by decide) ?_
      exact ih _ _ h _ _ _ hP hD hS (lv_sub hl [2, 3, 1, 0] rfl)
set_option maxHeartbeats 4000000 in
set_option maxRecDepth 100000 in
theorem c_X7_power {l : Launch} {D : va_G} {Y : ClassId × ClassId × ClassId} {x0 x1 : Int32} {Q : Int32 → Prop} (h : wp_X7_power x0 x1 Q) (sz : Nat) : MtI l yX7_power wsX7_power rm_X7_power [.int x0, .int x1] D Y (w_X7_power Y ) (fun r (_ : Unit) => Q r) (fun _ : Unit => (w_X7_power Y )) sz := by
  refine ct_i (cc := cX7_power) (nL := 4) (ret := (some .int)) (by decide) rfl (Nat.le_of_ble_eq_true rfl) ?_ sz
  intro p e s m below meth c A ls C hK hA hP hD hS hl
  obtain ⟨⟨hx, hb, hml, hown, hts⟩, hr, hlocks, hN⟩ := id C
  have hown : s.vm.findClass RX7 = some m.cls := hown
  have hl : lv_has ls 4 [(0, .int x0), (1, .int x1)] := hl
  unfold wp_X7_power at h
  refine lv_iconst (v := 1) hx hb dX7_power_0 (by decide) ?_
  refine lv_istore_n (lv' := [(2, .int (1 : Int32)), (0, .int x0), (1, .int x1)]) hx hb dX7_power_1 rfl hl (by decide) rfl (fun ls hl => ?_)
  refine lv_iconst (v := 0) hx hb dX7_power_2 (by decide) ?_
  refine lv_istore_n (lv' := [(3, .int (0 : Int32)), (2, .int (1 : Int32)), (0, .int x0), (1, .int x1)]) hx hb dX7_power_3 rfl hl (by decide) rfl (fun ls hl => ?_)
  obtain ⟨n, h⟩ := h
  exact L_X7_power_4 C hK hA  n _ _ h _ _ _ hP hD hS (lv_sub hl [2, 3, 1, 0] rfl)
abbrev rm_X5_freeJoints : Room := { frames := 2, cells := 0, slots := 0, locals := 33 }
theorem in_X5_freeJoints_X5 : ∀ w ∈ wsX50, w ∈ wsX5_freeJoints := fun _ h => List.mem_cons_of_mem _ (List.mem_append_right _ h)
theorem k_X5_freeJoints_f22 {s : State} {args : Array Value} (hts : ∀ w ∈ wsX5_freeJoints, w.before args s = true) : (Cond.fieldLink RX5 22 "FoldRule$Strip" "stiff" "I").before args s = true := hts _ (by decide +kernel)
set_option maxHeartbeats 4000000 in
set_option maxRecDepth 100000 in
theorem c_X5_freeJoints {l : Launch} {D : va_G} {Y : ClassId × ClassId × ClassId} {q q_lengths : Nat} {g_links g_folded g_stiff : Int32} {Q : Int32 → Prop} (h : wp_X5_freeJoints g_links g_stiff Q) (sz : Nat) : MtI l yX5_freeJoints wsX5_freeJoints rm_X5_freeJoints [.ref q] D Y (w_X5_freeJoints Y q q_lengths g_links g_folded g_stiff) (fun r (_ : Unit) => Q r) (fun _ : Unit => (w_X5_freeJoints Y q q_lengths g_links g_folded g_stiff)) sz := by
  refine ct_i (cc := cX5_freeJoints) (nL := 1) (ret := (some .int)) (by decide) rfl (Nat.le_of_ble_eq_true rfl) ?_ sz
  intro p e s m below meth c A ls C hK hA hP hD hS hl
  obtain ⟨⟨hx, hb, hml, hown, hts⟩, hr, hlocks, hN⟩ := id C
  have hown : s.vm.findClass RX5 = some m.cls := hown
  have hl : lv_has ls 1 [(0, .ref q)] := hl
  unfold wp_X5_freeJoints at h
  refine lv_aload_n hx hb dX5_freeJoints_0 rfl (lv_at hl 0 rfl) ?_
  have hp : Pt (w_X5_freeJoints Y q q_lengths g_links g_folded g_stiff) (w_X5_joints Y q q_lengths g_links g_folded g_stiff) [0] := ⟨rfl, by decide +kernel⟩
  refine go_i hp hP hD hS hA (fun _ => rfl) (va_runV (As := []) (rest := []) ⟨hx, hb, hml, hown, hts⟩ (c_X5_joints h _) (cwV 0 hts gX5_freeJoints_X5_joints rfl rfl rfl (by decide +kernel) ⟨Nat.le_of_ble_eq_true rfl, Nat.le_of_ble_eq_true rfl⟩) (pre_V (b := q) (q0 := 0) (ci := 5) (q := (RX5, TX5, 4)) hp hK hN hP hD rfl rfl) rfl rfl hl.1 rfl (lv_room (Nat.le_of_ble_eq_true rfl)) dX5_freeJoints_1 ⟨Nat.le_of_ble_eq_true rfl, Nat.le_of_ble_eq_true rfl⟩) (fun r3 u H locs h hP hD hS => ?_)
  try dsimp only at h
  have hP : va_P D vwCl (w_X5_freeJoints Y q q_lengths g_links g_folded g_stiff) H := hP
  have hD : va_D A (w_X5_freeJoints Y q q_lengths g_links g_folded g_stiff) := hD
  refine lv_aload_n hx hb dX5_freeJoints_4 rfl (lv_at hl 0 rfl) ?_
  refine va_get (D := D) (ci := 5) (v := .int g_stiff) (C := RX5) (T := TX5) (N := 4) hx hb hts in_X5_freeJoints_X5 hown hK hP 0 rfl rfl 3 (by decide) (k_X5_freeJoints_f22 hts) (fun _ h9 => h9) rfl dX5_freeJoints_5 ?_
  have hp : Pt (w_X5_freeJoints Y q q_lengths g_links g_folded g_stiff) (w_J6_bitCount_0f7a4 Y ) [] := ⟨rfl, by decide +kernel⟩
  refine go_i hp hP hD hS hA (fun _ => rfl) (va_runS (As := [.int g_stiff]) (rest := [.int r3]) ⟨hx, hb, hml, hown, hts⟩ (c_J6_bitCount_0f7a4 h _) (va_cwS 1 hts gX5_freeJoints_J6_bitCount_0f7a4 rfl rfl rfl (by decide +kernel) ⟨Nat.le_of_ble_eq_true rfl, Nat.le_of_ble_eq_true rfl⟩) (pre_S hp hK hN hP hD) rfl rfl hl.1 rfl (lv_room (Nat.le_of_ble_eq_true rfl)) dX5_freeJoints_8 ⟨Nat.le_of_ble_eq_true rfl, Nat.le_of_ble_eq_true rfl⟩) (fun r4 u H locs h hP hD hS => ?_)
  try dsimp only at h
  have hP : va_P D vwCl (w_X5_freeJoints Y q q_lengths g_links g_folded g_stiff) H := hP
  have hD : va_D A (w_X5_freeJoints Y q q_lengths g_links g_folded g_stiff) := hD
  refine lv_isub hx hb dX5_freeJoints_11 ?_
  exact ret_i () hx hb hr hlocks hK hP hD hS h dX5_freeJoints_12
abbrev rm_X0_weightInto : Room := { frames := 4, cells := 0, slots := 0, locals := 94 }
theorem in_X0_weightInto_X5 : ∀ w ∈ wsX50, w ∈ wsX0_weightInto := fun _ h => List.mem_cons_of_mem _ (List.mem_append_left _ (List.mem_append_left _ (List.mem_append_right _ h)))
theorem k_X0_weightInto_iX7 {s : State} {args : Array Value} (hts : ∀ w ∈ wsX0_weightInto, w.before args s = true) : (Cond.initialized RX7).before args s = true := hts _ (by decide +kernel)
theorem k_X0_weightInto_stX7_power {s : State} {args : Array Value} (hts : ∀ w ∈ wsX0_weightInto, w.before args s = true) : (Cond.static yX7_power).before args s = true := hts _ (by decide +kernel)
set_option maxHeartbeats 4000000 in
set_option maxRecDepth 100000 in
theorem L_X0_weightInto_6 {p : Program} {l : Launch} {e : Env} {s : State} {m : MethodId} {args : Array Value} {below : List Frame} {meth : Method} {c : Code} {D : va_G} {Y : ClassId × ClassId × ClassId} {A : Nat → Prop} {q1 q1_lengths q q_lay q_measured q_lay_places : Nat} {g1_links g1_folded g1_stiff : Int32} {g1_lengths : Nat → Int32} {x2 x3 : Int32} {Q : Int32 → Int32 → Int32 → Int32 → (Nat → Int32) → Prop} (C : Ctx p s m args meth c cX0_weightInto 7 (some .int) wsX0_weightInto RX0) (hK : va_K D vwCl (tyS Y) s) (hA : ∀ q, s.heap.size ≤ q → A q) : ∀ (n : Nat) (x4 x5 g_lay_links g_lay_low g_lay_high : Int32) (g_lay_places : Nat → Int32), itr6 (B_X0_weightInto_6 g1_links g1_folded g1_stiff g1_lengths x2 x3 Q) n x4 x5 g_lay_links g_lay_low g_lay_high g_lay_places → ∀ (H : Heap) (locs : List Loc) (ls : Array Slot), va_P D vwCl (w_X0_weightInto Y q1 q1_lengths q q_lay q_measured q_lay_places g1_links g1_folded g1_stiff g_lay_links g_lay_low g_lay_high g1_lengths g_lay_places) H → va_D A (w_X0_weightInto Y q1 q1_lengths q q_lay q_measured q_lay_places g1_links g1_folded g1_stiff g_lay_links g_lay_low g_lay_high g1_lengths g_lay_places) → va_S A s.heap H locs → lv_has ls 7 [(0, .ref q), (1, .ref q1), (2, .int x2), (3, .int x3), (4, .int x4), (5, .int x5)] → W p l e rm_X0_weightInto s m args below meth c H locs 0 0 (QI below args s D Y A (fun r (u : Int32 × Int32 × Int32 × (Nat → Int32)) => Q r u.1 u.2.1 u.2.2.1 u.2.2.2) (fun u : Int32 × Int32 × Int32 × (Nat → Int32) => (w_X0_weightInto Y q1 q1_lengths q q_lay q_measured q_lay_places g1_links g1_folded g1_stiff u.1 u.2.1 u.2.2.1 g1_lengths u.2.2.2))) (F0 m 6 ls []) := by
  intro n
  induction n with
  | zero => intro x4 x5 g_lay_links g_lay_low g_lay_high g_lay_places h; exact False.elim h
  | succ n ih =>
    intro x4 x5 g_lay_links g_lay_low g_lay_high g_lay_places h H locs ls hP hD hS hl
    obtain ⟨⟨hx, hb, hml, hown, hts⟩, hr, hlocks, hN⟩ := id C
    have h : B_X0_weightInto_6 g1_links g1_folded g1_stiff g1_lengths x2 x3 Q (itr6 (B_X0_weightInto_6 g1_links g1_folded g1_stiff g1_lengths x2 x3 Q) n) x4 x5 g_lay_links g_lay_low g_lay_high g_lay_places := h
    unfold B_X0_weightInto_6 at h
    refine lv_iload hx hb dX0_weightInto_6 (lv_at hl 5 rfl) ?_
    refine lv_aload_n hx hb dX0_weightInto_8 rfl (lv_at hl 1 rfl) ?_
    have hp : Pt (w_X0_weightInto Y q1 q1_lengths q q_lay q_measured q_lay_places g1_links g1_folded g1_stiff g_lay_links g_lay_low g_lay_high g1_lengths g_lay_places) (w_X5_foldLimit Y q1 q1_lengths g1_links g1_folded g1_stiff) [0] := ⟨rfl, by decide +kernel⟩
    refine go_i hp hP hD hS hA (fun _ => rfl) (va_runV (As := []) (rest := [.int x5]) ⟨hx, hb, hml, hown, hts⟩ (c_X5_foldLimit h _) (cwV 0 hts gX0_weightInto_X5_foldLimit rfl rfl rfl (by decide +kernel) ⟨Nat.le_of_ble_eq_true rfl, Nat.le_of_ble_eq_true rfl⟩) (pre_V (b := q1) (q0 := 0) (ci := 5) (q := (RX5, TX5, 4)) hp hK hN hP hD rfl rfl) rfl rfl hl.1 rfl (lv_room (Nat.le_of_ble_eq_true rfl)) dX0_weightInto_9 ⟨Nat.le_of_ble_eq_true rfl, Nat.le_of_ble_eq_true rfl⟩) (fun r16 u H locs h hP hD hS => ?_)
    try dsimp only at h
    have hP : va_P D vwCl (w_X0_weightInto Y q1 q1_lengths q q_lay q_measured q_lay_places g1_links g1_folded g1_stiff g_lay_links g_lay_low g_lay_high g1_lengths g_lay_places) H := hP
    have hD : va_D A (w_X0_weightInto Y q1 q1_lengths q q_lay q_measured q_lay_places g1_links g1_folded g1_stiff g_lay_links g_lay_low g_lay_high g1_lengths g_lay_places) := hD
    refine lv_icmp_ge (tgt := 81) hx hb dX0_weightInto_12 (by decide) (fun c17 => ?_) (fun c17 => ?_)
    · have h := h.1 c17
      refine lv_iload hx hb dX0_weightInto_81 (lv_at hl 4 rfl) ?_
      exact ret_i (g_lay_links, g_lay_low, g_lay_high, g_lay_places) hx hb hr hlocks hK hP hD hS h dX0_weightInto_83
    · have h := h.2 c17
      refine lv_aload_n hx hb dX0_weightInto_15 rfl (lv_at hl 1 rfl) ?_
      refine lv_iload hx hb dX0_weightInto_16 (lv_at hl 5 rfl) ?_
      have hp : Pt (w_X0_weightInto Y q1 q1_lengths q q_lay q_measured q_lay_places g1_links g1_folded g1_stiff g_lay_links g_lay_low g_lay_high g1_lengths g_lay_places) (w_X5_isFold Y q1 q1_lengths g1_links g1_folded g1_stiff) [0] := ⟨rfl, by decide +kernel⟩
      refine go_i hp hP hD hS hA (fun _ => rfl) (va_runV (As := [.int x5]) (rest := []) ⟨hx, hb, hml, hown, hts⟩ (c_X5_isFold h _) (cwV 1 hts gX0_weightInto_X5_isFold rfl rfl rfl (by decide +kernel) ⟨Nat.le_of_ble_eq_true rfl, Nat.le_of_ble_eq_true rfl⟩) (pre_V (b := q1) (q0 := 0) (ci := 5) (q := (RX5, TX5, 4)) hp hK hN hP hD rfl rfl) rfl rfl hl.1 rfl (lv_room (Nat.le_of_ble_eq_true rfl)) dX0_weightInto_18 ⟨Nat.le_of_ble_eq_true rfl, Nat.le_of_ble_eq_true rfl⟩) (fun r18 u H locs h hP hD hS => ?_)
      try dsimp only at h
      have hP : va_P D vwCl (w_X0_weightInto Y q1 q1_lengths q q_lay q_measured q_lay_places g1_links g1_folded g1_stiff g_lay_links g_lay_low g_lay_high g1_lengths g_lay_places) H := hP
      have hD : va_D A (w_X0_weightInto Y q1 q1_lengths q q_lay q_measured q_lay_places g1_links g1_folded g1_stiff g_lay_links g_lay_low g_lay_high g1_lengths g_lay_places) := hD
      refine lv_if_eq (tgt := 75) hx hb dX0_weightInto_21 (by decide) (fun c19 => ?_) (fun c19 => ?_)
      · have h := h.1 c19
        obtain ⟨z20, ez20⟩ : ∃ y : Int32, y = (x5 + (1 : Int32)) := ⟨_, rfl⟩
        have h := h z20 ez20
        refine lv_iinc (v := z20) (lv' := [(5, .int z20), (0, .ref q), (1, .ref q1), (2, .int x2), (3, .int x3), (4, .int x4)]) hx hb dX0_weightInto_75 hl (k := 5) rfl (by rw [ez20]; rfl) (by decide) rfl (fun ls hl => ?_)
        refine lv_goto (tgt := 6) hx hb dX0_weightInto_78 (by decide) ?_
        exact ih _ _ _ _ _ _ h _ _ _ hP hD hS (lv_sub hl [1, 2, 3, 4, 5, 0] rfl)
      · have h := h.2 c19
        refine lv_aload_n hx hb dX0_weightInto_24 rfl (lv_at hl 0 rfl) ?_
        refine lv_aload_n hx hb dX0_weightInto_25 rfl (lv_at hl 1 rfl) ?_
        refine lv_iload hx hb dX0_weightInto_26 (lv_at hl 5 rfl) ?_
        refine lv_iload_n hx hb dX0_weightInto_28 rfl (lv_at hl 3 rfl) ?_
        have hp : Pt (w_X0_weightInto Y q1 q1_lengths q q_lay q_measured q_lay_places g1_links g1_folded g1_stiff g_lay_links g_lay_low g_lay_high g1_lengths g_lay_places) (w_X0_goesInto Y q q_lay q_measured q1 q1_lengths q_lay_places g1_links g1_folded g1_stiff g_lay_links g_lay_low g_lay_high g1_lengths g_lay_places) [1, 0, 2, 3, 4] := ⟨rfl, by decide +kernel⟩
        refine go_i hp hP hD hS hA (fun _ => rfl) (va_runV (As := [.ref q1, .int x5, .int x3]) (rest := []) ⟨hx, hb, hml, hown, hts⟩ (c_X0_goesInto h _) (cwV 3 hts gX0_weightInto_X0_goesInto rfl rfl rfl (by decide +kernel) ⟨Nat.le_of_ble_eq_true rfl, Nat.le_of_ble_eq_true rfl⟩) (pre_V (b := q) (q0 := 0) (ci := 0) (q := (RX0, TX0, 2)) hp hK hN hP hD rfl rfl) rfl rfl hl.1 rfl (lv_room (Nat.le_of_ble_eq_true rfl)) dX0_weightInto_29 ⟨Nat.le_of_ble_eq_true rfl, Nat.le_of_ble_eq_true rfl⟩) (fun r21 u H locs h hP hD hS => ?_)
        obtain ⟨u22, u23, u24, u25⟩ := u
        try dsimp only at h
        have hP : va_P D vwCl (w_X0_weightInto Y q1 q1_lengths q q_lay q_measured q_lay_places g1_links g1_folded g1_stiff u22 u23 u24 g1_lengths u25) H := hP
        have hD : va_D A (w_X0_weightInto Y q1 q1_lengths q q_lay q_measured q_lay_places g1_links g1_folded g1_stiff u22 u23 u24 g1_lengths u25) := hD
        refine lv_if_eq (tgt := 75) hx hb dX0_weightInto_32 (by decide) (fun c26 => ?_) (fun c26 => ?_)
        · have h := h.1 c26
          obtain ⟨z27, ez27⟩ : ∃ y : Int32, y = (x5 + (1 : Int32)) := ⟨_, rfl⟩
          have h := h z27 ez27
          refine lv_iinc (v := z27) (lv' := [(5, .int z27), (0, .ref q), (1, .ref q1), (2, .int x2), (3, .int x3), (4, .int x4)]) hx hb dX0_weightInto_75 hl (k := 5) rfl (by rw [ez27]; rfl) (by decide) rfl (fun ls hl => ?_)
          refine lv_goto (tgt := 6) hx hb dX0_weightInto_78 (by decide) ?_
          exact ih _ _ _ _ _ _ h _ _ _ hP hD hS (lv_sub hl [1, 2, 3, 4, 5, 0] rfl)
        · have h := h.2 c26
          refine lv_iload hx hb dX0_weightInto_35 (lv_at hl 5 rfl) ?_
          refine lv_aload_n hx hb dX0_weightInto_37 rfl (lv_at hl 1 rfl) ?_
          refine va_getN (D := D) (ci := 5) (v := .int g1_stiff) (C := RX5) (T := TX5) (N := 4) hx hb hts in_X0_weightInto_X5 hown hK hP 0 rfl rfl 3 (by decide) (va_Nw.use rfl (nwX0_85 hN)) (fun _ h9 => h9) rfl dX0_weightInto_38 ?_
          refine lv_iconst (v := (-1)) hx hb dX0_weightInto_41 (by decide) ?_
          refine lv_ixor hx hb dX0_weightInto_42 ?_
          refine lv_iand hx hb dX0_weightInto_43 ?_
          have hp : Pt (w_X0_weightInto Y q1 q1_lengths q q_lay q_measured q_lay_places g1_links g1_folded g1_stiff u22 u23 u24 g1_lengths u25) (w_J6_bitCount_0f7a4 Y ) [] := ⟨rfl, by decide +kernel⟩
          refine go_i hp hP hD hS hA (fun _ => rfl) (va_runS (As := [.int (x5 &&& (g1_stiff ^^^ (-1 : Int32)))]) (rest := []) ⟨hx, hb, hml, hown, hts⟩ (c_J6_bitCount_0f7a4 h _) (va_cwS 1 hts gX0_weightInto_J6_bitCount_0f7a4 rfl rfl rfl (by decide +kernel) ⟨Nat.le_of_ble_eq_true rfl, Nat.le_of_ble_eq_true rfl⟩) (pre_S hp hK hN hP hD) rfl rfl hl.1 rfl (lv_room (Nat.le_of_ble_eq_true rfl)) dX0_weightInto_44 ⟨Nat.le_of_ble_eq_true rfl, Nat.le_of_ble_eq_true rfl⟩) (fun r28 u H locs h hP hD hS => ?_)
          try dsimp only at h
          have hP : va_P D vwCl (w_X0_weightInto Y q1 q1_lengths q q_lay q_measured q_lay_places g1_links g1_folded g1_stiff u22 u23 u24 g1_lengths u25) H := hP
          have hD : va_D A (w_X0_weightInto Y q1 q1_lengths q q_lay q_measured q_lay_places g1_links g1_folded g1_stiff u22 u23 u24 g1_lengths u25) := hD
          refine lv_istore (lv' := [(6, .int r28), (0, .ref q), (1, .ref q1), (2, .int x2), (3, .int x3), (4, .int x4), (5, .int x5)]) hx hb dX0_weightInto_47 hl (by decide) rfl (fun ls hl => ?_)
          refine lv_iload hx hb dX0_weightInto_49 (lv_at hl 5 rfl) ?_
          refine lv_iload_n hx hb dX0_weightInto_51 rfl (lv_at hl 3 rfl) ?_
          refine lv_iload hx hb dX0_weightInto_52 (lv_at hl 0 rfl) ?_
          have hp : Pt (w_X0_weightInto Y q1 q1_lengths q q_lay q_measured q_lay_places g1_links g1_folded g1_stiff u22 u23 u24 g1_lengths u25) (w_X7_power Y ) [] := ⟨rfl, by decide +kernel⟩
          refine go_i hp hP hD hS hA (fun _ => rfl) (va_runSN (As := [.int x2, .int r28]) (rest := [.int x4]) ⟨hx, hb, hml, hown, hts⟩ (c_X7_power h _) ⟨va_cnB 2 hts gX0_weightInto_X7_power_n88 rfl rfl rfl (nwX0_88 hN) (k_X0_weightInto_iX7 hts) (by decide +kernel) ⟨Nat.le_of_ble_eq_true rfl, Nat.le_of_ble_eq_true rfl⟩, (k_X0_weightInto_stX7_power hts), trivial⟩ (pre_S hp hK hN hP hD) rfl rfl hl.1 rfl (lv_room (Nat.le_of_ble_eq_true rfl)) dX0_weightInto_54 ⟨Nat.le_of_ble_eq_true rfl, Nat.le_of_ble_eq_true rfl⟩) (fun r29 u H locs h hP hD hS => ?_)
          try dsimp only at h
          have hP : va_P D vwCl (w_X0_weightInto Y q1 q1_lengths q q_lay q_measured q_lay_places g1_links g1_folded g1_stiff u22 u23 u24 g1_lengths u25) H := hP
          have hD : va_D A (w_X0_weightInto Y q1 q1_lengths q q_lay q_measured q_lay_places g1_links g1_folded g1_stiff u22 u23 u24 g1_lengths u25) := hD
          refine lv_bipush (v := 10) hx hb dX0_weightInto_57 (by decide) ?_
          refine lv_iload_n hx hb dX0_weightInto_59 rfl (lv_at hl 3 rfl) ?_
          refine lv_isub hx hb dX0_weightInto_60 ?_
          refine lv_aload_n hx hb dX0_weightInto_61 rfl (lv_at hl 2 rfl) ?_
          have hp : Pt (w_X0_weightInto Y q1 q1_lengths q q_lay q_measured q_lay_places g1_links g1_folded g1_stiff u22 u23 u24 g1_lengths u25) (w_X5_freeJoints Y q1 q1_lengths g1_links g1_folded g1_stiff) [0] := ⟨rfl, by decide +kernel⟩
          refine go_i hp hP hD hS hA (fun _ => rfl) (va_runV (As := []) (rest := [.int ((10 : Int32) - x2), .int r29, .int x4]) ⟨hx, hb, hml, hown, hts⟩ (c_X5_freeJoints h _) (cwV 0 hts gX0_weightInto_X5_freeJoints rfl rfl rfl (by decide +kernel) ⟨Nat.le_of_ble_eq_true rfl, Nat.le_of_ble_eq_true rfl⟩) (pre_V (b := q1) (q0 := 0) (ci := 5) (q := (RX5, TX5, 4)) hp hK hN hP hD rfl rfl) rfl rfl hl.1 rfl (lv_room (Nat.le_of_ble_eq_true rfl)) dX0_weightInto_62 ⟨Nat.le_of_ble_eq_true rfl, Nat.le_of_ble_eq_true rfl⟩) (fun r30 u H locs h hP hD hS => ?_)
          try dsimp only at h
          have hP : va_P D vwCl (w_X0_weightInto Y q1 q1_lengths q q_lay q_measured q_lay_places g1_links g1_folded g1_stiff u22 u23 u24 g1_lengths u25) H := hP
          have hD : va_D A (w_X0_weightInto Y q1 q1_lengths q q_lay q_measured q_lay_places g1_links g1_folded g1_stiff u22 u23 u24 g1_lengths u25) := hD
          refine lv_iload hx hb dX0_weightInto_65 (lv_at hl 0 rfl) ?_
          refine lv_isub hx hb dX0_weightInto_67 ?_
          have hp : Pt (w_X0_weightInto Y q1 q1_lengths q q_lay q_measured q_lay_places g1_links g1_folded g1_stiff u22 u23 u24 g1_lengths u25) (w_X7_power Y ) [] := ⟨rfl, by decide +kernel⟩
          refine go_i hp hP hD hS hA (fun _ => rfl) (va_runSN (As := [.int ((10 : Int32) - x2), .int (r30 - r28)]) (rest := [.int r29, .int x4]) ⟨hx, hb, hml, hown, hts⟩ (c_X7_power h _) ⟨va_cnB 2 hts gX0_weightInto_X7_power_n88 rfl rfl rfl (nwX0_88 hN) (k_X0_weightInto_iX7 hts) (by decide +kernel) ⟨Nat.le_of_ble_eq_true rfl, Nat.le_of_ble_eq_true rfl⟩, (k_X0_weightInto_stX7_power hts), trivial⟩ (pre_S hp hK hN hP hD) rfl rfl hl.1 rfl (lv_room (Nat.le_of_ble_eq_true rfl)) dX0_weightInto_68 ⟨Nat.le_of_ble_eq_true rfl, Nat.le_of_ble_eq_true rfl⟩) (fun r31 u H locs h hP hD hS => ?_)
          try dsimp only at h
          have hP : va_P D vwCl (w_X0_weightInto Y q1 q1_lengths q q_lay q_measured q_lay_places g1_links g1_folded g1_stiff u22 u23 u24 g1_lengths u25) H := hP
          have hD : va_D A (w_X0_weightInto Y q1 q1_lengths q q_lay q_measured q_lay_places g1_links g1_folded g1_stiff u22 u23 u24 g1_lengths u25) := hD
          refine lv_imul hx hb dX0_weightInto_71 ?_
          refine lv_iadd hx hb dX0_weightInto_72 ?_
          refine lv_topi (fun z32 ez32 => ?_)
          have h := h z32 ez32
          refine lv_istore (lv' := [(4, .int z32), (6, .int r28), (0, .ref q), (1, .ref q1), (2, .int x2), (3, .int x3), (5, .int x5)]) hx hb dX0_weightInto_73 hl (by decide) rfl (fun ls hl => ?_)
          obtain ⟨z33, ez33⟩ : ∃ y : Int32, y = (x5 + (1 : Int32)) := ⟨_, rfl⟩
          have h := h z33 ez33
          refine lv_iinc (v := z33) (lv' := [(5, .int z33), (4, .int z32), (6, .int r28), (0, .ref q), (1, .ref q1), (2, .int x2), (3, .int x3)]) hx hb dX0_weightInto_75 hl (k := 6) rfl (by rw [ez33]; rfl) (by decide) rfl (fun ls hl => ?_)
          refine lv_goto (tgt := 6) hx hb dX0_weightInto_78 (by decide) ?_
          exact ih _ _ _ _ _ _ h _ _ _ hP hD hS (lv_sub hl [3, 4, 5, 6, 1, 0] rfl)
set_option maxHeartbeats 4000000 in
set_option maxRecDepth 100000 in
theorem c_X0_weightInto {l : Launch} {D : va_G} {Y : ClassId × ClassId × ClassId} {q1 q1_lengths q q_lay q_measured q_lay_places : Nat} {g1_links g1_folded g1_stiff g_lay_links g_lay_low g_lay_high : Int32} {g1_lengths g_lay_places : Nat → Int32} {x2 x3 : Int32} {Q : Int32 → Int32 → Int32 → Int32 → (Nat → Int32) → Prop} (h : wp_X0_weightInto g1_links g1_folded g1_stiff g_lay_links g_lay_low g_lay_high g1_lengths g_lay_places x2 x3 Q) (sz : Nat) : MtI l yX0_weightInto wsX0_weightInto rm_X0_weightInto [.ref q, .ref q1, .int x2, .int x3] D Y (w_X0_weightInto Y q1 q1_lengths q q_lay q_measured q_lay_places g1_links g1_folded g1_stiff g_lay_links g_lay_low g_lay_high g1_lengths g_lay_places) (fun r (u : Int32 × Int32 × Int32 × (Nat → Int32)) => Q r u.1 u.2.1 u.2.2.1 u.2.2.2) (fun u : Int32 × Int32 × Int32 × (Nat → Int32) => (w_X0_weightInto Y q1 q1_lengths q q_lay q_measured q_lay_places g1_links g1_folded g1_stiff u.1 u.2.1 u.2.2.1 g1_lengths u.2.2.2)) sz := by
  refine ct_i (cc := cX0_weightInto) (nL := 7) (ret := (some .int)) (by decide) rfl (Nat.le_of_ble_eq_true rfl) ?_ sz
  intro p e s m below meth c A ls C hK hA hP hD hS hl
  obtain ⟨⟨hx, hb, hml, hown, hts⟩, hr, hlocks, hN⟩ := id C
  have hown : s.vm.findClass RX0 = some m.cls := hown
  have hl : lv_has ls 7 [(0, .ref q), (1, .ref q1), (2, .int x2), (3, .int x3)] := hl
  unfold wp_X0_weightInto at h
  refine lv_iconst (v := 0) hx hb dX0_weightInto_0 (by decide) ?_
  refine lv_istore (lv' := [(4, .int (0 : Int32)), (0, .ref q), (1, .ref q1), (2, .int x2), (3, .int x3)]) hx hb dX0_weightInto_1 hl (by decide) rfl (fun ls hl => ?_)
  refine lv_iconst (v := 0) hx hb dX0_weightInto_3 (by decide) ?_
  refine lv_istore (lv' := [(5, .int (0 : Int32)), (4, .int (0 : Int32)), (0, .ref q), (1, .ref q1), (2, .int x2), (3, .int x3)]) hx hb dX0_weightInto_4 hl (by decide) rfl (fun ls hl => ?_)
  obtain ⟨n, h⟩ := h
  exact L_X0_weightInto_6 C hK hA  n _ _ _ _ _ _ h _ _ _ hP hD hS (lv_sub hl [2, 3, 4, 5, 1, 0] rfl)
abbrev rm_X1_loseAll : Room := { frames := 0, cells := 0, slots := 0, locals := 0 }
theorem in_X1_loseAll_X1 : ∀ w ∈ wsX10, w ∈ wsX1_loseAll := fun _ h => List.mem_cons_of_mem _ (List.mem_append_right _ h)
theorem k_X1_loseAll_f18 {s : State} {args : Array Value} (hts : ∀ w ∈ wsX1_loseAll, w.before args s = true) : (Cond.fieldLink RX1 18 "FoldRule$History" "size" "I").before args s = true := hts _ (by decide +kernel)
set_option maxHeartbeats 4000000 in
set_option maxRecDepth 100000 in
theorem c_X1_loseAll {l : Launch} {D : va_G} {Y : ClassId × ClassId × ClassId} {q q_steps : Nat} {g_slot g_size : Int32} {Q : Int32 → Prop} (h : wp_X1_loseAll g_size Q) (sz : Nat) : MtV l yX1_loseAll wsX1_loseAll rm_X1_loseAll [.ref q] D Y (w_X1_loseAll Y q q_steps g_slot g_size) (fun (u : Int32) => Q u) (fun u : Int32 => (w_X1_loseAll Y q q_steps g_slot u)) sz := by
  refine ct_v (cc := cX1_loseAll) (nL := 1) (ret := none) (by decide) rfl (Nat.le_of_ble_eq_true rfl) ?_ sz
  intro p e s m below meth c A ls C hK hA hP hD hS hl
  obtain ⟨⟨hx, hb, hml, hown, hts⟩, hr, hlocks, hN⟩ := id C
  have hown : s.vm.findClass RX1 = some m.cls := hown
  have hl : lv_has ls 1 [(0, .ref q)] := hl
  unfold wp_X1_loseAll at h
  refine lv_aload_n hx hb dX1_loseAll_0 rfl (lv_at hl 0 rfl) ?_
  refine lv_iconst (v := 0) hx hb dX1_loseAll_1 (by decide) ?_
  refine va_put (D := D) (ci := 1) (v := .int (0 : Int32)) (ty := .int) (C := RX1) (T := TX1) (N := 3) hx hb hts in_X1_loseAll_X1 tyX1 tyX1_ok nmX1 hown hK hP hD hS 0 rfl rfl 2 (by decide) (k_X1_loseAll_f18 hts) (fun _ h9 => h9) rfl (by decide +kernel) rfl rfl (Nat.le_of_ble_eq_true rfl) dX1_loseAll_2 (fun H locs hP hD hS => ?_)
  have hP : va_P D vwCl (w_X1_loseAll Y q q_steps g_slot (0 : Int32)) H := hP
  have hD : va_D A (w_X1_loseAll Y q q_steps g_slot (0 : Int32)) := hD
  exact ret_v ((0 : Int32)) hx hb hr hlocks hK hP hD hS h dX1_loseAll_5
abbrev rm_X5_copyFrom : Room := { frames := 0, cells := 0, slots := 0, locals := 0 }
theorem in_X5_copyFrom_X5 : ∀ w ∈ wsX50, w ∈ wsX5_copyFrom := fun _ h => List.mem_cons_of_mem _ (List.mem_append_right _ h)
theorem k_X5_copyFrom_f15 {s : State} {args : Array Value} (hts : ∀ w ∈ wsX5_copyFrom, w.before args s = true) : (Cond.fieldLink RX5 15 "FoldRule$Strip" "links" "I").before args s = true := hts _ (by decide +kernel)
theorem k_X5_copyFrom_f19 {s : State} {args : Array Value} (hts : ∀ w ∈ wsX5_copyFrom, w.before args s = true) : (Cond.fieldLink RX5 19 "FoldRule$Strip" "folded" "I").before args s = true := hts _ (by decide +kernel)
theorem k_X5_copyFrom_f22 {s : State} {args : Array Value} (hts : ∀ w ∈ wsX5_copyFrom, w.before args s = true) : (Cond.fieldLink RX5 22 "FoldRule$Strip" "stiff" "I").before args s = true := hts _ (by decide +kernel)
theorem k_X5_copyFrom_f9 {s : State} {args : Array Value} (hts : ∀ w ∈ wsX5_copyFrom, w.before args s = true) : (Cond.fieldLink RX5 9 "FoldRule$Strip" "lengths" "[I").before args s = true := hts _ (by decide +kernel)
set_option maxHeartbeats 4000000 in
set_option maxRecDepth 100000 in
theorem L_X5_copyFrom_2 {p : Program} {l : Launch} {e : Env} {s : State} {m : MethodId} {args : Array Value} {below : List Frame} {meth : Method} {c : Code} {D : va_G} {Y : ClassId × ClassId × ClassId} {A : Nat → Prop} {q q_lengths q1 q1_lengths : Nat} {g_links g_folded g_stiff g1_links g1_folded g1_stiff : Int32} {g1_lengths : Nat → Int32} {Q : Int32 → Int32 → Int32 → (Nat → Int32) → Prop} (C : Ctx p s m args meth c cX5_copyFrom 3 none wsX5_copyFrom RX5) (hK : va_K D vwCl (tyS Y) s) (hA : ∀ q, s.heap.size ≤ q → A q) : ∀ (n : Nat) (x2 : Int32) (g_lengths : Nat → Int32), itr2 (B_X5_copyFrom_2 g1_links g1_folded g1_stiff g1_lengths Q) n x2 g_lengths → ∀ (H : Heap) (locs : List Loc) (ls : Array Slot), va_P D vwCl (w_X5_copyFrom Y q q_lengths q1 q1_lengths g_links g_folded g_stiff g1_links g1_folded g1_stiff g1_lengths g_lengths) H → va_D A (w_X5_copyFrom Y q q_lengths q1 q1_lengths g_links g_folded g_stiff g1_links g1_folded g1_stiff g1_lengths g_lengths) → va_S A s.heap H locs → lv_has ls 3 [(0, .ref q), (1, .ref q1), (2, .int x2)] → W p l e rm_X5_copyFrom s m args below meth c H locs 0 0 (QV below args s D Y A (fun (u : Int32 × Int32 × Int32 × (Nat → Int32)) => Q u.1 u.2.1 u.2.2.1 u.2.2.2) (fun u : Int32 × Int32 × Int32 × (Nat → Int32) => (w_X5_copyFrom Y q q_lengths q1 q1_lengths u.1 u.2.1 u.2.2.1 g1_links g1_folded g1_stiff g1_lengths u.2.2.2))) (F0 m 2 ls []) := by
  intro n
  induction n with
  | zero => intro x2 g_lengths h; exact False.elim h
  | succ n ih =>
    intro x2 g_lengths h H locs ls hP hD hS hl
    obtain ⟨⟨hx, hb, hml, hown, hts⟩, hr, hlocks, hN⟩ := id C
    have h : B_X5_copyFrom_2 g1_links g1_folded g1_stiff g1_lengths Q (itr2 (B_X5_copyFrom_2 g1_links g1_folded g1_stiff g1_lengths Q) n) x2 g_lengths := h
    unfold B_X5_copyFrom_2 at h
    refine lv_iload_n hx hb dX5_copyFrom_2 rfl (lv_at hl 2 rfl) ?_
    refine lv_bipush (v := 9) hx hb dX5_copyFrom_3 (by decide) ?_
    refine lv_icmp_ge (tgt := 26) hx hb dX5_copyFrom_5 (by decide) (fun c3 => ?_) (fun c3 => ?_)
    · have h := h.1 c3
      refine lv_aload_n hx hb dX5_copyFrom_26 rfl (lv_at hl 0 rfl) ?_
      refine lv_aload_n hx hb dX5_copyFrom_27 rfl (lv_at hl 1 rfl) ?_
      refine va_get (D := D) (ci := 5) (v := .int g1_links) (C := RX5) (T := TX5) (N := 4) hx hb hts in_X5_copyFrom_X5 hown hK hP 1 rfl rfl 1 (by decide) (k_X5_copyFrom_f15 hts) (fun _ h9 => h9) rfl dX5_copyFrom_28 ?_
      refine va_put (D := D) (ci := 5) (v := .int g1_links) (ty := .int) (C := RX5) (T := TX5) (N := 4) hx hb hts in_X5_copyFrom_X5 tyX5 tyX5_ok nmX5 hown hK hP hD hS 0 rfl rfl 1 (by decide) (k_X5_copyFrom_f15 hts) (fun _ h9 => h9) rfl (by decide +kernel) rfl rfl (Nat.le_of_ble_eq_true rfl) dX5_copyFrom_31 (fun H locs hP hD hS => ?_)
      have hP : va_P D vwCl (w_X5_copyFrom Y q q_lengths q1 q1_lengths g1_links g_folded g_stiff g1_links g1_folded g1_stiff g1_lengths g_lengths) H := hP
      have hD : va_D A (w_X5_copyFrom Y q q_lengths q1 q1_lengths g1_links g_folded g_stiff g1_links g1_folded g1_stiff g1_lengths g_lengths) := hD
      refine lv_aload_n hx hb dX5_copyFrom_34 rfl (lv_at hl 0 rfl) ?_
      refine lv_aload_n hx hb dX5_copyFrom_35 rfl (lv_at hl 1 rfl) ?_
      refine va_get (D := D) (ci := 5) (v := .int g1_folded) (C := RX5) (T := TX5) (N := 4) hx hb hts in_X5_copyFrom_X5 hown hK hP 1 rfl rfl 2 (by decide) (k_X5_copyFrom_f19 hts) (fun _ h9 => h9) rfl dX5_copyFrom_36 ?_
      refine va_put (D := D) (ci := 5) (v := .int g1_folded) (ty := .int) (C := RX5) (T := TX5) (N := 4) hx hb hts in_X5_copyFrom_X5 tyX5 tyX5_ok nmX5 hown hK hP hD hS 0 rfl rfl 2 (by decide) (k_X5_copyFrom_f19 hts) (fun _ h9 => h9) rfl (by decide +kernel) rfl rfl (Nat.le_of_ble_eq_true rfl) dX5_copyFrom_39 (fun H locs hP hD hS => ?_)
      have hP : va_P D vwCl (w_X5_copyFrom Y q q_lengths q1 q1_lengths g1_links g1_folded g_stiff g1_links g1_folded g1_stiff g1_lengths g_lengths) H := hP
      have hD : va_D A (w_X5_copyFrom Y q q_lengths q1 q1_lengths g1_links g1_folded g_stiff g1_links g1_folded g1_stiff g1_lengths g_lengths) := hD
      refine lv_aload_n hx hb dX5_copyFrom_42 rfl (lv_at hl 0 rfl) ?_
      refine lv_aload_n hx hb dX5_copyFrom_43 rfl (lv_at hl 1 rfl) ?_
      refine va_get (D := D) (ci := 5) (v := .int g1_stiff) (C := RX5) (T := TX5) (N := 4) hx hb hts in_X5_copyFrom_X5 hown hK hP 1 rfl rfl 3 (by decide) (k_X5_copyFrom_f22 hts) (fun _ h9 => h9) rfl dX5_copyFrom_44 ?_
      refine va_put (D := D) (ci := 5) (v := .int g1_stiff) (ty := .int) (C := RX5) (T := TX5) (N := 4) hx hb hts in_X5_copyFrom_X5 tyX5 tyX5_ok nmX5 hown hK hP hD hS 0 rfl rfl 3 (by decide) (k_X5_copyFrom_f22 hts) (fun _ h9 => h9) rfl (by decide +kernel) rfl rfl (Nat.le_of_ble_eq_true rfl) dX5_copyFrom_47 (fun H locs hP hD hS => ?_)
      have hP : va_P D vwCl (w_X5_copyFrom Y q q_lengths q1 q1_lengths g1_links g1_folded g1_stiff g1_links g1_folded g1_stiff g1_lengths g_lengths) H := hP
      have hD : va_D A (w_X5_copyFrom Y q q_lengths q1 q1_lengths g1_links g1_folded g1_stiff g1_links g1_folded g1_stiff g1_lengths g_lengths) := hD
      exact ret_v (g1_links, g1_folded, g1_stiff, g_lengths) hx hb hr hlocks hK hP hD hS h dX5_copyFrom_50
    · have h := h.2 c3
      refine lv_aload_n hx hb dX5_copyFrom_8 rfl (lv_at hl 0 rfl) ?_
      refine va_get (D := D) (ci := 5) (v := .ref q_lengths) (C := RX5) (T := TX5) (N := 4) hx hb hts in_X5_copyFrom_X5 hown hK hP 0 rfl rfl 0 (by decide) (k_X5_copyFrom_f9 hts) (fun _ h9 => h9) rfl dX5_copyFrom_9 ?_
      refine lv_iload_n hx hb dX5_copyFrom_12 rfl (lv_at hl 2 rfl) ?_
      refine lv_aload_n hx hb dX5_copyFrom_13 rfl (lv_at hl 1 rfl) ?_
      refine va_get (D := D) (ci := 5) (v := .ref q1_lengths) (C := RX5) (T := TX5) (N := 4) hx hb hts in_X5_copyFrom_X5 hown hK hP 1 rfl rfl 0 (by decide) (k_X5_copyFrom_f9 hts) (fun _ h9 => h9) rfl dX5_copyFrom_14 ?_
      refine lv_iload_n hx hb dX5_copyFrom_17 rfl (lv_at hl 2 rfl) ?_
      obtain ⟨hin, h⟩ := h
      refine va_iald hx hb hK hP 2 0 rfl rfl hin dX5_copyFrom_18 ?_
      refine lv_topi (fun z4 ez4 => ?_)
      have h := h z4 ez4
      obtain ⟨hin, h⟩ := h
      refine va_iast hx hb hK hP hD hS 3 0 rfl rfl hin dX5_copyFrom_19 (fun H locs hP hD hS => ?_)
      have hP : va_P D vwCl (w_X5_copyFrom Y q q_lengths q1 q1_lengths g_links g_folded g_stiff g1_links g1_folded g1_stiff g1_lengths (upd g_lengths (x2).toNatClampNeg z4)) H := hP
      have hD : va_D A (w_X5_copyFrom Y q q_lengths q1 q1_lengths g_links g_folded g_stiff g1_links g1_folded g1_stiff g1_lengths (upd g_lengths (x2).toNatClampNeg z4)) := hD
      obtain ⟨z5, ez5⟩ : ∃ y : Int32, y = (x2 + (1 : Int32)) := ⟨_, rfl⟩
      have h := h z5 ez5
      refine lv_iinc (v := z5) (lv' := [(2, .int z5), (0, .ref q), (1, .ref q1)]) hx hb dX5_copyFrom_20 hl (k := 2) rfl (by rw [ez5]; rfl) (by decide) rfl (fun ls hl => ?_)
      refine lv_goto (tgt := 2) hx hb dX5_copyFrom_23 (by decide) ?_
      exact ih _ _ h _ _ _ hP hD hS (lv_sub hl [1, 2, 0] rfl)
set_option maxHeartbeats 4000000 in
set_option maxRecDepth 100000 in
theorem c_X5_copyFrom {l : Launch} {D : va_G} {Y : ClassId × ClassId × ClassId} {q q_lengths q1 q1_lengths : Nat} {g_links g_folded g_stiff g1_links g1_folded g1_stiff : Int32} {g1_lengths g_lengths : Nat → Int32} {Q : Int32 → Int32 → Int32 → (Nat → Int32) → Prop} (h : wp_X5_copyFrom g_links g_folded g_stiff g1_links g1_folded g1_stiff g1_lengths g_lengths Q) (sz : Nat) : MtV l yX5_copyFrom wsX5_copyFrom rm_X5_copyFrom [.ref q, .ref q1] D Y (w_X5_copyFrom Y q q_lengths q1 q1_lengths g_links g_folded g_stiff g1_links g1_folded g1_stiff g1_lengths g_lengths) (fun (u : Int32 × Int32 × Int32 × (Nat → Int32)) => Q u.1 u.2.1 u.2.2.1 u.2.2.2) (fun u : Int32 × Int32 × Int32 × (Nat → Int32) => (w_X5_copyFrom Y q q_lengths q1 q1_lengths u.1 u.2.1 u.2.2.1 g1_links g1_folded g1_stiff g1_lengths u.2.2.2)) sz := by
  refine ct_v (cc := cX5_copyFrom) (nL := 3) (ret := none) (by decide) rfl (Nat.le_of_ble_eq_true rfl) ?_ sz
  intro p e s m below meth c A ls C hK hA hP hD hS hl
  obtain ⟨⟨hx, hb, hml, hown, hts⟩, hr, hlocks, hN⟩ := id C
  have hown : s.vm.findClass RX5 = some m.cls := hown
  have hl : lv_has ls 3 [(0, .ref q), (1, .ref q1)] := hl
  unfold wp_X5_copyFrom at h
  refine lv_iconst (v := 0) hx hb dX5_copyFrom_0 (by decide) ?_
  refine lv_istore_n (lv' := [(2, .int (0 : Int32)), (0, .ref q), (1, .ref q1)]) hx hb dX5_copyFrom_1 rfl hl (by decide) rfl (fun ls hl => ?_)
  obtain ⟨n, h⟩ := h
  exact L_X5_copyFrom_2 C hK hA  n _ _ h _ _ _ hP hD hS (lv_sub hl [1, 2, 0] rfl)
abbrev rm_X1_remember : Room := { frames := 1, cells := 0, slots := 0, locals := 22 }
theorem in_X1_remember_X1 : ∀ w ∈ wsX10, w ∈ wsX1_remember := fun _ h => List.mem_cons_of_mem _ (List.mem_append_left _ (List.mem_append_right _ h))
theorem k_X1_remember_f11 {s : State} {args : Array Value} (hts : ∀ w ∈ wsX1_remember, w.before args s = true) : (Cond.fieldLink RX1 11 "FoldRule$History" "steps" "[LFoldRule$Strip;").before args s = true := hts _ (by decide +kernel)
theorem k_X1_remember_f22 {s : State} {args : Array Value} (hts : ∀ w ∈ wsX1_remember, w.before args s = true) : (Cond.fieldLink RX1 22 "FoldRule$History" "slot" "I").before args s = true := hts _ (by decide +kernel)
theorem k_X1_remember_f18 {s : State} {args : Array Value} (hts : ∀ w ∈ wsX1_remember, w.before args s = true) : (Cond.fieldLink RX1 18 "FoldRule$History" "size" "I").before args s = true := hts _ (by decide +kernel)
theorem k_X1_remember_m29 {s : State} {args : Array Value} (hts : ∀ w ∈ wsX1_remember, w.before args s = true) : (Cond.methodLink RX1 29 Lib.Math.min.name).before args s = true := hts _ (by decide +kernel)
theorem k_X1_remember_smin {s : State} {args : Array Value} (hts : ∀ w ∈ wsX1_remember, w.before args s = true) : (Cond.static Lib.Math.min.name).before args s = true := hts _ (by decide +kernel)
theorem k_X1_remember_imath {s : State} {args : Array Value} (hts : ∀ w ∈ wsX1_remember, w.before args s = true) : (Cond.initialized "java/lang/Math").before args s = true := hts _ (by decide +kernel)
theorem k_X1_remember_bmin {s : State} {args : Array Value} (hts : ∀ w ∈ wsX1_remember, w.before args s = true) : (Cond.code Lib.Math.min.name Lib.Math.min.code 2 (some .int)).before args s = true := hts _ (by decide +kernel)
set_option maxHeartbeats 4000000 in
set_option maxRecDepth 100000 in
theorem c_X1_remember {l : Launch} {D : va_G} {Y : ClassId × ClassId × ClassId} {q q_steps : Nat} {q_steps_E q_steps_E_lengths : Nat → Nat} {q1 q1_lengths : Nat} {g_slot g_size : Int32} {g_steps_E_links g_steps_E_folded g_steps_E_stiff : Nat → Int32} {g1_links g1_folded g1_stiff : Int32} {g1_lengths : Nat → Int32} {g_steps_E_lengths : Nat → Nat → Int32} {Q : Int32 → Int32 → (Nat → Int32) → (Nat → Int32) → (Nat → Int32) → (Nat → Nat → Int32) → Prop} (h : wp_X1_remember g_slot g_size g_steps_E_links g_steps_E_folded g_steps_E_stiff g1_links g1_folded g1_stiff g1_lengths g_steps_E_lengths Q) (sz : Nat) : MtV l yX1_remember wsX1_remember rm_X1_remember [.ref q, .ref q1] D Y (w_X1_remember Y q q_steps q_steps_E q_steps_E_lengths q1 q1_lengths g_slot g_size g_steps_E_links g_steps_E_folded g_steps_E_stiff g1_links g1_folded g1_stiff g1_lengths g_steps_E_lengths) (fun (u : Int32 × Int32 × (Nat → Int32) × (Nat → Int32) × (Nat → Int32) × (Nat → Nat → Int32)) => Q u.1 u.2.1 u.2.2.1 u.2.2.2.1 u.2.2.2.2.1 u.2.2.2.2.2) (fun u : Int32 × Int32 × (Nat → Int32) × (Nat → Int32) × (Nat → Int32) × (Nat → Nat → Int32) => (w_X1_remember Y q q_steps q_steps_E q_steps_E_lengths q1 q1_lengths u.1 u.2.1 u.2.2.1 u.2.2.2.1 u.2.2.2.2.1 g1_links g1_folded g1_stiff g1_lengths u.2.2.2.2.2)) sz := by
  refine ct_v (cc := cX1_remember) (nL := 2) (ret := none) (by decide) rfl (Nat.le_of_ble_eq_true rfl) ?_ sz
  intro p e s m below meth c A ls C hK hA hP hD hS hl
  obtain ⟨⟨hx, hb, hml, hown, hts⟩, hr, hlocks, hN⟩ := id C
  have hown : s.vm.findClass RX1 = some m.cls := hown
  have hl : lv_has ls 2 [(0, .ref q), (1, .ref q1)] := hl
  unfold wp_X1_remember at h
  refine lv_aload_n hx hb dX1_remember_0 rfl (lv_at hl 0 rfl) ?_
  refine va_get (D := D) (ci := 1) (v := .ref q_steps) (C := RX1) (T := TX1) (N := 3) hx hb hts in_X1_remember_X1 hown hK hP 0 rfl rfl 0 (by decide) (k_X1_remember_f11 hts) (fun _ h9 => h9) rfl dX1_remember_1 ?_
  refine lv_aload_n hx hb dX1_remember_4 rfl (lv_at hl 0 rfl) ?_
  refine va_get (D := D) (ci := 1) (v := .int g_slot) (C := RX1) (T := TX1) (N := 3) hx hb hts in_X1_remember_X1 hown hK hP 0 rfl rfl 1 (by decide) (k_X1_remember_f22 hts) (fun _ h9 => h9) rfl dX1_remember_5 ?_
  obtain ⟨hin, h⟩ := h
  refine va_aldq (n := 10) (f := fun j => some (q_steps_E j)) (C := "FoldRule$Strip") hx hb hK hP 1 2 rfl rfl hin dX1_remember_8 ?_
  obtain ⟨k8, ek8⟩ : ∃ k : Nat, k = (g_slot).toNatClampNeg := ⟨_, rfl⟩
  have h := h k8 ek8
  have lk8 : k8 < 10 := by rw [ek8]; exact Nat.not_le.mp (fun q => hin (Or.inr q))
  rcases (show k8 = 0 ∨ k8 = 1 ∨ k8 = 2 ∨ k8 = 3 ∨ k8 = 4 ∨ k8 = 5 ∨ k8 = 6 ∨ k8 = 7 ∨ k8 = 8 ∨ k8 = 9 by omega) with rfl | rfl | rfl | rfl | rfl | rfl | rfl | rfl | rfl | rfl
  · refine W.eq (g2 := F0 m 9 ls [.ref (q_steps_E 0)]) (by rw [← ek8]; rfl) ?_
    refine lv_aload_n hx hb dX1_remember_9 rfl (lv_at hl 1 rfl) ?_
    have hp : Pt (w_X1_remember Y q q_steps q_steps_E q_steps_E_lengths q1 q1_lengths g_slot g_size g_steps_E_links g_steps_E_folded g_steps_E_stiff g1_links g1_folded g1_stiff g1_lengths g_steps_E_lengths) (w_X5_copyFrom Y (q_steps_E 0) (q_steps_E_lengths 0) q1 q1_lengths (g_steps_E_links 0) (g_steps_E_folded 0) (g_steps_E_stiff 0) g1_links g1_folded g1_stiff g1_lengths (g_steps_E_lengths 0)) [2, 12, 13, 14] := ⟨rfl, by decide +kernel⟩
    refine go_v hp hP hD hS hA (fun _ => rfl) (va_runV (As := [.ref q1]) (rest := []) ⟨hx, hb, hml, hown, hts⟩ (c_X5_copyFrom h _) (cwV 1 hts gX1_remember_X5_copyFrom rfl rfl rfl (by decide +kernel) ⟨Nat.le_of_ble_eq_true rfl, Nat.le_of_ble_eq_true rfl⟩) (pre_V (b := (q_steps_E 0)) (q0 := 0) (ci := 5) (q := (RX5, TX5, 4)) hp hK hN hP hD rfl rfl) rfl rfl hl.1 rfl (lv_room (Nat.le_of_ble_eq_true rfl)) dX1_remember_10 ⟨Nat.le_of_ble_eq_true rfl, Nat.le_of_ble_eq_true rfl⟩) (fun u H locs h hP hD hS => ?_)
    obtain ⟨u10, u11, u12, u13⟩ := u
    try dsimp only at h
    have hP : va_P D vwCl (w_X1_remember Y q q_steps q_steps_E q_steps_E_lengths q1 q1_lengths g_slot g_size (va_up g_steps_E_links 0 u10) (va_up g_steps_E_folded 0 u11) (va_up g_steps_E_stiff 0 u12) g1_links g1_folded g1_stiff g1_lengths (va_up g_steps_E_lengths 0 u13)) H := hP
    have hD : va_D A (w_X1_remember Y q q_steps q_steps_E q_steps_E_lengths q1 q1_lengths g_slot g_size (va_up g_steps_E_links 0 u10) (va_up g_steps_E_folded 0 u11) (va_up g_steps_E_stiff 0 u12) g1_links g1_folded g1_stiff g1_lengths (va_up g_steps_E_lengths 0 u13)) := hD
    refine lv_aload_n hx hb dX1_remember_13 rfl (lv_at hl 0 rfl) ?_
    refine lv_aload_n hx hb dX1_remember_14 rfl (lv_at hl 0 rfl) ?_
    refine va_get (D := D) (ci := 1) (v := .int g_slot) (C := RX1) (T := TX1) (N := 3) hx hb hts in_X1_remember_X1 hown hK hP 0 rfl rfl 1 (by decide) (k_X1_remember_f22 hts) (fun _ h9 => h9) rfl dX1_remember_15 ?_
    refine lv_iconst (v := 1) hx hb dX1_remember_18 (by decide) ?_
    refine lv_iadd hx hb dX1_remember_19 ?_
    refine lv_bipush (v := 10) hx hb dX1_remember_20 (by decide) ?_
    obtain ⟨hne, h⟩ := h
    refine lv_irem hx hb dX1_remember_22 hne ?_
    refine lv_topi (fun z14 ez14 => ?_)
    have h := h z14 ez14
    refine va_put (D := D) (ci := 1) (v := .int z14) (ty := .int) (C := RX1) (T := TX1) (N := 3) hx hb hts in_X1_remember_X1 tyX1 tyX1_ok nmX1 hown hK hP hD hS 0 rfl rfl 1 (by decide) (k_X1_remember_f22 hts) (fun _ h9 => h9) rfl (by decide +kernel) rfl rfl (Nat.le_of_ble_eq_true rfl) dX1_remember_23 (fun H locs hP hD hS => ?_)
    have hP : va_P D vwCl (w_X1_remember Y q q_steps q_steps_E q_steps_E_lengths q1 q1_lengths z14 g_size (va_up g_steps_E_links 0 u10) (va_up g_steps_E_folded 0 u11) (va_up g_steps_E_stiff 0 u12) g1_links g1_folded g1_stiff g1_lengths (va_up g_steps_E_lengths 0 u13)) H := hP
    have hD : va_D A (w_X1_remember Y q q_steps q_steps_E q_steps_E_lengths q1 q1_lengths z14 g_size (va_up g_steps_E_links 0 u10) (va_up g_steps_E_folded 0 u11) (va_up g_steps_E_stiff 0 u12) g1_links g1_folded g1_stiff g1_lengths (va_up g_steps_E_lengths 0 u13)) := hD
    refine lv_aload_n hx hb dX1_remember_26 rfl (lv_at hl 0 rfl) ?_
    refine lv_aload_n hx hb dX1_remember_27 rfl (lv_at hl 0 rfl) ?_
    refine va_get (D := D) (ci := 1) (v := .int g_size) (C := RX1) (T := TX1) (N := 3) hx hb hts in_X1_remember_X1 hown hK hP 0 rfl rfl 2 (by decide) (k_X1_remember_f18 hts) (fun _ h9 => h9) rfl dX1_remember_28 ?_
    refine lv_iconst (v := 1) hx hb dX1_remember_31 (by decide) ?_
    refine lv_iadd hx hb dX1_remember_32 ?_
    refine lv_bipush (v := 10) hx hb dX1_remember_33 (by decide) ?_
    refine va_mmin hx hb (hml.trans hl.1.symm) hown (k_X1_remember_m29 hts) (k_X1_remember_smin hts) (k_X1_remember_imath hts) (k_X1_remember_bmin hts) (Nat.le_of_ble_eq_true rfl) (Nat.le_of_ble_eq_true rfl) (Nat.le_of_ble_eq_true rfl) (Nat.le_of_ble_eq_true rfl) dX1_remember_35 ?_
    refine lv_topi (fun z15 ez15 => ?_)
    have h := h z15 ez15
    refine va_put (D := D) (ci := 1) (v := .int z15) (ty := .int) (C := RX1) (T := TX1) (N := 3) hx hb hts in_X1_remember_X1 tyX1 tyX1_ok nmX1 hown hK hP hD hS 0 rfl rfl 2 (by decide) (k_X1_remember_f18 hts) (fun _ h9 => h9) rfl (by decide +kernel) rfl rfl (Nat.le_of_ble_eq_true rfl) dX1_remember_38 (fun H locs hP hD hS => ?_)
    have hP : va_P D vwCl (w_X1_remember Y q q_steps q_steps_E q_steps_E_lengths q1 q1_lengths z14 z15 (va_up g_steps_E_links 0 u10) (va_up g_steps_E_folded 0 u11) (va_up g_steps_E_stiff 0 u12) g1_links g1_folded g1_stiff g1_lengths (va_up g_steps_E_lengths 0 u13)) H := hP
    have hD : va_D A (w_X1_remember Y q q_steps q_steps_E q_steps_E_lengths q1 q1_lengths z14 z15 (va_up g_steps_E_links 0 u10) (va_up g_steps_E_folded 0 u11) (va_up g_steps_E_stiff 0 u12) g1_links g1_folded g1_stiff g1_lengths (va_up g_steps_E_lengths 0 u13)) := hD
    exact ret_v (z14, z15, (va_up g_steps_E_links 0 u10), (va_up g_steps_E_folded 0 u11), (va_up g_steps_E_stiff 0 u12), (va_up g_steps_E_lengths 0 u13)) hx hb hr hlocks hK hP hD hS h dX1_remember_41
  · refine W.eq (g2 := F0 m 9 ls [.ref (q_steps_E 1)]) (by rw [← ek8]; rfl) ?_
    refine lv_aload_n hx hb dX1_remember_9 rfl (lv_at hl 1 rfl) ?_
    have hp : Pt (w_X1_remember Y q q_steps q_steps_E q_steps_E_lengths q1 q1_lengths g_slot g_size g_steps_E_links g_steps_E_folded g_steps_E_stiff g1_links g1_folded g1_stiff g1_lengths g_steps_E_lengths) (w_X5_copyFrom Y (q_steps_E 1) (q_steps_E_lengths 1) q1 q1_lengths (g_steps_E_links 1) (g_steps_E_folded 1) (g_steps_E_stiff 1) g1_links g1_folded g1_stiff g1_lengths (g_steps_E_lengths 1)) [3, 12, 13, 15] := ⟨rfl, by decide +kernel⟩
    refine go_v hp hP hD hS hA (fun _ => rfl) (va_runV (As := [.ref q1]) (rest := []) ⟨hx, hb, hml, hown, hts⟩ (c_X5_copyFrom h _) (cwV 1 hts gX1_remember_X5_copyFrom rfl rfl rfl (by decide +kernel) ⟨Nat.le_of_ble_eq_true rfl, Nat.le_of_ble_eq_true rfl⟩) (pre_V (b := (q_steps_E 1)) (q0 := 0) (ci := 5) (q := (RX5, TX5, 4)) hp hK hN hP hD rfl rfl) rfl rfl hl.1 rfl (lv_room (Nat.le_of_ble_eq_true rfl)) dX1_remember_10 ⟨Nat.le_of_ble_eq_true rfl, Nat.le_of_ble_eq_true rfl⟩) (fun u H locs h hP hD hS => ?_)
    obtain ⟨u17, u18, u19, u20⟩ := u
    try dsimp only at h
    have hP : va_P D vwCl (w_X1_remember Y q q_steps q_steps_E q_steps_E_lengths q1 q1_lengths g_slot g_size (va_up g_steps_E_links 1 u17) (va_up g_steps_E_folded 1 u18) (va_up g_steps_E_stiff 1 u19) g1_links g1_folded g1_stiff g1_lengths (va_up g_steps_E_lengths 1 u20)) H := hP
    have hD : va_D A (w_X1_remember Y q q_steps q_steps_E q_steps_E_lengths q1 q1_lengths g_slot g_size (va_up g_steps_E_links 1 u17) (va_up g_steps_E_folded 1 u18) (va_up g_steps_E_stiff 1 u19) g1_links g1_folded g1_stiff g1_lengths (va_up g_steps_E_lengths 1 u20)) := hD
    refine lv_aload_n hx hb dX1_remember_13 rfl (lv_at hl 0 rfl) ?_
    refine lv_aload_n hx hb dX1_remember_14 rfl (lv_at hl 0 rfl) ?_
    refine va_get (D := D) (ci := 1) (v := .int g_slot) (C := RX1) (T := TX1) (N := 3) hx hb hts in_X1_remember_X1 hown hK hP 0 rfl rfl 1 (by decide) (k_X1_remember_f22 hts) (fun _ h9 => h9) rfl dX1_remember_15 ?_
    refine lv_iconst (v := 1) hx hb dX1_remember_18 (by decide) ?_
    refine lv_iadd hx hb dX1_remember_19 ?_
    refine lv_bipush (v := 10) hx hb dX1_remember_20 (by decide) ?_
    obtain ⟨hne, h⟩ := h
    refine lv_irem hx hb dX1_remember_22 hne ?_
    refine lv_topi (fun z21 ez21 => ?_)
    have h := h z21 ez21
    refine va_put (D := D) (ci := 1) (v := .int z21) (ty := .int) (C := RX1) (T := TX1) (N := 3) hx hb hts in_X1_remember_X1 tyX1 tyX1_ok nmX1 hown hK hP hD hS 0 rfl rfl 1 (by decide) (k_X1_remember_f22 hts) (fun _ h9 => h9) rfl (by decide +kernel) rfl rfl (Nat.le_of_ble_eq_true rfl) dX1_remember_23 (fun H locs hP hD hS => ?_)
    have hP : va_P D vwCl (w_X1_remember Y q q_steps q_steps_E q_steps_E_lengths q1 q1_lengths z21 g_size (va_up g_steps_E_links 1 u17) (va_up g_steps_E_folded 1 u18) (va_up g_steps_E_stiff 1 u19) g1_links g1_folded g1_stiff g1_lengths (va_up g_steps_E_lengths 1 u20)) H := hP
    have hD : va_D A (w_X1_remember Y q q_steps q_steps_E q_steps_E_lengths q1 q1_lengths z21 g_size (va_up g_steps_E_links 1 u17) (va_up g_steps_E_folded 1 u18) (va_up g_steps_E_stiff 1 u19) g1_links g1_folded g1_stiff g1_lengths (va_up g_steps_E_lengths 1 u20)) := hD
    refine lv_aload_n hx hb dX1_remember_26 rfl (lv_at hl 0 rfl) ?_
    refine lv_aload_n hx hb dX1_remember_27 rfl (lv_at hl 0 rfl) ?_
    refine va_get (D := D) (ci := 1) (v := .int g_size) (C := RX1) (T := TX1) (N := 3) hx hb hts in_X1_remember_X1 hown hK hP 0 rfl rfl 2 (by decide) (k_X1_remember_f18 hts) (fun _ h9 => h9) rfl dX1_remember_28 ?_
    refine lv_iconst (v := 1) hx hb dX1_remember_31 (by decide) ?_
    refine lv_iadd hx hb dX1_remember_32 ?_
    refine lv_bipush (v := 10) hx hb dX1_remember_33 (by decide) ?_
    refine va_mmin hx hb (hml.trans hl.1.symm) hown (k_X1_remember_m29 hts) (k_X1_remember_smin hts) (k_X1_remember_imath hts) (k_X1_remember_bmin hts) (Nat.le_of_ble_eq_true rfl) (Nat.le_of_ble_eq_true rfl) (Nat.le_of_ble_eq_true rfl) (Nat.le_of_ble_eq_true rfl) dX1_remember_35 ?_
    refine lv_topi (fun z22 ez22 => ?_)
    have h := h z22 ez22
    refine va_put (D := D) (ci := 1) (v := .int z22) (ty := .int) (C := RX1) (T := TX1) (N := 3) hx hb hts in_X1_remember_X1 tyX1 tyX1_ok nmX1 hown hK hP hD hS 0 rfl rfl 2 (by decide) (k_X1_remember_f18 hts) (fun _ h9 => h9) rfl (by decide +kernel) rfl rfl (Nat.le_of_ble_eq_true rfl) dX1_remember_38 (fun H locs hP hD hS => ?_)
    have hP : va_P D vwCl (w_X1_remember Y q q_steps q_steps_E q_steps_E_lengths q1 q1_lengths z21 z22 (va_up g_steps_E_links 1 u17) (va_up g_steps_E_folded 1 u18) (va_up g_steps_E_stiff 1 u19) g1_links g1_folded g1_stiff g1_lengths (va_up g_steps_E_lengths 1 u20)) H := hP
    have hD : va_D A (w_X1_remember Y q q_steps q_steps_E q_steps_E_lengths q1 q1_lengths z21 z22 (va_up g_steps_E_links 1 u17) (va_up g_steps_E_folded 1 u18) (va_up g_steps_E_stiff 1 u19) g1_links g1_folded g1_stiff g1_lengths (va_up g_steps_E_lengths 1 u20)) := hD
    exact ret_v (z21, z22, (va_up g_steps_E_links 1 u17), (va_up g_steps_E_folded 1 u18), (va_up g_steps_E_stiff 1 u19), (va_up g_steps_E_lengths 1 u20)) hx hb hr hlocks hK hP hD hS h dX1_remember_41
  · refine W.eq (g2 := F0 m 9 ls [.ref (q_steps_E 2)]) (by rw [← ek8]; rfl) ?_
    refine lv_aload_n hx hb dX1_remember_9 rfl (lv_at hl 1 rfl) ?_
    have hp : Pt (w_X1_remember Y q q_steps q_steps_E q_steps_E_lengths q1 q1_lengths g_slot g_size g_steps_E_links g_steps_E_folded g_steps_E_stiff g1_links g1_folded g1_stiff g1_lengths g_steps_E_lengths) (w_X5_copyFrom Y (q_steps_E 2) (q_steps_E_lengths 2) q1 q1_lengths (g_steps_E_links 2) (g_steps_E_folded 2) (g_steps_E_stiff 2) g1_links g1_folded g1_stiff g1_lengths (g_steps_E_lengths 2)) [4, 12, 13, 16] := ⟨rfl, by decide +kernel⟩
    refine go_v hp hP hD hS hA (fun _ => rfl) (va_runV (As := [.ref q1]) (rest := []) ⟨hx, hb, hml, hown, hts⟩ (c_X5_copyFrom h _) (cwV 1 hts gX1_remember_X5_copyFrom rfl rfl rfl (by decide +kernel) ⟨Nat.le_of_ble_eq_true rfl, Nat.le_of_ble_eq_true rfl⟩) (pre_V (b := (q_steps_E 2)) (q0 := 0) (ci := 5) (q := (RX5, TX5, 4)) hp hK hN hP hD rfl rfl) rfl rfl hl.1 rfl (lv_room (Nat.le_of_ble_eq_true rfl)) dX1_remember_10 ⟨Nat.le_of_ble_eq_true rfl, Nat.le_of_ble_eq_true rfl⟩) (fun u H locs h hP hD hS => ?_)
    obtain ⟨u24, u25, u26, u27⟩ := u
    try dsimp only at h
    have hP : va_P D vwCl (w_X1_remember Y q q_steps q_steps_E q_steps_E_lengths q1 q1_lengths g_slot g_size (va_up g_steps_E_links 2 u24) (va_up g_steps_E_folded 2 u25) (va_up g_steps_E_stiff 2 u26) g1_links g1_folded g1_stiff g1_lengths (va_up g_steps_E_lengths 2 u27)) H := hP
    have hD : va_D A (w_X1_remember Y q q_steps q_steps_E q_steps_E_lengths q1 q1_lengths g_slot g_size (va_up g_steps_E_links 2 u24) (va_up g_steps_E_folded 2 u25) (va_up g_steps_E_stiff 2 u26) g1_links g1_folded g1_stiff g1_lengths (va_up g_steps_E_lengths 2 u27)) := hD
    refine lv_aload_n hx hb dX1_remember_13 rfl (lv_at hl 0 rfl) ?_
    refine lv_aload_n hx hb dX1_remember_14 rfl (lv_at hl 0 rfl) ?_
    refine va_get (D := D) (ci := 1) (v := .int g_slot) (C := RX1) (T := TX1) (N := 3) hx hb hts in_X1_remember_X1 hown hK hP 0 rfl rfl 1 (by decide) (k_X1_remember_f22 hts) (fun _ h9 => h9) rfl dX1_remember_15 ?_
    refine lv_iconst (v := 1) hx hb dX1_remember_18 (by decide) ?_
    refine lv_iadd hx hb dX1_remember_19 ?_
    refine lv_bipush (v := 10) hx hb dX1_remember_20 (by decide) ?_
    obtain ⟨hne, h⟩ := h
    refine lv_irem hx hb dX1_remember_22 hne ?_
    refine lv_topi (fun z28 ez28 => ?_)
    have h := h z28 ez28
    refine va_put (D := D) (ci := 1) (v := .int z28) (ty := .int) (C := RX1) (T := TX1) (N := 3) hx hb hts in_X1_remember_X1 tyX1 tyX1_ok nmX1 hown hK hP hD hS 0 rfl rfl 1 (by decide) (k_X1_remember_f22 hts) (fun _ h9 => h9) rfl (by decide +kernel) rfl rfl (Nat.le_of_ble_eq_true rfl) dX1_remember_23 (fun H locs hP hD hS => ?_)
    have hP : va_P D vwCl (w_X1_remember Y q q_steps q_steps_E q_steps_E_lengths q1 q1_lengths z28 g_size (va_up g_steps_E_links 2 u24) (va_up g_steps_E_folded 2 u25) (va_up g_steps_E_stiff 2 u26) g1_links g1_folded g1_stiff g1_lengths (va_up g_steps_E_lengths 2 u27)) H := hP
    have hD : va_D A (w_X1_remember Y q q_steps q_steps_E q_steps_E_lengths q1 q1_lengths z28 g_size (va_up g_steps_E_links 2 u24) (va_up g_steps_E_folded 2 u25) (va_up g_steps_E_stiff 2 u26) g1_links g1_folded g1_stiff g1_lengths (va_up g_steps_E_lengths 2 u27)) := hD
    refine lv_aload_n hx hb dX1_remember_26 rfl (lv_at hl 0 rfl) ?_
    refine lv_aload_n hx hb dX1_remember_27 rfl (lv_at hl 0 rfl) ?_
    refine va_get (D := D) (ci := 1) (v := .int g_size) (C := RX1) (T := TX1) (N := 3) hx hb hts in_X1_remember_X1 hown hK hP 0 rfl rfl 2 (by decide) (k_X1_remember_f18 hts) (fun _ h9 => h9) rfl dX1_remember_28 ?_
    refine lv_iconst (v := 1) hx hb dX1_remember_31 (by decide) ?_
    refine lv_iadd hx hb dX1_remember_32 ?_
    refine lv_bipush (v := 10) hx hb dX1_remember_33 (by decide) ?_
    refine va_mmin hx hb (hml.trans hl.1.symm) hown (k_X1_remember_m29 hts) (k_X1_remember_smin hts) (k_X1_remember_imath hts) (k_X1_remember_bmin hts) (Nat.le_of_ble_eq_true rfl) (Nat.le_of_ble_eq_true rfl) (Nat.le_of_ble_eq_true rfl) (Nat.le_of_ble_eq_true rfl) dX1_remember_35 ?_
    refine lv_topi (fun z29 ez29 => ?_)
    have h := h z29 ez29
    refine va_put (D := D) (ci := 1) (v := .int z29) (ty := .int) (C := RX1) (T := TX1) (N := 3) hx hb hts in_X1_remember_X1 tyX1 tyX1_ok nmX1 hown hK hP hD hS 0 rfl rfl 2 (by decide) (k_X1_remember_f18 hts) (fun _ h9 => h9) rfl (by decide +kernel) rfl rfl (Nat.le_of_ble_eq_true rfl) dX1_remember_38 (fun H locs hP hD hS => ?_)
    have hP : va_P D vwCl (w_X1_remember Y q q_steps q_steps_E q_steps_E_lengths q1 q1_lengths z28 z29 (va_up g_steps_E_links 2 u24) (va_up g_steps_E_folded 2 u25) (va_up g_steps_E_stiff 2 u26) g1_links g1_folded g1_stiff g1_lengths (va_up g_steps_E_lengths 2 u27)) H := hP
    have hD : va_D A (w_X1_remember Y q q_steps q_steps_E q_steps_E_lengths q1 q1_lengths z28 z29 (va_up g_steps_E_links 2 u24) (va_up g_steps_E_folded 2 u25) (va_up g_steps_E_stiff 2 u26) g1_links g1_folded g1_stiff g1_lengths (va_up g_steps_E_lengths 2 u27)) := hD
    exact ret_v (z28, z29, (va_up g_steps_E_links 2 u24), (va_up g_steps_E_folded 2 u25), (va_up g_steps_E_stiff 2 u26), (va_up g_steps_E_lengths 2 u27)) hx hb hr hlocks hK hP hD hS h dX1_remember_41
  · refine W.eq (g2 := F0 m 9 ls [.ref (q_steps_E 3)]) (by rw [← ek8]; rfl) ?_
    refine lv_aload_n hx hb dX1_remember_9 rfl (lv_at hl 1 rfl) ?_
    have hp : Pt (w_X1_remember Y q q_steps q_steps_E q_steps_E_lengths q1 q1_lengths g_slot g_size g_steps_E_links g_steps_E_folded g_steps_E_stiff g1_links g1_folded g1_stiff g1_lengths g_steps_E_lengths) (w_X5_copyFrom Y (q_steps_E 3) (q_steps_E_lengths 3) q1 q1_lengths (g_steps_E_links 3) (g_steps_E_folded 3) (g_steps_E_stiff 3) g1_links g1_folded g1_stiff g1_lengths (g_steps_E_lengths 3)) [5, 12, 13, 17] := ⟨rfl, by decide +kernel⟩
    refine go_v hp hP hD hS hA (fun _ => rfl) (va_runV (As := [.ref q1]) (rest := []) ⟨hx, hb, hml, hown, hts⟩ (c_X5_copyFrom h _) (cwV 1 hts gX1_remember_X5_copyFrom rfl rfl rfl (by decide +kernel) ⟨Nat.le_of_ble_eq_true rfl, Nat.le_of_ble_eq_true rfl⟩) (pre_V (b := (q_steps_E 3)) (q0 := 0) (ci := 5) (q := (RX5, TX5, 4)) hp hK hN hP hD rfl rfl) rfl rfl hl.1 rfl (lv_room (Nat.le_of_ble_eq_true rfl)) dX1_remember_10 ⟨Nat.le_of_ble_eq_true rfl, Nat.le_of_ble_eq_true rfl⟩) (fun u H locs h hP hD hS => ?_)
    obtain ⟨u31, u32, u33, u34⟩ := u
    try dsimp only at h
    have hP : va_P D vwCl (w_X1_remember Y q q_steps q_steps_E q_steps_E_lengths q1 q1_lengths g_slot g_size (va_up g_steps_E_links 3 u31) (va_up g_steps_E_folded 3 u32) (va_up g_steps_E_stiff 3 u33) g1_links g1_folded g1_stiff g1_lengths (va_up g_steps_E_lengths 3 u34)) H := hP
    have hD : va_D A (w_X1_remember Y q q_steps q_steps_E q_steps_E_lengths q1 q1_lengths g_slot g_size (va_up g_steps_E_links 3 u31) (va_up g_steps_E_folded 3 u32) (va_up g_steps_E_stiff 3 u33) g1_links g1_folded g1_stiff g1_lengths (va_up g_steps_E_lengths 3 u34)) := hD
    refine lv_aload_n hx hb dX1_remember_13 rfl (lv_at hl 0 rfl) ?_
    refine lv_aload_n hx hb dX1_remember_14 rfl (lv_at hl 0 rfl) ?_
    refine va_get (D := D) (ci := 1) (v := .int g_slot) (C := RX1) (T := TX1) (N := 3) hx hb hts in_X1_remember_X1 hown hK hP 0 rfl rfl 1 (by decide) (k_X1_remember_f22 hts) (fun _ h9 => h9) rfl dX1_remember_15 ?_
    refine lv_iconst (v := 1) hx hb dX1_remember_18 (by decide) ?_
    refine lv_iadd hx hb dX1_remember_19 ?_
    refine lv_bipush (v := 10) hx hb dX1_remember_20 (by decide) ?_
    obtain ⟨hne, h⟩ := h
    refine lv_irem hx hb dX1_remember_22 hne ?_
    refine lv_topi (fun z35 ez35 => ?_)
    have h := h z35 ez35
    refine va_put (D := D) (ci := 1) (v := .int z35) (ty := .int) (C := RX1) (T := TX1) (N := 3) hx hb hts in_X1_remember_X1 tyX1 tyX1_ok nmX1 hown hK hP hD hS 0 rfl rfl 1 (by decide) (k_X1_remember_f22 hts) (fun _ h9 => h9) rfl (by decide +kernel) rfl rfl (Nat.le_of_ble_eq_true rfl) dX1_remember_23 (fun H locs hP hD hS => ?_)
    have hP : va_P D vwCl (w_X1_remember Y q q_steps q_steps_E q_steps_E_lengths q1 q1_lengths z35 g_size (va_up g_steps_E_links 3 u31) (va_up g_steps_E_folded 3 u32) (va_up g_steps_E_stiff 3 u33) g1_links g1_folded g1_stiff g1_lengths (va_up g_steps_E_lengths 3 u34)) H := hP
    have hD : va_D A (w_X1_remember Y q q_steps q_steps_E q_steps_E_lengths q1 q1_lengths z35 g_size (va_up g_steps_E_links 3 u31) (va_up g_steps_E_folded 3 u32) (va_up g_steps_E_stiff 3 u33) g1_links g1_folded g1_stiff g1_lengths (va_up g_steps_E_lengths 3 u34)) := hD
    refine lv_aload_n hx hb dX1_remember_26 rfl (lv_at hl 0 rfl) ?_
    refine lv_aload_n hx hb dX1_remember_27 rfl (lv_at hl 0 rfl) ?_
    refine va_get (D := D) (ci := 1) (v := .int g_size) (C := RX1) (T := TX1) (N := 3) hx hb hts in_X1_remember_X1 hown hK hP 0 rfl rfl 2 (by decide) (k_X1_remember_f18 hts) (fun _ h9 => h9) rfl dX1_remember_28 ?_
    refine lv_iconst (v := 1) hx hb dX1_remember_31 (by decide) ?_
    refine lv_iadd hx hb dX1_remember_32 ?_
    refine lv_bipush (v := 10) hx hb dX1_remember_33 (by decide) ?_
    refine va_mmin hx hb (hml.trans hl.1.symm) hown (k_X1_remember_m29 hts) (k_X1_remember_smin hts) (k_X1_remember_imath hts) (k_X1_remember_bmin hts) (Nat.le_of_ble_eq_true rfl) (Nat.le_of_ble_eq_true rfl) (Nat.le_of_ble_eq_true rfl) (Nat.le_of_ble_eq_true rfl) dX1_remember_35 ?_
    refine lv_topi (fun z36 ez36 => ?_)
    have h := h z36 ez36
    refine va_put (D := D) (ci := 1) (v := .int z36) (ty := .int) (C := RX1) (T := TX1) (N := 3) hx hb hts in_X1_remember_X1 tyX1 tyX1_ok nmX1 hown hK hP hD hS 0 rfl rfl 2 (by decide) (k_X1_remember_f18 hts) (fun _ h9 => h9) rfl (by decide +kernel) rfl rfl (Nat.le_of_ble_eq_true rfl) dX1_remember_38 (fun H locs hP hD hS => ?_)
    have hP : va_P D vwCl (w_X1_remember Y q q_steps q_steps_E q_steps_E_lengths q1 q1_lengths z35 z36 (va_up g_steps_E_links 3 u31) (va_up g_steps_E_folded 3 u32) (va_up g_steps_E_stiff 3 u33) g1_links g1_folded g1_stiff g1_lengths (va_up g_steps_E_lengths 3 u34)) H := hP
    have hD : va_D A (w_X1_remember Y q q_steps q_steps_E q_steps_E_lengths q1 q1_lengths z35 z36 (va_up g_steps_E_links 3 u31) (va_up g_steps_E_folded 3 u32) (va_up g_steps_E_stiff 3 u33) g1_links g1_folded g1_stiff g1_lengths (va_up g_steps_E_lengths 3 u34)) := hD
    exact ret_v (z35, z36, (va_up g_steps_E_links 3 u31), (va_up g_steps_E_folded 3 u32), (va_up g_steps_E_stiff 3 u33), (va_up g_steps_E_lengths 3 u34)) hx hb hr hlocks hK hP hD hS h dX1_remember_41
  · refine W.eq (g2 := F0 m 9 ls [.ref (q_steps_E 4)]) (by rw [← ek8]; rfl) ?_
    refine lv_aload_n hx hb dX1_remember_9 rfl (lv_at hl 1 rfl) ?_
    have hp : Pt (w_X1_remember Y q q_steps q_steps_E q_steps_E_lengths q1 q1_lengths g_slot g_size g_steps_E_links g_steps_E_folded g_steps_E_stiff g1_links g1_folded g1_stiff g1_lengths g_steps_E_lengths) (w_X5_copyFrom Y (q_steps_E 4) (q_steps_E_lengths 4) q1 q1_lengths (g_steps_E_links 4) (g_steps_E_folded 4) (g_steps_E_stiff 4) g1_links g1_folded g1_stiff g1_lengths (g_steps_E_lengths 4)) [6, 12, 13, 18] := ⟨rfl, by decide +kernel⟩
    refine go_v hp hP hD hS hA (fun _ => rfl) (va_runV (As := [.ref q1]) (rest := []) ⟨hx, hb, hml, hown, hts⟩ (c_X5_copyFrom h _) (cwV 1 hts gX1_remember_X5_copyFrom rfl rfl rfl (by decide +kernel) ⟨Nat.le_of_ble_eq_true rfl, Nat.le_of_ble_eq_true rfl⟩) (pre_V (b := (q_steps_E 4)) (q0 := 0) (ci := 5) (q := (RX5, TX5, 4)) hp hK hN hP hD rfl rfl) rfl rfl hl.1 rfl (lv_room (Nat.le_of_ble_eq_true rfl)) dX1_remember_10 ⟨Nat.le_of_ble_eq_true rfl, Nat.le_of_ble_eq_true rfl⟩) (fun u H locs h hP hD hS => ?_)
    obtain ⟨u38, u39, u40, u41⟩ := u
    try dsimp only at h
    have hP : va_P D vwCl (w_X1_remember Y q q_steps q_steps_E q_steps_E_lengths q1 q1_lengths g_slot g_size (va_up g_steps_E_links 4 u38) (va_up g_steps_E_folded 4 u39) (va_up g_steps_E_stiff 4 u40) g1_links g1_folded g1_stiff g1_lengths (va_up g_steps_E_lengths 4 u41)) H := hP
    have hD : va_D A (w_X1_remember Y q q_steps q_steps_E q_steps_E_lengths q1 q1_lengths g_slot g_size (va_up g_steps_E_links 4 u38) (va_up g_steps_E_folded 4 u39) (va_up g_steps_E_stiff 4 u40) g1_links g1_folded g1_stiff g1_lengths (va_up g_steps_E_lengths 4 u41)) := hD
    refine lv_aload_n hx hb dX1_remember_13 rfl (lv_at hl 0 rfl) ?_
    refine lv_aload_n hx hb dX1_remember_14 rfl (lv_at hl 0 rfl) ?_
    refine va_get (D := D) (ci := 1) (v := .int g_slot) (C := RX1) (T := TX1) (N := 3) hx hb hts in_X1_remember_X1 hown hK hP 0 rfl rfl 1 (by decide) (k_X1_remember_f22 hts) (fun _ h9 => h9) rfl dX1_remember_15 ?_
    refine lv_iconst (v := 1) hx hb dX1_remember_18 (by decide) ?_
    refine lv_iadd hx hb dX1_remember_19 ?_
    refine lv_bipush (v := 10) hx hb dX1_remember_20 (by decide) ?_
    obtain ⟨hne, h⟩ := h
    refine lv_irem hx hb dX1_remember_22 hne ?_
    refine lv_topi (fun z42 ez42 => ?_)
    have h := h z42 ez42
    refine va_put (D := D) (ci := 1) (v := .int z42) (ty := .int) (C := RX1) (T := TX1) (N := 3) hx hb hts in_X1_remember_X1 tyX1 tyX1_ok nmX1 hown hK hP hD hS 0 rfl rfl 1 (by decide) (k_X1_remember_f22 hts) (fun _ h9 => h9) rfl (by decide +kernel) rfl rfl (Nat.le_of_ble_eq_true rfl) dX1_remember_23 (fun H locs hP hD hS => ?_)
    have hP : va_P D vwCl (w_X1_remember Y q q_steps q_steps_E q_steps_E_lengths q1 q1_lengths z42 g_size (va_up g_steps_E_links 4 u38) (va_up g_steps_E_folded 4 u39) (va_up g_steps_E_stiff 4 u40) g1_links g1_folded g1_stiff g1_lengths (va_up g_steps_E_lengths 4 u41)) H := hP
    have hD : va_D A (w_X1_remember Y q q_steps q_steps_E q_steps_E_lengths q1 q1_lengths z42 g_size (va_up g_steps_E_links 4 u38) (va_up g_steps_E_folded 4 u39) (va_up g_steps_E_stiff 4 u40) g1_links g1_folded g1_stiff g1_lengths (va_up g_steps_E_lengths 4 u41)) := hD
    refine lv_aload_n hx hb dX1_remember_26 rfl (lv_at hl 0 rfl) ?_
    refine lv_aload_n hx hb dX1_remember_27 rfl (lv_at hl 0 rfl) ?_
    refine va_get (D := D) (ci := 1) (v := .int g_size) (C := RX1) (T := TX1) (N := 3) hx hb hts in_X1_remember_X1 hown hK hP 0 rfl rfl 2 (by decide) (k_X1_remember_f18 hts) (fun _ h9 => h9) rfl dX1_remember_28 ?_
    refine lv_iconst (v := 1) hx hb dX1_remember_31 (by decide) ?_
    refine lv_iadd hx hb dX1_remember_32 ?_
    refine lv_bipush (v := 10) hx hb dX1_remember_33 (by decide) ?_
    refine va_mmin hx hb (hml.trans hl.1.symm) hown (k_X1_remember_m29 hts) (k_X1_remember_smin hts) (k_X1_remember_imath hts) (k_X1_remember_bmin hts) (Nat.le_of_ble_eq_true rfl) (Nat.le_of_ble_eq_true rfl) (Nat.le_of_ble_eq_true rfl) (Nat.le_of_ble_eq_true rfl) dX1_remember_35 ?_
    refine lv_topi (fun z43 ez43 => ?_)
    have h := h z43 ez43
    refine va_put (D := D) (ci := 1) (v := .int z43) (ty := .int) (C := RX1) (T := TX1) (N := 3) hx hb hts in_X1_remember_X1 tyX1 tyX1_ok nmX1 hown hK hP hD hS 0 rfl rfl 2 (by decide) (k_X1_remember_f18 hts) (fun _ h9 => h9) rfl (by decide +kernel) rfl rfl (Nat.le_of_ble_eq_true rfl) dX1_remember_38 (fun H locs hP hD hS => ?_)
    have hP : va_P D vwCl (w_X1_remember Y q q_steps q_steps_E q_steps_E_lengths q1 q1_lengths z42 z43 (va_up g_steps_E_links 4 u38) (va_up g_steps_E_folded 4 u39) (va_up g_steps_E_stiff 4 u40) g1_links g1_folded g1_stiff g1_lengths (va_up g_steps_E_lengths 4 u41)) H := hP
    have hD : va_D A (w_X1_remember Y q q_steps q_steps_E q_steps_E_lengths q1 q1_lengths z42 z43 (va_up g_steps_E_links 4 u38) (va_up g_steps_E_folded 4 u39) (va_up g_steps_E_stiff 4 u40) g1_links g1_folded g1_stiff g1_lengths (va_up g_steps_E_lengths 4 u41)) := hD
    exact ret_v (z42, z43, (va_up g_steps_E_links 4 u38), (va_up g_steps_E_folded 4 u39), (va_up g_steps_E_stiff 4 u40), (va_up g_steps_E_lengths 4 u41)) hx hb hr hlocks hK hP hD hS h dX1_remember_41
  · refine W.eq (g2 := F0 m 9 ls [.ref (q_steps_E 5)]) (by rw [← ek8]; rfl) ?_
    refine lv_aload_n hx hb dX1_remember_9 rfl (lv_at hl 1 rfl) ?_
    have hp : Pt (w_X1_remember Y q q_steps q_steps_E q_steps_E_lengths q1 q1_lengths g_slot g_size g_steps_E_links g_steps_E_folded g_steps_E_stiff g1_links g1_folded g1_stiff g1_lengths g_steps_E_lengths) (w_X5_copyFrom Y (q_steps_E 5) (q_steps_E_lengths 5) q1 q1_lengths (g_steps_E_links 5) (g_steps_E_folded 5) (g_steps_E_stiff 5) g1_links g1_folded g1_stiff g1_lengths (g_steps_E_lengths 5)) [7, 12, 13, 19] := ⟨rfl, by decide +kernel⟩
    refine go_v hp hP hD hS hA (fun _ => rfl) (va_runV (As := [.ref q1]) (rest := []) ⟨hx, hb, hml, hown, hts⟩ (c_X5_copyFrom h _) (cwV 1 hts gX1_remember_X5_copyFrom rfl rfl rfl (by decide +kernel) ⟨Nat.le_of_ble_eq_true rfl, Nat.le_of_ble_eq_true rfl⟩) (pre_V (b := (q_steps_E 5)) (q0 := 0) (ci := 5) (q := (RX5, TX5, 4)) hp hK hN hP hD rfl rfl) rfl rfl hl.1 rfl (lv_room (Nat.le_of_ble_eq_true rfl)) dX1_remember_10 ⟨Nat.le_of_ble_eq_true rfl, Nat.le_of_ble_eq_true rfl⟩) (fun u H locs h hP hD hS => ?_)
    obtain ⟨u45, u46, u47, u48⟩ := u
    try dsimp only at h
    have hP : va_P D vwCl (w_X1_remember Y q q_steps q_steps_E q_steps_E_lengths q1 q1_lengths g_slot g_size (va_up g_steps_E_links 5 u45) (va_up g_steps_E_folded 5 u46) (va_up g_steps_E_stiff 5 u47) g1_links g1_folded g1_stiff g1_lengths (va_up g_steps_E_lengths 5 u48)) H := hP
    have hD : va_D A (w_X1_remember Y q q_steps q_steps_E q_steps_E_lengths q1 q1_lengths g_slot g_size (va_up g_steps_E_links 5 u45) (va_up g_steps_E_folded 5 u46) (va_up g_steps_E_stiff 5 u47) g1_links g1_folded g1_stiff g1_lengths (va_up g_steps_E_lengths 5 u48)) := hD
    refine lv_aload_n hx hb dX1_remember_13 rfl (lv_at hl 0 rfl) ?_
    refine lv_aload_n hx hb dX1_remember_14 rfl (lv_at hl 0 rfl) ?_
    refine va_get (D := D) (ci := 1) (v := .int g_slot) (C := RX1) (T := TX1) (N := 3) hx hb hts in_X1_remember_X1 hown hK hP 0 rfl rfl 1 (by decide) (k_X1_remember_f22 hts) (fun _ h9 => h9) rfl dX1_remember_15 ?_
    refine lv_iconst (v := 1) hx hb dX1_remember_18 (by decide) ?_
    refine lv_iadd hx hb dX1_remember_19 ?_
    refine lv_bipush (v := 10) hx hb dX1_remember_20 (by decide) ?_
    obtain ⟨hne, h⟩ := h
    refine lv_irem hx hb dX1_remember_22 hne ?_
    refine lv_topi (fun z49 ez49 => ?_)
    have h := h z49 ez49
    refine va_put (D := D) (ci := 1) (v := .int z49) (ty := .int) (C := RX1) (T := TX1) (N := 3) hx hb hts in_X1_remember_X1 tyX1 tyX1_ok nmX1 hown hK hP hD hS 0 rfl rfl 1 (by decide) (k_X1_remember_f22 hts) (fun _ h9 => h9) rfl (by decide +kernel) rfl rfl (Nat.le_of_ble_eq_true rfl) dX1_remember_23 (fun H locs hP hD hS => ?_)
    have hP : va_P D vwCl (w_X1_remember Y q q_steps q_steps_E q_steps_E_lengths q1 q1_lengths z49 g_size (va_up g_steps_E_links 5 u45) (va_up g_steps_E_folded 5 u46) (va_up g_steps_E_stiff 5 u47) g1_links g1_folded g1_stiff g1_lengths (va_up g_steps_E_lengths 5 u48)) H := hP
    have hD : va_D A (w_X1_remember Y q q_steps q_steps_E q_steps_E_lengths q1 q1_lengths z49 g_size (va_up g_steps_E_links 5 u45) (va_up g_steps_E_folded 5 u46) (va_up g_steps_E_stiff 5 u47) g1_links g1_folded g1_stiff g1_lengths (va_up g_steps_E_lengths 5 u48)) := hD
    refine lv_aload_n hx hb dX1_remember_26 rfl (lv_at hl 0 rfl) ?_
    refine lv_aload_n hx hb dX1_remember_27 rfl (lv_at hl 0 rfl) ?_
    refine va_get (D := D) (ci := 1) (v := .int g_size) (C := RX1) (T := TX1) (N := 3) hx hb hts in_X1_remember_X1 hown hK hP 0 rfl rfl 2 (by decide) (k_X1_remember_f18 hts) (fun _ h9 => h9) rfl dX1_remember_28 ?_
    refine lv_iconst (v := 1) hx hb dX1_remember_31 (by decide) ?_
    refine lv_iadd hx hb dX1_remember_32 ?_
    refine lv_bipush (v := 10) hx hb dX1_remember_33 (by decide) ?_
    refine va_mmin hx hb (hml.trans hl.1.symm) hown (k_X1_remember_m29 hts) (k_X1_remember_smin hts) (k_X1_remember_imath hts) (k_X1_remember_bmin hts) (Nat.le_of_ble_eq_true rfl) (Nat.le_of_ble_eq_true rfl) (Nat.le_of_ble_eq_true rfl) (Nat.le_of_ble_eq_true rfl) dX1_remember_35 ?_
    refine lv_topi (fun z50 ez50 => ?_)
    have h := h z50 ez50
    refine va_put (D := D) (ci := 1) (v := .int z50) (ty := .int) (C := RX1) (T := TX1) (N := 3) hx hb hts in_X1_remember_X1 tyX1 tyX1_ok nmX1 hown hK hP hD hS 0 rfl rfl 2 (by decide) (k_X1_remember_f18 hts) (fun _ h9 => h9) rfl (by decide +kernel) rfl rfl (Nat.le_of_ble_eq_true rfl) dX1_remember_38 (fun H locs hP hD hS => ?_)
    have hP : va_P D vwCl (w_X1_remember Y q q_steps q_steps_E q_steps_E_lengths q1 q1_lengths z49 z50 (va_up g_steps_E_links 5 u45) (va_up g_steps_E_folded 5 u46) (va_up g_steps_E_stiff 5 u47) g1_links g1_folded g1_stiff g1_lengths (va_up g_steps_E_lengths 5 u48)) H := hP
    have hD : va_D A (w_X1_remember Y q q_steps q_steps_E q_steps_E_lengths q1 q1_lengths z49 z50 (va_up g_steps_E_links 5 u45) (va_up g_steps_E_folded 5 u46) (va_up g_steps_E_stiff 5 u47) g1_links g1_folded g1_stiff g1_lengths (va_up g_steps_E_lengths 5 u48)) := hD
    exact ret_v (z49, z50, (va_up g_steps_E_links 5 u45), (va_up g_steps_E_folded 5 u46), (va_up g_steps_E_stiff 5 u47), (va_up g_steps_E_lengths 5 u48)) hx hb hr hlocks hK hP hD hS h dX1_remember_41
  · refine W.eq (g2 := F0 m 9 ls [.ref (q_steps_E 6)]) (by rw [← ek8]; rfl) ?_
    refine lv_aload_n hx hb dX1_remember_9 rfl (lv_at hl 1 rfl) ?_
    have hp : Pt (w_X1_remember Y q q_steps q_steps_E q_steps_E_lengths q1 q1_lengths g_slot g_size g_steps_E_links g_steps_E_folded g_steps_E_stiff g1_links g1_folded g1_stiff g1_lengths g_steps_E_lengths) (w_X5_copyFrom Y (q_steps_E 6) (q_steps_E_lengths 6) q1 q1_lengths (g_steps_E_links 6) (g_steps_E_folded 6) (g_steps_E_stiff 6) g1_links g1_folded g1_stiff g1_lengths (g_steps_E_lengths 6)) [8, 12, 13, 20] := ⟨rfl, by decide +kernel⟩
    refine go_v hp hP hD hS hA (fun _ => rfl) (va_runV (As := [.ref q1]) (rest := []) ⟨hx, hb, hml, hown, hts⟩ (c_X5_copyFrom h _) (cwV 1 hts gX1_remember_X5_copyFrom rfl rfl rfl (by decide +kernel) ⟨Nat.le_of_ble_eq_true rfl, Nat.le_of_ble_eq_true rfl⟩) (pre_V (b := (q_steps_E 6)) (q0 := 0) (ci := 5) (q := (RX5, TX5, 4)) hp hK hN hP hD rfl rfl) rfl rfl hl.1 rfl (lv_room (Nat.le_of_ble_eq_true rfl)) dX1_remember_10 ⟨Nat.le_of_ble_eq_true rfl, Nat.le_of_ble_eq_true rfl⟩) (fun u H locs h hP hD hS => ?_)
    obtain ⟨u52, u53, u54, u55⟩ := u
    try dsimp only at h
    have hP : va_P D vwCl (w_X1_remember Y q q_steps q_steps_E q_steps_E_lengths q1 q1_lengths g_slot g_size (va_up g_steps_E_links 6 u52) (va_up g_steps_E_folded 6 u53) (va_up g_steps_E_stiff 6 u54) g1_links g1_folded g1_stiff g1_lengths (va_up g_steps_E_lengths 6 u55)) H := hP
    have hD : va_D A (w_X1_remember Y q q_steps q_steps_E q_steps_E_lengths q1 q1_lengths g_slot g_size (va_up g_steps_E_links 6 u52) (va_up g_steps_E_folded 6 u53) (va_up g_steps_E_stiff 6 u54) g1_links g1_folded g1_stiff g1_lengths (va_up g_steps_E_lengths 6 u55)) := hD
    refine lv_aload_n hx hb dX1_remember_13 rfl (lv_at hl 0 rfl) ?_
    refine lv_aload_n hx hb dX1_remember_14 rfl (lv_at hl 0 rfl) ?_
    refine va_get (D := D) (ci := 1) (v := .int g_slot) (C := RX1) (T := TX1) (N := 3) hx hb hts in_X1_remember_X1 hown hK hP 0 rfl rfl 1 (by decide) (k_X1_remember_f22 hts) (fun _ h9 => h9) rfl dX1_remember_15 ?_
    refine lv_iconst (v := 1) hx hb dX1_remember_18 (by decide) ?_
    refine lv_iadd hx hb dX1_remember_19 ?_
    refine lv_bipush (v := 10) hx hb dX1_remember_20 (by decide) ?_
    obtain ⟨hne, h⟩ := h
    refine lv_irem hx hb dX1_remember_22 hne ?_
    refine lv_topi (fun z56 ez56 => ?_)
    have h := h z56 ez56
    refine va_put (D := D) (ci := 1) (v := .int z56) (ty := .int) (C := RX1) (T := TX1) (N := 3) hx hb hts in_X1_remember_X1 tyX1 tyX1_ok nmX1 hown hK hP hD hS 0 rfl rfl 1 (by decide) (k_X1_remember_f22 hts) (fun _ h9 => h9) rfl (by decide +kernel) rfl rfl (Nat.le_of_ble_eq_true rfl) dX1_remember_23 (fun H locs hP hD hS => ?_)
    have hP : va_P D vwCl (w_X1_remember Y q q_steps q_steps_E q_steps_E_lengths q1 q1_lengths z56 g_size (va_up g_steps_E_links 6 u52) (va_up g_steps_E_folded 6 u53) (va_up g_steps_E_stiff 6 u54) g1_links g1_folded g1_stiff g1_lengths (va_up g_steps_E_lengths 6 u55)) H := hP
    have hD : va_D A (w_X1_remember Y q q_steps q_steps_E q_steps_E_lengths q1 q1_lengths z56 g_size (va_up g_steps_E_links 6 u52) (va_up g_steps_E_folded 6 u53) (va_up g_steps_E_stiff 6 u54) g1_links g1_folded g1_stiff g1_lengths (va_up g_steps_E_lengths 6 u55)) := hD
    refine lv_aload_n hx hb dX1_remember_26 rfl (lv_at hl 0 rfl) ?_
    refine lv_aload_n hx hb dX1_remember_27 rfl (lv_at hl 0 rfl) ?_
    refine va_get (D := D) (ci := 1) (v := .int g_size) (C := RX1) (T := TX1) (N := 3) hx hb hts in_X1_remember_X1 hown hK hP 0 rfl rfl 2 (by decide) (k_X1_remember_f18 hts) (fun _ h9 => h9) rfl dX1_remember_28 ?_
    refine lv_iconst (v := 1) hx hb dX1_remember_31 (by decide) ?_
    refine lv_iadd hx hb dX1_remember_32 ?_
    refine lv_bipush (v := 10) hx hb dX1_remember_33 (by decide) ?_
    refine va_mmin hx hb (hml.trans hl.1.symm) hown (k_X1_remember_m29 hts) (k_X1_remember_smin hts) (k_X1_remember_imath hts) (k_X1_remember_bmin hts) (Nat.le_of_ble_eq_true rfl) (Nat.le_of_ble_eq_true rfl) (Nat.le_of_ble_eq_true rfl) (Nat.le_of_ble_eq_true rfl) dX1_remember_35 ?_
    refine lv_topi (fun z57 ez57 => ?_)
    have h := h z57 ez57
    refine va_put (D := D) (ci := 1) (v := .int z57) (ty := .int) (C := RX1) (T := TX1) (N := 3) hx hb hts in_X1_remember_X1 tyX1 tyX1_ok nmX1 hown hK hP hD hS 0 rfl rfl 2 (by decide) (k_X1_remember_f18 hts) (fun _ h9 => h9) rfl (by decide +kernel) rfl rfl (Nat.le_of_ble_eq_true rfl) dX1_remember_38 (fun H locs hP hD hS => ?_)
    have hP : va_P D vwCl (w_X1_remember Y q q_steps q_steps_E q_steps_E_lengths q1 q1_lengths z56 z57 (va_up g_steps_E_links 6 u52) (va_up g_steps_E_folded 6 u53) (va_up g_steps_E_stiff 6 u54) g1_links g1_folded g1_stiff g1_lengths (va_up g_steps_E_lengths 6 u55)) H := hP
    have hD : va_D A (w_X1_remember Y q q_steps q_steps_E q_steps_E_lengths q1 q1_lengths z56 z57 (va_up g_steps_E_links 6 u52) (va_up g_steps_E_folded 6 u53) (va_up g_steps_E_stiff 6 u54) g1_links g1_folded g1_stiff g1_lengths (va_up g_steps_E_lengths 6 u55)) := hD
    exact ret_v (z56, z57, (va_up g_steps_E_links 6 u52), (va_up g_steps_E_folded 6 u53), (va_up g_steps_E_stiff 6 u54), (va_up g_steps_E_lengths 6 u55)) hx hb hr hlocks hK hP hD hS h dX1_remember_41
  · refine W.eq (g2 := F0 m 9 ls [.ref (q_steps_E 7)]) (by rw [← ek8]; rfl) ?_
    refine lv_aload_n hx hb dX1_remember_9 rfl (lv_at hl 1 rfl) ?_
    have hp : Pt (w_X1_remember Y q q_steps q_steps_E q_steps_E_lengths q1 q1_lengths g_slot g_size g_steps_E_links g_steps_E_folded g_steps_E_stiff g1_links g1_folded g1_stiff g1_lengths g_steps_E_lengths) (w_X5_copyFrom Y (q_steps_E 7) (q_steps_E_lengths 7) q1 q1_lengths (g_steps_E_links 7) (g_steps_E_folded 7) (g_steps_E_stiff 7) g1_links g1_folded g1_stiff g1_lengths (g_steps_E_lengths 7)) [9, 12, 13, 21] := ⟨rfl, by decide +kernel⟩
    refine go_v hp hP hD hS hA (fun _ => rfl) (va_runV (As := [.ref q1]) (rest := []) ⟨hx, hb, hml, hown, hts⟩ (c_X5_copyFrom h _) (cwV 1 hts gX1_remember_X5_copyFrom rfl rfl rfl (by decide +kernel) ⟨Nat.le_of_ble_eq_true rfl, Nat.le_of_ble_eq_true rfl⟩) (pre_V (b := (q_steps_E 7)) (q0 := 0) (ci := 5) (q := (RX5, TX5, 4)) hp hK hN hP hD rfl rfl) rfl rfl hl.1 rfl (lv_room (Nat.le_of_ble_eq_true rfl)) dX1_remember_10 ⟨Nat.le_of_ble_eq_true rfl, Nat.le_of_ble_eq_true rfl⟩) (fun u H locs h hP hD hS => ?_)
    obtain ⟨u59, u60, u61, u62⟩ := u
    try dsimp only at h
    have hP : va_P D vwCl (w_X1_remember Y q q_steps q_steps_E q_steps_E_lengths q1 q1_lengths g_slot g_size (va_up g_steps_E_links 7 u59) (va_up g_steps_E_folded 7 u60) (va_up g_steps_E_stiff 7 u61) g1_links g1_folded g1_stiff g1_lengths (va_up g_steps_E_lengths 7 u62)) H := hP
    have hD : va_D A (w_X1_remember Y q q_steps q_steps_E q_steps_E_lengths q1 q1_lengths g_slot g_size (va_up g_steps_E_links 7 u59) (va_up g_steps_E_folded 7 u60) (va_up g_steps_E_stiff 7 u61) g1_links g1_folded g1_stiff g1_lengths (va_up g_steps_E_lengths 7 u62)) := hD
    refine lv_aload_n hx hb dX1_remember_13 rfl (lv_at hl 0 rfl) ?_
    refine lv_aload_n hx hb dX1_remember_14 rfl (lv_at hl 0 rfl) ?_
    refine va_get (D := D) (ci := 1) (v := .int g_slot) (C := RX1) (T := TX1) (N := 3) hx hb hts in_X1_remember_X1 hown hK hP 0 rfl rfl 1 (by decide) (k_X1_remember_f22 hts) (fun _ h9 => h9) rfl dX1_remember_15 ?_
    refine lv_iconst (v := 1) hx hb dX1_remember_18 (by decide) ?_
    refine lv_iadd hx hb dX1_remember_19 ?_
    refine lv_bipush (v := 10) hx hb dX1_remember_20 (by decide) ?_
    obtain ⟨hne, h⟩ := h
    refine lv_irem hx hb dX1_remember_22 hne ?_
    refine lv_topi (fun z63 ez63 => ?_)
    have h := h z63 ez63
    refine va_put (D := D) (ci := 1) (v := .int z63) (ty := .int) (C := RX1) (T := TX1) (N := 3) hx hb hts in_X1_remember_X1 tyX1 tyX1_ok nmX1 hown hK hP hD hS 0 rfl rfl 1 (by decide) (k_X1_remember_f22 hts) (fun _ h9 => h9) rfl (by decide +kernel) rfl rfl (Nat.le_of_ble_eq_true rfl) dX1_remember_23 (fun H locs hP hD hS => ?_)
    have hP : va_P D vwCl (w_X1_remember Y q q_steps q_steps_E q_steps_E_lengths q1 q1_lengths z63 g_size (va_up g_steps_E_links 7 u59) (va_up g_steps_E_folded 7 u60) (va_up g_steps_E_stiff 7 u61) g1_links g1_folded g1_stiff g1_lengths (va_up g_steps_E_lengths 7 u62)) H := hP
    have hD : va_D A (w_X1_remember Y q q_steps q_steps_E q_steps_E_lengths q1 q1_lengths z63 g_size (va_up g_steps_E_links 7 u59) (va_up g_steps_E_folded 7 u60) (va_up g_steps_E_stiff 7 u61) g1_links g1_folded g1_stiff g1_lengths (va_up g_steps_E_lengths 7 u62)) := hD
    refine lv_aload_n hx hb dX1_remember_26 rfl (lv_at hl 0 rfl) ?_
    refine lv_aload_n hx hb dX1_remember_27 rfl (lv_at hl 0 rfl) ?_
    refine va_get (D := D) (ci := 1) (v := .int g_size) (C := RX1) (T := TX1) (N := 3) hx hb hts in_X1_remember_X1 hown hK hP 0 rfl rfl 2 (by decide) (k_X1_remember_f18 hts) (fun _ h9 => h9) rfl dX1_remember_28 ?_
    refine lv_iconst (v := 1) hx hb dX1_remember_31 (by decide) ?_
    refine lv_iadd hx hb dX1_remember_32 ?_
    refine lv_bipush (v := 10) hx hb dX1_remember_33 (by decide) ?_
    refine va_mmin hx hb (hml.trans hl.1.symm) hown (k_X1_remember_m29 hts) (k_X1_remember_smin hts) (k_X1_remember_imath hts) (k_X1_remember_bmin hts) (Nat.le_of_ble_eq_true rfl) (Nat.le_of_ble_eq_true rfl) (Nat.le_of_ble_eq_true rfl) (Nat.le_of_ble_eq_true rfl) dX1_remember_35 ?_
    refine lv_topi (fun z64 ez64 => ?_)
    have h := h z64 ez64
    refine va_put (D := D) (ci := 1) (v := .int z64) (ty := .int) (C := RX1) (T := TX1) (N := 3) hx hb hts in_X1_remember_X1 tyX1 tyX1_ok nmX1 hown hK hP hD hS 0 rfl rfl 2 (by decide) (k_X1_remember_f18 hts) (fun _ h9 => h9) rfl (by decide +kernel) rfl rfl (Nat.le_of_ble_eq_true rfl) dX1_remember_38 (fun H locs hP hD hS => ?_)
    have hP : va_P D vwCl (w_X1_remember Y q q_steps q_steps_E q_steps_E_lengths q1 q1_lengths z63 z64 (va_up g_steps_E_links 7 u59) (va_up g_steps_E_folded 7 u60) (va_up g_steps_E_stiff 7 u61) g1_links g1_folded g1_stiff g1_lengths (va_up g_steps_E_lengths 7 u62)) H := hP
    have hD : va_D A (w_X1_remember Y q q_steps q_steps_E q_steps_E_lengths q1 q1_lengths z63 z64 (va_up g_steps_E_links 7 u59) (va_up g_steps_E_folded 7 u60) (va_up g_steps_E_stiff 7 u61) g1_links g1_folded g1_stiff g1_lengths (va_up g_steps_E_lengths 7 u62)) := hD
    exact ret_v (z63, z64, (va_up g_steps_E_links 7 u59), (va_up g_steps_E_folded 7 u60), (va_up g_steps_E_stiff 7 u61), (va_up g_steps_E_lengths 7 u62)) hx hb hr hlocks hK hP hD hS h dX1_remember_41
  · refine W.eq (g2 := F0 m 9 ls [.ref (q_steps_E 8)]) (by rw [← ek8]; rfl) ?_
    refine lv_aload_n hx hb dX1_remember_9 rfl (lv_at hl 1 rfl) ?_
    have hp : Pt (w_X1_remember Y q q_steps q_steps_E q_steps_E_lengths q1 q1_lengths g_slot g_size g_steps_E_links g_steps_E_folded g_steps_E_stiff g1_links g1_folded g1_stiff g1_lengths g_steps_E_lengths) (w_X5_copyFrom Y (q_steps_E 8) (q_steps_E_lengths 8) q1 q1_lengths (g_steps_E_links 8) (g_steps_E_folded 8) (g_steps_E_stiff 8) g1_links g1_folded g1_stiff g1_lengths (g_steps_E_lengths 8)) [10, 12, 13, 22] := ⟨rfl, by decide +kernel⟩
    refine go_v hp hP hD hS hA (fun _ => rfl) (va_runV (As := [.ref q1]) (rest := []) ⟨hx, hb, hml, hown, hts⟩ (c_X5_copyFrom h _) (cwV 1 hts gX1_remember_X5_copyFrom rfl rfl rfl (by decide +kernel) ⟨Nat.le_of_ble_eq_true rfl, Nat.le_of_ble_eq_true rfl⟩) (pre_V (b := (q_steps_E 8)) (q0 := 0) (ci := 5) (q := (RX5, TX5, 4)) hp hK hN hP hD rfl rfl) rfl rfl hl.1 rfl (lv_room (Nat.le_of_ble_eq_true rfl)) dX1_remember_10 ⟨Nat.le_of_ble_eq_true rfl, Nat.le_of_ble_eq_true rfl⟩) (fun u H locs h hP hD hS => ?_)
    obtain ⟨u66, u67, u68, u69⟩ := u
    try dsimp only at h
    have hP : va_P D vwCl (w_X1_remember Y q q_steps q_steps_E q_steps_E_lengths q1 q1_lengths g_slot g_size (va_up g_steps_E_links 8 u66) (va_up g_steps_E_folded 8 u67) (va_up g_steps_E_stiff 8 u68) g1_links g1_folded g1_stiff g1_lengths (va_up g_steps_E_lengths 8 u69)) H := hP
    have hD : va_D A (w_X1_remember Y q q_steps q_steps_E q_steps_E_lengths q1 q1_lengths g_slot g_size (va_up g_steps_E_links 8 u66) (va_up g_steps_E_folded 8 u67) (va_up g_steps_E_stiff 8 u68) g1_links g1_folded g1_stiff g1_lengths (va_up g_steps_E_lengths 8 u69)) := hD
    refine lv_aload_n hx hb dX1_remember_13 rfl (lv_at hl 0 rfl) ?_
    refine lv_aload_n hx hb dX1_remember_14 rfl (lv_at hl 0 rfl) ?_
    refine va_get (D := D) (ci := 1) (v := .int g_slot) (C := RX1) (T := TX1) (N := 3) hx hb hts in_X1_remember_X1 hown hK hP 0 rfl rfl 1 (by decide) (k_X1_remember_f22 hts) (fun _ h9 => h9) rfl dX1_remember_15 ?_
    refine lv_iconst (v := 1) hx hb dX1_remember_18 (by decide) ?_
    refine lv_iadd hx hb dX1_remember_19 ?_
    refine lv_bipush (v := 10) hx hb dX1_remember_20 (by decide) ?_
    obtain ⟨hne, h⟩ := h
    refine lv_irem hx hb dX1_remember_22 hne ?_
    refine lv_topi (fun z70 ez70 => ?_)
    have h := h z70 ez70
    refine va_put (D := D) (ci := 1) (v := .int z70) (ty := .int) (C := RX1) (T := TX1) (N := 3) hx hb hts in_X1_remember_X1 tyX1 tyX1_ok nmX1 hown hK hP hD hS 0 rfl rfl 1 (by decide) (k_X1_remember_f22 hts) (fun _ h9 => h9) rfl (by decide +kernel) rfl rfl (Nat.le_of_ble_eq_true rfl) dX1_remember_23 (fun H locs hP hD hS => ?_)
    have hP : va_P D vwCl (w_X1_remember Y q q_steps q_steps_E q_steps_E_lengths q1 q1_lengths z70 g_size (va_up g_steps_E_links 8 u66) (va_up g_steps_E_folded 8 u67) (va_up g_steps_E_stiff 8 u68) g1_links g1_folded g1_stiff g1_lengths (va_up g_steps_E_lengths 8 u69)) H := hP
    have hD : va_D A (w_X1_remember Y q q_steps q_steps_E q_steps_E_lengths q1 q1_lengths z70 g_size (va_up g_steps_E_links 8 u66) (va_up g_steps_E_folded 8 u67) (va_up g_steps_E_stiff 8 u68) g1_links g1_folded g1_stiff g1_lengths (va_up g_steps_E_lengths 8 u69)) := hD
    refine lv_aload_n hx hb dX1_remember_26 rfl (lv_at hl 0 rfl) ?_
    refine lv_aload_n hx hb dX1_remember_27 rfl (lv_at hl 0 rfl) ?_
    refine va_get (D := D) (ci := 1) (v := .int g_size) (C := RX1) (T := TX1) (N := 3) hx hb hts in_X1_remember_X1 hown hK hP 0 rfl rfl 2 (by decide) (k_X1_remember_f18 hts) (fun _ h9 => h9) rfl dX1_remember_28 ?_
    refine lv_iconst (v := 1) hx hb dX1_remember_31 (by decide) ?_
    refine lv_iadd hx hb dX1_remember_32 ?_
    refine lv_bipush (v := 10) hx hb dX1_remember_33 (by decide) ?_
    refine va_mmin hx hb (hml.trans hl.1.symm) hown (k_X1_remember_m29 hts) (k_X1_remember_smin hts) (k_X1_remember_imath hts) (k_X1_remember_bmin hts) (Nat.le_of_ble_eq_true rfl) (Nat.le_of_ble_eq_true rfl) (Nat.le_of_ble_eq_true rfl) (Nat.le_of_ble_eq_true rfl) dX1_remember_35 ?_
    refine lv_topi (fun z71 ez71 => ?_)
    have h := h z71 ez71
    refine va_put (D := D) (ci := 1) (v := .int z71) (ty := .int) (C := RX1) (T := TX1) (N := 3) hx hb hts in_X1_remember_X1 tyX1 tyX1_ok nmX1 hown hK hP hD hS 0 rfl rfl 2 (by decide) (k_X1_remember_f18 hts) (fun _ h9 => h9) rfl (by decide +kernel) rfl rfl (Nat.le_of_ble_eq_true rfl) dX1_remember_38 (fun H locs hP hD hS => ?_)
    have hP : va_P D vwCl (w_X1_remember Y q q_steps q_steps_E q_steps_E_lengths q1 q1_lengths z70 z71 (va_up g_steps_E_links 8 u66) (va_up g_steps_E_folded 8 u67) (va_up g_steps_E_stiff 8 u68) g1_links g1_folded g1_stiff g1_lengths (va_up g_steps_E_lengths 8 u69)) H := hP
    have hD : va_D A (w_X1_remember Y q q_steps q_steps_E q_steps_E_lengths q1 q1_lengths z70 z71 (va_up g_steps_E_links 8 u66) (va_up g_steps_E_folded 8 u67) (va_up g_steps_E_stiff 8 u68) g1_links g1_folded g1_stiff g1_lengths (va_up g_steps_E_lengths 8 u69)) := hD
    exact ret_v (z70, z71, (va_up g_steps_E_links 8 u66), (va_up g_steps_E_folded 8 u67), (va_up g_steps_E_stiff 8 u68), (va_up g_steps_E_lengths 8 u69)) hx hb hr hlocks hK hP hD hS h dX1_remember_41
  · refine W.eq (g2 := F0 m 9 ls [.ref (q_steps_E 9)]) (by rw [← ek8]; rfl) ?_
    refine lv_aload_n hx hb dX1_remember_9 rfl (lv_at hl 1 rfl) ?_
    have hp : Pt (w_X1_remember Y q q_steps q_steps_E q_steps_E_lengths q1 q1_lengths g_slot g_size g_steps_E_links g_steps_E_folded g_steps_E_stiff g1_links g1_folded g1_stiff g1_lengths g_steps_E_lengths) (w_X5_copyFrom Y (q_steps_E 9) (q_steps_E_lengths 9) q1 q1_lengths (g_steps_E_links 9) (g_steps_E_folded 9) (g_steps_E_stiff 9) g1_links g1_folded g1_stiff g1_lengths (g_steps_E_lengths 9)) [11, 12, 13, 23] := ⟨rfl, by decide +kernel⟩
    refine go_v hp hP hD hS hA (fun _ => rfl) (va_runV (As := [.ref q1]) (rest := []) ⟨hx, hb, hml, hown, hts⟩ (c_X5_copyFrom h _) (cwV 1 hts gX1_remember_X5_copyFrom rfl rfl rfl (by decide +kernel) ⟨Nat.le_of_ble_eq_true rfl, Nat.le_of_ble_eq_true rfl⟩) (pre_V (b := (q_steps_E 9)) (q0 := 0) (ci := 5) (q := (RX5, TX5, 4)) hp hK hN hP hD rfl rfl) rfl rfl hl.1 rfl (lv_room (Nat.le_of_ble_eq_true rfl)) dX1_remember_10 ⟨Nat.le_of_ble_eq_true rfl, Nat.le_of_ble_eq_true rfl⟩) (fun u H locs h hP hD hS => ?_)
    obtain ⟨u73, u74, u75, u76⟩ := u
    try dsimp only at h
    have hP : va_P D vwCl (w_X1_remember Y q q_steps q_steps_E q_steps_E_lengths q1 q1_lengths g_slot g_size (va_up g_steps_E_links 9 u73) (va_up g_steps_E_folded 9 u74) (va_up g_steps_E_stiff 9 u75) g1_links g1_folded g1_stiff g1_lengths (va_up g_steps_E_lengths 9 u76)) H := hP
    have hD : va_D A (w_X1_remember Y q q_steps q_steps_E q_steps_E_lengths q1 q1_lengths g_slot g_size (va_up g_steps_E_links 9 u73) (va_up g_steps_E_folded 9 u74) (va_up g_steps_E_stiff 9 u75) g1_links g1_folded g1_stiff g1_lengths (va_up g_steps_E_lengths 9 u76)) := hD
    refine lv_aload_n hx hb dX1_remember_13 rfl (lv_at hl 0 rfl) ?_
    refine lv_aload_n hx hb dX1_remember_14 rfl (lv_at hl 0 rfl) ?_
    refine va_get (D := D) (ci := 1) (v := .int g_slot) (C := RX1) (T := TX1) (N := 3) hx hb hts in_X1_remember_X1 hown hK hP 0 rfl rfl 1 (by decide) (k_X1_remember_f22 hts) (fun _ h9 => h9) rfl dX1_remember_15 ?_
    refine lv_iconst (v := 1) hx hb dX1_remember_18 (by decide) ?_
    refine lv_iadd hx hb dX1_remember_19 ?_
    refine lv_bipush (v := 10) hx hb dX1_remember_20 (by decide) ?_
    obtain ⟨hne, h⟩ := h
    refine lv_irem hx hb dX1_remember_22 hne ?_
    refine lv_topi (fun z77 ez77 => ?_)
    have h := h z77 ez77
    refine va_put (D := D) (ci := 1) (v := .int z77) (ty := .int) (C := RX1) (T := TX1) (N := 3) hx hb hts in_X1_remember_X1 tyX1 tyX1_ok nmX1 hown hK hP hD hS 0 rfl rfl 1 (by decide) (k_X1_remember_f22 hts) (fun _ h9 => h9) rfl (by decide +kernel) rfl rfl (Nat.le_of_ble_eq_true rfl) dX1_remember_23 (fun H locs hP hD hS => ?_)
    have hP : va_P D vwCl (w_X1_remember Y q q_steps q_steps_E q_steps_E_lengths q1 q1_lengths z77 g_size (va_up g_steps_E_links 9 u73) (va_up g_steps_E_folded 9 u74) (va_up g_steps_E_stiff 9 u75) g1_links g1_folded g1_stiff g1_lengths (va_up g_steps_E_lengths 9 u76)) H := hP
    have hD : va_D A (w_X1_remember Y q q_steps q_steps_E q_steps_E_lengths q1 q1_lengths z77 g_size (va_up g_steps_E_links 9 u73) (va_up g_steps_E_folded 9 u74) (va_up g_steps_E_stiff 9 u75) g1_links g1_folded g1_stiff g1_lengths (va_up g_steps_E_lengths 9 u76)) := hD
    refine lv_aload_n hx hb dX1_remember_26 rfl (lv_at hl 0 rfl) ?_
    refine lv_aload_n hx hb dX1_remember_27 rfl (lv_at hl 0 rfl) ?_
    refine va_get (D := D) (ci := 1) (v := .int g_size) (C := RX1) (T := TX1) (N := 3) hx hb hts in_X1_remember_X1 hown hK hP 0 rfl rfl 2 (by decide) (k_X1_remember_f18 hts) (fun _ h9 => h9) rfl dX1_remember_28 ?_
    refine lv_iconst (v := 1) hx hb dX1_remember_31 (by decide) ?_
    refine lv_iadd hx hb dX1_remember_32 ?_
    refine lv_bipush (v := 10) hx hb dX1_remember_33 (by decide) ?_
    refine va_mmin hx hb (hml.trans hl.1.symm) hown (k_X1_remember_m29 hts) (k_X1_remember_smin hts) (k_X1_remember_imath hts) (k_X1_remember_bmin hts) (Nat.le_of_ble_eq_true rfl) (Nat.le_of_ble_eq_true rfl) (Nat.le_of_ble_eq_true rfl) (Nat.le_of_ble_eq_true rfl) dX1_remember_35 ?_
    refine lv_topi (fun z78 ez78 => ?_)
    have h := h z78 ez78
    refine va_put (D := D) (ci := 1) (v := .int z78) (ty := .int) (C := RX1) (T := TX1) (N := 3) hx hb hts in_X1_remember_X1 tyX1 tyX1_ok nmX1 hown hK hP hD hS 0 rfl rfl 2 (by decide) (k_X1_remember_f18 hts) (fun _ h9 => h9) rfl (by decide +kernel) rfl rfl (Nat.le_of_ble_eq_true rfl) dX1_remember_38 (fun H locs hP hD hS => ?_)
    have hP : va_P D vwCl (w_X1_remember Y q q_steps q_steps_E q_steps_E_lengths q1 q1_lengths z77 z78 (va_up g_steps_E_links 9 u73) (va_up g_steps_E_folded 9 u74) (va_up g_steps_E_stiff 9 u75) g1_links g1_folded g1_stiff g1_lengths (va_up g_steps_E_lengths 9 u76)) H := hP
    have hD : va_D A (w_X1_remember Y q q_steps q_steps_E q_steps_E_lengths q1 q1_lengths z77 z78 (va_up g_steps_E_links 9 u73) (va_up g_steps_E_folded 9 u74) (va_up g_steps_E_stiff 9 u75) g1_links g1_folded g1_stiff g1_lengths (va_up g_steps_E_lengths 9 u76)) := hD
    exact ret_v (z77, z78, (va_up g_steps_E_links 9 u73), (va_up g_steps_E_folded 9 u74), (va_up g_steps_E_stiff 9 u75), (va_up g_steps_E_lengths 9 u76)) hx hb hr hlocks hK hP hD hS h dX1_remember_41
abbrev rm_X1_restore : Room := { frames := 1, cells := 0, slots := 0, locals := 22 }
theorem in_X1_restore_X1 : ∀ w ∈ wsX10, w ∈ wsX1_restore := fun _ h => List.mem_cons_of_mem _ (List.mem_append_left _ (List.mem_append_right _ h))
theorem k_X1_restore_f18 {s : State} {args : Array Value} (hts : ∀ w ∈ wsX1_restore, w.before args s = true) : (Cond.fieldLink RX1 18 "FoldRule$History" "size" "I").before args s = true := hts _ (by decide +kernel)
theorem k_X1_restore_f22 {s : State} {args : Array Value} (hts : ∀ w ∈ wsX1_restore, w.before args s = true) : (Cond.fieldLink RX1 22 "FoldRule$History" "slot" "I").before args s = true := hts _ (by decide +kernel)
theorem k_X1_restore_f11 {s : State} {args : Array Value} (hts : ∀ w ∈ wsX1_restore, w.before args s = true) : (Cond.fieldLink RX1 11 "FoldRule$History" "steps" "[LFoldRule$Strip;").before args s = true := hts _ (by decide +kernel)
set_option maxHeartbeats 4000000 in
set_option maxRecDepth 100000 in
theorem c_X1_restore {l : Launch} {D : va_G} {Y : ClassId × ClassId × ClassId} {q q_steps : Nat} {q_steps_E : Nat → Nat} {q1 q1_lengths : Nat} {q_steps_E_lengths : Nat → Nat} {g_slot g_size g1_links g1_folded g1_stiff : Int32} {g_steps_E_links g_steps_E_folded g_steps_E_stiff : Nat → Int32} {g_steps_E_lengths : Nat → Nat → Int32} {g1_lengths : Nat → Int32} {Q : Int32 → Int32 → Int32 → Int32 → Int32 → (Nat → Int32) → Prop} (h : wp_X1_restore g_slot g_size g1_links g1_folded g1_stiff g_steps_E_links g_steps_E_folded g_steps_E_stiff g_steps_E_lengths g1_lengths Q) (sz : Nat) : MtV l yX1_restore wsX1_restore rm_X1_restore [.ref q, .ref q1] D Y (w_X1_restore Y q q_steps q_steps_E q1 q1_lengths q_steps_E_lengths g_slot g_size g1_links g1_folded g1_stiff g_steps_E_links g_steps_E_folded g_steps_E_stiff g_steps_E_lengths g1_lengths) (fun (u : Int32 × Int32 × Int32 × Int32 × Int32 × (Nat → Int32)) => Q u.1 u.2.1 u.2.2.1 u.2.2.2.1 u.2.2.2.2.1 u.2.2.2.2.2) (fun u : Int32 × Int32 × Int32 × Int32 × Int32 × (Nat → Int32) => (w_X1_restore Y q q_steps q_steps_E q1 q1_lengths q_steps_E_lengths u.1 u.2.1 u.2.2.1 u.2.2.2.1 u.2.2.2.2.1 g_steps_E_links g_steps_E_folded g_steps_E_stiff g_steps_E_lengths u.2.2.2.2.2)) sz := by
  refine ct_v (cc := cX1_restore) (nL := 2) (ret := none) (by decide) rfl (Nat.le_of_ble_eq_true rfl) ?_ sz
  intro p e s m below meth c A ls C hK hA hP hD hS hl
  obtain ⟨⟨hx, hb, hml, hown, hts⟩, hr, hlocks, hN⟩ := id C
  have hown : s.vm.findClass RX1 = some m.cls := hown
  have hl : lv_has ls 2 [(0, .ref q), (1, .ref q1)] := hl
  unfold wp_X1_restore at h
  refine lv_aload_n hx hb dX1_restore_0 rfl (lv_at hl 0 rfl) ?_
  refine va_get (D := D) (ci := 1) (v := .int g_size) (C := RX1) (T := TX1) (N := 3) hx hb hts in_X1_restore_X1 hown hK hP 0 rfl rfl 2 (by decide) (k_X1_restore_f18 hts) (fun _ h9 => h9) rfl dX1_restore_1 ?_
  refine lv_if_le (tgt := 46) hx hb dX1_restore_4 (by decide) (fun c8 => ?_) (fun c8 => ?_)
  · have h := h.1 c8
    exact ret_v (g_slot, g_size, g1_links, g1_folded, g1_stiff, g1_lengths) hx hb hr hlocks hK hP hD hS h dX1_restore_46
  · have h := h.2 c8
    refine lv_aload_n hx hb dX1_restore_7 rfl (lv_at hl 0 rfl) ?_
    refine lv_aload_n hx hb dX1_restore_8 rfl (lv_at hl 0 rfl) ?_
    refine va_get (D := D) (ci := 1) (v := .int g_slot) (C := RX1) (T := TX1) (N := 3) hx hb hts in_X1_restore_X1 hown hK hP 0 rfl rfl 1 (by decide) (k_X1_restore_f22 hts) (fun _ h9 => h9) rfl dX1_restore_9 ?_
    refine lv_bipush (v := 10) hx hb dX1_restore_12 (by decide) ?_
    refine lv_iadd hx hb dX1_restore_14 ?_
    refine lv_iconst (v := 1) hx hb dX1_restore_15 (by decide) ?_
    refine lv_isub hx hb dX1_restore_16 ?_
    refine lv_bipush (v := 10) hx hb dX1_restore_17 (by decide) ?_
    obtain ⟨hne, h⟩ := h
    refine lv_irem hx hb dX1_restore_19 hne ?_
    refine lv_topi (fun z9 ez9 => ?_)
    have h := h z9 ez9
    refine va_put (D := D) (ci := 1) (v := .int z9) (ty := .int) (C := RX1) (T := TX1) (N := 3) hx hb hts in_X1_restore_X1 tyX1 tyX1_ok nmX1 hown hK hP hD hS 0 rfl rfl 1 (by decide) (k_X1_restore_f22 hts) (fun _ h9 => h9) rfl (by decide +kernel) rfl rfl (Nat.le_of_ble_eq_true rfl) dX1_restore_20 (fun H locs hP hD hS => ?_)
    have hP : va_P D vwCl (w_X1_restore Y q q_steps q_steps_E q1 q1_lengths q_steps_E_lengths z9 g_size g1_links g1_folded g1_stiff g_steps_E_links g_steps_E_folded g_steps_E_stiff g_steps_E_lengths g1_lengths) H := hP
    have hD : va_D A (w_X1_restore Y q q_steps q_steps_E q1 q1_lengths q_steps_E_lengths z9 g_size g1_links g1_folded g1_stiff g_steps_E_links g_steps_E_folded g_steps_E_stiff g_steps_E_lengths g1_lengths) := hD
    refine lv_aload_n hx hb dX1_restore_23 rfl (lv_at hl 0 rfl) ?_
    refine lv_dup hx hb dX1_restore_24 rfl ?_
    refine va_get (D := D) (ci := 1) (v := .int g_size) (C := RX1) (T := TX1) (N := 3) hx hb hts in_X1_restore_X1 hown hK hP 0 rfl rfl 2 (by decide) (k_X1_restore_f18 hts) (fun _ h9 => h9) rfl dX1_restore_25 ?_
    refine lv_iconst (v := 1) hx hb dX1_restore_28 (by decide) ?_
    refine lv_isub hx hb dX1_restore_29 ?_
    refine lv_topi (fun z10 ez10 => ?_)
    have h := h z10 ez10
    refine va_put (D := D) (ci := 1) (v := .int z10) (ty := .int) (C := RX1) (T := TX1) (N := 3) hx hb hts in_X1_restore_X1 tyX1 tyX1_ok nmX1 hown hK hP hD hS 0 rfl rfl 2 (by decide) (k_X1_restore_f18 hts) (fun _ h9 => h9) rfl (by decide +kernel) rfl rfl (Nat.le_of_ble_eq_true rfl) dX1_restore_30 (fun H locs hP hD hS => ?_)
    have hP : va_P D vwCl (w_X1_restore Y q q_steps q_steps_E q1 q1_lengths q_steps_E_lengths z9 z10 g1_links g1_folded g1_stiff g_steps_E_links g_steps_E_folded g_steps_E_stiff g_steps_E_lengths g1_lengths) H := hP
    have hD : va_D A (w_X1_restore Y q q_steps q_steps_E q1 q1_lengths q_steps_E_lengths z9 z10 g1_links g1_folded g1_stiff g_steps_E_links g_steps_E_folded g_steps_E_stiff g_steps_E_lengths g1_lengths) := hD
    refine lv_aload_n hx hb dX1_restore_33 rfl (lv_at hl 1 rfl) ?_
    refine lv_aload_n hx hb dX1_restore_34 rfl (lv_at hl 0 rfl) ?_
    refine va_get (D := D) (ci := 1) (v := .ref q_steps) (C := RX1) (T := TX1) (N := 3) hx hb hts in_X1_restore_X1 hown hK hP 0 rfl rfl 0 (by decide) (k_X1_restore_f11 hts) (fun _ h9 => h9) rfl dX1_restore_35 ?_
    refine lv_aload_n hx hb dX1_restore_38 rfl (lv_at hl 0 rfl) ?_
    refine va_get (D := D) (ci := 1) (v := .int z9) (C := RX1) (T := TX1) (N := 3) hx hb hts in_X1_restore_X1 hown hK hP 0 rfl rfl 1 (by decide) (k_X1_restore_f22 hts) (fun _ h9 => h9) rfl dX1_restore_39 ?_
    obtain ⟨hin, h⟩ := h
    refine va_aldq (n := 10) (f := fun j => some (q_steps_E j)) (C := "FoldRule$Strip") hx hb hK hP 1 2 rfl rfl hin dX1_restore_42 ?_
    obtain ⟨k11, ek11⟩ : ∃ k : Nat, k = (z9).toNatClampNeg := ⟨_, rfl⟩
    have h := h k11 ek11
    have lk11 : k11 < 10 := by rw [ek11]; exact Nat.not_le.mp (fun q => hin (Or.inr q))
    rcases (show k11 = 0 ∨ k11 = 1 ∨ k11 = 2 ∨ k11 = 3 ∨ k11 = 4 ∨ k11 = 5 ∨ k11 = 6 ∨ k11 = 7 ∨ k11 = 8 ∨ k11 = 9 by omega) with rfl | rfl | rfl | rfl | rfl | rfl | rfl | rfl | rfl | rfl
    · refine W.eq (g2 := F0 m 43 ls [.ref (q_steps_E 0), .ref q1]) (by rw [← ek11]; rfl) ?_
      have hp : Pt (w_X1_restore Y q q_steps q_steps_E q1 q1_lengths q_steps_E_lengths z9 z10 g1_links g1_folded g1_stiff g_steps_E_links g_steps_E_folded g_steps_E_stiff g_steps_E_lengths g1_lengths) (w_X5_copyFrom Y q1 q1_lengths (q_steps_E 0) (q_steps_E_lengths 0) g1_links g1_folded g1_stiff (g_steps_E_links 0) (g_steps_E_folded 0) (g_steps_E_stiff 0) (g_steps_E_lengths 0) g1_lengths) [2, 3, 13, 23] := ⟨rfl, by decide +kernel⟩
      refine go_v hp hP hD hS hA (fun _ => rfl) (va_runV (As := [.ref (q_steps_E 0)]) (rest := []) ⟨hx, hb, hml, hown, hts⟩ (c_X5_copyFrom h _) (cwV 1 hts gX1_restore_X5_copyFrom rfl rfl rfl (by decide +kernel) ⟨Nat.le_of_ble_eq_true rfl, Nat.le_of_ble_eq_true rfl⟩) (pre_V (b := q1) (q0 := 0) (ci := 5) (q := (RX5, TX5, 4)) hp hK hN hP hD rfl rfl) rfl rfl hl.1 rfl (lv_room (Nat.le_of_ble_eq_true rfl)) dX1_restore_43 ⟨Nat.le_of_ble_eq_true rfl, Nat.le_of_ble_eq_true rfl⟩) (fun u H locs h hP hD hS => ?_)
      obtain ⟨u13, u14, u15, u16⟩ := u
      try dsimp only at h
      have hP : va_P D vwCl (w_X1_restore Y q q_steps q_steps_E q1 q1_lengths q_steps_E_lengths z9 z10 u13 u14 u15 g_steps_E_links g_steps_E_folded g_steps_E_stiff g_steps_E_lengths u16) H := hP
      have hD : va_D A (w_X1_restore Y q q_steps q_steps_E q1 q1_lengths q_steps_E_lengths z9 z10 u13 u14 u15 g_steps_E_links g_steps_E_folded g_steps_E_stiff g_steps_E_lengths u16) := hD
      exact ret_v (z9, z10, u13, u14, u15, u16) hx hb hr hlocks hK hP hD hS h dX1_restore_46
    · refine W.eq (g2 := F0 m 43 ls [.ref (q_steps_E 1), .ref q1]) (by rw [← ek11]; rfl) ?_
      have hp : Pt (w_X1_restore Y q q_steps q_steps_E q1 q1_lengths q_steps_E_lengths z9 z10 g1_links g1_folded g1_stiff g_steps_E_links g_steps_E_folded g_steps_E_stiff g_steps_E_lengths g1_lengths) (w_X5_copyFrom Y q1 q1_lengths (q_steps_E 1) (q_steps_E_lengths 1) g1_links g1_folded g1_stiff (g_steps_E_links 1) (g_steps_E_folded 1) (g_steps_E_stiff 1) (g_steps_E_lengths 1) g1_lengths) [2, 4, 14, 23] := ⟨rfl, by decide +kernel⟩
      refine go_v hp hP hD hS hA (fun _ => rfl) (va_runV (As := [.ref (q_steps_E 1)]) (rest := []) ⟨hx, hb, hml, hown, hts⟩ (c_X5_copyFrom h _) (cwV 1 hts gX1_restore_X5_copyFrom rfl rfl rfl (by decide +kernel) ⟨Nat.le_of_ble_eq_true rfl, Nat.le_of_ble_eq_true rfl⟩) (pre_V (b := q1) (q0 := 0) (ci := 5) (q := (RX5, TX5, 4)) hp hK hN hP hD rfl rfl) rfl rfl hl.1 rfl (lv_room (Nat.le_of_ble_eq_true rfl)) dX1_restore_43 ⟨Nat.le_of_ble_eq_true rfl, Nat.le_of_ble_eq_true rfl⟩) (fun u H locs h hP hD hS => ?_)
      obtain ⟨u18, u19, u20, u21⟩ := u
      try dsimp only at h
      have hP : va_P D vwCl (w_X1_restore Y q q_steps q_steps_E q1 q1_lengths q_steps_E_lengths z9 z10 u18 u19 u20 g_steps_E_links g_steps_E_folded g_steps_E_stiff g_steps_E_lengths u21) H := hP
      have hD : va_D A (w_X1_restore Y q q_steps q_steps_E q1 q1_lengths q_steps_E_lengths z9 z10 u18 u19 u20 g_steps_E_links g_steps_E_folded g_steps_E_stiff g_steps_E_lengths u21) := hD
      exact ret_v (z9, z10, u18, u19, u20, u21) hx hb hr hlocks hK hP hD hS h dX1_restore_46
    · refine W.eq (g2 := F0 m 43 ls [.ref (q_steps_E 2), .ref q1]) (by rw [← ek11]; rfl) ?_
      have hp : Pt (w_X1_restore Y q q_steps q_steps_E q1 q1_lengths q_steps_E_lengths z9 z10 g1_links g1_folded g1_stiff g_steps_E_links g_steps_E_folded g_steps_E_stiff g_steps_E_lengths g1_lengths) (w_X5_copyFrom Y q1 q1_lengths (q_steps_E 2) (q_steps_E_lengths 2) g1_links g1_folded g1_stiff (g_steps_E_links 2) (g_steps_E_folded 2) (g_steps_E_stiff 2) (g_steps_E_lengths 2) g1_lengths) [2, 5, 15, 23] := ⟨rfl, by decide +kernel⟩
      refine go_v hp hP hD hS hA (fun _ => rfl) (va_runV (As := [.ref (q_steps_E 2)]) (rest := []) ⟨hx, hb, hml, hown, hts⟩ (c_X5_copyFrom h _) (cwV 1 hts gX1_restore_X5_copyFrom rfl rfl rfl (by decide +kernel) ⟨Nat.le_of_ble_eq_true rfl, Nat.le_of_ble_eq_true rfl⟩) (pre_V (b := q1) (q0 := 0) (ci := 5) (q := (RX5, TX5, 4)) hp hK hN hP hD rfl rfl) rfl rfl hl.1 rfl (lv_room (Nat.le_of_ble_eq_true rfl)) dX1_restore_43 ⟨Nat.le_of_ble_eq_true rfl, Nat.le_of_ble_eq_true rfl⟩) (fun u H locs h hP hD hS => ?_)
      obtain ⟨u23, u24, u25, u26⟩ := u
      try dsimp only at h
      have hP : va_P D vwCl (w_X1_restore Y q q_steps q_steps_E q1 q1_lengths q_steps_E_lengths z9 z10 u23 u24 u25 g_steps_E_links g_steps_E_folded g_steps_E_stiff g_steps_E_lengths u26) H := hP
      have hD : va_D A (w_X1_restore Y q q_steps q_steps_E q1 q1_lengths q_steps_E_lengths z9 z10 u23 u24 u25 g_steps_E_links g_steps_E_folded g_steps_E_stiff g_steps_E_lengths u26) := hD
      exact ret_v (z9, z10, u23, u24, u25, u26) hx hb hr hlocks hK hP hD hS h dX1_restore_46
    · refine W.eq (g2 := F0 m 43 ls [.ref (q_steps_E 3), .ref q1]) (by rw [← ek11]; rfl) ?_
      have hp : Pt (w_X1_restore Y q q_steps q_steps_E q1 q1_lengths q_steps_E_lengths z9 z10 g1_links g1_folded g1_stiff g_steps_E_links g_steps_E_folded g_steps_E_stiff g_steps_E_lengths g1_lengths) (w_X5_copyFrom Y q1 q1_lengths (q_steps_E 3) (q_steps_E_lengths 3) g1_links g1_folded g1_stiff (g_steps_E_links 3) (g_steps_E_folded 3) (g_steps_E_stiff 3) (g_steps_E_lengths 3) g1_lengths) [2, 6, 16, 23] := ⟨rfl, by decide +kernel⟩
      refine go_v hp hP hD hS hA (fun _ => rfl) (va_runV (As := [.ref (q_steps_E 3)]) (rest := []) ⟨hx, hb, hml, hown, hts⟩ (c_X5_copyFrom h _) (cwV 1 hts gX1_restore_X5_copyFrom rfl rfl rfl (by decide +kernel) ⟨Nat.le_of_ble_eq_true rfl, Nat.le_of_ble_eq_true rfl⟩) (pre_V (b := q1) (q0 := 0) (ci := 5) (q := (RX5, TX5, 4)) hp hK hN hP hD rfl rfl) rfl rfl hl.1 rfl (lv_room (Nat.le_of_ble_eq_true rfl)) dX1_restore_43 ⟨Nat.le_of_ble_eq_true rfl, Nat.le_of_ble_eq_true rfl⟩) (fun u H locs h hP hD hS => ?_)
      obtain ⟨u28, u29, u30, u31⟩ := u
      try dsimp only at h
      have hP : va_P D vwCl (w_X1_restore Y q q_steps q_steps_E q1 q1_lengths q_steps_E_lengths z9 z10 u28 u29 u30 g_steps_E_links g_steps_E_folded g_steps_E_stiff g_steps_E_lengths u31) H := hP
      have hD : va_D A (w_X1_restore Y q q_steps q_steps_E q1 q1_lengths q_steps_E_lengths z9 z10 u28 u29 u30 g_steps_E_links g_steps_E_folded g_steps_E_stiff g_steps_E_lengths u31) := hD
      exact ret_v (z9, z10, u28, u29, u30, u31) hx hb hr hlocks hK hP hD hS h dX1_restore_46
    · refine W.eq (g2 := F0 m 43 ls [.ref (q_steps_E 4), .ref q1]) (by rw [← ek11]; rfl) ?_
      have hp : Pt (w_X1_restore Y q q_steps q_steps_E q1 q1_lengths q_steps_E_lengths z9 z10 g1_links g1_folded g1_stiff g_steps_E_links g_steps_E_folded g_steps_E_stiff g_steps_E_lengths g1_lengths) (w_X5_copyFrom Y q1 q1_lengths (q_steps_E 4) (q_steps_E_lengths 4) g1_links g1_folded g1_stiff (g_steps_E_links 4) (g_steps_E_folded 4) (g_steps_E_stiff 4) (g_steps_E_lengths 4) g1_lengths) [2, 7, 17, 23] := ⟨rfl, by decide +kernel⟩
      refine go_v hp hP hD hS hA (fun _ => rfl) (va_runV (As := [.ref (q_steps_E 4)]) (rest := []) ⟨hx, hb, hml, hown, hts⟩ (c_X5_copyFrom h _) (cwV 1 hts gX1_restore_X5_copyFrom rfl rfl rfl (by decide +kernel) ⟨Nat.le_of_ble_eq_true rfl, Nat.le_of_ble_eq_true rfl⟩) (pre_V (b := q1) (q0 := 0) (ci := 5) (q := (RX5, TX5, 4)) hp hK hN hP hD rfl rfl) rfl rfl hl.1 rfl (lv_room (Nat.le_of_ble_eq_true rfl)) dX1_restore_43 ⟨Nat.le_of_ble_eq_true rfl, Nat.le_of_ble_eq_true rfl⟩) (fun u H locs h hP hD hS => ?_)
      obtain ⟨u33, u34, u35, u36⟩ := u
      try dsimp only at h
      have hP : va_P D vwCl (w_X1_restore Y q q_steps q_steps_E q1 q1_lengths q_steps_E_lengths z9 z10 u33 u34 u35 g_steps_E_links g_steps_E_folded g_steps_E_stiff g_steps_E_lengths u36) H := hP
      have hD : va_D A (w_X1_restore Y q q_steps q_steps_E q1 q1_lengths q_steps_E_lengths z9 z10 u33 u34 u35 g_steps_E_links g_steps_E_folded g_steps_E_stiff g_steps_E_lengths u36) := hD
      exact ret_v (z9, z10, u33, u34, u35, u36) hx hb hr hlocks hK hP hD hS h dX1_restore_46
    · refine W.eq (g2 := F0 m 43 ls [.ref (q_steps_E 5), .ref q1]) (by rw [← ek11]; rfl) ?_
      have hp : Pt (w_X1_restore Y q q_steps q_steps_E q1 q1_lengths q_steps_E_lengths z9 z10 g1_links g1_folded g1_stiff g_steps_E_links g_steps_E_folded g_steps_E_stiff g_steps_E_lengths g1_lengths) (w_X5_copyFrom Y q1 q1_lengths (q_steps_E 5) (q_steps_E_lengths 5) g1_links g1_folded g1_stiff (g_steps_E_links 5) (g_steps_E_folded 5) (g_steps_E_stiff 5) (g_steps_E_lengths 5) g1_lengths) [2, 8, 18, 23] := ⟨rfl, by decide +kernel⟩
      refine go_v hp hP hD hS hA (fun _ => rfl) (va_runV (As := [.ref (q_steps_E 5)]) (rest := []) ⟨hx, hb, hml, hown, hts⟩ (c_X5_copyFrom h _) (cwV 1 hts gX1_restore_X5_copyFrom rfl rfl rfl (by decide +kernel) ⟨Nat.le_of_ble_eq_true rfl, Nat.le_of_ble_eq_true rfl⟩) (pre_V (b := q1) (q0 := 0) (ci := 5) (q := (RX5, TX5, 4)) hp hK hN hP hD rfl rfl) rfl rfl hl.1 rfl (lv_room (Nat.le_of_ble_eq_true rfl)) dX1_restore_43 ⟨Nat.le_of_ble_eq_true rfl, Nat.le_of_ble_eq_true rfl⟩) (fun u H locs h hP hD hS => ?_)
      obtain ⟨u38, u39, u40, u41⟩ := u
      try dsimp only at h
      have hP : va_P D vwCl (w_X1_restore Y q q_steps q_steps_E q1 q1_lengths q_steps_E_lengths z9 z10 u38 u39 u40 g_steps_E_links g_steps_E_folded g_steps_E_stiff g_steps_E_lengths u41) H := hP
      have hD : va_D A (w_X1_restore Y q q_steps q_steps_E q1 q1_lengths q_steps_E_lengths z9 z10 u38 u39 u40 g_steps_E_links g_steps_E_folded g_steps_E_stiff g_steps_E_lengths u41) := hD
      exact ret_v (z9, z10, u38, u39, u40, u41) hx hb hr hlocks hK hP hD hS h dX1_restore_46
    · refine W.eq (g2 := F0 m 43 ls [.ref (q_steps_E 6), .ref q1]) (by rw [← ek11]; rfl) ?_
      have hp : Pt (w_X1_restore Y q q_steps q_steps_E q1 q1_lengths q_steps_E_lengths z9 z10 g1_links g1_folded g1_stiff g_steps_E_links g_steps_E_folded g_steps_E_stiff g_steps_E_lengths g1_lengths) (w_X5_copyFrom Y q1 q1_lengths (q_steps_E 6) (q_steps_E_lengths 6) g1_links g1_folded g1_stiff (g_steps_E_links 6) (g_steps_E_folded 6) (g_steps_E_stiff 6) (g_steps_E_lengths 6) g1_lengths) [2, 9, 19, 23] := ⟨rfl, by decide +kernel⟩
      refine go_v hp hP hD hS hA (fun _ => rfl) (va_runV (As := [.ref (q_steps_E 6)]) (rest := []) ⟨hx, hb, hml, hown, hts⟩ (c_X5_copyFrom h _) (cwV 1 hts gX1_restore_X5_copyFrom rfl rfl rfl (by decide +kernel) ⟨Nat.le_of_ble_eq_true rfl, Nat.le_of_ble_eq_true rfl⟩) (pre_V (b := q1) (q0 := 0) (ci := 5) (q := (RX5, TX5, 4)) hp hK hN hP hD rfl rfl) rfl rfl hl.1 rfl (lv_room (Nat.le_of_ble_eq_true rfl)) dX1_restore_43 ⟨Nat.le_of_ble_eq_true rfl, Nat.le_of_ble_eq_true rfl⟩) (fun u H locs h hP hD hS => ?_)
      obtain ⟨u43, u44, u45, u46⟩ := u
      try dsimp only at h
      have hP : va_P D vwCl (w_X1_restore Y q q_steps q_steps_E q1 q1_lengths q_steps_E_lengths z9 z10 u43 u44 u45 g_steps_E_links g_steps_E_folded g_steps_E_stiff g_steps_E_lengths u46) H := hP
      have hD : va_D A (w_X1_restore Y q q_steps q_steps_E q1 q1_lengths q_steps_E_lengths z9 z10 u43 u44 u45 g_steps_E_links g_steps_E_folded g_steps_E_stiff g_steps_E_lengths u46) := hD
      exact ret_v (z9, z10, u43, u44, u45, u46) hx hb hr hlocks hK hP hD hS h dX1_restore_46
    · refine W.eq (g2 := F0 m 43 ls [.ref (q_steps_E 7), .ref q1]) (by rw [← ek11]; rfl) ?_
      have hp : Pt (w_X1_restore Y q q_steps q_steps_E q1 q1_lengths q_steps_E_lengths z9 z10 g1_links g1_folded g1_stiff g_steps_E_links g_steps_E_folded g_steps_E_stiff g_steps_E_lengths g1_lengths) (w_X5_copyFrom Y q1 q1_lengths (q_steps_E 7) (q_steps_E_lengths 7) g1_links g1_folded g1_stiff (g_steps_E_links 7) (g_steps_E_folded 7) (g_steps_E_stiff 7) (g_steps_E_lengths 7) g1_lengths) [2, 10, 20, 23] := ⟨rfl, by decide +kernel⟩
      refine go_v hp hP hD hS hA (fun _ => rfl) (va_runV (As := [.ref (q_steps_E 7)]) (rest := []) ⟨hx, hb, hml, hown, hts⟩ (c_X5_copyFrom h _) (cwV 1 hts gX1_restore_X5_copyFrom rfl rfl rfl (by decide +kernel) ⟨Nat.le_of_ble_eq_true rfl, Nat.le_of_ble_eq_true rfl⟩) (pre_V (b := q1) (q0 := 0) (ci := 5) (q := (RX5, TX5, 4)) hp hK hN hP hD rfl rfl) rfl rfl hl.1 rfl (lv_room (Nat.le_of_ble_eq_true rfl)) dX1_restore_43 ⟨Nat.le_of_ble_eq_true rfl, Nat.le_of_ble_eq_true rfl⟩) (fun u H locs h hP hD hS => ?_)
      obtain ⟨u48, u49, u50, u51⟩ := u
      try dsimp only at h
      have hP : va_P D vwCl (w_X1_restore Y q q_steps q_steps_E q1 q1_lengths q_steps_E_lengths z9 z10 u48 u49 u50 g_steps_E_links g_steps_E_folded g_steps_E_stiff g_steps_E_lengths u51) H := hP
      have hD : va_D A (w_X1_restore Y q q_steps q_steps_E q1 q1_lengths q_steps_E_lengths z9 z10 u48 u49 u50 g_steps_E_links g_steps_E_folded g_steps_E_stiff g_steps_E_lengths u51) := hD
      exact ret_v (z9, z10, u48, u49, u50, u51) hx hb hr hlocks hK hP hD hS h dX1_restore_46
    · refine W.eq (g2 := F0 m 43 ls [.ref (q_steps_E 8), .ref q1]) (by rw [← ek11]; rfl) ?_
      have hp : Pt (w_X1_restore Y q q_steps q_steps_E q1 q1_lengths q_steps_E_lengths z9 z10 g1_links g1_folded g1_stiff g_steps_E_links g_steps_E_folded g_steps_E_stiff g_steps_E_lengths g1_lengths) (w_X5_copyFrom Y q1 q1_lengths (q_steps_E 8) (q_steps_E_lengths 8) g1_links g1_folded g1_stiff (g_steps_E_links 8) (g_steps_E_folded 8) (g_steps_E_stiff 8) (g_steps_E_lengths 8) g1_lengths) [2, 11, 21, 23] := ⟨rfl, by decide +kernel⟩
      refine go_v hp hP hD hS hA (fun _ => rfl) (va_runV (As := [.ref (q_steps_E 8)]) (rest := []) ⟨hx, hb, hml, hown, hts⟩ (c_X5_copyFrom h _) (cwV 1 hts gX1_restore_X5_copyFrom rfl rfl rfl (by decide +kernel) ⟨Nat.le_of_ble_eq_true rfl, Nat.le_of_ble_eq_true rfl⟩) (pre_V (b := q1) (q0 := 0) (ci := 5) (q := (RX5, TX5, 4)) hp hK hN hP hD rfl rfl) rfl rfl hl.1 rfl (lv_room (Nat.le_of_ble_eq_true rfl)) dX1_restore_43 ⟨Nat.le_of_ble_eq_true rfl, Nat.le_of_ble_eq_true rfl⟩) (fun u H locs h hP hD hS => ?_)
      obtain ⟨u53, u54, u55, u56⟩ := u
      try dsimp only at h
      have hP : va_P D vwCl (w_X1_restore Y q q_steps q_steps_E q1 q1_lengths q_steps_E_lengths z9 z10 u53 u54 u55 g_steps_E_links g_steps_E_folded g_steps_E_stiff g_steps_E_lengths u56) H := hP
      have hD : va_D A (w_X1_restore Y q q_steps q_steps_E q1 q1_lengths q_steps_E_lengths z9 z10 u53 u54 u55 g_steps_E_links g_steps_E_folded g_steps_E_stiff g_steps_E_lengths u56) := hD
      exact ret_v (z9, z10, u53, u54, u55, u56) hx hb hr hlocks hK hP hD hS h dX1_restore_46
    · refine W.eq (g2 := F0 m 43 ls [.ref (q_steps_E 9), .ref q1]) (by rw [← ek11]; rfl) ?_
      have hp : Pt (w_X1_restore Y q q_steps q_steps_E q1 q1_lengths q_steps_E_lengths z9 z10 g1_links g1_folded g1_stiff g_steps_E_links g_steps_E_folded g_steps_E_stiff g_steps_E_lengths g1_lengths) (w_X5_copyFrom Y q1 q1_lengths (q_steps_E 9) (q_steps_E_lengths 9) g1_links g1_folded g1_stiff (g_steps_E_links 9) (g_steps_E_folded 9) (g_steps_E_stiff 9) (g_steps_E_lengths 9) g1_lengths) [2, 12, 22, 23] := ⟨rfl, by decide +kernel⟩
      refine go_v hp hP hD hS hA (fun _ => rfl) (va_runV (As := [.ref (q_steps_E 9)]) (rest := []) ⟨hx, hb, hml, hown, hts⟩ (c_X5_copyFrom h _) (cwV 1 hts gX1_restore_X5_copyFrom rfl rfl rfl (by decide +kernel) ⟨Nat.le_of_ble_eq_true rfl, Nat.le_of_ble_eq_true rfl⟩) (pre_V (b := q1) (q0 := 0) (ci := 5) (q := (RX5, TX5, 4)) hp hK hN hP hD rfl rfl) rfl rfl hl.1 rfl (lv_room (Nat.le_of_ble_eq_true rfl)) dX1_restore_43 ⟨Nat.le_of_ble_eq_true rfl, Nat.le_of_ble_eq_true rfl⟩) (fun u H locs h hP hD hS => ?_)
      obtain ⟨u58, u59, u60, u61⟩ := u
      try dsimp only at h
      have hP : va_P D vwCl (w_X1_restore Y q q_steps q_steps_E q1 q1_lengths q_steps_E_lengths z9 z10 u58 u59 u60 g_steps_E_links g_steps_E_folded g_steps_E_stiff g_steps_E_lengths u61) H := hP
      have hD : va_D A (w_X1_restore Y q q_steps q_steps_E q1 q1_lengths q_steps_E_lengths z9 z10 u58 u59 u60 g_steps_E_links g_steps_E_folded g_steps_E_stiff g_steps_E_lengths u61) := hD
      exact ret_v (z9, z10, u58, u59, u60, u61) hx hb hr hlocks hK hP hD hS h dX1_restore_46
