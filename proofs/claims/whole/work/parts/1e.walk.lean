abbrev rm_X6_canStand : Room := { frames := 3, cells := 0, slots := 0, locals := 54 }
theorem in_X6_canStand_X5 : ∀ w ∈ wsX50, w ∈ wsX6_canStand := fun _ h => List.mem_cons_of_mem _ (List.mem_append_right _ h)
theorem k_X6_canStand_iX7 {s : State} {args : Array Value} (hts : ∀ w ∈ wsX6_canStand, w.before args s = true) : (Cond.initialized RX7).before args s = true := hts _ (by decide +kernel)
theorem k_X6_canStand_stX7_hasBit {s : State} {args : Array Value} (hts : ∀ w ∈ wsX6_canStand, w.before args s = true) : (Cond.static yX7_hasBit).before args s = true := hts _ (by decide +kernel)
theorem k_X6_canStand_stX7_isWithin {s : State} {args : Array Value} (hts : ∀ w ∈ wsX6_canStand, w.before args s = true) : (Cond.static yX7_isWithin).before args s = true := hts _ (by decide +kernel)
set_option maxHeartbeats 4000000 in
set_option maxRecDepth 100000 in
theorem c_X6_canStand {l : Launch} {D : va_G} {Y : ClassId × ClassId × ClassId} {q2 q2_lengths : Nat} {g2_links g2_folded g2_stiff x0 x1 : Int32} {Q : Int32 → Prop} (h : wp_X6_canStand g2_links g2_folded g2_stiff x0 x1 Q) (sz : Nat) : MtI l yX6_canStand wsX6_canStand rm_X6_canStand [.int x0, .int x1, .ref q2] D Y (w_X6_canStand Y q2 q2_lengths g2_links g2_folded g2_stiff) (fun r (_ : Unit) => Q r) (fun _ : Unit => (w_X6_canStand Y q2 q2_lengths g2_links g2_folded g2_stiff)) sz := by
  refine ct_i (cc := cX6_canStand) (nL := 3) (ret := (some .boolean)) (by decide) rfl (Nat.le_of_ble_eq_true rfl) ?_ sz
  intro p e s m below meth c A ls C hK hA hP hD hS hl
  obtain ⟨⟨hx, hb, hml, hown, hts⟩, hr, hlocks, hN⟩ := id C
  have hown : s.vm.findClass RX6 = some m.cls := hown
  have hl : lv_has ls 3 [(0, .int x0), (1, .int x1), (2, .ref q2)] := hl
  unfold wp_X6_canStand at h
  refine lv_iload_n hx hb dX6_canStand_0 rfl (lv_at hl 0 rfl) ?_
  refine lv_bipush (v := 107) hx hb dX6_canStand_1 (by decide) ?_
  refine lv_icmp_ne (tgt := 14) hx hb dX6_canStand_3 (by decide) (fun c4 => ?_) (fun c4 => ?_)
  · have h := h.1 c4
    refine lv_aload_n hx hb dX6_canStand_14 rfl (lv_at hl 2 rfl) ?_
    refine lv_iload_n hx hb dX6_canStand_15 rfl (lv_at hl 1 rfl) ?_
    have hp : Pt (w_X6_canStand Y q2 q2_lengths g2_links g2_folded g2_stiff) (w_X5_hasJoint Y q2 q2_lengths g2_links g2_folded g2_stiff) [0] := ⟨rfl, by decide +kernel⟩
    refine go_i hp hP hD hS hA (fun _ => rfl) (va_runV (As := [.int x1]) (rest := []) ⟨hx, hb, hml, hown, hts⟩ (c_X5_hasJoint h _) (cwV 1 hts gX6_canStand_X5_hasJoint rfl rfl rfl (by decide +kernel) ⟨Nat.le_of_ble_eq_true rfl, Nat.le_of_ble_eq_true rfl⟩) (pre_V (b := q2) (q0 := 0) (ci := 5) (q := (RX5, TX5, 4)) hp hK hN hP hD rfl rfl) rfl rfl hl.1 rfl (lv_room (Nat.le_of_ble_eq_true rfl)) dX6_canStand_16 ⟨Nat.le_of_ble_eq_true rfl, Nat.le_of_ble_eq_true rfl⟩) (fun r5 u H locs h hP hD hS => ?_)
    try dsimp only at h
    have hP : va_P D vwCl (w_X6_canStand Y q2 q2_lengths g2_links g2_folded g2_stiff) H := hP
    have hD : va_D A (w_X6_canStand Y q2 q2_lengths g2_links g2_folded g2_stiff) := hD
    refine lv_if_eq (tgt := 42) hx hb dX6_canStand_19 (by decide) (fun c6 => ?_) (fun c6 => ?_)
    · have h := h.1 c6
      refine lv_iconst (v := 0) hx hb dX6_canStand_42 (by decide) ?_
      exact ret_z () hx hb hr hlocks hK hP hD hS (Or.inl rfl) h dX6_canStand_43
    · have h := h.2 c6
      refine lv_aload_n hx hb dX6_canStand_22 rfl (lv_at hl 2 rfl) ?_
      refine va_getN (D := D) (ci := 5) (v := .int g2_folded) (C := RX5) (T := TX5) (N := 4) hx hb hts in_X6_canStand_X5 hown hK hP 0 rfl rfl 2 (by decide) (va_Nw.use rfl (nwX6_69 hN)) (fun _ h9 => h9) rfl dX6_canStand_23 ?_
      refine lv_aload_n hx hb dX6_canStand_26 rfl (lv_at hl 2 rfl) ?_
      refine va_getN (D := D) (ci := 5) (v := .int g2_stiff) (C := RX5) (T := TX5) (N := 4) hx hb hts in_X6_canStand_X5 hown hK hP 0 rfl rfl 3 (by decide) (va_Nw.use rfl (nwX6_72 hN)) (fun _ h9 => h9) rfl dX6_canStand_27 ?_
      refine lv_ior hx hb dX6_canStand_30 ?_
      refine lv_iload_n hx hb dX6_canStand_31 rfl (lv_at hl 1 rfl) ?_
      have hp : Pt (w_X6_canStand Y q2 q2_lengths g2_links g2_folded g2_stiff) (w_X7_hasBit Y ) [] := ⟨rfl, by decide +kernel⟩
      refine go_i hp hP hD hS hA (fun _ => rfl) (va_runSN (As := [.int (g2_folded ||| g2_stiff), .int x1]) (rest := []) ⟨hx, hb, hml, hown, hts⟩ (c_X7_hasBit h _) ⟨va_cnB 2 hts gX6_canStand_X7_hasBit_n75 rfl rfl rfl (nwX6_75 hN) (k_X6_canStand_iX7 hts) (by decide +kernel) ⟨Nat.le_of_ble_eq_true rfl, Nat.le_of_ble_eq_true rfl⟩, (k_X6_canStand_stX7_hasBit hts), trivial⟩ (pre_S hp hK hN hP hD) rfl rfl hl.1 rfl (lv_room (Nat.le_of_ble_eq_true rfl)) dX6_canStand_32 ⟨Nat.le_of_ble_eq_true rfl, Nat.le_of_ble_eq_true rfl⟩) (fun r7 u H locs h hP hD hS => ?_)
      try dsimp only at h
      have hP : va_P D vwCl (w_X6_canStand Y q2 q2_lengths g2_links g2_folded g2_stiff) H := hP
      have hD : va_D A (w_X6_canStand Y q2 q2_lengths g2_links g2_folded g2_stiff) := hD
      refine lv_if_ne (tgt := 42) hx hb dX6_canStand_35 (by decide) (fun c8 => ?_) (fun c8 => ?_)
      · have h := h.1 c8
        refine lv_iconst (v := 0) hx hb dX6_canStand_42 (by decide) ?_
        exact ret_z () hx hb hr hlocks hK hP hD hS (Or.inl rfl) h dX6_canStand_43
      · have h := h.2 c8
        refine lv_iconst (v := 1) hx hb dX6_canStand_38 (by decide) ?_
        refine lv_goto (tgt := 43) hx hb dX6_canStand_39 (by decide) ?_
        exact ret_z () hx hb hr hlocks hK hP hD hS (Or.inr rfl) h dX6_canStand_43
  · have h := h.2 c4
    refine lv_iload_n hx hb dX6_canStand_6 rfl (lv_at hl 1 rfl) ?_
    refine lv_iconst (v := 1) hx hb dX6_canStand_7 (by decide) ?_
    refine lv_bipush (v := 20) hx hb dX6_canStand_8 (by decide) ?_
    have hp : Pt (w_X6_canStand Y q2 q2_lengths g2_links g2_folded g2_stiff) (w_X7_isWithin Y ) [] := ⟨rfl, by decide +kernel⟩
    refine go_i hp hP hD hS hA (fun _ => rfl) (va_runSN (As := [.int x1, .int (1 : Int32), .int (20 : Int32)]) (rest := []) ⟨hx, hb, hml, hown, hts⟩ (c_X7_isWithin h _) ⟨va_cnB 3 hts gX6_canStand_X7_isWithin_n61 rfl rfl rfl (nwX6_61 hN) (k_X6_canStand_iX7 hts) (by decide +kernel) ⟨Nat.le_of_ble_eq_true rfl, Nat.le_of_ble_eq_true rfl⟩, (k_X6_canStand_stX7_isWithin hts), trivial⟩ (pre_S hp hK hN hP hD) rfl rfl hl.1 rfl (lv_room (Nat.le_of_ble_eq_true rfl)) dX6_canStand_10 ⟨Nat.le_of_ble_eq_true rfl, Nat.le_of_ble_eq_true rfl⟩) (fun r9 u H locs h hP hD hS => ?_)
    try dsimp only at h
    have hP : va_P D vwCl (w_X6_canStand Y q2 q2_lengths g2_links g2_folded g2_stiff) H := hP
    have hD : va_D A (w_X6_canStand Y q2 q2_lengths g2_links g2_folded g2_stiff) := hD
    exact ret_z () hx hb hr hlocks hK hP hD hS h.1 h.2 dX6_canStand_13
abbrev rm_X6_tell : Room := { frames := 2, cells := 0, slots := 0, locals := 41 }
theorem in_X6_tell_X5 : ∀ w ∈ wsX50, w ∈ wsX6_tell := fun _ h => List.mem_cons_of_mem _ (List.mem_append_right _ h)
set_option maxHeartbeats 4000000 in
set_option maxRecDepth 100000 in
theorem c_X6_tell {l : Launch} {D : va_G} {Y : ClassId × ClassId × ClassId} {q2 q2_lengths : Nat} {g2_links g2_folded g2_stiff : Int32} {g2_lengths : Nat → Int32} {x0 x1 : Int32} {Q : Int32 → Int32 → Int32 → (Nat → Int32) → Prop} (h : wp_X6_tell g2_links g2_folded g2_stiff g2_lengths x0 x1 Q) (sz : Nat) : MtV l yX6_tell wsX6_tell rm_X6_tell [.int x0, .int x1, .ref q2] D Y (w_X6_tell Y q2 q2_lengths g2_links g2_folded g2_stiff g2_lengths) (fun (u : Int32 × Int32 × Int32 × (Nat → Int32)) => Q u.1 u.2.1 u.2.2.1 u.2.2.2) (fun u : Int32 × Int32 × Int32 × (Nat → Int32) => (w_X6_tell Y q2 q2_lengths u.1 u.2.1 u.2.2.1 u.2.2.2)) sz := by
  refine ct_v (cc := cX6_tell) (nL := 3) (ret := none) (by decide) rfl (Nat.le_of_ble_eq_true rfl) ?_ sz
  intro p e s m below meth c A ls C hK hA hP hD hS hl
  obtain ⟨⟨hx, hb, hml, hown, hts⟩, hr, hlocks, hN⟩ := id C
  have hown : s.vm.findClass RX6 = some m.cls := hown
  have hl : lv_has ls 3 [(0, .int x0), (1, .int x1), (2, .ref q2)] := hl
  unfold wp_X6_tell at h
  refine lv_iload_n hx hb dX6_tell_0 rfl (lv_at hl 0 rfl) ?_
  refine lv_bipush (v := 107) hx hb dX6_tell_1 (by decide) ?_
  refine lv_icmp_ne (tgt := 14) hx hb dX6_tell_3 (by decide) (fun c5 => ?_) (fun c5 => ?_)
  · have h := h.1 c5
    refine lv_iload_n hx hb dX6_tell_14 rfl (lv_at hl 0 rfl) ?_
    refine lv_bipush (v := 102) hx hb dX6_tell_15 (by decide) ?_
    refine lv_icmp_ne (tgt := 35) hx hb dX6_tell_17 (by decide) (fun c6 => ?_) (fun c6 => ?_)
    · have h := h.1 c6
      refine lv_aload_n hx hb dX6_tell_35 rfl (lv_at hl 2 rfl) ?_
      refine lv_dup hx hb dX6_tell_36 rfl ?_
      refine va_getN (D := D) (ci := 5) (v := .int g2_stiff) (C := RX5) (T := TX5) (N := 4) hx hb hts in_X6_tell_X5 hown hK hP 0 rfl rfl 3 (by decide) (va_Nw.use rfl (nwX6_72 hN)) (fun _ h9 => h9) rfl dX6_tell_37 ?_
      refine lv_iconst (v := 1) hx hb dX6_tell_40 (by decide) ?_
      refine lv_iload_n hx hb dX6_tell_41 rfl (lv_at hl 1 rfl) ?_
      refine lv_ishl hx hb dX6_tell_42 ?_
      refine lv_ior hx hb dX6_tell_43 ?_
      refine lv_topi (fun z7 ez7 => ?_)
      have h := h z7 ez7
      refine va_putN (D := D) (ci := 5) (v := .int z7) (ty := .int) (C := RX5) (T := TX5) (N := 4) hx hb hts in_X6_tell_X5 tyX5 tyX5_ok nmX5 hown hK hP hD hS 0 rfl rfl 3 (by decide) (va_Nw.use rfl (nwX6_72 hN)) (fun _ h9 => h9) rfl (by decide +kernel) rfl rfl (Nat.le_of_ble_eq_true rfl) dX6_tell_44 (fun H locs hP hD hS => ?_)
      have hP : va_P D vwCl (w_X6_tell Y q2 q2_lengths g2_links g2_folded z7 g2_lengths) H := hP
      have hD : va_D A (w_X6_tell Y q2 q2_lengths g2_links g2_folded z7 g2_lengths) := hD
      exact ret_v (g2_links, g2_folded, z7, g2_lengths) hx hb hr hlocks hK hP hD hS h dX6_tell_47
    · have h := h.2 c6
      refine lv_aload_n hx hb dX6_tell_20 rfl (lv_at hl 2 rfl) ?_
      refine lv_dup hx hb dX6_tell_21 rfl ?_
      refine va_getN (D := D) (ci := 5) (v := .int g2_folded) (C := RX5) (T := TX5) (N := 4) hx hb hts in_X6_tell_X5 hown hK hP 0 rfl rfl 2 (by decide) (va_Nw.use rfl (nwX6_69 hN)) (fun _ h9 => h9) rfl dX6_tell_22 ?_
      refine lv_iconst (v := 1) hx hb dX6_tell_25 (by decide) ?_
      refine lv_iload_n hx hb dX6_tell_26 rfl (lv_at hl 1 rfl) ?_
      refine lv_ishl hx hb dX6_tell_27 ?_
      refine lv_ior hx hb dX6_tell_28 ?_
      refine lv_topi (fun z8 ez8 => ?_)
      have h := h z8 ez8
      refine va_putN (D := D) (ci := 5) (v := .int z8) (ty := .int) (C := RX5) (T := TX5) (N := 4) hx hb hts in_X6_tell_X5 tyX5 tyX5_ok nmX5 hown hK hP hD hS 0 rfl rfl 2 (by decide) (va_Nw.use rfl (nwX6_69 hN)) (fun _ h9 => h9) rfl (by decide +kernel) rfl rfl (Nat.le_of_ble_eq_true rfl) dX6_tell_29 (fun H locs hP hD hS => ?_)
      have hP : va_P D vwCl (w_X6_tell Y q2 q2_lengths g2_links z8 g2_stiff g2_lengths) H := hP
      have hD : va_D A (w_X6_tell Y q2 q2_lengths g2_links z8 g2_stiff g2_lengths) := hD
      refine lv_goto (tgt := 47) hx hb dX6_tell_32 (by decide) ?_
      exact ret_v (g2_links, z8, g2_stiff, g2_lengths) hx hb hr hlocks hK hP hD hS h dX6_tell_47
  · have h := h.2 c5
    refine lv_aload_n hx hb dX6_tell_6 rfl (lv_at hl 2 rfl) ?_
    refine lv_iload_n hx hb dX6_tell_7 rfl (lv_at hl 1 rfl) ?_
    have hp : Pt (w_X6_tell Y q2 q2_lengths g2_links g2_folded g2_stiff g2_lengths) (w_X5_addLink Y q2 q2_lengths g2_links g2_folded g2_stiff g2_lengths) [0, 1] := ⟨rfl, by decide +kernel⟩
    refine go_v hp hP hD hS hA (fun _ => rfl) (va_runV (As := [.int x1]) (rest := []) ⟨hx, hb, hml, hown, hts⟩ (c_X5_addLink h _) (cwV 1 hts gX6_tell_X5_addLink rfl rfl rfl (by decide +kernel) ⟨Nat.le_of_ble_eq_true rfl, Nat.le_of_ble_eq_true rfl⟩) (pre_V (b := q2) (q0 := 0) (ci := 5) (q := (RX5, TX5, 4)) hp hK hN hP hD rfl rfl) rfl rfl hl.1 rfl (lv_room (Nat.le_of_ble_eq_true rfl)) dX6_tell_8 ⟨Nat.le_of_ble_eq_true rfl, Nat.le_of_ble_eq_true rfl⟩) (fun u H locs h hP hD hS => ?_)
    obtain ⟨u10, u11⟩ := u
    try dsimp only at h
    have hP : va_P D vwCl (w_X6_tell Y q2 q2_lengths u10 g2_folded g2_stiff u11) H := hP
    have hD : va_D A (w_X6_tell Y q2 q2_lengths u10 g2_folded g2_stiff u11) := hD
    refine lv_goto (tgt := 47) hx hb dX6_tell_11 (by decide) ?_
    exact ret_v (u10, g2_folded, g2_stiff, u11) hx hb hr hlocks hK hP hD hS h dX6_tell_47
abbrev rm_X6_readItem : Room := { frames := 4, cells := 0, slots := 0, locals := 76 }
theorem in_X6_readItem_X6 : ∀ w ∈ wsX60, w ∈ wsX6_readItem := fun _ h => List.mem_cons_of_mem _ (List.mem_append_left _ (List.mem_append_right _ h))
theorem k_X6_readItem_f28 {s : State} {args : Array Value} (hts : ∀ w ∈ wsX6_readItem, w.before args s = true) : (Cond.fieldLink RX6 28 "FoldRule$Text" "place" "I").before args s = true := hts _ (by decide +kernel)
set_option maxHeartbeats 4000000 in
set_option maxRecDepth 100000 in
theorem c_X6_readItem {l : Launch} {D : va_G} {Y : ClassId × ClassId × ClassId} {q q_letters q1 q1_lengths : Nat} {g_size g_place g_items : Int32} {g_letters : Nat → Int32} {g1_links g1_folded g1_stiff : Int32} {g1_lengths : Nat → Int32} {Q : Int32 → Int32 → Int32 → Int32 → Int32 → (Nat → Int32) → Prop} (h : wp_X6_readItem g_size g_place g_letters g1_links g1_folded g1_stiff g1_lengths Q) (sz : Nat) : MtI l yX6_readItem wsX6_readItem rm_X6_readItem [.ref q, .ref q1] D Y (w_X6_readItem Y q q_letters q1 q1_lengths g_size g_place g_items g_letters g1_links g1_folded g1_stiff g1_lengths) (fun r (u : Int32 × Int32 × Int32 × Int32 × (Nat → Int32)) => Q r u.1 u.2.1 u.2.2.1 u.2.2.2.1 u.2.2.2.2) (fun u : Int32 × Int32 × Int32 × Int32 × (Nat → Int32) => (w_X6_readItem Y q q_letters q1 q1_lengths g_size u.1 g_items g_letters u.2.1 u.2.2.1 u.2.2.2.1 u.2.2.2.2)) sz := by
  refine ct_i (cc := cX6_readItem) (nL := 5) (ret := (some .int)) (by decide) rfl (Nat.le_of_ble_eq_true rfl) ?_ sz
  intro p e s m below meth c A ls C hK hA hP hD hS hl
  obtain ⟨⟨hx, hb, hml, hown, hts⟩, hr, hlocks, hN⟩ := id C
  have hown : s.vm.findClass RX6 = some m.cls := hown
  have hl : lv_has ls 5 [(0, .ref q), (1, .ref q1)] := hl
  unfold wp_X6_readItem at h
  refine lv_aload_n hx hb dX6_readItem_0 rfl (lv_at hl 0 rfl) ?_
  have hp : Pt (w_X6_readItem Y q q_letters q1 q1_lengths g_size g_place g_items g_letters g1_links g1_folded g1_stiff g1_lengths) (w_X6_letterHere Y q q_letters g_size g_place g_items g_letters) [0, 1] := ⟨rfl, by decide +kernel⟩
  refine go_i hp hP hD hS hA (fun _ => rfl) (va_runV (As := []) (rest := []) ⟨hx, hb, hml, hown, hts⟩ (c_X6_letterHere h _) (cwV 0 hts gX6_readItem_X6_letterHere rfl rfl rfl (by decide +kernel) ⟨Nat.le_of_ble_eq_true rfl, Nat.le_of_ble_eq_true rfl⟩) (pre_V (b := q) (q0 := 0) (ci := 6) (q := (RX6, TX6, 4)) hp hK hN hP hD rfl rfl) rfl rfl hl.1 rfl (lv_room (Nat.le_of_ble_eq_true rfl)) dX6_readItem_1 ⟨Nat.le_of_ble_eq_true rfl, Nat.le_of_ble_eq_true rfl⟩) (fun r15 u H locs h hP hD hS => ?_)
  try dsimp only at h
  have hP : va_P D vwCl (w_X6_readItem Y q q_letters q1 q1_lengths g_size g_place g_items g_letters g1_links g1_folded g1_stiff g1_lengths) H := hP
  have hD : va_D A (w_X6_readItem Y q q_letters q1 q1_lengths g_size g_place g_items g_letters g1_links g1_folded g1_stiff g1_lengths) := hD
  refine lv_istore_n (lv' := [(2, .int r15), (0, .ref q), (1, .ref q1)]) hx hb dX6_readItem_4 rfl hl (by decide) rfl (fun ls hl => ?_)
  refine lv_iload_n hx hb dX6_readItem_5 rfl (lv_at hl 0 rfl) ?_
  refine lv_aload_n hx hb dX6_readItem_6 rfl (lv_at hl 2 rfl) ?_
  have hp : Pt (w_X6_readItem Y q q_letters q1 q1_lengths g_size g_place g_items g_letters g1_links g1_folded g1_stiff g1_lengths) (w_X6_canBegin Y q1 q1_lengths g1_links g1_folded g1_stiff) [2] := ⟨rfl, by decide +kernel⟩
  refine go_i hp hP hD hS hA (fun _ => rfl) (va_runS (As := [.int r15, .ref q1]) (rest := []) ⟨hx, hb, hml, hown, hts⟩ (c_X6_canBegin h _) (va_cwS 2 hts gX6_readItem_X6_canBegin rfl rfl rfl (by decide +kernel) ⟨Nat.le_of_ble_eq_true rfl, Nat.le_of_ble_eq_true rfl⟩) (pre_S hp hK hN hP hD) rfl rfl hl.1 rfl (lv_room (Nat.le_of_ble_eq_true rfl)) dX6_readItem_7 ⟨Nat.le_of_ble_eq_true rfl, Nat.le_of_ble_eq_true rfl⟩) (fun r16 u H locs h hP hD hS => ?_)
  try dsimp only at h
  have hP : va_P D vwCl (w_X6_readItem Y q q_letters q1 q1_lengths g_size g_place g_items g_letters g1_links g1_folded g1_stiff g1_lengths) H := hP
  have hD : va_D A (w_X6_readItem Y q q_letters q1 q1_lengths g_size g_place g_items g_letters g1_links g1_folded g1_stiff g1_lengths) := hD
  refine lv_if_ne (tgt := 18) hx hb dX6_readItem_10 (by decide) (fun c17 => ?_) (fun c17 => ?_)
  · have h := h.1 c17
    refine lv_aload_n hx hb dX6_readItem_18 rfl (lv_at hl 1 rfl) ?_
    refine lv_dup hx hb dX6_readItem_19 rfl ?_
    refine va_get (D := D) (ci := 6) (v := .int g_place) (C := RX6) (T := TX6) (N := 4) hx hb hts in_X6_readItem_X6 hown hK hP 0 rfl rfl 2 (by decide) (k_X6_readItem_f28 hts) (fun _ h9 => h9) rfl dX6_readItem_20 ?_
    refine lv_iconst (v := 1) hx hb dX6_readItem_23 (by decide) ?_
    refine lv_iadd hx hb dX6_readItem_24 ?_
    refine lv_topi (fun z18 ez18 => ?_)
    have h := h z18 ez18
    refine va_put (D := D) (ci := 6) (v := .int z18) (ty := .int) (C := RX6) (T := TX6) (N := 4) hx hb hts in_X6_readItem_X6 tyX6 tyX6_ok nmX6 hown hK hP hD hS 0 rfl rfl 2 (by decide) (k_X6_readItem_f28 hts) (fun _ h9 => h9) rfl (by decide +kernel) rfl rfl (Nat.le_of_ble_eq_true rfl) dX6_readItem_25 (fun H locs hP hD hS => ?_)
    have hP : va_P D vwCl (w_X6_readItem Y q q_letters q1 q1_lengths g_size z18 g_items g_letters g1_links g1_folded g1_stiff g1_lengths) H := hP
    have hD : va_D A (w_X6_readItem Y q q_letters q1 q1_lengths g_size z18 g_items g_letters g1_links g1_folded g1_stiff g1_lengths) := hD
    refine lv_aload_n hx hb dX6_readItem_28 rfl (lv_at hl 1 rfl) ?_
    have hp : Pt (w_X6_readItem Y q q_letters q1 q1_lengths g_size z18 g_items g_letters g1_links g1_folded g1_stiff g1_lengths) (w_X6_skipBlanks Y q q_letters g_size z18 g_items g_letters) [0, 1] := ⟨rfl, by decide +kernel⟩
    refine go_v hp hP hD hS hA (fun _ => rfl) (va_runV (As := []) (rest := []) ⟨hx, hb, hml, hown, hts⟩ (c_X6_skipBlanks h _) (cwV 0 hts gX6_readItem_X6_skipBlanks rfl rfl rfl (by decide +kernel) ⟨Nat.le_of_ble_eq_true rfl, Nat.le_of_ble_eq_true rfl⟩) (pre_V (b := q) (q0 := 0) (ci := 6) (q := (RX6, TX6, 4)) hp hK hN hP hD rfl rfl) rfl rfl hl.1 rfl (lv_room (Nat.le_of_ble_eq_true rfl)) dX6_readItem_29 ⟨Nat.le_of_ble_eq_true rfl, Nat.le_of_ble_eq_true rfl⟩) (fun u H locs h hP hD hS => ?_)
    obtain ⟨u20, rfl⟩ : ∃ z, z = u := ⟨_, rfl⟩
    try dsimp only at h
    have hP : va_P D vwCl (w_X6_readItem Y q q_letters q1 q1_lengths g_size u20 g_items g_letters g1_links g1_folded g1_stiff g1_lengths) H := hP
    have hD : va_D A (w_X6_readItem Y q q_letters q1 q1_lengths g_size u20 g_items g_letters g1_links g1_folded g1_stiff g1_lengths) := hD
    refine lv_aload_n hx hb dX6_readItem_32 rfl (lv_at hl 1 rfl) ?_
    refine va_get (D := D) (ci := 6) (v := .int u20) (C := RX6) (T := TX6) (N := 4) hx hb hts in_X6_readItem_X6 hown hK hP 0 rfl rfl 2 (by decide) (k_X6_readItem_f28 hts) (fun _ h9 => h9) rfl dX6_readItem_33 ?_
    refine lv_istore_n (lv' := [(3, .int u20), (2, .int r15), (0, .ref q), (1, .ref q1)]) hx hb dX6_readItem_36 rfl hl (by decide) rfl (fun ls hl => ?_)
    refine lv_aload_n hx hb dX6_readItem_37 rfl (lv_at hl 2 rfl) ?_
    have hp : Pt (w_X6_readItem Y q q_letters q1 q1_lengths g_size u20 g_items g_letters g1_links g1_folded g1_stiff g1_lengths) (w_X6_readNumber Y q q_letters g_size u20 g_items g_letters) [0, 1] := ⟨rfl, by decide +kernel⟩
    refine go_i hp hP hD hS hA (fun _ => rfl) (va_runV (As := []) (rest := []) ⟨hx, hb, hml, hown, hts⟩ (c_X6_readNumber h _) (cwV 0 hts gX6_readItem_X6_readNumber rfl rfl rfl (by decide +kernel) ⟨Nat.le_of_ble_eq_true rfl, Nat.le_of_ble_eq_true rfl⟩) (pre_V (b := q) (q0 := 0) (ci := 6) (q := (RX6, TX6, 4)) hp hK hN hP hD rfl rfl) rfl rfl hl.1 rfl (lv_room (Nat.le_of_ble_eq_true rfl)) dX6_readItem_38 ⟨Nat.le_of_ble_eq_true rfl, Nat.le_of_ble_eq_true rfl⟩) (fun r21 u H locs h hP hD hS => ?_)
    obtain ⟨u22, rfl⟩ : ∃ z, z = u := ⟨_, rfl⟩
    try dsimp only at h
    have hP : va_P D vwCl (w_X6_readItem Y q q_letters q1 q1_lengths g_size u22 g_items g_letters g1_links g1_folded g1_stiff g1_lengths) H := hP
    have hD : va_D A (w_X6_readItem Y q q_letters q1 q1_lengths g_size u22 g_items g_letters g1_links g1_folded g1_stiff g1_lengths) := hD
    refine lv_istore (lv' := [(4, .int r21), (3, .int u20), (2, .int r15), (0, .ref q), (1, .ref q1)]) hx hb dX6_readItem_41 hl (by decide) rfl (fun ls hl => ?_)
    refine lv_iload_n hx hb dX6_readItem_43 rfl (lv_at hl 2 rfl) ?_
    refine lv_iload hx hb dX6_readItem_44 (lv_at hl 0 rfl) ?_
    refine lv_aload_n hx hb dX6_readItem_46 rfl (lv_at hl 4 rfl) ?_
    have hp : Pt (w_X6_readItem Y q q_letters q1 q1_lengths g_size u22 g_items g_letters g1_links g1_folded g1_stiff g1_lengths) (w_X6_canStand Y q1 q1_lengths g1_links g1_folded g1_stiff) [2] := ⟨rfl, by decide +kernel⟩
    refine go_i hp hP hD hS hA (fun _ => rfl) (va_runS (As := [.int r15, .int r21, .ref q1]) (rest := []) ⟨hx, hb, hml, hown, hts⟩ (c_X6_canStand h _) (va_cwS 3 hts gX6_readItem_X6_canStand rfl rfl rfl (by decide +kernel) ⟨Nat.le_of_ble_eq_true rfl, Nat.le_of_ble_eq_true rfl⟩) (pre_S hp hK hN hP hD) rfl rfl hl.1 rfl (lv_room (Nat.le_of_ble_eq_true rfl)) dX6_readItem_47 ⟨Nat.le_of_ble_eq_true rfl, Nat.le_of_ble_eq_true rfl⟩) (fun r23 u H locs h hP hD hS => ?_)
    try dsimp only at h
    have hP : va_P D vwCl (w_X6_readItem Y q q_letters q1 q1_lengths g_size u22 g_items g_letters g1_links g1_folded g1_stiff g1_lengths) H := hP
    have hD : va_D A (w_X6_readItem Y q q_letters q1 q1_lengths g_size u22 g_items g_letters g1_links g1_folded g1_stiff g1_lengths) := hD
    refine lv_if_ne (tgt := 55) hx hb dX6_readItem_50 (by decide) (fun c24 => ?_) (fun c24 => ?_)
    · have h := h.1 c24
      refine lv_aload_n hx hb dX6_readItem_55 rfl (lv_at hl 3 rfl) ?_
      have hp : Pt (w_X6_readItem Y q q_letters q1 q1_lengths g_size u22 g_items g_letters g1_links g1_folded g1_stiff g1_lengths) (w_X6_skipBlanks Y q q_letters g_size u22 g_items g_letters) [0, 1] := ⟨rfl, by decide +kernel⟩
      refine go_v hp hP hD hS hA (fun _ => rfl) (va_runV (As := []) (rest := []) ⟨hx, hb, hml, hown, hts⟩ (c_X6_skipBlanks h _) (cwV 0 hts gX6_readItem_X6_skipBlanks rfl rfl rfl (by decide +kernel) ⟨Nat.le_of_ble_eq_true rfl, Nat.le_of_ble_eq_true rfl⟩) (pre_V (b := q) (q0 := 0) (ci := 6) (q := (RX6, TX6, 4)) hp hK hN hP hD rfl rfl) rfl rfl hl.1 rfl (lv_room (Nat.le_of_ble_eq_true rfl)) dX6_readItem_56 ⟨Nat.le_of_ble_eq_true rfl, Nat.le_of_ble_eq_true rfl⟩) (fun u H locs h hP hD hS => ?_)
      obtain ⟨u26, rfl⟩ : ∃ z, z = u := ⟨_, rfl⟩
      try dsimp only at h
      have hP : va_P D vwCl (w_X6_readItem Y q q_letters q1 q1_lengths g_size u26 g_items g_letters g1_links g1_folded g1_stiff g1_lengths) H := hP
      have hD : va_D A (w_X6_readItem Y q q_letters q1 q1_lengths g_size u26 g_items g_letters g1_links g1_folded g1_stiff g1_lengths) := hD
      refine lv_aload_n hx hb dX6_readItem_59 rfl (lv_at hl 3 rfl) ?_
      have hp : Pt (w_X6_readItem Y q q_letters q1 q1_lengths g_size u26 g_items g_letters g1_links g1_folded g1_stiff g1_lengths) (w_X6_letterHere Y q q_letters g_size u26 g_items g_letters) [0, 1] := ⟨rfl, by decide +kernel⟩
      refine go_i hp hP hD hS hA (fun _ => rfl) (va_runV (As := []) (rest := []) ⟨hx, hb, hml, hown, hts⟩ (c_X6_letterHere h _) (cwV 0 hts gX6_readItem_X6_letterHere rfl rfl rfl (by decide +kernel) ⟨Nat.le_of_ble_eq_true rfl, Nat.le_of_ble_eq_true rfl⟩) (pre_V (b := q) (q0 := 0) (ci := 6) (q := (RX6, TX6, 4)) hp hK hN hP hD rfl rfl) rfl rfl hl.1 rfl (lv_room (Nat.le_of_ble_eq_true rfl)) dX6_readItem_60 ⟨Nat.le_of_ble_eq_true rfl, Nat.le_of_ble_eq_true rfl⟩) (fun r27 u H locs h hP hD hS => ?_)
      try dsimp only at h
      have hP : va_P D vwCl (w_X6_readItem Y q q_letters q1 q1_lengths g_size u26 g_items g_letters g1_links g1_folded g1_stiff g1_lengths) H := hP
      have hD : va_D A (w_X6_readItem Y q q_letters q1 q1_lengths g_size u26 g_items g_letters g1_links g1_folded g1_stiff g1_lengths) := hD
      refine lv_bipush (v := 59) hx hb dX6_readItem_63 (by decide) ?_
      refine lv_icmp_eq (tgt := 73) hx hb dX6_readItem_65 (by decide) (fun c28 => ?_) (fun c28 => ?_)
      · have h := h.1 c28
        refine lv_aload_n hx hb dX6_readItem_73 rfl (lv_at hl 3 rfl) ?_
        refine lv_dup hx hb dX6_readItem_74 rfl ?_
        refine va_get (D := D) (ci := 6) (v := .int u26) (C := RX6) (T := TX6) (N := 4) hx hb hts in_X6_readItem_X6 hown hK hP 0 rfl rfl 2 (by decide) (k_X6_readItem_f28 hts) (fun _ h9 => h9) rfl dX6_readItem_75 ?_
        refine lv_iconst (v := 1) hx hb dX6_readItem_78 (by decide) ?_
        refine lv_iadd hx hb dX6_readItem_79 ?_
        refine lv_topi (fun z29 ez29 => ?_)
        have h := h z29 ez29
        refine va_put (D := D) (ci := 6) (v := .int z29) (ty := .int) (C := RX6) (T := TX6) (N := 4) hx hb hts in_X6_readItem_X6 tyX6 tyX6_ok nmX6 hown hK hP hD hS 0 rfl rfl 2 (by decide) (k_X6_readItem_f28 hts) (fun _ h9 => h9) rfl (by decide +kernel) rfl rfl (Nat.le_of_ble_eq_true rfl) dX6_readItem_80 (fun H locs hP hD hS => ?_)
        have hP : va_P D vwCl (w_X6_readItem Y q q_letters q1 q1_lengths g_size z29 g_items g_letters g1_links g1_folded g1_stiff g1_lengths) H := hP
        have hD : va_D A (w_X6_readItem Y q q_letters q1 q1_lengths g_size z29 g_items g_letters g1_links g1_folded g1_stiff g1_lengths) := hD
        refine lv_iload_n hx hb dX6_readItem_83 rfl (lv_at hl 2 rfl) ?_
        refine lv_iload hx hb dX6_readItem_84 (lv_at hl 0 rfl) ?_
        refine lv_aload_n hx hb dX6_readItem_86 rfl (lv_at hl 4 rfl) ?_
        have hp : Pt (w_X6_readItem Y q q_letters q1 q1_lengths g_size z29 g_items g_letters g1_links g1_folded g1_stiff g1_lengths) (w_X6_tell Y q1 q1_lengths g1_links g1_folded g1_stiff g1_lengths) [2, 3] := ⟨rfl, by decide +kernel⟩
        refine go_v hp hP hD hS hA (fun _ => rfl) (va_runS (As := [.int r15, .int r21, .ref q1]) (rest := []) ⟨hx, hb, hml, hown, hts⟩ (c_X6_tell h _) (va_cwS 3 hts gX6_readItem_X6_tell rfl rfl rfl (by decide +kernel) ⟨Nat.le_of_ble_eq_true rfl, Nat.le_of_ble_eq_true rfl⟩) (pre_S hp hK hN hP hD) rfl rfl hl.1 rfl (lv_room (Nat.le_of_ble_eq_true rfl)) dX6_readItem_87 ⟨Nat.le_of_ble_eq_true rfl, Nat.le_of_ble_eq_true rfl⟩) (fun u H locs h hP hD hS => ?_)
        obtain ⟨u31, u32, u33, u34⟩ := u
        try dsimp only at h
        have hP : va_P D vwCl (w_X6_readItem Y q q_letters q1 q1_lengths g_size z29 g_items g_letters u31 u32 u33 u34) H := hP
        have hD : va_D A (w_X6_readItem Y q q_letters q1 q1_lengths g_size z29 g_items g_letters u31 u32 u33 u34) := hD
        refine lv_iconst (v := (-1)) hx hb dX6_readItem_90 (by decide) ?_
        exact ret_i (z29, u31, u32, u33, u34) hx hb hr hlocks hK hP hD hS h dX6_readItem_91
      · have h := h.2 c28
        refine lv_aload_n hx hb dX6_readItem_68 rfl (lv_at hl 3 rfl) ?_
        refine va_get (D := D) (ci := 6) (v := .int u26) (C := RX6) (T := TX6) (N := 4) hx hb hts in_X6_readItem_X6 hown hK hP 0 rfl rfl 2 (by decide) (k_X6_readItem_f28 hts) (fun _ h9 => h9) rfl dX6_readItem_69 ?_
        exact ret_i (u26, g1_links, g1_folded, g1_stiff, g1_lengths) hx hb hr hlocks hK hP hD hS h dX6_readItem_72
    · have h := h.2 c24
      refine lv_iload_n hx hb dX6_readItem_53 rfl (lv_at hl 1 rfl) ?_
      exact ret_i (u22, g1_links, g1_folded, g1_stiff, g1_lengths) hx hb hr hlocks hK hP hD hS h dX6_readItem_54
  · have h := h.2 c17
    refine lv_aload_n hx hb dX6_readItem_13 rfl (lv_at hl 1 rfl) ?_
    refine va_get (D := D) (ci := 6) (v := .int g_place) (C := RX6) (T := TX6) (N := 4) hx hb hts in_X6_readItem_X6 hown hK hP 0 rfl rfl 2 (by decide) (k_X6_readItem_f28 hts) (fun _ h9 => h9) rfl dX6_readItem_14 ?_
    exact ret_i (g_place, g1_links, g1_folded, g1_stiff, g1_lengths) hx hb hr hlocks hK hP hD hS h dX6_readItem_17
abbrev rm_X6_readInto : Room := { frames := 5, cells := 0, slots := 0, locals := 100 }
theorem in_X6_readInto_X6 : ∀ w ∈ wsX60, w ∈ wsX6_readInto := fun _ h => List.mem_cons_of_mem _ (List.mem_append_left _ (List.mem_append_right _ h))
theorem k_X6_readInto_f28 {s : State} {args : Array Value} (hts : ∀ w ∈ wsX6_readInto, w.before args s = true) : (Cond.fieldLink RX6 28 "FoldRule$Text" "place" "I").before args s = true := hts _ (by decide +kernel)
theorem k_X6_readInto_f15 {s : State} {args : Array Value} (hts : ∀ w ∈ wsX6_readInto, w.before args s = true) : (Cond.fieldLink RX6 15 "FoldRule$Text" "size" "I").before args s = true := hts _ (by decide +kernel)
theorem k_X6_readInto_f31 {s : State} {args : Array Value} (hts : ∀ w ∈ wsX6_readInto, w.before args s = true) : (Cond.fieldLink RX6 31 "FoldRule$Text" "items" "I").before args s = true := hts _ (by decide +kernel)
set_option maxHeartbeats 4000000 in
set_option maxRecDepth 100000 in
theorem L_X6_readInto_16 {p : Program} {l : Launch} {e : Env} {s : State} {m : MethodId} {args : Array Value} {below : List Frame} {meth : Method} {c : Code} {D : va_G} {Y : ClassId × ClassId × ClassId} {A : Nat → Prop} {q1 q1_lengths q q_letters : Nat} {g_size : Int32} {g_letters : Nat → Int32} {Q : Int32 → Int32 → Int32 → Int32 → Int32 → Int32 → (Nat → Int32) → Prop} (C : Ctx p s m args meth c cX6_readInto 4 (some .int) wsX6_readInto RX6) (hK : va_K D vwCl (tyS Y) s) (hA : ∀ q, s.heap.size ≤ q → A q) : ∀ (n : Nat) (x2 g1_links g1_folded g1_stiff g_place g_items : Int32) (g1_lengths : Nat → Int32), itr7 (B_X6_readInto_16 g_size g_letters Q) n x2 g1_links g1_folded g1_stiff g_place g_items g1_lengths → ∀ (H : Heap) (locs : List Loc) (ls : Array Slot), va_P D vwCl (w_X6_readInto Y q1 q1_lengths q q_letters g1_links g1_folded g1_stiff g_size g_place g_items g_letters g1_lengths) H → va_D A (w_X6_readInto Y q1 q1_lengths q q_letters g1_links g1_folded g1_stiff g_size g_place g_items g_letters g1_lengths) → va_S A s.heap H locs → lv_has ls 4 [(0, .ref q), (1, .ref q1), (2, .int x2)] → W p l e rm_X6_readInto s m args below meth c H locs 0 0 (QI below args s D Y A (fun r (u : Int32 × Int32 × Int32 × Int32 × Int32 × (Nat → Int32)) => Q r u.1 u.2.1 u.2.2.1 u.2.2.2.1 u.2.2.2.2.1 u.2.2.2.2.2) (fun u : Int32 × Int32 × Int32 × Int32 × Int32 × (Nat → Int32) => (w_X6_readInto Y q1 q1_lengths q q_letters u.1 u.2.1 u.2.2.1 g_size u.2.2.2.1 u.2.2.2.2.1 g_letters u.2.2.2.2.2))) (F0 m 16 ls []) := by
  intro n
  induction n with
  | zero => intro x2 g1_links g1_folded g1_stiff g_place g_items g1_lengths h; exact False.elim h
  | succ n ih =>
    intro x2 g1_links g1_folded g1_stiff g_place g_items g1_lengths h H locs ls hP hD hS hl
    obtain ⟨⟨hx, hb, hml, hown, hts⟩, hr, hlocks, hN⟩ := id C
    have h : B_X6_readInto_16 g_size g_letters Q (itr7 (B_X6_readInto_16 g_size g_letters Q) n) x2 g1_links g1_folded g1_stiff g_place g_items g1_lengths := h
    unfold B_X6_readInto_16 at h
    refine lv_iload_n hx hb dX6_readInto_16 rfl (lv_at hl 2 rfl) ?_
    refine lv_bipush (v := 90) hx hb dX6_readInto_17 (by decide) ?_
    refine lv_icmp_gt (tgt := 68) hx hb dX6_readInto_19 (by decide) (fun c13 => ?_) (fun c13 => ?_)
    · have h := h.1 c13
      refine lv_iconst (v := (-1)) hx hb dX6_readInto_68 (by decide) ?_
      exact ret_i (g1_links, g1_folded, g1_stiff, g_place, g_items, g1_lengths) hx hb hr hlocks hK hP hD hS h dX6_readInto_69
    · have h := h.2 c13
      refine lv_aload_n hx hb dX6_readInto_22 rfl (lv_at hl 0 rfl) ?_
      have hp : Pt (w_X6_readInto Y q1 q1_lengths q q_letters g1_links g1_folded g1_stiff g_size g_place g_items g_letters g1_lengths) (w_X6_skipBlanks Y q q_letters g_size g_place g_items g_letters) [1, 2] := ⟨rfl, by decide +kernel⟩
      refine go_v hp hP hD hS hA (fun _ => rfl) (va_runV (As := []) (rest := []) ⟨hx, hb, hml, hown, hts⟩ (c_X6_skipBlanks h _) (cwV 0 hts gX6_readInto_X6_skipBlanks rfl rfl rfl (by decide +kernel) ⟨Nat.le_of_ble_eq_true rfl, Nat.le_of_ble_eq_true rfl⟩) (pre_V (b := q) (q0 := 0) (ci := 6) (q := (RX6, TX6, 4)) hp hK hN hP hD rfl rfl) rfl rfl hl.1 rfl (lv_room (Nat.le_of_ble_eq_true rfl)) dX6_readInto_23 ⟨Nat.le_of_ble_eq_true rfl, Nat.le_of_ble_eq_true rfl⟩) (fun u H locs h hP hD hS => ?_)
      obtain ⟨u15, rfl⟩ : ∃ z, z = u := ⟨_, rfl⟩
      try dsimp only at h
      have hP : va_P D vwCl (w_X6_readInto Y q1 q1_lengths q q_letters g1_links g1_folded g1_stiff g_size u15 g_items g_letters g1_lengths) H := hP
      have hD : va_D A (w_X6_readInto Y q1 q1_lengths q q_letters g1_links g1_folded g1_stiff g_size u15 g_items g_letters g1_lengths) := hD
      refine lv_aload_n hx hb dX6_readInto_26 rfl (lv_at hl 0 rfl) ?_
      refine va_get (D := D) (ci := 6) (v := .int u15) (C := RX6) (T := TX6) (N := 4) hx hb hts in_X6_readInto_X6 hown hK hP 1 rfl rfl 2 (by decide) (k_X6_readInto_f28 hts) (fun _ h9 => h9) rfl dX6_readInto_27 ?_
      refine lv_aload_n hx hb dX6_readInto_30 rfl (lv_at hl 0 rfl) ?_
      refine va_get (D := D) (ci := 6) (v := .int g_size) (C := RX6) (T := TX6) (N := 4) hx hb hts in_X6_readInto_X6 hown hK hP 1 rfl rfl 1 (by decide) (k_X6_readInto_f15 hts) (fun _ h9 => h9) rfl dX6_readInto_31 ?_
      refine lv_icmp_lt (tgt := 39) hx hb dX6_readInto_34 (by decide) (fun c16 => ?_) (fun c16 => ?_)
      · have h := h.1 c16
        refine lv_aload_n hx hb dX6_readInto_39 rfl (lv_at hl 0 rfl) ?_
        refine lv_aload_n hx hb dX6_readInto_40 rfl (lv_at hl 1 rfl) ?_
        have hp : Pt (w_X6_readInto Y q1 q1_lengths q q_letters g1_links g1_folded g1_stiff g_size u15 g_items g_letters g1_lengths) (w_X6_readItem Y q q_letters q1 q1_lengths g_size u15 g_items g_letters g1_links g1_folded g1_stiff g1_lengths) [1, 2, 0, 3] := ⟨rfl, by decide +kernel⟩
        refine go_i hp hP hD hS hA (fun _ => rfl) (va_runV (As := [.ref q1]) (rest := []) ⟨hx, hb, hml, hown, hts⟩ (c_X6_readItem h _) (cwV 1 hts gX6_readInto_X6_readItem rfl rfl rfl (by decide +kernel) ⟨Nat.le_of_ble_eq_true rfl, Nat.le_of_ble_eq_true rfl⟩) (pre_V (b := q) (q0 := 0) (ci := 6) (q := (RX6, TX6, 4)) hp hK hN hP hD rfl rfl) rfl rfl hl.1 rfl (lv_room (Nat.le_of_ble_eq_true rfl)) dX6_readInto_41 ⟨Nat.le_of_ble_eq_true rfl, Nat.le_of_ble_eq_true rfl⟩) (fun r17 u H locs h hP hD hS => ?_)
        obtain ⟨u18, u19, u20, u21, u22⟩ := u
        try dsimp only at h
        have hP : va_P D vwCl (w_X6_readInto Y q1 q1_lengths q q_letters u19 u20 u21 g_size u18 g_items g_letters u22) H := hP
        have hD : va_D A (w_X6_readInto Y q1 q1_lengths q q_letters u19 u20 u21 g_size u18 g_items g_letters u22) := hD
        refine lv_istore_n (lv' := [(3, .int r17), (0, .ref q), (1, .ref q1), (2, .int x2)]) hx hb dX6_readInto_44 rfl hl (by decide) rfl (fun ls hl => ?_)
        refine lv_iload_n hx hb dX6_readInto_45 rfl (lv_at hl 0 rfl) ?_
        refine lv_iconst (v := (-1)) hx hb dX6_readInto_46 (by decide) ?_
        refine lv_icmp_eq (tgt := 52) hx hb dX6_readInto_47 (by decide) (fun c23 => ?_) (fun c23 => ?_)
        · have h := h.1 c23
          refine lv_aload_n hx hb dX6_readInto_52 rfl (lv_at hl 1 rfl) ?_
          refine lv_dup hx hb dX6_readInto_53 rfl ?_
          refine va_get (D := D) (ci := 6) (v := .int g_items) (C := RX6) (T := TX6) (N := 4) hx hb hts in_X6_readInto_X6 hown hK hP 1 rfl rfl 3 (by decide) (k_X6_readInto_f31 hts) (fun _ h9 => h9) rfl dX6_readInto_54 ?_
          refine lv_iconst (v := 1) hx hb dX6_readInto_57 (by decide) ?_
          refine lv_iadd hx hb dX6_readInto_58 ?_
          refine lv_topi (fun z24 ez24 => ?_)
          have h := h z24 ez24
          refine va_put (D := D) (ci := 6) (v := .int z24) (ty := .int) (C := RX6) (T := TX6) (N := 4) hx hb hts in_X6_readInto_X6 tyX6 tyX6_ok nmX6 hown hK hP hD hS 1 rfl rfl 3 (by decide) (k_X6_readInto_f31 hts) (fun _ h9 => h9) rfl (by decide +kernel) rfl rfl (Nat.le_of_ble_eq_true rfl) dX6_readInto_59 (fun H locs hP hD hS => ?_)
          have hP : va_P D vwCl (w_X6_readInto Y q1 q1_lengths q q_letters u19 u20 u21 g_size u18 z24 g_letters u22) H := hP
          have hD : va_D A (w_X6_readInto Y q1 q1_lengths q q_letters u19 u20 u21 g_size u18 z24 g_letters u22) := hD
          obtain ⟨z25, ez25⟩ : ∃ y : Int32, y = (x2 + (1 : Int32)) := ⟨_, rfl⟩
          have h := h z25 ez25
          refine lv_iinc (v := z25) (lv' := [(2, .int z25), (3, .int r17), (0, .ref q), (1, .ref q1)]) hx hb dX6_readInto_62 hl (k := 3) rfl (by rw [ez25]; rfl) (by decide) rfl (fun ls hl => ?_)
          refine lv_goto (tgt := 16) hx hb dX6_readInto_65 (by decide) ?_
          exact ih _ _ _ _ _ _ _ h _ _ _ hP hD hS (lv_sub hl [2, 3, 0] rfl)
        · have h := h.2 c23
          refine lv_iload_n hx hb dX6_readInto_50 rfl (lv_at hl 0 rfl) ?_
          exact ret_i (u19, u20, u21, u18, g_items, u22) hx hb hr hlocks hK hP hD hS h dX6_readInto_51
      · have h := h.2 c16
        refine lv_iconst (v := (-1)) hx hb dX6_readInto_37 (by decide) ?_
        exact ret_i (g1_links, g1_folded, g1_stiff, u15, g_items, g1_lengths) hx hb hr hlocks hK hP hD hS h dX6_readInto_38
set_option maxHeartbeats 4000000 in
set_option maxRecDepth 100000 in
theorem c_X6_readInto {l : Launch} {D : va_G} {Y : ClassId × ClassId × ClassId} {q1 q1_lengths q q_letters : Nat} {g1_links g1_folded g1_stiff g_size g_place g_items : Int32} {g_letters g1_lengths : Nat → Int32} {Q : Int32 → Int32 → Int32 → Int32 → Int32 → Int32 → (Nat → Int32) → Prop} (h : wp_X6_readInto g1_links g1_folded g1_stiff g_size g_place g_items g_letters g1_lengths Q) (sz : Nat) : MtI l yX6_readInto wsX6_readInto rm_X6_readInto [.ref q, .ref q1] D Y (w_X6_readInto Y q1 q1_lengths q q_letters g1_links g1_folded g1_stiff g_size g_place g_items g_letters g1_lengths) (fun r (u : Int32 × Int32 × Int32 × Int32 × Int32 × (Nat → Int32)) => Q r u.1 u.2.1 u.2.2.1 u.2.2.2.1 u.2.2.2.2.1 u.2.2.2.2.2) (fun u : Int32 × Int32 × Int32 × Int32 × Int32 × (Nat → Int32) => (w_X6_readInto Y q1 q1_lengths q q_letters u.1 u.2.1 u.2.2.1 g_size u.2.2.2.1 u.2.2.2.2.1 g_letters u.2.2.2.2.2)) sz := by
  refine ct_i (cc := cX6_readInto) (nL := 4) (ret := (some .int)) (by decide) rfl (Nat.le_of_ble_eq_true rfl) ?_ sz
  intro p e s m below meth c A ls C hK hA hP hD hS hl
  obtain ⟨⟨hx, hb, hml, hown, hts⟩, hr, hlocks, hN⟩ := id C
  have hown : s.vm.findClass RX6 = some m.cls := hown
  have hl : lv_has ls 4 [(0, .ref q), (1, .ref q1)] := hl
  unfold wp_X6_readInto at h
  refine lv_aload_n hx hb dX6_readInto_0 rfl (lv_at hl 1 rfl) ?_
  have hp : Pt (w_X6_readInto Y q1 q1_lengths q q_letters g1_links g1_folded g1_stiff g_size g_place g_items g_letters g1_lengths) (w_X5_makeEmpty Y q1 q1_lengths g1_links g1_folded g1_stiff) [0] := ⟨rfl, by decide +kernel⟩
  refine go_v hp hP hD hS hA (fun _ => rfl) (va_runV (As := []) (rest := []) ⟨hx, hb, hml, hown, hts⟩ (c_X5_makeEmpty h _) (cwV 0 hts gX6_readInto_X5_makeEmpty rfl rfl rfl (by decide +kernel) ⟨Nat.le_of_ble_eq_true rfl, Nat.le_of_ble_eq_true rfl⟩) (pre_V (b := q1) (q0 := 0) (ci := 5) (q := (RX5, TX5, 4)) hp hK hN hP hD rfl rfl) rfl rfl hl.1 rfl (lv_room (Nat.le_of_ble_eq_true rfl)) dX6_readInto_1 ⟨Nat.le_of_ble_eq_true rfl, Nat.le_of_ble_eq_true rfl⟩) (fun u H locs h hP hD hS => ?_)
  obtain ⟨u27, u28, u29⟩ := u
  try dsimp only at h
  have hP : va_P D vwCl (w_X6_readInto Y q1 q1_lengths q q_letters u27 u28 u29 g_size g_place g_items g_letters g1_lengths) H := hP
  have hD : va_D A (w_X6_readInto Y q1 q1_lengths q q_letters u27 u28 u29 g_size g_place g_items g_letters g1_lengths) := hD
  refine lv_aload_n hx hb dX6_readInto_4 rfl (lv_at hl 0 rfl) ?_
  refine lv_iconst (v := 0) hx hb dX6_readInto_5 (by decide) ?_
  refine va_put (D := D) (ci := 6) (v := .int (0 : Int32)) (ty := .int) (C := RX6) (T := TX6) (N := 4) hx hb hts in_X6_readInto_X6 tyX6 tyX6_ok nmX6 hown hK hP hD hS 1 rfl rfl 2 (by decide) (k_X6_readInto_f28 hts) (fun _ h9 => h9) rfl (by decide +kernel) rfl rfl (Nat.le_of_ble_eq_true rfl) dX6_readInto_6 (fun H locs hP hD hS => ?_)
  have hP : va_P D vwCl (w_X6_readInto Y q1 q1_lengths q q_letters u27 u28 u29 g_size (0 : Int32) g_items g_letters g1_lengths) H := hP
  have hD : va_D A (w_X6_readInto Y q1 q1_lengths q q_letters u27 u28 u29 g_size (0 : Int32) g_items g_letters g1_lengths) := hD
  refine lv_aload_n hx hb dX6_readInto_9 rfl (lv_at hl 0 rfl) ?_
  refine lv_iconst (v := 0) hx hb dX6_readInto_10 (by decide) ?_
  refine va_put (D := D) (ci := 6) (v := .int (0 : Int32)) (ty := .int) (C := RX6) (T := TX6) (N := 4) hx hb hts in_X6_readInto_X6 tyX6 tyX6_ok nmX6 hown hK hP hD hS 1 rfl rfl 3 (by decide) (k_X6_readInto_f31 hts) (fun _ h9 => h9) rfl (by decide +kernel) rfl rfl (Nat.le_of_ble_eq_true rfl) dX6_readInto_11 (fun H locs hP hD hS => ?_)
  have hP : va_P D vwCl (w_X6_readInto Y q1 q1_lengths q q_letters u27 u28 u29 g_size (0 : Int32) (0 : Int32) g_letters g1_lengths) H := hP
  have hD : va_D A (w_X6_readInto Y q1 q1_lengths q q_letters u27 u28 u29 g_size (0 : Int32) (0 : Int32) g_letters g1_lengths) := hD
  refine lv_iconst (v := 0) hx hb dX6_readInto_14 (by decide) ?_
  refine lv_istore_n (lv' := [(2, .int (0 : Int32)), (0, .ref q), (1, .ref q1)]) hx hb dX6_readInto_15 rfl hl (by decide) rfl (fun ls hl => ?_)
  obtain ⟨n, h⟩ := h
  exact L_X6_readInto_16 C hK hA  n _ _ _ _ _ _ _ h _ _ _ hP hD hS (lv_sub hl [1, 2, 0] rfl)
abbrev rm_X7_type : Room := { frames := 2, cells := 0, slots := 0, locals := 41 }
theorem in_X7_type_X6 : ∀ w ∈ wsX60, w ∈ wsX7_type := fun _ h => List.mem_cons_of_mem _ (List.mem_append_right _ h)
theorem in_X7_type_X7 : ∀ w ∈ wsX70, w ∈ wsX7_type := fun _ h => List.mem_cons_of_mem _ (List.mem_append_left _ (List.mem_append_right _ h))
theorem k_X7_type_f10 {s : State} {args : Array Value} (hts : ∀ w ∈ wsX7_type, w.before args s = true) : (Cond.fieldLink RX7 10 "FoldRule" "text" "LFoldRule$Text;").before args s = true := hts _ (by decide +kernel)
set_option maxHeartbeats 4000000 in
set_option maxRecDepth 100000 in
theorem c_X7_type {l : Launch} {D : va_G} {Y : ClassId × ClassId × ClassId} {q q_text q_strip q_told q_images q_kept q_history q_lay q_folds q_sightings q_rater q_text_letters : Nat} {g_text_size g_text_place g_text_items : Int32} {g_text_letters : Nat → Int32} {x1 : Int32} {Q : Int32 → Int32 → (Nat → Int32) → Prop} (h : wp_X7_type g_text_size g_text_letters x1 Q) (sz : Nat) : MtI l yX7_type wsX7_type rm_X7_type [.ref q, .int x1] D Y (w_X7_type Y q q_text q_strip q_told q_images q_kept q_history q_lay q_folds q_sightings q_rater q_text_letters g_text_size g_text_place g_text_items g_text_letters) (fun r (u : Int32 × (Nat → Int32)) => Q r u.1 u.2) (fun u : Int32 × (Nat → Int32) => (w_X7_type Y q q_text q_strip q_told q_images q_kept q_history q_lay q_folds q_sightings q_rater q_text_letters u.1 g_text_place g_text_items u.2)) sz := by
  refine ct_i (cc := cX7_type) (nL := 2) (ret := (some .int)) (by decide) rfl (Nat.le_of_ble_eq_true rfl) ?_ sz
  intro p e s m below meth c A ls C hK hA hP hD hS hl
  obtain ⟨⟨hx, hb, hml, hown, hts⟩, hr, hlocks, hN⟩ := id C
  have hown : s.vm.findClass RX7 = some m.cls := hown
  have hl : lv_has ls 2 [(0, .ref q), (1, .int x1)] := hl
  unfold wp_X7_type at h
  refine lv_iload_n hx hb dX7_type_0 rfl (lv_at hl 1 rfl) ?_
  refine lv_iconst (v := 0) hx hb dX7_type_1 (by decide) ?_
  refine lv_sipush (v := 255) hx hb dX7_type_2 (by decide) ?_
  have hp : Pt (w_X7_type Y q q_text q_strip q_told q_images q_kept q_history q_lay q_folds q_sightings q_rater q_text_letters g_text_size g_text_place g_text_items g_text_letters) (w_X7_isWithin Y ) [] := ⟨rfl, by decide +kernel⟩
  refine go_i hp hP hD hS hA (fun _ => rfl) (va_runS (As := [.int x1, .int (0 : Int32), .int (255 : Int32)]) (rest := []) ⟨hx, hb, hml, hown, hts⟩ (c_X7_isWithin h _) (va_cwS 3 hts gX7_type_X7_isWithin rfl rfl rfl (by decide +kernel) ⟨Nat.le_of_ble_eq_true rfl, Nat.le_of_ble_eq_true rfl⟩) (pre_S hp hK hN hP hD) rfl rfl hl.1 rfl (lv_room (Nat.le_of_ble_eq_true rfl)) dX7_type_5 ⟨Nat.le_of_ble_eq_true rfl, Nat.le_of_ble_eq_true rfl⟩) (fun r5 u H locs h hP hD hS => ?_)
  try dsimp only at h
  have hP : va_P D vwCl (w_X7_type Y q q_text q_strip q_told q_images q_kept q_history q_lay q_folds q_sightings q_rater q_text_letters g_text_size g_text_place g_text_items g_text_letters) H := hP
  have hD : va_D A (w_X7_type Y q q_text q_strip q_told q_images q_kept q_history q_lay q_folds q_sightings q_rater q_text_letters g_text_size g_text_place g_text_items g_text_letters) := hD
  refine lv_if_ne (tgt := 13) hx hb dX7_type_8 (by decide) (fun c6 => ?_) (fun c6 => ?_)
  · have h := h.1 c6
    refine lv_aload_n hx hb dX7_type_13 rfl (lv_at hl 0 rfl) ?_
    refine va_get (D := D) (ci := 7) (v := .ref q_text) (C := RX7) (T := TX7) (N := 10) hx hb hts in_X7_type_X7 hown hK hP 0 rfl rfl 0 (by decide) (k_X7_type_f10 hts) (fun _ h9 => h9) rfl dX7_type_14 ?_
    have hp : Pt (w_X7_type Y q q_text q_strip q_told q_images q_kept q_history q_lay q_folds q_sightings q_rater q_text_letters g_text_size g_text_place g_text_items g_text_letters) (w_X6_isFull Y q_text q_text_letters g_text_size g_text_place g_text_items) [1] := ⟨rfl, by decide +kernel⟩
    refine go_i hp hP hD hS hA (fun _ => rfl) (va_runV (As := []) (rest := []) ⟨hx, hb, hml, hown, hts⟩ (c_X6_isFull h _) (cwV 0 hts gX7_type_X6_isFull rfl rfl rfl (by decide +kernel) ⟨Nat.le_of_ble_eq_true rfl, Nat.le_of_ble_eq_true rfl⟩) (pre_V (b := q_text) (q0 := 0) (ci := 6) (q := (RX6, TX6, 4)) hp hK hN hP hD rfl rfl) rfl rfl hl.1 rfl (lv_room (Nat.le_of_ble_eq_true rfl)) dX7_type_17 ⟨Nat.le_of_ble_eq_true rfl, Nat.le_of_ble_eq_true rfl⟩) (fun r7 u H locs h hP hD hS => ?_)
    try dsimp only at h
    have hP : va_P D vwCl (w_X7_type Y q q_text q_strip q_told q_images q_kept q_history q_lay q_folds q_sightings q_rater q_text_letters g_text_size g_text_place g_text_items g_text_letters) H := hP
    have hD : va_D A (w_X7_type Y q q_text q_strip q_told q_images q_kept q_history q_lay q_folds q_sightings q_rater q_text_letters g_text_size g_text_place g_text_items g_text_letters) := hD
    refine lv_if_eq (tgt := 26) hx hb dX7_type_20 (by decide) (fun c8 => ?_) (fun c8 => ?_)
    · have h := h.1 c8
      refine lv_aload_n hx hb dX7_type_26 rfl (lv_at hl 0 rfl) ?_
      refine va_get (D := D) (ci := 7) (v := .ref q_text) (C := RX7) (T := TX7) (N := 10) hx hb hts in_X7_type_X7 hown hK hP 0 rfl rfl 0 (by decide) (k_X7_type_f10 hts) (fun _ h9 => h9) rfl dX7_type_27 ?_
      refine lv_iload_n hx hb dX7_type_30 rfl (lv_at hl 1 rfl) ?_
      have hp : Pt (w_X7_type Y q q_text q_strip q_told q_images q_kept q_history q_lay q_folds q_sightings q_rater q_text_letters g_text_size g_text_place g_text_items g_text_letters) (w_X6_append Y q_text q_text_letters g_text_size g_text_place g_text_items g_text_letters) [1, 2] := ⟨rfl, by decide +kernel⟩
      refine go_v hp hP hD hS hA (fun _ => rfl) (va_runV (As := [.int x1]) (rest := []) ⟨hx, hb, hml, hown, hts⟩ (c_X6_append h _) (cwV 1 hts gX7_type_X6_append rfl rfl rfl (by decide +kernel) ⟨Nat.le_of_ble_eq_true rfl, Nat.le_of_ble_eq_true rfl⟩) (pre_V (b := q_text) (q0 := 0) (ci := 6) (q := (RX6, TX6, 4)) hp hK hN hP hD rfl rfl) rfl rfl hl.1 rfl (lv_room (Nat.le_of_ble_eq_true rfl)) dX7_type_31 ⟨Nat.le_of_ble_eq_true rfl, Nat.le_of_ble_eq_true rfl⟩) (fun u H locs h hP hD hS => ?_)
      obtain ⟨u10, u11⟩ := u
      try dsimp only at h
      have hP : va_P D vwCl (w_X7_type Y q q_text q_strip q_told q_images q_kept q_history q_lay q_folds q_sightings q_rater q_text_letters u10 g_text_place g_text_items u11) H := hP
      have hD : va_D A (w_X7_type Y q q_text q_strip q_told q_images q_kept q_history q_lay q_folds q_sightings q_rater q_text_letters u10 g_text_place g_text_items u11) := hD
      refine lv_aload_n hx hb dX7_type_34 rfl (lv_at hl 0 rfl) ?_
      refine va_get (D := D) (ci := 7) (v := .ref q_text) (C := RX7) (T := TX7) (N := 10) hx hb hts in_X7_type_X7 hown hK hP 0 rfl rfl 0 (by decide) (k_X7_type_f10 hts) (fun _ h9 => h9) rfl dX7_type_35 ?_
      refine va_getN (D := D) (ci := 6) (v := .int u10) (C := RX6) (T := TX6) (N := 4) hx hb hts in_X7_type_X6 hown hK hP 1 rfl rfl 1 (by decide) (va_Nw.use rfl (nwX7_81 hN)) (fun _ h9 => h9) rfl dX7_type_38 ?_
      exact ret_i (u10, u11) hx hb hr hlocks hK hP hD hS h dX7_type_41
    · have h := h.2 c8
      refine lv_bipush (v := (-3)) hx hb dX7_type_23 (by decide) ?_
      exact ret_i (g_text_size, g_text_letters) hx hb hr hlocks hK hP hD hS h dX7_type_25
  · have h := h.2 c6
    refine lv_iconst (v := (-1)) hx hb dX7_type_11 (by decide) ?_
    exact ret_i (g_text_size, g_text_letters) hx hb hr hlocks hK hP hD hS h dX7_type_12
abbrev rm_X7_clear : Room := { frames := 1, cells := 0, slots := 0, locals := 20 }
theorem in_X7_clear_X6 : ∀ w ∈ wsX60, w ∈ wsX7_clear := fun _ h => List.mem_cons_of_mem _ (List.mem_append_right _ h)
theorem in_X7_clear_X7 : ∀ w ∈ wsX70, w ∈ wsX7_clear := fun _ h => List.mem_cons_of_mem _ (List.mem_append_left _ (List.mem_append_right _ h))
theorem k_X7_clear_f10 {s : State} {args : Array Value} (hts : ∀ w ∈ wsX7_clear, w.before args s = true) : (Cond.fieldLink RX7 10 "FoldRule" "text" "LFoldRule$Text;").before args s = true := hts _ (by decide +kernel)
set_option maxHeartbeats 4000000 in
set_option maxRecDepth 100000 in
theorem c_X7_clear {l : Launch} {D : va_G} {Y : ClassId × ClassId × ClassId} {q q_text q_strip q_told q_images q_kept q_history q_lay q_folds q_sightings q_rater q_text_letters : Nat} {g_text_size g_text_place g_text_items : Int32} {Q : Int32 → Int32 → Prop} (h : wp_X7_clear g_text_size Q) (sz : Nat) : MtI l yX7_clear wsX7_clear rm_X7_clear [.ref q] D Y (w_X7_clear Y q q_text q_strip q_told q_images q_kept q_history q_lay q_folds q_sightings q_rater q_text_letters g_text_size g_text_place g_text_items) (fun r (u : Int32) => Q r u) (fun u : Int32 => (w_X7_clear Y q q_text q_strip q_told q_images q_kept q_history q_lay q_folds q_sightings q_rater q_text_letters u g_text_place g_text_items)) sz := by
  refine ct_i (cc := cX7_clear) (nL := 2) (ret := (some .int)) (by decide) rfl (Nat.le_of_ble_eq_true rfl) ?_ sz
  intro p e s m below meth c A ls C hK hA hP hD hS hl
  obtain ⟨⟨hx, hb, hml, hown, hts⟩, hr, hlocks, hN⟩ := id C
  have hown : s.vm.findClass RX7 = some m.cls := hown
  have hl : lv_has ls 2 [(0, .ref q)] := hl
  unfold wp_X7_clear at h
  refine lv_aload_n hx hb dX7_clear_0 rfl (lv_at hl 0 rfl) ?_
  refine va_get (D := D) (ci := 7) (v := .ref q_text) (C := RX7) (T := TX7) (N := 10) hx hb hts in_X7_clear_X7 hown hK hP 0 rfl rfl 0 (by decide) (k_X7_clear_f10 hts) (fun _ h9 => h9) rfl dX7_clear_1 ?_
  refine va_getN (D := D) (ci := 6) (v := .int g_text_size) (C := RX6) (T := TX6) (N := 4) hx hb hts in_X7_clear_X6 hown hK hP 1 rfl rfl 1 (by decide) (va_Nw.use rfl (nwX7_81 hN)) (fun _ h9 => h9) rfl dX7_clear_4 ?_
  refine lv_istore_n (lv' := [(1, .int g_text_size), (0, .ref q)]) hx hb dX7_clear_7 rfl hl (by decide) rfl (fun ls hl => ?_)
  refine lv_aload_n hx hb dX7_clear_8 rfl (lv_at hl 1 rfl) ?_
  refine va_get (D := D) (ci := 7) (v := .ref q_text) (C := RX7) (T := TX7) (N := 10) hx hb hts in_X7_clear_X7 hown hK hP 0 rfl rfl 0 (by decide) (k_X7_clear_f10 hts) (fun _ h9 => h9) rfl dX7_clear_9 ?_
  have hp : Pt (w_X7_clear Y q q_text q_strip q_told q_images q_kept q_history q_lay q_folds q_sightings q_rater q_text_letters g_text_size g_text_place g_text_items) (w_X6_makeEmpty Y q_text q_text_letters g_text_size g_text_place g_text_items) [1] := ⟨rfl, by decide +kernel⟩
  refine go_v hp hP hD hS hA (fun _ => rfl) (va_runV (As := []) (rest := []) ⟨hx, hb, hml, hown, hts⟩ (c_X6_makeEmpty h _) (cwV 0 hts gX7_clear_X6_makeEmpty rfl rfl rfl (by decide +kernel) ⟨Nat.le_of_ble_eq_true rfl, Nat.le_of_ble_eq_true rfl⟩) (pre_V (b := q_text) (q0 := 0) (ci := 6) (q := (RX6, TX6, 4)) hp hK hN hP hD rfl rfl) rfl rfl hl.1 rfl (lv_room (Nat.le_of_ble_eq_true rfl)) dX7_clear_12 ⟨Nat.le_of_ble_eq_true rfl, Nat.le_of_ble_eq_true rfl⟩) (fun u H locs h hP hD hS => ?_)
  obtain ⟨u3, rfl⟩ : ∃ z, z = u := ⟨_, rfl⟩
  try dsimp only at h
  have hP : va_P D vwCl (w_X7_clear Y q q_text q_strip q_told q_images q_kept q_history q_lay q_folds q_sightings q_rater q_text_letters u3 g_text_place g_text_items) H := hP
  have hD : va_D A (w_X7_clear Y q q_text q_strip q_told q_images q_kept q_history q_lay q_folds q_sightings q_rater q_text_letters u3 g_text_place g_text_items) := hD
  refine lv_iload_n hx hb dX7_clear_15 rfl (lv_at hl 0 rfl) ?_
  exact ret_i (u3) hx hb hr hlocks hK hP hD hS h dX7_clear_16
abbrev rm_X7_rule : Room := { frames := 6, cells := 0, slots := 0, locals := 123 }
theorem in_X7_rule_X6 : ∀ w ∈ wsX60, w ∈ wsX7_rule := fun _ h => List.mem_cons_of_mem _ (List.mem_append_left _ (List.mem_append_left _ (List.mem_append_left _ (List.mem_append_right _ h))))
theorem in_X7_rule_X7 : ∀ w ∈ wsX70, w ∈ wsX7_rule := fun _ h => List.mem_cons_of_mem _ (List.mem_append_left _ (List.mem_append_left _ (List.mem_append_left _ (List.mem_append_left _ (List.mem_append_right _ h)))))
theorem k_X7_rule_f10 {s : State} {args : Array Value} (hts : ∀ w ∈ wsX7_rule, w.before args s = true) : (Cond.fieldLink RX7 10 "FoldRule" "text" "LFoldRule$Text;").before args s = true := hts _ (by decide +kernel)
theorem k_X7_rule_f30 {s : State} {args : Array Value} (hts : ∀ w ∈ wsX7_rule, w.before args s = true) : (Cond.fieldLink RX7 30 "FoldRule" "kept" "[Z").before args s = true := hts _ (by decide +kernel)
theorem k_X7_rule_f23 {s : State} {args : Array Value} (hts : ∀ w ∈ wsX7_rule, w.before args s = true) : (Cond.fieldLink RX7 23 "FoldRule" "told" "LFoldRule$Strip;").before args s = true := hts _ (by decide +kernel)
theorem k_X7_rule_f19 {s : State} {args : Array Value} (hts : ∀ w ∈ wsX7_rule, w.before args s = true) : (Cond.fieldLink RX7 19 "FoldRule" "strip" "LFoldRule$Strip;").before args s = true := hts _ (by decide +kernel)
theorem k_X7_rule_f37 {s : State} {args : Array Value} (hts : ∀ w ∈ wsX7_rule, w.before args s = true) : (Cond.fieldLink RX7 37 "FoldRule" "history" "LFoldRule$History;").before args s = true := hts _ (by decide +kernel)
theorem k_X7_rule_f58 {s : State} {args : Array Value} (hts : ∀ w ∈ wsX7_rule, w.before args s = true) : (Cond.fieldLink RX7 58 "FoldRule" "sightings" "LFoldRule$Sightings;").before args s = true := hts _ (by decide +kernel)
set_option maxHeartbeats 4000000 in
set_option maxRecDepth 100000 in
theorem L_X7_rule_49 {p : Program} {l : Launch} {e : Env} {s : State} {m : MethodId} {args : Array Value} {below : List Frame} {meth : Method} {c : Code} {D : va_G} {Y : ClassId × ClassId × ClassId} {A : Nat → Prop} {q q_text q_strip q_told q_images q_kept q_history q_lay q_folds q_sightings q_rater q_told_lengths q_text_letters q_strip_lengths q_history_steps q_sightings_seenFolds q_sightings_seenSpans q_sightings_isWay q_sightings_tally q_sightings_lay : Nat} {g_told_links g_told_folded g_told_stiff g_text_size g_text_place g_text_items : Int32} {g_text_letters g_told_lengths : Nat → Int32} {g_strip_links g_strip_folded g_strip_stiff : Int32} {g_strip_lengths : Nat → Int32} {g_history_slot g_history_size g_sightings_size : Int32} {Q : Int32 → Int32 → Int32 → Int32 → Int32 → Int32 → Int32 → (Nat → Int32) → Int32 → Int32 → Int32 → (Nat → Int32) → Int32 → Int32 → (Nat → Int32) → Prop} (C : Ctx p s m args meth c cX7_rule 3 (some .int) wsX7_rule RX7) (hK : va_K D vwCl (tyS Y) s) (hA : ∀ q, s.heap.size ≤ q → A q) : ∀ (n : Nat) (x2 : Int32) (g_kept : Nat → Int32), itr2 (B_X7_rule_49 g_told_links g_told_folded g_told_stiff g_text_size g_text_place g_text_items g_told_lengths g_strip_links g_strip_folded g_strip_stiff g_strip_lengths g_history_size g_sightings_size Q) n x2 g_kept → ∀ (H : Heap) (locs : List Loc) (ls : Array Slot), va_P D vwCl (w_X7_rule Y q q_text q_strip q_told q_images q_kept q_history q_lay q_folds q_sightings q_rater q_told_lengths q_text_letters q_strip_lengths q_history_steps q_sightings_seenFolds q_sightings_seenSpans q_sightings_isWay q_sightings_tally q_sightings_lay g_told_links g_told_folded g_told_stiff g_text_size g_text_place g_text_items g_text_letters g_told_lengths g_strip_links g_strip_folded g_strip_stiff g_strip_lengths g_history_slot g_history_size g_sightings_size g_kept) H → va_D A (w_X7_rule Y q q_text q_strip q_told q_images q_kept q_history q_lay q_folds q_sightings q_rater q_told_lengths q_text_letters q_strip_lengths q_history_steps q_sightings_seenFolds q_sightings_seenSpans q_sightings_isWay q_sightings_tally q_sightings_lay g_told_links g_told_folded g_told_stiff g_text_size g_text_place g_text_items g_text_letters g_told_lengths g_strip_links g_strip_folded g_strip_stiff g_strip_lengths g_history_slot g_history_size g_sightings_size g_kept) → va_S A s.heap H locs → lv_has ls 3 [(0, .ref q), (2, .int x2)] → W p l e rm_X7_rule s m args below meth c H locs 0 0 (QI below args s D Y A (fun r (u : Int32 × Int32 × Int32 × Int32 × Int32 × Int32 × (Nat → Int32) × Int32 × Int32 × Int32 × (Nat → Int32) × Int32 × Int32 × (Nat → Int32)) => Q r u.1 u.2.1 u.2.2.1 u.2.2.2.1 u.2.2.2.2.1 u.2.2.2.2.2.1 u.2.2.2.2.2.2.1 u.2.2.2.2.2.2.2.1 u.2.2.2.2.2.2.2.2.1 u.2.2.2.2.2.2.2.2.2.1 u.2.2.2.2.2.2.2.2.2.2.1 u.2.2.2.2.2.2.2.2.2.2.2.1 u.2.2.2.2.2.2.2.2.2.2.2.2.1 u.2.2.2.2.2.2.2.2.2.2.2.2.2) (fun u : Int32 × Int32 × Int32 × Int32 × Int32 × Int32 × (Nat → Int32) × Int32 × Int32 × Int32 × (Nat → Int32) × Int32 × Int32 × (Nat → Int32) => (w_X7_rule Y q q_text q_strip q_told q_images q_kept q_history q_lay q_folds q_sightings q_rater q_told_lengths q_text_letters q_strip_lengths q_history_steps q_sightings_seenFolds q_sightings_seenSpans q_sightings_isWay q_sightings_tally q_sightings_lay u.1 u.2.1 u.2.2.1 u.2.2.2.1 u.2.2.2.2.1 u.2.2.2.2.2.1 g_text_letters u.2.2.2.2.2.2.1 u.2.2.2.2.2.2.2.1 u.2.2.2.2.2.2.2.2.1 u.2.2.2.2.2.2.2.2.2.1 u.2.2.2.2.2.2.2.2.2.2.1 g_history_slot u.2.2.2.2.2.2.2.2.2.2.2.1 u.2.2.2.2.2.2.2.2.2.2.2.2.1 u.2.2.2.2.2.2.2.2.2.2.2.2.2))) (F0 m 49 ls []) := by
  intro n
  induction n with
  | zero => intro x2 g_kept h; exact False.elim h
  | succ n ih =>
    intro x2 g_kept h H locs ls hP hD hS hl
    obtain ⟨⟨hx, hb, hml, hown, hts⟩, hr, hlocks, hN⟩ := id C
    have h : B_X7_rule_49 g_told_links g_told_folded g_told_stiff g_text_size g_text_place g_text_items g_told_lengths g_strip_links g_strip_folded g_strip_stiff g_strip_lengths g_history_size g_sightings_size Q (itr2 (B_X7_rule_49 g_told_links g_told_folded g_told_stiff g_text_size g_text_place g_text_items g_told_lengths g_strip_links g_strip_folded g_strip_stiff g_strip_lengths g_history_size g_sightings_size Q) n) x2 g_kept := h
    unfold B_X7_rule_49 at h
    refine lv_iload_n hx hb dX7_rule_49 rfl (lv_at hl 1 rfl) ?_
    refine lv_iconst (v := 2) hx hb dX7_rule_50 (by decide) ?_
    refine lv_icmp_ge (tgt := 67) hx hb dX7_rule_51 (by decide) (fun c16 => ?_) (fun c16 => ?_)
    · have h := h.1 c16
      refine lv_aload_n hx hb dX7_rule_67 rfl (lv_at hl 0 rfl) ?_
      refine va_get (D := D) (ci := 7) (v := .ref q_text) (C := RX7) (T := TX7) (N := 10) hx hb hts in_X7_rule_X7 hown hK hP 0 rfl rfl 0 (by decide) (k_X7_rule_f10 hts) (fun _ h9 => h9) rfl dX7_rule_68 ?_
      have hp : Pt (w_X7_rule Y q q_text q_strip q_told q_images q_kept q_history q_lay q_folds q_sightings q_rater q_told_lengths q_text_letters q_strip_lengths q_history_steps q_sightings_seenFolds q_sightings_seenSpans q_sightings_isWay q_sightings_tally q_sightings_lay g_told_links g_told_folded g_told_stiff g_text_size g_text_place g_text_items g_text_letters g_told_lengths g_strip_links g_strip_folded g_strip_stiff g_strip_lengths g_history_slot g_history_size g_sightings_size g_kept) (w_X6_makeEmpty Y q_text q_text_letters g_text_size g_text_place g_text_items) [2] := ⟨rfl, by decide +kernel⟩
      refine go_v hp hP hD hS hA (fun _ => rfl) (va_runV (As := []) (rest := []) ⟨hx, hb, hml, hown, hts⟩ (c_X6_makeEmpty h _) (cwV 0 hts gX7_rule_X6_makeEmpty rfl rfl rfl (by decide +kernel) ⟨Nat.le_of_ble_eq_true rfl, Nat.le_of_ble_eq_true rfl⟩) (pre_V (b := q_text) (q0 := 0) (ci := 6) (q := (RX6, TX6, 4)) hp hK hN hP hD rfl rfl) rfl rfl hl.1 rfl (lv_room (Nat.le_of_ble_eq_true rfl)) dX7_rule_71 ⟨Nat.le_of_ble_eq_true rfl, Nat.le_of_ble_eq_true rfl⟩) (fun u H locs h hP hD hS => ?_)
      obtain ⟨u18, rfl⟩ : ∃ z, z = u := ⟨_, rfl⟩
      try dsimp only at h
      have hP : va_P D vwCl (w_X7_rule Y q q_text q_strip q_told q_images q_kept q_history q_lay q_folds q_sightings q_rater q_told_lengths q_text_letters q_strip_lengths q_history_steps q_sightings_seenFolds q_sightings_seenSpans q_sightings_isWay q_sightings_tally q_sightings_lay g_told_links g_told_folded g_told_stiff u18 g_text_place g_text_items g_text_letters g_told_lengths g_strip_links g_strip_folded g_strip_stiff g_strip_lengths g_history_slot g_history_size g_sightings_size g_kept) H := hP
      have hD : va_D A (w_X7_rule Y q q_text q_strip q_told q_images q_kept q_history q_lay q_folds q_sightings q_rater q_told_lengths q_text_letters q_strip_lengths q_history_steps q_sightings_seenFolds q_sightings_seenSpans q_sightings_isWay q_sightings_tally q_sightings_lay g_told_links g_told_folded g_told_stiff u18 g_text_place g_text_items g_text_letters g_told_lengths g_strip_links g_strip_folded g_strip_stiff g_strip_lengths g_history_slot g_history_size g_sightings_size g_kept) := hD
      refine lv_aload_n hx hb dX7_rule_74 rfl (lv_at hl 0 rfl) ?_
      refine va_get (D := D) (ci := 7) (v := .ref q_text) (C := RX7) (T := TX7) (N := 10) hx hb hts in_X7_rule_X7 hown hK hP 0 rfl rfl 0 (by decide) (k_X7_rule_f10 hts) (fun _ h9 => h9) rfl dX7_rule_75 ?_
      refine va_getN (D := D) (ci := 6) (v := .int g_text_items) (C := RX6) (T := TX6) (N := 4) hx hb hts in_X7_rule_X6 hown hK hP 2 rfl rfl 3 (by decide) (va_Nw.use rfl (nwX7_100 hN)) (fun _ h9 => h9) rfl dX7_rule_78 ?_
      exact ret_i (g_told_links, g_told_folded, g_told_stiff, u18, g_text_place, g_text_items, g_told_lengths, g_strip_links, g_strip_folded, g_strip_stiff, g_strip_lengths, g_history_size, g_sightings_size, g_kept) hx hb hr hlocks hK hP hD hS h dX7_rule_81
    · have h := h.2 c16
      refine lv_aload_n hx hb dX7_rule_54 rfl (lv_at hl 0 rfl) ?_
      refine va_get (D := D) (ci := 7) (v := .ref q_kept) (C := RX7) (T := TX7) (N := 10) hx hb hts in_X7_rule_X7 hown hK hP 0 rfl rfl 4 (by decide) (k_X7_rule_f30 hts) (fun _ h9 => h9) rfl dX7_rule_55 ?_
      refine lv_iload_n hx hb dX7_rule_58 rfl (lv_at hl 1 rfl) ?_
      refine lv_iconst (v := 0) hx hb dX7_rule_59 (by decide) ?_
      obtain ⟨hin, h⟩ := h
      refine va_zast hx hb hK hP hD hS 9 1 rfl rfl hin dX7_rule_60 (fun H locs hP hD hS => ?_)
      have hP : va_P D vwCl (w_X7_rule Y q q_text q_strip q_told q_images q_kept q_history q_lay q_folds q_sightings q_rater q_told_lengths q_text_letters q_strip_lengths q_history_steps q_sightings_seenFolds q_sightings_seenSpans q_sightings_isWay q_sightings_tally q_sightings_lay g_told_links g_told_folded g_told_stiff g_text_size g_text_place g_text_items g_text_letters g_told_lengths g_strip_links g_strip_folded g_strip_stiff g_strip_lengths g_history_slot g_history_size g_sightings_size (upd g_kept (x2).toNatClampNeg (vp_nar .boolean (0 : Int32)))) H := hP
      have hD : va_D A (w_X7_rule Y q q_text q_strip q_told q_images q_kept q_history q_lay q_folds q_sightings q_rater q_told_lengths q_text_letters q_strip_lengths q_history_steps q_sightings_seenFolds q_sightings_seenSpans q_sightings_isWay q_sightings_tally q_sightings_lay g_told_links g_told_folded g_told_stiff g_text_size g_text_place g_text_items g_text_letters g_told_lengths g_strip_links g_strip_folded g_strip_stiff g_strip_lengths g_history_slot g_history_size g_sightings_size (upd g_kept (x2).toNatClampNeg (vp_nar .boolean (0 : Int32)))) := hD
      obtain ⟨z19, ez19⟩ : ∃ y : Int32, y = (x2 + (1 : Int32)) := ⟨_, rfl⟩
      have h := h z19 ez19
      refine lv_iinc (v := z19) (lv' := [(2, .int z19), (0, .ref q)]) hx hb dX7_rule_61 hl (k := 1) rfl (by rw [ez19]; rfl) (by decide) rfl (fun ls hl => ?_)
      refine lv_goto (tgt := 49) hx hb dX7_rule_64 (by decide) ?_
      exact ih _ _ h _ _ _ hP hD hS (lv_sub hl [1, 0] rfl)
set_option maxHeartbeats 4000000 in
set_option maxRecDepth 100000 in
theorem c_X7_rule {l : Launch} {D : va_G} {Y : ClassId × ClassId × ClassId} {q q_text q_strip q_told q_images q_kept q_history q_lay q_folds q_sightings q_rater q_told_lengths q_text_letters q_strip_lengths q_history_steps q_sightings_seenFolds q_sightings_seenSpans q_sightings_isWay q_sightings_tally q_sightings_lay : Nat} {g_told_links g_told_folded g_told_stiff g_text_size g_text_place g_text_items : Int32} {g_text_letters g_told_lengths : Nat → Int32} {g_strip_links g_strip_folded g_strip_stiff : Int32} {g_strip_lengths : Nat → Int32} {g_history_slot g_history_size g_sightings_size : Int32} {g_kept : Nat → Int32} {Q : Int32 → Int32 → Int32 → Int32 → Int32 → Int32 → Int32 → (Nat → Int32) → Int32 → Int32 → Int32 → (Nat → Int32) → Int32 → Int32 → (Nat → Int32) → Prop} (h : wp_X7_rule g_told_links g_told_folded g_told_stiff g_text_size g_text_place g_text_items g_text_letters g_told_lengths g_strip_links g_strip_folded g_strip_stiff g_strip_lengths g_history_size g_sightings_size g_kept Q) (sz : Nat) : MtI l yX7_rule wsX7_rule rm_X7_rule [.ref q] D Y (w_X7_rule Y q q_text q_strip q_told q_images q_kept q_history q_lay q_folds q_sightings q_rater q_told_lengths q_text_letters q_strip_lengths q_history_steps q_sightings_seenFolds q_sightings_seenSpans q_sightings_isWay q_sightings_tally q_sightings_lay g_told_links g_told_folded g_told_stiff g_text_size g_text_place g_text_items g_text_letters g_told_lengths g_strip_links g_strip_folded g_strip_stiff g_strip_lengths g_history_slot g_history_size g_sightings_size g_kept) (fun r (u : Int32 × Int32 × Int32 × Int32 × Int32 × Int32 × (Nat → Int32) × Int32 × Int32 × Int32 × (Nat → Int32) × Int32 × Int32 × (Nat → Int32)) => Q r u.1 u.2.1 u.2.2.1 u.2.2.2.1 u.2.2.2.2.1 u.2.2.2.2.2.1 u.2.2.2.2.2.2.1 u.2.2.2.2.2.2.2.1 u.2.2.2.2.2.2.2.2.1 u.2.2.2.2.2.2.2.2.2.1 u.2.2.2.2.2.2.2.2.2.2.1 u.2.2.2.2.2.2.2.2.2.2.2.1 u.2.2.2.2.2.2.2.2.2.2.2.2.1 u.2.2.2.2.2.2.2.2.2.2.2.2.2) (fun u : Int32 × Int32 × Int32 × Int32 × Int32 × Int32 × (Nat → Int32) × Int32 × Int32 × Int32 × (Nat → Int32) × Int32 × Int32 × (Nat → Int32) => (w_X7_rule Y q q_text q_strip q_told q_images q_kept q_history q_lay q_folds q_sightings q_rater q_told_lengths q_text_letters q_strip_lengths q_history_steps q_sightings_seenFolds q_sightings_seenSpans q_sightings_isWay q_sightings_tally q_sightings_lay u.1 u.2.1 u.2.2.1 u.2.2.2.1 u.2.2.2.2.1 u.2.2.2.2.2.1 g_text_letters u.2.2.2.2.2.2.1 u.2.2.2.2.2.2.2.1 u.2.2.2.2.2.2.2.2.1 u.2.2.2.2.2.2.2.2.2.1 u.2.2.2.2.2.2.2.2.2.2.1 g_history_slot u.2.2.2.2.2.2.2.2.2.2.2.1 u.2.2.2.2.2.2.2.2.2.2.2.2.1 u.2.2.2.2.2.2.2.2.2.2.2.2.2)) sz := by
  refine ct_i (cc := cX7_rule) (nL := 3) (ret := (some .int)) (by decide) rfl (Nat.le_of_ble_eq_true rfl) ?_ sz
  intro p e s m below meth c A ls C hK hA hP hD hS hl
  obtain ⟨⟨hx, hb, hml, hown, hts⟩, hr, hlocks, hN⟩ := id C
  have hown : s.vm.findClass RX7 = some m.cls := hown
  have hl : lv_has ls 3 [(0, .ref q)] := hl
  unfold wp_X7_rule at h
  refine lv_aload_n hx hb dX7_rule_0 rfl (lv_at hl 0 rfl) ?_
  refine va_get (D := D) (ci := 7) (v := .ref q_text) (C := RX7) (T := TX7) (N := 10) hx hb hts in_X7_rule_X7 hown hK hP 0 rfl rfl 0 (by decide) (k_X7_rule_f10 hts) (fun _ h9 => h9) rfl dX7_rule_1 ?_
  refine lv_aload_n hx hb dX7_rule_4 rfl (lv_at hl 0 rfl) ?_
  refine va_get (D := D) (ci := 7) (v := .ref q_told) (C := RX7) (T := TX7) (N := 10) hx hb hts in_X7_rule_X7 hown hK hP 0 rfl rfl 2 (by decide) (k_X7_rule_f23 hts) (fun _ h9 => h9) rfl dX7_rule_5 ?_
  have hp : Pt (w_X7_rule Y q q_text q_strip q_told q_images q_kept q_history q_lay q_folds q_sightings q_rater q_told_lengths q_text_letters q_strip_lengths q_history_steps q_sightings_seenFolds q_sightings_seenSpans q_sightings_isWay q_sightings_tally q_sightings_lay g_told_links g_told_folded g_told_stiff g_text_size g_text_place g_text_items g_text_letters g_told_lengths g_strip_links g_strip_folded g_strip_stiff g_strip_lengths g_history_slot g_history_size g_sightings_size g_kept) (w_X6_readInto Y q_told q_told_lengths q_text q_text_letters g_told_links g_told_folded g_told_stiff g_text_size g_text_place g_text_items g_text_letters g_told_lengths) [1, 2, 3, 4] := ⟨rfl, by decide +kernel⟩
  refine go_i hp hP hD hS hA (fun _ => rfl) (va_runV (As := [.ref q_told]) (rest := []) ⟨hx, hb, hml, hown, hts⟩ (c_X6_readInto h _) (cwV 1 hts gX7_rule_X6_readInto rfl rfl rfl (by decide +kernel) ⟨Nat.le_of_ble_eq_true rfl, Nat.le_of_ble_eq_true rfl⟩) (pre_V (b := q_text) (q0 := 1) (ci := 6) (q := (RX6, TX6, 4)) hp hK hN hP hD rfl rfl) rfl rfl hl.1 rfl (lv_room (Nat.le_of_ble_eq_true rfl)) dX7_rule_8 ⟨Nat.le_of_ble_eq_true rfl, Nat.le_of_ble_eq_true rfl⟩) (fun r20 u H locs h hP hD hS => ?_)
  obtain ⟨u21, u22, u23, u24, u25, u26⟩ := u
  try dsimp only at h
  have hP : va_P D vwCl (w_X7_rule Y q q_text q_strip q_told q_images q_kept q_history q_lay q_folds q_sightings q_rater q_told_lengths q_text_letters q_strip_lengths q_history_steps q_sightings_seenFolds q_sightings_seenSpans q_sightings_isWay q_sightings_tally q_sightings_lay u21 u22 u23 g_text_size u24 u25 g_text_letters u26 g_strip_links g_strip_folded g_strip_stiff g_strip_lengths g_history_slot g_history_size g_sightings_size g_kept) H := hP
  have hD : va_D A (w_X7_rule Y q q_text q_strip q_told q_images q_kept q_history q_lay q_folds q_sightings q_rater q_told_lengths q_text_letters q_strip_lengths q_history_steps q_sightings_seenFolds q_sightings_seenSpans q_sightings_isWay q_sightings_tally q_sightings_lay u21 u22 u23 g_text_size u24 u25 g_text_letters u26 g_strip_links g_strip_folded g_strip_stiff g_strip_lengths g_history_slot g_history_size g_sightings_size g_kept) := hD
  refine lv_istore_n (lv' := [(1, .int r20), (0, .ref q)]) hx hb dX7_rule_11 rfl hl (by decide) rfl (fun ls hl => ?_)
  refine lv_iload_n hx hb dX7_rule_12 rfl (lv_at hl 0 rfl) ?_
  refine lv_iconst (v := (-1)) hx hb dX7_rule_13 (by decide) ?_
  refine lv_icmp_eq (tgt := 22) hx hb dX7_rule_14 (by decide) (fun c27 => ?_) (fun c27 => ?_)
  · have h := h.1 c27
    refine lv_aload_n hx hb dX7_rule_22 rfl (lv_at hl 1 rfl) ?_
    refine va_get (D := D) (ci := 7) (v := .ref q_strip) (C := RX7) (T := TX7) (N := 10) hx hb hts in_X7_rule_X7 hown hK hP 0 rfl rfl 1 (by decide) (k_X7_rule_f19 hts) (fun _ h9 => h9) rfl dX7_rule_23 ?_
    refine lv_aload_n hx hb dX7_rule_26 rfl (lv_at hl 1 rfl) ?_
    refine va_get (D := D) (ci := 7) (v := .ref q_told) (C := RX7) (T := TX7) (N := 10) hx hb hts in_X7_rule_X7 hown hK hP 0 rfl rfl 2 (by decide) (k_X7_rule_f23 hts) (fun _ h9 => h9) rfl dX7_rule_27 ?_
    have hp : Pt (w_X7_rule Y q q_text q_strip q_told q_images q_kept q_history q_lay q_folds q_sightings q_rater q_told_lengths q_text_letters q_strip_lengths q_history_steps q_sightings_seenFolds q_sightings_seenSpans q_sightings_isWay q_sightings_tally q_sightings_lay u21 u22 u23 g_text_size u24 u25 g_text_letters u26 g_strip_links g_strip_folded g_strip_stiff g_strip_lengths g_history_slot g_history_size g_sightings_size g_kept) (w_X5_copyFrom Y q_strip q_strip_lengths q_told q_told_lengths g_strip_links g_strip_folded g_strip_stiff u21 u22 u23 u26 g_strip_lengths) [5, 1, 4, 6] := ⟨rfl, by decide +kernel⟩
    refine go_v hp hP hD hS hA (fun _ => rfl) (va_runV (As := [.ref q_told]) (rest := []) ⟨hx, hb, hml, hown, hts⟩ (c_X5_copyFrom h _) (cwV 1 hts gX7_rule_X5_copyFrom rfl rfl rfl (by decide +kernel) ⟨Nat.le_of_ble_eq_true rfl, Nat.le_of_ble_eq_true rfl⟩) (pre_V (b := q_strip) (q0 := 0) (ci := 5) (q := (RX5, TX5, 4)) hp hK hN hP hD rfl rfl) rfl rfl hl.1 rfl (lv_room (Nat.le_of_ble_eq_true rfl)) dX7_rule_30 ⟨Nat.le_of_ble_eq_true rfl, Nat.le_of_ble_eq_true rfl⟩) (fun u H locs h hP hD hS => ?_)
    obtain ⟨u29, u30, u31, u32⟩ := u
    try dsimp only at h
    have hP : va_P D vwCl (w_X7_rule Y q q_text q_strip q_told q_images q_kept q_history q_lay q_folds q_sightings q_rater q_told_lengths q_text_letters q_strip_lengths q_history_steps q_sightings_seenFolds q_sightings_seenSpans q_sightings_isWay q_sightings_tally q_sightings_lay u21 u22 u23 g_text_size u24 u25 g_text_letters u26 u29 u30 u31 u32 g_history_slot g_history_size g_sightings_size g_kept) H := hP
    have hD : va_D A (w_X7_rule Y q q_text q_strip q_told q_images q_kept q_history q_lay q_folds q_sightings q_rater q_told_lengths q_text_letters q_strip_lengths q_history_steps q_sightings_seenFolds q_sightings_seenSpans q_sightings_isWay q_sightings_tally q_sightings_lay u21 u22 u23 g_text_size u24 u25 g_text_letters u26 u29 u30 u31 u32 g_history_slot g_history_size g_sightings_size g_kept) := hD
    refine lv_aload_n hx hb dX7_rule_33 rfl (lv_at hl 1 rfl) ?_
    refine va_get (D := D) (ci := 7) (v := .ref q_history) (C := RX7) (T := TX7) (N := 10) hx hb hts in_X7_rule_X7 hown hK hP 0 rfl rfl 5 (by decide) (k_X7_rule_f37 hts) (fun _ h9 => h9) rfl dX7_rule_34 ?_
    have hp : Pt (w_X7_rule Y q q_text q_strip q_told q_images q_kept q_history q_lay q_folds q_sightings q_rater q_told_lengths q_text_letters q_strip_lengths q_history_steps q_sightings_seenFolds q_sightings_seenSpans q_sightings_isWay q_sightings_tally q_sightings_lay u21 u22 u23 g_text_size u24 u25 g_text_letters u26 u29 u30 u31 u32 g_history_slot g_history_size g_sightings_size g_kept) (w_X1_loseAll Y q_history q_history_steps g_history_slot g_history_size) [7] := ⟨rfl, by decide +kernel⟩
    refine go_v hp hP hD hS hA (fun _ => rfl) (va_runV (As := []) (rest := []) ⟨hx, hb, hml, hown, hts⟩ (c_X1_loseAll h _) (cwV 0 hts gX7_rule_X1_loseAll rfl rfl rfl (by decide +kernel) ⟨Nat.le_of_ble_eq_true rfl, Nat.le_of_ble_eq_true rfl⟩) (pre_V (b := q_history) (q0 := 0) (ci := 1) (q := (RX1, TX1, 3)) hp hK hN hP hD rfl rfl) rfl rfl hl.1 rfl (lv_room (Nat.le_of_ble_eq_true rfl)) dX7_rule_37 ⟨Nat.le_of_ble_eq_true rfl, Nat.le_of_ble_eq_true rfl⟩) (fun u H locs h hP hD hS => ?_)
    obtain ⟨u34, rfl⟩ : ∃ z, z = u := ⟨_, rfl⟩
    try dsimp only at h
    have hP : va_P D vwCl (w_X7_rule Y q q_text q_strip q_told q_images q_kept q_history q_lay q_folds q_sightings q_rater q_told_lengths q_text_letters q_strip_lengths q_history_steps q_sightings_seenFolds q_sightings_seenSpans q_sightings_isWay q_sightings_tally q_sightings_lay u21 u22 u23 g_text_size u24 u25 g_text_letters u26 u29 u30 u31 u32 g_history_slot u34 g_sightings_size g_kept) H := hP
    have hD : va_D A (w_X7_rule Y q q_text q_strip q_told q_images q_kept q_history q_lay q_folds q_sightings q_rater q_told_lengths q_text_letters q_strip_lengths q_history_steps q_sightings_seenFolds q_sightings_seenSpans q_sightings_isWay q_sightings_tally q_sightings_lay u21 u22 u23 g_text_size u24 u25 g_text_letters u26 u29 u30 u31 u32 g_history_slot u34 g_sightings_size g_kept) := hD
    refine lv_aload_n hx hb dX7_rule_40 rfl (lv_at hl 1 rfl) ?_
    refine va_get (D := D) (ci := 7) (v := .ref q_sightings) (C := RX7) (T := TX7) (N := 10) hx hb hts in_X7_rule_X7 hown hK hP 0 rfl rfl 8 (by decide) (k_X7_rule_f58 hts) (fun _ h9 => h9) rfl dX7_rule_41 ?_
    have hp : Pt (w_X7_rule Y q q_text q_strip q_told q_images q_kept q_history q_lay q_folds q_sightings q_rater q_told_lengths q_text_letters q_strip_lengths q_history_steps q_sightings_seenFolds q_sightings_seenSpans q_sightings_isWay q_sightings_tally q_sightings_lay u21 u22 u23 g_text_size u24 u25 g_text_letters u26 u29 u30 u31 u32 g_history_slot u34 g_sightings_size g_kept) (w_X4_loseAll Y q_sightings q_sightings_seenFolds q_sightings_seenSpans q_sightings_isWay q_sightings_tally q_sightings_lay g_sightings_size) [8] := ⟨rfl, by decide +kernel⟩
    refine go_v hp hP hD hS hA (fun _ => rfl) (va_runV (As := []) (rest := []) ⟨hx, hb, hml, hown, hts⟩ (c_X4_loseAll h _) (cwV 0 hts gX7_rule_X4_loseAll rfl rfl rfl (by decide +kernel) ⟨Nat.le_of_ble_eq_true rfl, Nat.le_of_ble_eq_true rfl⟩) (pre_V (b := q_sightings) (q0 := 0) (ci := 4) (q := (RX4, TX4, 6)) hp hK hN hP hD rfl rfl) rfl rfl hl.1 rfl (lv_room (Nat.le_of_ble_eq_true rfl)) dX7_rule_44 ⟨Nat.le_of_ble_eq_true rfl, Nat.le_of_ble_eq_true rfl⟩) (fun u H locs h hP hD hS => ?_)
    obtain ⟨u36, rfl⟩ : ∃ z, z = u := ⟨_, rfl⟩
    try dsimp only at h
    have hP : va_P D vwCl (w_X7_rule Y q q_text q_strip q_told q_images q_kept q_history q_lay q_folds q_sightings q_rater q_told_lengths q_text_letters q_strip_lengths q_history_steps q_sightings_seenFolds q_sightings_seenSpans q_sightings_isWay q_sightings_tally q_sightings_lay u21 u22 u23 g_text_size u24 u25 g_text_letters u26 u29 u30 u31 u32 g_history_slot u34 u36 g_kept) H := hP
    have hD : va_D A (w_X7_rule Y q q_text q_strip q_told q_images q_kept q_history q_lay q_folds q_sightings q_rater q_told_lengths q_text_letters q_strip_lengths q_history_steps q_sightings_seenFolds q_sightings_seenSpans q_sightings_isWay q_sightings_tally q_sightings_lay u21 u22 u23 g_text_size u24 u25 g_text_letters u26 u29 u30 u31 u32 g_history_slot u34 u36 g_kept) := hD
    refine lv_iconst (v := 0) hx hb dX7_rule_47 (by decide) ?_
    refine lv_istore_n (lv' := [(2, .int (0 : Int32)), (1, .int r20), (0, .ref q)]) hx hb dX7_rule_48 rfl hl (by decide) rfl (fun ls hl => ?_)
    obtain ⟨n, h⟩ := h
    exact L_X7_rule_49 C hK hA  n _ _ h _ _ _ hP hD hS (lv_sub hl [2, 0] rfl)
  · have h := h.2 c27
    refine lv_bipush (v := (-10)) hx hb dX7_rule_17 (by decide) ?_
    refine lv_iload_n hx hb dX7_rule_19 rfl (lv_at hl 0 rfl) ?_
    refine lv_isub hx hb dX7_rule_20 ?_
    exact ret_i (u21, u22, u23, g_text_size, u24, u25, u26, g_strip_links, g_strip_folded, g_strip_stiff, g_strip_lengths, g_history_size, g_sightings_size, g_kept) hx hb hr hlocks hK hP hD hS h dX7_rule_21
abbrev rm_X7_layNow : Room := { frames := 3, cells := 0, slots := 0, locals := 71 }
theorem in_X7_layNow_X5 : ∀ w ∈ wsX50, w ∈ wsX7_layNow := fun _ h => List.mem_cons_of_mem _ (List.mem_append_left _ (List.mem_append_right _ h))
theorem in_X7_layNow_X7 : ∀ w ∈ wsX70, w ∈ wsX7_layNow := fun _ h => List.mem_cons_of_mem _ (List.mem_append_left _ (List.mem_append_left _ (List.mem_append_right _ h)))
theorem k_X7_layNow_f44 {s : State} {args : Array Value} (hts : ∀ w ∈ wsX7_layNow, w.before args s = true) : (Cond.fieldLink RX7 44 "FoldRule" "lay" "LFoldRule$Lay;").before args s = true := hts _ (by decide +kernel)
theorem k_X7_layNow_f19 {s : State} {args : Array Value} (hts : ∀ w ∈ wsX7_layNow, w.before args s = true) : (Cond.fieldLink RX7 19 "FoldRule" "strip" "LFoldRule$Strip;").before args s = true := hts _ (by decide +kernel)
set_option maxHeartbeats 4000000 in
set_option maxRecDepth 100000 in
theorem c_X7_layNow {l : Launch} {D : va_G} {Y : ClassId × ClassId × ClassId} {q q_text q_strip q_told q_images q_kept q_history q_lay q_folds q_sightings q_rater q_strip_lengths q_lay_places : Nat} {g_strip_links g_strip_folded g_strip_stiff g_lay_links g_lay_low g_lay_high : Int32} {g_strip_lengths g_lay_places : Nat → Int32} {Q : Int32 → Int32 → Int32 → (Nat → Int32) → Prop} (h : wp_X7_layNow g_strip_links g_strip_folded g_lay_links g_lay_low g_lay_high g_strip_lengths g_lay_places Q) (sz : Nat) : MtR l yX7_layNow wsX7_layNow rm_X7_layNow [.ref q] D Y (w_X7_layNow Y q q_text q_strip q_told q_images q_kept q_history q_lay q_folds q_sightings q_rater q_strip_lengths q_lay_places g_strip_links g_strip_folded g_strip_stiff g_lay_links g_lay_low g_lay_high g_strip_lengths g_lay_places) q_lay (fun (u : Int32 × Int32 × Int32 × (Nat → Int32)) => Q u.1 u.2.1 u.2.2.1 u.2.2.2) (fun u : Int32 × Int32 × Int32 × (Nat → Int32) => (w_X7_layNow Y q q_text q_strip q_told q_images q_kept q_history q_lay q_folds q_sightings q_rater q_strip_lengths q_lay_places g_strip_links g_strip_folded g_strip_stiff u.1 u.2.1 u.2.2.1 g_strip_lengths u.2.2.2)) sz := by
  refine ct_r (cc := cX7_layNow) (nL := 1) (ret := (some (.object "FoldRule$Lay"))) (by decide) rfl (Nat.le_of_ble_eq_true rfl) ?_ sz
  intro p e s m below meth c A ls C hK hA hP hD hS hl
  obtain ⟨⟨hx, hb, hml, hown, hts⟩, hr, hlocks, hN⟩ := id C
  have hown : s.vm.findClass RX7 = some m.cls := hown
  have hl : lv_has ls 1 [(0, .ref q)] := hl
  unfold wp_X7_layNow at h
  refine lv_aload_n hx hb dX7_layNow_0 rfl (lv_at hl 0 rfl) ?_
  refine va_get (D := D) (ci := 7) (v := .ref q_lay) (C := RX7) (T := TX7) (N := 10) hx hb hts in_X7_layNow_X7 hown hK hP 0 rfl rfl 6 (by decide) (k_X7_layNow_f44 hts) (fun _ h9 => h9) rfl dX7_layNow_1 ?_
  refine lv_aload_n hx hb dX7_layNow_4 rfl (lv_at hl 0 rfl) ?_
  refine va_get (D := D) (ci := 7) (v := .ref q_strip) (C := RX7) (T := TX7) (N := 10) hx hb hts in_X7_layNow_X7 hown hK hP 0 rfl rfl 1 (by decide) (k_X7_layNow_f19 hts) (fun _ h9 => h9) rfl dX7_layNow_5 ?_
  refine lv_aload_n hx hb dX7_layNow_8 rfl (lv_at hl 0 rfl) ?_
  refine va_get (D := D) (ci := 7) (v := .ref q_strip) (C := RX7) (T := TX7) (N := 10) hx hb hts in_X7_layNow_X7 hown hK hP 0 rfl rfl 1 (by decide) (k_X7_layNow_f19 hts) (fun _ h9 => h9) rfl dX7_layNow_9 ?_
  refine va_getN (D := D) (ci := 5) (v := .int g_strip_folded) (C := RX5) (T := TX5) (N := 4) hx hb hts in_X7_layNow_X5 hown hK hP 1 rfl rfl 2 (by decide) (va_Nw.use rfl (nwX7_121 hN)) (fun _ h9 => h9) rfl dX7_layNow_12 ?_
  have hp : Pt (w_X7_layNow Y q q_text q_strip q_told q_images q_kept q_history q_lay q_folds q_sightings q_rater q_strip_lengths q_lay_places g_strip_links g_strip_folded g_strip_stiff g_lay_links g_lay_low g_lay_high g_strip_lengths g_lay_places) (w_X2_layOut Y q_strip q_strip_lengths q_lay q_lay_places g_strip_links g_strip_folded g_strip_stiff g_lay_links g_lay_low g_lay_high g_strip_lengths g_lay_places) [1, 2, 3, 4] := ⟨rfl, by decide +kernel⟩
  refine go_v hp hP hD hS hA (fun _ => rfl) (va_runV (As := [.ref q_strip, .int g_strip_folded]) (rest := []) ⟨hx, hb, hml, hown, hts⟩ (c_X2_layOut h _) (cwV 2 hts gX7_layNow_X2_layOut rfl rfl rfl (by decide +kernel) ⟨Nat.le_of_ble_eq_true rfl, Nat.le_of_ble_eq_true rfl⟩) (pre_V (b := q_lay) (q0 := 1) (ci := 2) (q := (RX2, TX2, 4)) hp hK hN hP hD rfl rfl) rfl rfl hl.1 rfl (lv_room (Nat.le_of_ble_eq_true rfl)) dX7_layNow_15 ⟨Nat.le_of_ble_eq_true rfl, Nat.le_of_ble_eq_true rfl⟩) (fun u H locs h hP hD hS => ?_)
  obtain ⟨u6, u7, u8, u9⟩ := u
  try dsimp only at h
  have hP : va_P D vwCl (w_X7_layNow Y q q_text q_strip q_told q_images q_kept q_history q_lay q_folds q_sightings q_rater q_strip_lengths q_lay_places g_strip_links g_strip_folded g_strip_stiff u6 u7 u8 g_strip_lengths u9) H := hP
  have hD : va_D A (w_X7_layNow Y q q_text q_strip q_told q_images q_kept q_history q_lay q_folds q_sightings q_rater q_strip_lengths q_lay_places g_strip_links g_strip_folded g_strip_stiff u6 u7 u8 g_strip_lengths u9) := hD
  refine lv_aload_n hx hb dX7_layNow_18 rfl (lv_at hl 0 rfl) ?_
  refine va_get (D := D) (ci := 7) (v := .ref q_lay) (C := RX7) (T := TX7) (N := 10) hx hb hts in_X7_layNow_X7 hown hK hP 0 rfl rfl 6 (by decide) (k_X7_layNow_f44 hts) (fun _ h9 => h9) rfl dX7_layNow_19 ?_
  exact ret_r (u6, u7, u8, u9) hx hb hr hlocks hK hP hD hS h dX7_layNow_22
abbrev rm_X7_link : Room := { frames := 4, cells := 0, slots := 0, locals := 91 }
theorem in_X7_link_X7 : ∀ w ∈ wsX70, w ∈ wsX7_link := fun _ h => List.mem_cons_of_mem _ (List.mem_append_left _ (List.mem_append_left _ (List.mem_append_right _ h)))
theorem k_X7_link_f19 {s : State} {args : Array Value} (hts : ∀ w ∈ wsX7_link, w.before args s = true) : (Cond.fieldLink RX7 19 "FoldRule" "strip" "LFoldRule$Strip;").before args s = true := hts _ (by decide +kernel)
set_option maxHeartbeats 4000000 in
set_option maxRecDepth 100000 in
theorem c_X7_link {l : Launch} {D : va_G} {Y : ClassId × ClassId × ClassId} {q q_text q_strip q_told q_images q_kept q_history q_lay q_folds q_sightings q_rater q_strip_lengths q_lay_places : Nat} {g_strip_links g_strip_folded g_strip_stiff g_lay_links g_lay_low g_lay_high : Int32} {g_strip_lengths g_lay_places : Nat → Int32} {x1 x2 : Int32} {Q : Int32 → Int32 → Int32 → Int32 → (Nat → Int32) → Prop} (h : wp_X7_link g_strip_links g_strip_folded g_lay_links g_lay_low g_lay_high g_strip_lengths g_lay_places x1 x2 Q) (sz : Nat) : MtI l yX7_link wsX7_link rm_X7_link [.ref q, .int x1, .int x2] D Y (w_X7_link Y q q_text q_strip q_told q_images q_kept q_history q_lay q_folds q_sightings q_rater q_strip_lengths q_lay_places g_strip_links g_strip_folded g_strip_stiff g_lay_links g_lay_low g_lay_high g_strip_lengths g_lay_places) (fun r (u : Int32 × Int32 × Int32 × (Nat → Int32)) => Q r u.1 u.2.1 u.2.2.1 u.2.2.2) (fun u : Int32 × Int32 × Int32 × (Nat → Int32) => (w_X7_link Y q q_text q_strip q_told q_images q_kept q_history q_lay q_folds q_sightings q_rater q_strip_lengths q_lay_places g_strip_links g_strip_folded g_strip_stiff u.1 u.2.1 u.2.2.1 g_strip_lengths u.2.2.2)) sz := by
  refine ct_i (cc := cX7_link) (nL := 3) (ret := (some .int)) (by decide) rfl (Nat.le_of_ble_eq_true rfl) ?_ sz
  intro p e s m below meth c A ls C hK hA hP hD hS hl
  obtain ⟨⟨hx, hb, hml, hown, hts⟩, hr, hlocks, hN⟩ := id C
  have hown : s.vm.findClass RX7 = some m.cls := hown
  have hl : lv_has ls 3 [(0, .ref q), (1, .int x1), (2, .int x2)] := hl
  unfold wp_X7_link at h
  refine lv_aload_n hx hb dX7_link_0 rfl (lv_at hl 0 rfl) ?_
  refine va_get (D := D) (ci := 7) (v := .ref q_strip) (C := RX7) (T := TX7) (N := 10) hx hb hts in_X7_link_X7 hown hK hP 0 rfl rfl 1 (by decide) (k_X7_link_f19 hts) (fun _ h9 => h9) rfl dX7_link_1 ?_
  refine lv_iload_n hx hb dX7_link_4 rfl (lv_at hl 1 rfl) ?_
  have hp : Pt (w_X7_link Y q q_text q_strip q_told q_images q_kept q_history q_lay q_folds q_sightings q_rater q_strip_lengths q_lay_places g_strip_links g_strip_folded g_strip_stiff g_lay_links g_lay_low g_lay_high g_strip_lengths g_lay_places) (w_X5_hasLink Y q_strip q_strip_lengths g_strip_links g_strip_folded g_strip_stiff) [1] := ⟨rfl, by decide +kernel⟩
  refine go_i hp hP hD hS hA (fun _ => rfl) (va_runV (As := [.int x1]) (rest := []) ⟨hx, hb, hml, hown, hts⟩ (c_X5_hasLink h _) (cwV 1 hts gX7_link_X5_hasLink rfl rfl rfl (by decide +kernel) ⟨Nat.le_of_ble_eq_true rfl, Nat.le_of_ble_eq_true rfl⟩) (pre_V (b := q_strip) (q0 := 0) (ci := 5) (q := (RX5, TX5, 4)) hp hK hN hP hD rfl rfl) rfl rfl hl.1 rfl (lv_room (Nat.le_of_ble_eq_true rfl)) dX7_link_5 ⟨Nat.le_of_ble_eq_true rfl, Nat.le_of_ble_eq_true rfl⟩) (fun r8 u H locs h hP hD hS => ?_)
  try dsimp only at h
  have hP : va_P D vwCl (w_X7_link Y q q_text q_strip q_told q_images q_kept q_history q_lay q_folds q_sightings q_rater q_strip_lengths q_lay_places g_strip_links g_strip_folded g_strip_stiff g_lay_links g_lay_low g_lay_high g_strip_lengths g_lay_places) H := hP
  have hD : va_D A (w_X7_link Y q q_text q_strip q_told q_images q_kept q_history q_lay q_folds q_sightings q_rater q_strip_lengths q_lay_places g_strip_links g_strip_folded g_strip_stiff g_lay_links g_lay_low g_lay_high g_strip_lengths g_lay_places) := hD
  refine lv_if_ne (tgt := 13) hx hb dX7_link_8 (by decide) (fun c9 => ?_) (fun c9 => ?_)
  · have h := h.1 c9
    refine lv_iload_n hx hb dX7_link_13 rfl (lv_at hl 2 rfl) ?_
    by_cases c10_0 : x2 = (0 : Int32)
    · have h := h.1 c10_0
      refine lv_lookup (off := (26)) (tgt := 40) hx hb dX7_link_14 (by decide) (by rw [c10_0]; decide) (by decide) ?_
      refine lv_aload_n hx hb dX7_link_40 rfl (lv_at hl 0 rfl) ?_
      refine va_get (D := D) (ci := 7) (v := .ref q_strip) (C := RX7) (T := TX7) (N := 10) hx hb hts in_X7_link_X7 hown hK hP 0 rfl rfl 1 (by decide) (k_X7_link_f19 hts) (fun _ h9 => h9) rfl dX7_link_41 ?_
      refine lv_iload_n hx hb dX7_link_44 rfl (lv_at hl 1 rfl) ?_
      have hp : Pt (w_X7_link Y q q_text q_strip q_told q_images q_kept q_history q_lay q_folds q_sightings q_rater q_strip_lengths q_lay_places g_strip_links g_strip_folded g_strip_stiff g_lay_links g_lay_low g_lay_high g_strip_lengths g_lay_places) (w_X5_lengthOf Y q_strip q_strip_lengths g_strip_links g_strip_folded g_strip_stiff g_strip_lengths) [1, 3] := ⟨rfl, by decide +kernel⟩
      refine go_i hp hP hD hS hA (fun _ => rfl) (va_runV (As := [.int x1]) (rest := []) ⟨hx, hb, hml, hown, hts⟩ (c_X5_lengthOf h _) (cwV 1 hts gX7_link_X5_lengthOf rfl rfl rfl (by decide +kernel) ⟨Nat.le_of_ble_eq_true rfl, Nat.le_of_ble_eq_true rfl⟩) (pre_V (b := q_strip) (q0 := 0) (ci := 5) (q := (RX5, TX5, 4)) hp hK hN hP hD rfl rfl) rfl rfl hl.1 rfl (lv_room (Nat.le_of_ble_eq_true rfl)) dX7_link_45 ⟨Nat.le_of_ble_eq_true rfl, Nat.le_of_ble_eq_true rfl⟩) (fun r11 u H locs h hP hD hS => ?_)
      try dsimp only at h
      have hP : va_P D vwCl (w_X7_link Y q q_text q_strip q_told q_images q_kept q_history q_lay q_folds q_sightings q_rater q_strip_lengths q_lay_places g_strip_links g_strip_folded g_strip_stiff g_lay_links g_lay_low g_lay_high g_strip_lengths g_lay_places) H := hP
      have hD : va_D A (w_X7_link Y q q_text q_strip q_told q_images q_kept q_history q_lay q_folds q_sightings q_rater q_strip_lengths q_lay_places g_strip_links g_strip_folded g_strip_stiff g_lay_links g_lay_low g_lay_high g_strip_lengths g_lay_places) := hD
      exact ret_i (g_lay_links, g_lay_low, g_lay_high, g_lay_places) hx hb hr hlocks hK hP hD hS h dX7_link_48
    by_cases c10_1 : x2 = (1 : Int32)
    · have h := h.2.1 c10_1
      refine lv_lookup (off := (35)) (tgt := 49) hx hb dX7_link_14 (by decide) (by rw [c10_1]; decide) (by decide) ?_
      refine lv_aload_n hx hb dX7_link_49 rfl (lv_at hl 0 rfl) ?_
      have hp : Pt (w_X7_link Y q q_text q_strip q_told q_images q_kept q_history q_lay q_folds q_sightings q_rater q_strip_lengths q_lay_places g_strip_links g_strip_folded g_strip_stiff g_lay_links g_lay_low g_lay_high g_strip_lengths g_lay_places) (w_X7_layNow Y q q_text q_strip q_told q_images q_kept q_history q_lay q_folds q_sightings q_rater q_strip_lengths q_lay_places g_strip_links g_strip_folded g_strip_stiff g_lay_links g_lay_low g_lay_high g_strip_lengths g_lay_places) [0, 1, 2, 3, 4] := ⟨rfl, by decide +kernel⟩
      refine go_r hp hP hD hS hA (fun _ => rfl) (va_runV (As := []) (rest := []) ⟨hx, hb, hml, hown, hts⟩ (c_X7_layNow h _) (cwV 0 hts gX7_link_X7_layNow rfl rfl rfl (by decide +kernel) ⟨Nat.le_of_ble_eq_true rfl, Nat.le_of_ble_eq_true rfl⟩) (pre_V (b := q) (q0 := 0) (ci := 7) (q := (RX7, TX7, 10)) hp hK hN hP hD rfl rfl) rfl rfl hl.1 rfl (lv_room (Nat.le_of_ble_eq_true rfl)) dX7_link_50 ⟨Nat.le_of_ble_eq_true rfl, Nat.le_of_ble_eq_true rfl⟩) (fun u H locs h hP hD hS => ?_)
      obtain ⟨u13, u14, u15, u16⟩ := u
      try dsimp only at h
      have hP : va_P D vwCl (w_X7_link Y q q_text q_strip q_told q_images q_kept q_history q_lay q_folds q_sightings q_rater q_strip_lengths q_lay_places g_strip_links g_strip_folded g_strip_stiff u13 u14 u15 g_strip_lengths u16) H := hP
      have hD : va_D A (w_X7_link Y q q_text q_strip q_told q_images q_kept q_history q_lay q_folds q_sightings q_rater q_strip_lengths q_lay_places g_strip_links g_strip_folded g_strip_stiff u13 u14 u15 g_strip_lengths u16) := hD
      refine lv_iload_n hx hb dX7_link_53 rfl (lv_at hl 1 rfl) ?_
      have hp : Pt (w_X7_link Y q q_text q_strip q_told q_images q_kept q_history q_lay q_folds q_sightings q_rater q_strip_lengths q_lay_places g_strip_links g_strip_folded g_strip_stiff u13 u14 u15 g_strip_lengths u16) (w_X2_othersOver Y q_lay q_lay_places u13 u14 u15 u16) [2, 4] := ⟨rfl, by decide +kernel⟩
      refine go_i hp hP hD hS hA (fun _ => rfl) (va_runV (As := [.int x1]) (rest := []) ⟨hx, hb, hml, hown, hts⟩ (c_X2_othersOver h _) (cwV 1 hts gX7_link_X2_othersOver rfl rfl rfl (by decide +kernel) ⟨Nat.le_of_ble_eq_true rfl, Nat.le_of_ble_eq_true rfl⟩) (pre_V (b := q_lay) (q0 := 0) (ci := 2) (q := (RX2, TX2, 4)) hp hK hN hP hD rfl rfl) rfl rfl hl.1 rfl (lv_room (Nat.le_of_ble_eq_true rfl)) dX7_link_54 ⟨Nat.le_of_ble_eq_true rfl, Nat.le_of_ble_eq_true rfl⟩) (fun r17 u H locs h hP hD hS => ?_)
      try dsimp only at h
      have hP : va_P D vwCl (w_X7_link Y q q_text q_strip q_told q_images q_kept q_history q_lay q_folds q_sightings q_rater q_strip_lengths q_lay_places g_strip_links g_strip_folded g_strip_stiff u13 u14 u15 g_strip_lengths u16) H := hP
      have hD : va_D A (w_X7_link Y q q_text q_strip q_told q_images q_kept q_history q_lay q_folds q_sightings q_rater q_strip_lengths q_lay_places g_strip_links g_strip_folded g_strip_stiff u13 u14 u15 g_strip_lengths u16) := hD
      exact ret_i (u13, u14, u15, u16) hx hb hr hlocks hK hP hD hS h dX7_link_57
    have h := h.2.2 c10_0 c10_1
    refine lv_lookup (off := (44)) (tgt := 58) hx hb dX7_link_14 (by decide) (by refine (lv_osw c10_0 (by decide)).trans ?_; refine (lv_osw c10_1 (by decide)).trans ?_; rfl) (by decide) ?_
    refine lv_iconst (v := (-1)) hx hb dX7_link_58 (by decide) ?_
    exact ret_i (g_lay_links, g_lay_low, g_lay_high, g_lay_places) hx hb hr hlocks hK hP hD hS h dX7_link_59
  · have h := h.2 c9
    refine lv_iconst (v := (-1)) hx hb dX7_link_11 (by decide) ?_
    exact ret_i (g_lay_links, g_lay_low, g_lay_high, g_lay_places) hx hb hr hlocks hK hP hD hS h dX7_link_12
abbrev rm_X7_joint : Room := { frames := 3, cells := 0, slots := 0, locals := 54 }
theorem in_X7_joint_X5 : ∀ w ∈ wsX50, w ∈ wsX7_joint := fun _ h => List.mem_cons_of_mem _ (List.mem_append_right _ h)
theorem in_X7_joint_X7 : ∀ w ∈ wsX70, w ∈ wsX7_joint := fun _ h => List.mem_cons_of_mem _ (List.mem_append_left _ (List.mem_append_right _ h))
theorem k_X7_joint_f19 {s : State} {args : Array Value} (hts : ∀ w ∈ wsX7_joint, w.before args s = true) : (Cond.fieldLink RX7 19 "FoldRule" "strip" "LFoldRule$Strip;").before args s = true := hts _ (by decide +kernel)
set_option maxHeartbeats 4000000 in
set_option maxRecDepth 100000 in
theorem c_X7_joint {l : Launch} {D : va_G} {Y : ClassId × ClassId × ClassId} {q q_text q_strip q_told q_images q_kept q_history q_lay q_folds q_sightings q_rater q_strip_lengths : Nat} {g_strip_links g_strip_folded g_strip_stiff x1 x2 : Int32} {Q : Int32 → Prop} (h : wp_X7_joint g_strip_links g_strip_folded g_strip_stiff x1 x2 Q) (sz : Nat) : MtI l yX7_joint wsX7_joint rm_X7_joint [.ref q, .int x1, .int x2] D Y (w_X7_joint Y q q_text q_strip q_told q_images q_kept q_history q_lay q_folds q_sightings q_rater q_strip_lengths g_strip_links g_strip_folded g_strip_stiff) (fun r (_ : Unit) => Q r) (fun _ : Unit => (w_X7_joint Y q q_text q_strip q_told q_images q_kept q_history q_lay q_folds q_sightings q_rater q_strip_lengths g_strip_links g_strip_folded g_strip_stiff)) sz := by
  refine ct_i (cc := cX7_joint) (nL := 3) (ret := (some .int)) (by decide) rfl (Nat.le_of_ble_eq_true rfl) ?_ sz
  intro p e s m below meth c A ls C hK hA hP hD hS hl
  obtain ⟨⟨hx, hb, hml, hown, hts⟩, hr, hlocks, hN⟩ := id C
  have hown : s.vm.findClass RX7 = some m.cls := hown
  have hl : lv_has ls 3 [(0, .ref q), (1, .int x1), (2, .int x2)] := hl
  unfold wp_X7_joint at h
  refine lv_aload_n hx hb dX7_joint_0 rfl (lv_at hl 0 rfl) ?_
  refine va_get (D := D) (ci := 7) (v := .ref q_strip) (C := RX7) (T := TX7) (N := 10) hx hb hts in_X7_joint_X7 hown hK hP 0 rfl rfl 1 (by decide) (k_X7_joint_f19 hts) (fun _ h9 => h9) rfl dX7_joint_1 ?_
  refine lv_iload_n hx hb dX7_joint_4 rfl (lv_at hl 1 rfl) ?_
  have hp : Pt (w_X7_joint Y q q_text q_strip q_told q_images q_kept q_history q_lay q_folds q_sightings q_rater q_strip_lengths g_strip_links g_strip_folded g_strip_stiff) (w_X5_hasJoint Y q_strip q_strip_lengths g_strip_links g_strip_folded g_strip_stiff) [1] := ⟨rfl, by decide +kernel⟩
  refine go_i hp hP hD hS hA (fun _ => rfl) (va_runV (As := [.int x1]) (rest := []) ⟨hx, hb, hml, hown, hts⟩ (c_X5_hasJoint h _) (cwV 1 hts gX7_joint_X5_hasJoint rfl rfl rfl (by decide +kernel) ⟨Nat.le_of_ble_eq_true rfl, Nat.le_of_ble_eq_true rfl⟩) (pre_V (b := q_strip) (q0 := 0) (ci := 5) (q := (RX5, TX5, 4)) hp hK hN hP hD rfl rfl) rfl rfl hl.1 rfl (lv_room (Nat.le_of_ble_eq_true rfl)) dX7_joint_5 ⟨Nat.le_of_ble_eq_true rfl, Nat.le_of_ble_eq_true rfl⟩) (fun r4 u H locs h hP hD hS => ?_)
  try dsimp only at h
  have hP : va_P D vwCl (w_X7_joint Y q q_text q_strip q_told q_images q_kept q_history q_lay q_folds q_sightings q_rater q_strip_lengths g_strip_links g_strip_folded g_strip_stiff) H := hP
  have hD : va_D A (w_X7_joint Y q q_text q_strip q_told q_images q_kept q_history q_lay q_folds q_sightings q_rater q_strip_lengths g_strip_links g_strip_folded g_strip_stiff) := hD
  refine lv_if_ne (tgt := 13) hx hb dX7_joint_8 (by decide) (fun c5 => ?_) (fun c5 => ?_)
  · have h := h.1 c5
    refine lv_iload_n hx hb dX7_joint_13 rfl (lv_at hl 2 rfl) ?_
    by_cases c6_0 : x2 = (0 : Int32)
    · have h := h.1 c6_0
      refine lv_lookup (off := (26)) (tgt := 40) hx hb dX7_joint_14 (by decide) (by rw [c6_0]; decide) (by decide) ?_
      refine lv_aload_n hx hb dX7_joint_40 rfl (lv_at hl 0 rfl) ?_
      refine va_get (D := D) (ci := 7) (v := .ref q_strip) (C := RX7) (T := TX7) (N := 10) hx hb hts in_X7_joint_X7 hown hK hP 0 rfl rfl 1 (by decide) (k_X7_joint_f19 hts) (fun _ h9 => h9) rfl dX7_joint_41 ?_
      refine va_getN (D := D) (ci := 5) (v := .int g_strip_folded) (C := RX5) (T := TX5) (N := 4) hx hb hts in_X7_joint_X5 hown hK hP 1 rfl rfl 2 (by decide) (va_Nw.use rfl (nwX7_121 hN)) (fun _ h9 => h9) rfl dX7_joint_44 ?_
      refine lv_iload_n hx hb dX7_joint_47 rfl (lv_at hl 1 rfl) ?_
      have hp : Pt (w_X7_joint Y q q_text q_strip q_told q_images q_kept q_history q_lay q_folds q_sightings q_rater q_strip_lengths g_strip_links g_strip_folded g_strip_stiff) (w_X7_hasBit Y ) [] := ⟨rfl, by decide +kernel⟩
      refine go_i hp hP hD hS hA (fun _ => rfl) (va_runS (As := [.int g_strip_folded, .int x1]) (rest := []) ⟨hx, hb, hml, hown, hts⟩ (c_X7_hasBit h _) (va_cwS 2 hts gX7_joint_X7_hasBit rfl rfl rfl (by decide +kernel) ⟨Nat.le_of_ble_eq_true rfl, Nat.le_of_ble_eq_true rfl⟩) (pre_S hp hK hN hP hD) rfl rfl hl.1 rfl (lv_room (Nat.le_of_ble_eq_true rfl)) dX7_joint_48 ⟨Nat.le_of_ble_eq_true rfl, Nat.le_of_ble_eq_true rfl⟩) (fun r7 u H locs h hP hD hS => ?_)
      try dsimp only at h
      have hP : va_P D vwCl (w_X7_joint Y q q_text q_strip q_told q_images q_kept q_history q_lay q_folds q_sightings q_rater q_strip_lengths g_strip_links g_strip_folded g_strip_stiff) H := hP
      have hD : va_D A (w_X7_joint Y q q_text q_strip q_told q_images q_kept q_history q_lay q_folds q_sightings q_rater q_strip_lengths g_strip_links g_strip_folded g_strip_stiff) := hD
      refine lv_if_eq (tgt := 58) hx hb dX7_joint_51 (by decide) (fun c8 => ?_) (fun c8 => ?_)
      · have h := h.1 c8
        refine lv_iconst (v := 0) hx hb dX7_joint_58 (by decide) ?_
        exact ret_i () hx hb hr hlocks hK hP hD hS h dX7_joint_59
      · have h := h.2 c8
        refine lv_iconst (v := 1) hx hb dX7_joint_54 (by decide) ?_
        refine lv_goto (tgt := 59) hx hb dX7_joint_55 (by decide) ?_
        exact ret_i () hx hb hr hlocks hK hP hD hS h dX7_joint_59
    by_cases c6_1 : x2 = (1 : Int32)
    · have h := h.2.1 c6_1
      refine lv_lookup (off := (46)) (tgt := 60) hx hb dX7_joint_14 (by decide) (by rw [c6_1]; decide) (by decide) ?_
      refine lv_aload_n hx hb dX7_joint_60 rfl (lv_at hl 0 rfl) ?_
      refine va_get (D := D) (ci := 7) (v := .ref q_strip) (C := RX7) (T := TX7) (N := 10) hx hb hts in_X7_joint_X7 hown hK hP 0 rfl rfl 1 (by decide) (k_X7_joint_f19 hts) (fun _ h9 => h9) rfl dX7_joint_61 ?_
      refine va_getN (D := D) (ci := 5) (v := .int g_strip_stiff) (C := RX5) (T := TX5) (N := 4) hx hb hts in_X7_joint_X5 hown hK hP 1 rfl rfl 3 (by decide) (va_Nw.use rfl (nwX7_128 hN)) (fun _ h9 => h9) rfl dX7_joint_64 ?_
      refine lv_iload_n hx hb dX7_joint_67 rfl (lv_at hl 1 rfl) ?_
      have hp : Pt (w_X7_joint Y q q_text q_strip q_told q_images q_kept q_history q_lay q_folds q_sightings q_rater q_strip_lengths g_strip_links g_strip_folded g_strip_stiff) (w_X7_hasBit Y ) [] := ⟨rfl, by decide +kernel⟩
      refine go_i hp hP hD hS hA (fun _ => rfl) (va_runS (As := [.int g_strip_stiff, .int x1]) (rest := []) ⟨hx, hb, hml, hown, hts⟩ (c_X7_hasBit h _) (va_cwS 2 hts gX7_joint_X7_hasBit rfl rfl rfl (by decide +kernel) ⟨Nat.le_of_ble_eq_true rfl, Nat.le_of_ble_eq_true rfl⟩) (pre_S hp hK hN hP hD) rfl rfl hl.1 rfl (lv_room (Nat.le_of_ble_eq_true rfl)) dX7_joint_68 ⟨Nat.le_of_ble_eq_true rfl, Nat.le_of_ble_eq_true rfl⟩) (fun r9 u H locs h hP hD hS => ?_)
      try dsimp only at h
      have hP : va_P D vwCl (w_X7_joint Y q q_text q_strip q_told q_images q_kept q_history q_lay q_folds q_sightings q_rater q_strip_lengths g_strip_links g_strip_folded g_strip_stiff) H := hP
      have hD : va_D A (w_X7_joint Y q q_text q_strip q_told q_images q_kept q_history q_lay q_folds q_sightings q_rater q_strip_lengths g_strip_links g_strip_folded g_strip_stiff) := hD
      refine lv_if_eq (tgt := 78) hx hb dX7_joint_71 (by decide) (fun c10 => ?_) (fun c10 => ?_)
      · have h := h.1 c10
        refine lv_iconst (v := 0) hx hb dX7_joint_78 (by decide) ?_
        exact ret_i () hx hb hr hlocks hK hP hD hS h dX7_joint_79
      · have h := h.2 c10
        refine lv_iconst (v := 1) hx hb dX7_joint_74 (by decide) ?_
        refine lv_goto (tgt := 79) hx hb dX7_joint_75 (by decide) ?_
        exact ret_i () hx hb hr hlocks hK hP hD hS h dX7_joint_79
    have h := h.2.2 c6_0 c6_1
    refine lv_lookup (off := (66)) (tgt := 80) hx hb dX7_joint_14 (by decide) (by refine (lv_osw c6_0 (by decide)).trans ?_; refine (lv_osw c6_1 (by decide)).trans ?_; rfl) (by decide) ?_
    refine lv_iconst (v := (-1)) hx hb dX7_joint_80 (by decide) ?_
    exact ret_i () hx hb hr hlocks hK hP hD hS h dX7_joint_81
  · have h := h.2 c5
    refine lv_iconst (v := (-1)) hx hb dX7_joint_11 (by decide) ?_
    exact ret_i () hx hb hr hlocks hK hP hD hS h dX7_joint_12
abbrev rm_X7_mark : Room := { frames := 4, cells := 0, slots := 0, locals := 91 }
theorem in_X7_mark_X5 : ∀ w ∈ wsX50, w ∈ wsX7_mark := fun _ h => List.mem_cons_of_mem _ (List.mem_append_left _ (List.mem_append_right _ h))
theorem in_X7_mark_X7 : ∀ w ∈ wsX70, w ∈ wsX7_mark := fun _ h => List.mem_cons_of_mem _ (List.mem_append_left _ (List.mem_append_left _ (List.mem_append_right _ h)))
theorem k_X7_mark_f19 {s : State} {args : Array Value} (hts : ∀ w ∈ wsX7_mark, w.before args s = true) : (Cond.fieldLink RX7 19 "FoldRule" "strip" "LFoldRule$Strip;").before args s = true := hts _ (by decide +kernel)
theorem k_X7_mark_c134 {s : State} {args : Array Value} (hts : ∀ w ∈ wsX7_mark, w.before args s = true) : (Cond.constant RX7 134 (-1000000)).before args s = true := hts _ (by decide +kernel)
set_option maxHeartbeats 4000000 in
set_option maxRecDepth 100000 in
theorem c_X7_mark {l : Launch} {D : va_G} {Y : ClassId × ClassId × ClassId} {q q_text q_strip q_told q_images q_kept q_history q_lay q_folds q_sightings q_rater q_strip_lengths q_lay_places : Nat} {g_strip_links g_strip_folded g_strip_stiff g_lay_links g_lay_low g_lay_high : Int32} {g_strip_lengths g_lay_places : Nat → Int32} {x1 : Int32} {Q : Int32 → Int32 → Int32 → Int32 → (Nat → Int32) → Prop} (h : wp_X7_mark g_strip_links g_strip_folded g_lay_links g_lay_low g_lay_high g_strip_lengths g_lay_places x1 Q) (sz : Nat) : MtI l yX7_mark wsX7_mark rm_X7_mark [.ref q, .int x1] D Y (w_X7_mark Y q q_text q_strip q_told q_images q_kept q_history q_lay q_folds q_sightings q_rater q_strip_lengths q_lay_places g_strip_links g_strip_folded g_strip_stiff g_lay_links g_lay_low g_lay_high g_strip_lengths g_lay_places) (fun r (u : Int32 × Int32 × Int32 × (Nat → Int32)) => Q r u.1 u.2.1 u.2.2.1 u.2.2.2) (fun u : Int32 × Int32 × Int32 × (Nat → Int32) => (w_X7_mark Y q q_text q_strip q_told q_images q_kept q_history q_lay q_folds q_sightings q_rater q_strip_lengths q_lay_places g_strip_links g_strip_folded g_strip_stiff u.1 u.2.1 u.2.2.1 g_strip_lengths u.2.2.2)) sz := by
  refine ct_i (cc := cX7_mark) (nL := 2) (ret := (some .int)) (by decide) rfl (Nat.le_of_ble_eq_true rfl) ?_ sz
  intro p e s m below meth c A ls C hK hA hP hD hS hl
  obtain ⟨⟨hx, hb, hml, hown, hts⟩, hr, hlocks, hN⟩ := id C
  have hown : s.vm.findClass RX7 = some m.cls := hown
  have hl : lv_has ls 2 [(0, .ref q), (1, .int x1)] := hl
  unfold wp_X7_mark at h
  refine lv_iload_n hx hb dX7_mark_0 rfl (lv_at hl 1 rfl) ?_
  refine lv_iconst (v := 0) hx hb dX7_mark_1 (by decide) ?_
  refine lv_aload_n hx hb dX7_mark_2 rfl (lv_at hl 0 rfl) ?_
  refine va_get (D := D) (ci := 7) (v := .ref q_strip) (C := RX7) (T := TX7) (N := 10) hx hb hts in_X7_mark_X7 hown hK hP 0 rfl rfl 1 (by decide) (k_X7_mark_f19 hts) (fun _ h9 => h9) rfl dX7_mark_3 ?_
  refine va_getN (D := D) (ci := 5) (v := .int g_strip_links) (C := RX5) (T := TX5) (N := 4) hx hb hts in_X7_mark_X5 hown hK hP 1 rfl rfl 1 (by decide) (va_Nw.use rfl (nwX7_131 hN)) (fun _ h9 => h9) rfl dX7_mark_6 ?_
  have hp : Pt (w_X7_mark Y q q_text q_strip q_told q_images q_kept q_history q_lay q_folds q_sightings q_rater q_strip_lengths q_lay_places g_strip_links g_strip_folded g_strip_stiff g_lay_links g_lay_low g_lay_high g_strip_lengths g_lay_places) (w_X7_isWithin Y ) [] := ⟨rfl, by decide +kernel⟩
  refine go_i hp hP hD hS hA (fun _ => rfl) (va_runS (As := [.int x1, .int (0 : Int32), .int g_strip_links]) (rest := []) ⟨hx, hb, hml, hown, hts⟩ (c_X7_isWithin h _) (va_cwS 3 hts gX7_mark_X7_isWithin rfl rfl rfl (by decide +kernel) ⟨Nat.le_of_ble_eq_true rfl, Nat.le_of_ble_eq_true rfl⟩) (pre_S hp hK hN hP hD) rfl rfl hl.1 rfl (lv_room (Nat.le_of_ble_eq_true rfl)) dX7_mark_9 ⟨Nat.le_of_ble_eq_true rfl, Nat.le_of_ble_eq_true rfl⟩) (fun r7 u H locs h hP hD hS => ?_)
  try dsimp only at h
  have hP : va_P D vwCl (w_X7_mark Y q q_text q_strip q_told q_images q_kept q_history q_lay q_folds q_sightings q_rater q_strip_lengths q_lay_places g_strip_links g_strip_folded g_strip_stiff g_lay_links g_lay_low g_lay_high g_strip_lengths g_lay_places) H := hP
  have hD : va_D A (w_X7_mark Y q q_text q_strip q_told q_images q_kept q_history q_lay q_folds q_sightings q_rater q_strip_lengths q_lay_places g_strip_links g_strip_folded g_strip_stiff g_lay_links g_lay_low g_lay_high g_strip_lengths g_lay_places) := hD
  refine lv_if_ne (tgt := 18) hx hb dX7_mark_12 (by decide) (fun c8 => ?_) (fun c8 => ?_)
  · have h := h.1 c8
    refine lv_aload_n hx hb dX7_mark_18 rfl (lv_at hl 0 rfl) ?_
    have hp : Pt (w_X7_mark Y q q_text q_strip q_told q_images q_kept q_history q_lay q_folds q_sightings q_rater q_strip_lengths q_lay_places g_strip_links g_strip_folded g_strip_stiff g_lay_links g_lay_low g_lay_high g_strip_lengths g_lay_places) (w_X7_layNow Y q q_text q_strip q_told q_images q_kept q_history q_lay q_folds q_sightings q_rater q_strip_lengths q_lay_places g_strip_links g_strip_folded g_strip_stiff g_lay_links g_lay_low g_lay_high g_strip_lengths g_lay_places) [0, 1, 2, 3, 4] := ⟨rfl, by decide +kernel⟩
    refine go_r hp hP hD hS hA (fun _ => rfl) (va_runV (As := []) (rest := []) ⟨hx, hb, hml, hown, hts⟩ (c_X7_layNow h _) (cwV 0 hts gX7_mark_X7_layNow rfl rfl rfl (by decide +kernel) ⟨Nat.le_of_ble_eq_true rfl, Nat.le_of_ble_eq_true rfl⟩) (pre_V (b := q) (q0 := 0) (ci := 7) (q := (RX7, TX7, 10)) hp hK hN hP hD rfl rfl) rfl rfl hl.1 rfl (lv_room (Nat.le_of_ble_eq_true rfl)) dX7_mark_19 ⟨Nat.le_of_ble_eq_true rfl, Nat.le_of_ble_eq_true rfl⟩) (fun u H locs h hP hD hS => ?_)
    obtain ⟨u10, u11, u12, u13⟩ := u
    try dsimp only at h
    have hP : va_P D vwCl (w_X7_mark Y q q_text q_strip q_told q_images q_kept q_history q_lay q_folds q_sightings q_rater q_strip_lengths q_lay_places g_strip_links g_strip_folded g_strip_stiff u10 u11 u12 g_strip_lengths u13) H := hP
    have hD : va_D A (w_X7_mark Y q q_text q_strip q_told q_images q_kept q_history q_lay q_folds q_sightings q_rater q_strip_lengths q_lay_places g_strip_links g_strip_folded g_strip_stiff u10 u11 u12 g_strip_lengths u13) := hD
    refine lv_iload_n hx hb dX7_mark_22 rfl (lv_at hl 1 rfl) ?_
    have hp : Pt (w_X7_mark Y q q_text q_strip q_told q_images q_kept q_history q_lay q_folds q_sightings q_rater q_strip_lengths q_lay_places g_strip_links g_strip_folded g_strip_stiff u10 u11 u12 g_strip_lengths u13) (w_X2_placeOf Y q_lay q_lay_places u10 u11 u12 u13) [2, 4] := ⟨rfl, by decide +kernel⟩
    refine go_i hp hP hD hS hA (fun _ => rfl) (va_runV (As := [.int x1]) (rest := []) ⟨hx, hb, hml, hown, hts⟩ (c_X2_placeOf h _) (cwV 1 hts gX7_mark_X2_placeOf rfl rfl rfl (by decide +kernel) ⟨Nat.le_of_ble_eq_true rfl, Nat.le_of_ble_eq_true rfl⟩) (pre_V (b := q_lay) (q0 := 0) (ci := 2) (q := (RX2, TX2, 4)) hp hK hN hP hD rfl rfl) rfl rfl hl.1 rfl (lv_room (Nat.le_of_ble_eq_true rfl)) dX7_mark_23 ⟨Nat.le_of_ble_eq_true rfl, Nat.le_of_ble_eq_true rfl⟩) (fun r14 u H locs h hP hD hS => ?_)
    try dsimp only at h
    have hP : va_P D vwCl (w_X7_mark Y q q_text q_strip q_told q_images q_kept q_history q_lay q_folds q_sightings q_rater q_strip_lengths q_lay_places g_strip_links g_strip_folded g_strip_stiff u10 u11 u12 g_strip_lengths u13) H := hP
    have hD : va_D A (w_X7_mark Y q q_text q_strip q_told q_images q_kept q_history q_lay q_folds q_sightings q_rater q_strip_lengths q_lay_places g_strip_links g_strip_folded g_strip_stiff u10 u11 u12 g_strip_lengths u13) := hD
    exact ret_i (u10, u11, u12, u13) hx hb hr hlocks hK hP hD hS h dX7_mark_26
  · have h := h.2 c8
    refine lv_ldc hx hb hown (k_X7_mark_c134 hts) dX7_mark_15 ?_
    exact ret_i (g_lay_links, g_lay_low, g_lay_high, g_lay_places) hx hb hr hlocks hK hP hD hS h dX7_mark_17
abbrev rm_X7_spanNow : Room := { frames := 4, cells := 0, slots := 0, locals := 91 }
set_option maxHeartbeats 4000000 in
set_option maxRecDepth 100000 in
theorem c_X7_spanNow {l : Launch} {D : va_G} {Y : ClassId × ClassId × ClassId} {q q_text q_strip q_told q_images q_kept q_history q_lay q_folds q_sightings q_rater q_strip_lengths q_lay_places : Nat} {g_strip_links g_strip_folded g_strip_stiff g_lay_links g_lay_low g_lay_high : Int32} {g_strip_lengths g_lay_places : Nat → Int32} {Q : Int32 → Int32 → Int32 → Int32 → (Nat → Int32) → Prop} (h : wp_X7_spanNow g_strip_links g_strip_folded g_lay_links g_lay_low g_lay_high g_strip_lengths g_lay_places Q) (sz : Nat) : MtI l yX7_spanNow wsX7_spanNow rm_X7_spanNow [.ref q] D Y (w_X7_spanNow Y q q_text q_strip q_told q_images q_kept q_history q_lay q_folds q_sightings q_rater q_strip_lengths q_lay_places g_strip_links g_strip_folded g_strip_stiff g_lay_links g_lay_low g_lay_high g_strip_lengths g_lay_places) (fun r (u : Int32 × Int32 × Int32 × (Nat → Int32)) => Q r u.1 u.2.1 u.2.2.1 u.2.2.2) (fun u : Int32 × Int32 × Int32 × (Nat → Int32) => (w_X7_spanNow Y q q_text q_strip q_told q_images q_kept q_history q_lay q_folds q_sightings q_rater q_strip_lengths q_lay_places g_strip_links g_strip_folded g_strip_stiff u.1 u.2.1 u.2.2.1 g_strip_lengths u.2.2.2)) sz := by
  refine ct_i (cc := cX7_spanNow) (nL := 1) (ret := (some .int)) (by decide) rfl (Nat.le_of_ble_eq_true rfl) ?_ sz
  intro p e s m below meth c A ls C hK hA hP hD hS hl
  obtain ⟨⟨hx, hb, hml, hown, hts⟩, hr, hlocks, hN⟩ := id C
  have hown : s.vm.findClass RX7 = some m.cls := hown
  have hl : lv_has ls 1 [(0, .ref q)] := hl
  unfold wp_X7_spanNow at h
  refine lv_aload_n hx hb dX7_spanNow_0 rfl (lv_at hl 0 rfl) ?_
  have hp : Pt (w_X7_spanNow Y q q_text q_strip q_told q_images q_kept q_history q_lay q_folds q_sightings q_rater q_strip_lengths q_lay_places g_strip_links g_strip_folded g_strip_stiff g_lay_links g_lay_low g_lay_high g_strip_lengths g_lay_places) (w_X7_layNow Y q q_text q_strip q_told q_images q_kept q_history q_lay q_folds q_sightings q_rater q_strip_lengths q_lay_places g_strip_links g_strip_folded g_strip_stiff g_lay_links g_lay_low g_lay_high g_strip_lengths g_lay_places) [0, 1, 2, 3, 4] := ⟨rfl, by decide +kernel⟩
  refine go_r hp hP hD hS hA (fun _ => rfl) (va_runV (As := []) (rest := []) ⟨hx, hb, hml, hown, hts⟩ (c_X7_layNow h _) (cwV 0 hts gX7_spanNow_X7_layNow rfl rfl rfl (by decide +kernel) ⟨Nat.le_of_ble_eq_true rfl, Nat.le_of_ble_eq_true rfl⟩) (pre_V (b := q) (q0 := 0) (ci := 7) (q := (RX7, TX7, 10)) hp hK hN hP hD rfl rfl) rfl rfl hl.1 rfl (lv_room (Nat.le_of_ble_eq_true rfl)) dX7_spanNow_1 ⟨Nat.le_of_ble_eq_true rfl, Nat.le_of_ble_eq_true rfl⟩) (fun u H locs h hP hD hS => ?_)
  obtain ⟨u7, u8, u9, u10⟩ := u
  try dsimp only at h
  have hP : va_P D vwCl (w_X7_spanNow Y q q_text q_strip q_told q_images q_kept q_history q_lay q_folds q_sightings q_rater q_strip_lengths q_lay_places g_strip_links g_strip_folded g_strip_stiff u7 u8 u9 g_strip_lengths u10) H := hP
  have hD : va_D A (w_X7_spanNow Y q q_text q_strip q_told q_images q_kept q_history q_lay q_folds q_sightings q_rater q_strip_lengths q_lay_places g_strip_links g_strip_folded g_strip_stiff u7 u8 u9 g_strip_lengths u10) := hD
  have hp : Pt (w_X7_spanNow Y q q_text q_strip q_told q_images q_kept q_history q_lay q_folds q_sightings q_rater q_strip_lengths q_lay_places g_strip_links g_strip_folded g_strip_stiff u7 u8 u9 g_strip_lengths u10) (w_X2_span Y q_lay q_lay_places u7 u8 u9) [2] := ⟨rfl, by decide +kernel⟩
  refine go_i hp hP hD hS hA (fun _ => rfl) (va_runV (As := []) (rest := []) ⟨hx, hb, hml, hown, hts⟩ (c_X2_span h _) (cwV 0 hts gX7_spanNow_X2_span rfl rfl rfl (by decide +kernel) ⟨Nat.le_of_ble_eq_true rfl, Nat.le_of_ble_eq_true rfl⟩) (pre_V (b := q_lay) (q0 := 0) (ci := 2) (q := (RX2, TX2, 4)) hp hK hN hP hD rfl rfl) rfl rfl hl.1 rfl (lv_room (Nat.le_of_ble_eq_true rfl)) dX7_spanNow_4 ⟨Nat.le_of_ble_eq_true rfl, Nat.le_of_ble_eq_true rfl⟩) (fun r11 u H locs h hP hD hS => ?_)
  try dsimp only at h
  have hP : va_P D vwCl (w_X7_spanNow Y q q_text q_strip q_told q_images q_kept q_history q_lay q_folds q_sightings q_rater q_strip_lengths q_lay_places g_strip_links g_strip_folded g_strip_stiff u7 u8 u9 g_strip_lengths u10) H := hP
  have hD : va_D A (w_X7_spanNow Y q q_text q_strip q_told q_images q_kept q_history q_lay q_folds q_sightings q_rater q_strip_lengths q_lay_places g_strip_links g_strip_folded g_strip_stiff u7 u8 u9 g_strip_lengths u10) := hD
  exact ret_i (u7, u8, u9, u10) hx hb hr hlocks hK hP hD hS h dX7_spanNow_7
abbrev rm_X7_now : Room := { frames := 6, cells := 0, slots := 0, locals := 119 }
theorem in_X7_now_X1 : ∀ w ∈ wsX10, w ∈ wsX7_now := fun _ h => List.mem_cons_of_mem _ (List.mem_append_left _ (List.mem_append_left _ (List.mem_append_right _ h)))
theorem in_X7_now_X5 : ∀ w ∈ wsX50, w ∈ wsX7_now := fun _ h => List.mem_cons_of_mem _ (List.mem_append_left _ (List.mem_append_left _ (List.mem_append_left _ (List.mem_append_right _ h))))
theorem in_X7_now_X7 : ∀ w ∈ wsX70, w ∈ wsX7_now := fun _ h => List.mem_cons_of_mem _ (List.mem_append_left _ (List.mem_append_left _ (List.mem_append_left _ (List.mem_append_left _ (List.mem_append_right _ h)))))
theorem k_X7_now_f19 {s : State} {args : Array Value} (hts : ∀ w ∈ wsX7_now, w.before args s = true) : (Cond.fieldLink RX7 19 "FoldRule" "strip" "LFoldRule$Strip;").before args s = true := hts _ (by decide +kernel)
theorem k_X7_now_f51 {s : State} {args : Array Value} (hts : ∀ w ∈ wsX7_now, w.before args s = true) : (Cond.fieldLink RX7 51 "FoldRule" "folds" "LFoldRule$Folds;").before args s = true := hts _ (by decide +kernel)
theorem k_X7_now_f37 {s : State} {args : Array Value} (hts : ∀ w ∈ wsX7_now, w.before args s = true) : (Cond.fieldLink RX7 37 "FoldRule" "history" "LFoldRule$History;").before args s = true := hts _ (by decide +kernel)
set_option maxHeartbeats 4000000 in
set_option maxRecDepth 100000 in
theorem c_X7_now {l : Launch} {D : va_G} {Y : ClassId × ClassId × ClassId} {q q_text q_strip q_told q_images q_kept q_history q_lay q_folds q_sightings q_rater q_history_steps q_folds_lay q_folds_measured q_strip_lengths q_folds_lay_places q_lay_places : Nat} {g_history_slot g_history_size : Int32} {g_folds_measured : Nat → Int32} {g_strip_links g_strip_folded g_strip_stiff g_folds_lay_links g_folds_lay_low g_folds_lay_high : Int32} {g_strip_lengths g_folds_lay_places : Nat → Int32} {g_lay_links g_lay_low g_lay_high : Int32} {g_lay_places : Nat → Int32} {x1 : Int32} {Q : Int32 → (Nat → Int32) → Int32 → Int32 → Int32 → (Nat → Int32) → Int32 → Int32 → Int32 → (Nat → Int32) → Prop} (h : wp_X7_now g_history_size g_folds_measured g_strip_links g_strip_folded g_strip_stiff g_folds_lay_links g_folds_lay_low g_folds_lay_high g_strip_lengths g_folds_lay_places g_lay_links g_lay_low g_lay_high g_lay_places x1 Q) (sz : Nat) : MtI l yX7_now wsX7_now rm_X7_now [.ref q, .int x1] D Y (w_X7_now Y q q_text q_strip q_told q_images q_kept q_history q_lay q_folds q_sightings q_rater q_history_steps q_folds_lay q_folds_measured q_strip_lengths q_folds_lay_places q_lay_places g_history_slot g_history_size g_folds_measured g_strip_links g_strip_folded g_strip_stiff g_folds_lay_links g_folds_lay_low g_folds_lay_high g_strip_lengths g_folds_lay_places g_lay_links g_lay_low g_lay_high g_lay_places) (fun r (u : (Nat → Int32) × Int32 × Int32 × Int32 × (Nat → Int32) × Int32 × Int32 × Int32 × (Nat → Int32)) => Q r u.1 u.2.1 u.2.2.1 u.2.2.2.1 u.2.2.2.2.1 u.2.2.2.2.2.1 u.2.2.2.2.2.2.1 u.2.2.2.2.2.2.2.1 u.2.2.2.2.2.2.2.2) (fun u : (Nat → Int32) × Int32 × Int32 × Int32 × (Nat → Int32) × Int32 × Int32 × Int32 × (Nat → Int32) => (w_X7_now Y q q_text q_strip q_told q_images q_kept q_history q_lay q_folds q_sightings q_rater q_history_steps q_folds_lay q_folds_measured q_strip_lengths q_folds_lay_places q_lay_places g_history_slot g_history_size u.1 g_strip_links g_strip_folded g_strip_stiff u.2.1 u.2.2.1 u.2.2.2.1 g_strip_lengths u.2.2.2.2.1 u.2.2.2.2.2.1 u.2.2.2.2.2.2.1 u.2.2.2.2.2.2.2.1 u.2.2.2.2.2.2.2.2)) sz := by
  refine ct_i (cc := cX7_now) (nL := 2) (ret := (some .int)) (by decide) rfl (Nat.le_of_ble_eq_true rfl) ?_ sz
  intro p e s m below meth c A ls C hK hA hP hD hS hl
  obtain ⟨⟨hx, hb, hml, hown, hts⟩, hr, hlocks, hN⟩ := id C
  have hown : s.vm.findClass RX7 = some m.cls := hown
  have hl : lv_has ls 2 [(0, .ref q), (1, .int x1)] := hl
  unfold wp_X7_now at h
  refine lv_iload_n hx hb dX7_now_0 rfl (lv_at hl 1 rfl) ?_
  by_cases c32_0 : x1 = (0 : Int32)
  · have h := h.1 c32_0
    refine lv_tableIn (off := (47)) (tgt := 48) hx hb dX7_now_1 (by rw [c32_0]; decide) (by rw [c32_0]; decide) (by rw [c32_0]; rfl) (by decide) ?_
    refine lv_aload_n hx hb dX7_now_48 rfl (lv_at hl 0 rfl) ?_
    have hp : Pt (w_X7_now Y q q_text q_strip q_told q_images q_kept q_history q_lay q_folds q_sightings q_rater q_history_steps q_folds_lay q_folds_measured q_strip_lengths q_folds_lay_places q_lay_places g_history_slot g_history_size g_folds_measured g_strip_links g_strip_folded g_strip_stiff g_folds_lay_links g_folds_lay_low g_folds_lay_high g_strip_lengths g_folds_lay_places g_lay_links g_lay_low g_lay_high g_lay_places) (w_X7_spanNow Y q q_text q_strip q_told q_images q_kept q_history q_lay q_folds q_sightings q_rater q_strip_lengths q_lay_places g_strip_links g_strip_folded g_strip_stiff g_lay_links g_lay_low g_lay_high g_strip_lengths g_lay_places) [0, 4, 8, 6, 9] := ⟨rfl, by decide +kernel⟩
    refine go_i hp hP hD hS hA (fun _ => rfl) (va_runV (As := []) (rest := []) ⟨hx, hb, hml, hown, hts⟩ (c_X7_spanNow h _) (cwV 0 hts gX7_now_X7_spanNow rfl rfl rfl (by decide +kernel) ⟨Nat.le_of_ble_eq_true rfl, Nat.le_of_ble_eq_true rfl⟩) (pre_V (b := q) (q0 := 0) (ci := 7) (q := (RX7, TX7, 10)) hp hK hN hP hD rfl rfl) rfl rfl hl.1 rfl (lv_room (Nat.le_of_ble_eq_true rfl)) dX7_now_49 ⟨Nat.le_of_ble_eq_true rfl, Nat.le_of_ble_eq_true rfl⟩) (fun r33 u H locs h hP hD hS => ?_)
    obtain ⟨u34, u35, u36, u37⟩ := u
    try dsimp only at h
    have hP : va_P D vwCl (w_X7_now Y q q_text q_strip q_told q_images q_kept q_history q_lay q_folds q_sightings q_rater q_history_steps q_folds_lay q_folds_measured q_strip_lengths q_folds_lay_places q_lay_places g_history_slot g_history_size g_folds_measured g_strip_links g_strip_folded g_strip_stiff g_folds_lay_links g_folds_lay_low g_folds_lay_high g_strip_lengths g_folds_lay_places u34 u35 u36 u37) H := hP
    have hD : va_D A (w_X7_now Y q q_text q_strip q_told q_images q_kept q_history q_lay q_folds q_sightings q_rater q_history_steps q_folds_lay q_folds_measured q_strip_lengths q_folds_lay_places q_lay_places g_history_slot g_history_size g_folds_measured g_strip_links g_strip_folded g_strip_stiff g_folds_lay_links g_folds_lay_low g_folds_lay_high g_strip_lengths g_folds_lay_places u34 u35 u36 u37) := hD
    exact ret_i (g_folds_measured, g_folds_lay_links, g_folds_lay_low, g_folds_lay_high, g_folds_lay_places, u34, u35, u36, u37) hx hb hr hlocks hK hP hD hS h dX7_now_52
  by_cases c32_1 : x1 = (1 : Int32)
  · have h := h.2.1 c32_1
    refine lv_tableIn (off := (52)) (tgt := 53) hx hb dX7_now_1 (by rw [c32_1]; decide) (by rw [c32_1]; decide) (by rw [c32_1]; rfl) (by decide) ?_
    refine lv_aload_n hx hb dX7_now_53 rfl (lv_at hl 0 rfl) ?_
    have hp : Pt (w_X7_now Y q q_text q_strip q_told q_images q_kept q_history q_lay q_folds q_sightings q_rater q_history_steps q_folds_lay q_folds_measured q_strip_lengths q_folds_lay_places q_lay_places g_history_slot g_history_size g_folds_measured g_strip_links g_strip_folded g_strip_stiff g_folds_lay_links g_folds_lay_low g_folds_lay_high g_strip_lengths g_folds_lay_places g_lay_links g_lay_low g_lay_high g_lay_places) (w_X7_layNow Y q q_text q_strip q_told q_images q_kept q_history q_lay q_folds q_sightings q_rater q_strip_lengths q_lay_places g_strip_links g_strip_folded g_strip_stiff g_lay_links g_lay_low g_lay_high g_strip_lengths g_lay_places) [0, 4, 8, 6, 9] := ⟨rfl, by decide +kernel⟩
    refine go_r hp hP hD hS hA (fun _ => rfl) (va_runV (As := []) (rest := []) ⟨hx, hb, hml, hown, hts⟩ (c_X7_layNow h _) (cwV 0 hts gX7_now_X7_layNow rfl rfl rfl (by decide +kernel) ⟨Nat.le_of_ble_eq_true rfl, Nat.le_of_ble_eq_true rfl⟩) (pre_V (b := q) (q0 := 0) (ci := 7) (q := (RX7, TX7, 10)) hp hK hN hP hD rfl rfl) rfl rfl hl.1 rfl (lv_room (Nat.le_of_ble_eq_true rfl)) dX7_now_54 ⟨Nat.le_of_ble_eq_true rfl, Nat.le_of_ble_eq_true rfl⟩) (fun u H locs h hP hD hS => ?_)
    obtain ⟨u39, u40, u41, u42⟩ := u
    try dsimp only at h
    have hP : va_P D vwCl (w_X7_now Y q q_text q_strip q_told q_images q_kept q_history q_lay q_folds q_sightings q_rater q_history_steps q_folds_lay q_folds_measured q_strip_lengths q_folds_lay_places q_lay_places g_history_slot g_history_size g_folds_measured g_strip_links g_strip_folded g_strip_stiff g_folds_lay_links g_folds_lay_low g_folds_lay_high g_strip_lengths g_folds_lay_places u39 u40 u41 u42) H := hP
    have hD : va_D A (w_X7_now Y q q_text q_strip q_told q_images q_kept q_history q_lay q_folds q_sightings q_rater q_history_steps q_folds_lay q_folds_measured q_strip_lengths q_folds_lay_places q_lay_places g_history_slot g_history_size g_folds_measured g_strip_links g_strip_folded g_strip_stiff g_folds_lay_links g_folds_lay_low g_folds_lay_high g_strip_lengths g_folds_lay_places u39 u40 u41 u42) := hD
    have hp : Pt (w_X7_now Y q q_text q_strip q_told q_images q_kept q_history q_lay q_folds q_sightings q_rater q_history_steps q_folds_lay q_folds_measured q_strip_lengths q_folds_lay_places q_lay_places g_history_slot g_history_size g_folds_measured g_strip_links g_strip_folded g_strip_stiff g_folds_lay_links g_folds_lay_low g_folds_lay_high g_strip_lengths g_folds_lay_places u39 u40 u41 u42) (w_X2_stack Y q_lay q_lay_places u39 u40 u41 u42) [8, 9] := ⟨rfl, by decide +kernel⟩
    refine go_i hp hP hD hS hA (fun _ => rfl) (va_runV (As := []) (rest := []) ⟨hx, hb, hml, hown, hts⟩ (c_X2_stack h _) (cwV 0 hts gX7_now_X2_stack rfl rfl rfl (by decide +kernel) ⟨Nat.le_of_ble_eq_true rfl, Nat.le_of_ble_eq_true rfl⟩) (pre_V (b := q_lay) (q0 := 0) (ci := 2) (q := (RX2, TX2, 4)) hp hK hN hP hD rfl rfl) rfl rfl hl.1 rfl (lv_room (Nat.le_of_ble_eq_true rfl)) dX7_now_57 ⟨Nat.le_of_ble_eq_true rfl, Nat.le_of_ble_eq_true rfl⟩) (fun r43 u H locs h hP hD hS => ?_)
    try dsimp only at h
    have hP : va_P D vwCl (w_X7_now Y q q_text q_strip q_told q_images q_kept q_history q_lay q_folds q_sightings q_rater q_history_steps q_folds_lay q_folds_measured q_strip_lengths q_folds_lay_places q_lay_places g_history_slot g_history_size g_folds_measured g_strip_links g_strip_folded g_strip_stiff g_folds_lay_links g_folds_lay_low g_folds_lay_high g_strip_lengths g_folds_lay_places u39 u40 u41 u42) H := hP
    have hD : va_D A (w_X7_now Y q q_text q_strip q_told q_images q_kept q_history q_lay q_folds q_sightings q_rater q_history_steps q_folds_lay q_folds_measured q_strip_lengths q_folds_lay_places q_lay_places g_history_slot g_history_size g_folds_measured g_strip_links g_strip_folded g_strip_stiff g_folds_lay_links g_folds_lay_low g_folds_lay_high g_strip_lengths g_folds_lay_places u39 u40 u41 u42) := hD
    exact ret_i (g_folds_measured, g_folds_lay_links, g_folds_lay_low, g_folds_lay_high, g_folds_lay_places, u39, u40, u41, u42) hx hb hr hlocks hK hP hD hS h dX7_now_60
  by_cases c32_2 : x1 = (2 : Int32)
  · have h := h.2.2.1 c32_2
    refine lv_tableIn (off := (60)) (tgt := 61) hx hb dX7_now_1 (by rw [c32_2]; decide) (by rw [c32_2]; decide) (by rw [c32_2]; rfl) (by decide) ?_
    refine lv_aload_n hx hb dX7_now_61 rfl (lv_at hl 0 rfl) ?_
    refine va_get (D := D) (ci := 7) (v := .ref q_strip) (C := RX7) (T := TX7) (N := 10) hx hb hts in_X7_now_X7 hown hK hP 0 rfl rfl 1 (by decide) (k_X7_now_f19 hts) (fun _ h9 => h9) rfl dX7_now_62 ?_
    refine va_getN (D := D) (ci := 5) (v := .int g_strip_folded) (C := RX5) (T := TX5) (N := 4) hx hb hts in_X7_now_X5 hown hK hP 4 rfl rfl 2 (by decide) (va_Nw.use rfl (nwX7_121 hN)) (fun _ h9 => h9) rfl dX7_now_65 ?_
    exact ret_i (g_folds_measured, g_folds_lay_links, g_folds_lay_low, g_folds_lay_high, g_folds_lay_places, g_lay_links, g_lay_low, g_lay_high, g_lay_places) hx hb hr hlocks hK hP hD hS h dX7_now_68
  by_cases c32_3 : x1 = (3 : Int32)
  · have h := h.2.2.2.1 c32_3
    refine lv_tableIn (off := (68)) (tgt := 69) hx hb dX7_now_1 (by rw [c32_3]; decide) (by rw [c32_3]; decide) (by rw [c32_3]; rfl) (by decide) ?_
    refine lv_aload_n hx hb dX7_now_69 rfl (lv_at hl 0 rfl) ?_
    refine va_get (D := D) (ci := 7) (v := .ref q_folds) (C := RX7) (T := TX7) (N := 10) hx hb hts in_X7_now_X7 hown hK hP 0 rfl rfl 7 (by decide) (k_X7_now_f51 hts) (fun _ h9 => h9) rfl dX7_now_70 ?_
    refine lv_aload_n hx hb dX7_now_73 rfl (lv_at hl 0 rfl) ?_
    refine va_get (D := D) (ci := 7) (v := .ref q_strip) (C := RX7) (T := TX7) (N := 10) hx hb hts in_X7_now_X7 hown hK hP 0 rfl rfl 1 (by decide) (k_X7_now_f19 hts) (fun _ h9 => h9) rfl dX7_now_74 ?_
    have hp : Pt (w_X7_now Y q q_text q_strip q_told q_images q_kept q_history q_lay q_folds q_sightings q_rater q_history_steps q_folds_lay q_folds_measured q_strip_lengths q_folds_lay_places q_lay_places g_history_slot g_history_size g_folds_measured g_strip_links g_strip_folded g_strip_stiff g_folds_lay_links g_folds_lay_low g_folds_lay_high g_strip_lengths g_folds_lay_places g_lay_links g_lay_low g_lay_high g_lay_places) (w_X0_leastSpan Y q_folds q_folds_lay q_folds_measured q_strip q_strip_lengths q_folds_lay_places g_strip_links g_strip_folded g_strip_stiff g_folds_lay_links g_folds_lay_low g_folds_lay_high g_strip_lengths g_folds_lay_places) [2, 4, 5, 6, 7] := ⟨rfl, by decide +kernel⟩
    refine go_i hp hP hD hS hA (fun _ => rfl) (va_runV (As := [.ref q_strip]) (rest := []) ⟨hx, hb, hml, hown, hts⟩ (c_X0_leastSpan h _) (cwV 1 hts gX7_now_X0_leastSpan rfl rfl rfl (by decide +kernel) ⟨Nat.le_of_ble_eq_true rfl, Nat.le_of_ble_eq_true rfl⟩) (pre_V (b := q_folds) (q0 := 0) (ci := 0) (q := (RX0, TX0, 2)) hp hK hN hP hD rfl rfl) rfl rfl hl.1 rfl (lv_room (Nat.le_of_ble_eq_true rfl)) dX7_now_77 ⟨Nat.le_of_ble_eq_true rfl, Nat.le_of_ble_eq_true rfl⟩) (fun r44 u H locs h hP hD hS => ?_)
    obtain ⟨u45, u46, u47, u48⟩ := u
    try dsimp only at h
    have hP : va_P D vwCl (w_X7_now Y q q_text q_strip q_told q_images q_kept q_history q_lay q_folds q_sightings q_rater q_history_steps q_folds_lay q_folds_measured q_strip_lengths q_folds_lay_places q_lay_places g_history_slot g_history_size g_folds_measured g_strip_links g_strip_folded g_strip_stiff u45 u46 u47 g_strip_lengths u48 g_lay_links g_lay_low g_lay_high g_lay_places) H := hP
    have hD : va_D A (w_X7_now Y q q_text q_strip q_told q_images q_kept q_history q_lay q_folds q_sightings q_rater q_history_steps q_folds_lay q_folds_measured q_strip_lengths q_folds_lay_places q_lay_places g_history_slot g_history_size g_folds_measured g_strip_links g_strip_folded g_strip_stiff u45 u46 u47 g_strip_lengths u48 g_lay_links g_lay_low g_lay_high g_lay_places) := hD
    exact ret_i (g_folds_measured, u45, u46, u47, u48, g_lay_links, g_lay_low, g_lay_high, g_lay_places) hx hb hr hlocks hK hP hD hS h dX7_now_80
  by_cases c32_4 : x1 = (4 : Int32)
  · have h := h.2.2.2.2.1 c32_4
    refine lv_tableIn (off := (80)) (tgt := 81) hx hb dX7_now_1 (by rw [c32_4]; decide) (by rw [c32_4]; decide) (by rw [c32_4]; rfl) (by decide) ?_
    refine lv_aload_n hx hb dX7_now_81 rfl (lv_at hl 0 rfl) ?_
    refine va_get (D := D) (ci := 7) (v := .ref q_folds) (C := RX7) (T := TX7) (N := 10) hx hb hts in_X7_now_X7 hown hK hP 0 rfl rfl 7 (by decide) (k_X7_now_f51 hts) (fun _ h9 => h9) rfl dX7_now_82 ?_
    refine lv_aload_n hx hb dX7_now_85 rfl (lv_at hl 0 rfl) ?_
    refine va_get (D := D) (ci := 7) (v := .ref q_strip) (C := RX7) (T := TX7) (N := 10) hx hb hts in_X7_now_X7 hown hK hP 0 rfl rfl 1 (by decide) (k_X7_now_f19 hts) (fun _ h9 => h9) rfl dX7_now_86 ?_
    have hp : Pt (w_X7_now Y q q_text q_strip q_told q_images q_kept q_history q_lay q_folds q_sightings q_rater q_history_steps q_folds_lay q_folds_measured q_strip_lengths q_folds_lay_places q_lay_places g_history_slot g_history_size g_folds_measured g_strip_links g_strip_folded g_strip_stiff g_folds_lay_links g_folds_lay_low g_folds_lay_high g_strip_lengths g_folds_lay_places g_lay_links g_lay_low g_lay_high g_lay_places) (w_X0_leastFold Y q_strip q_strip_lengths q_folds q_folds_lay q_folds_measured q_folds_lay_places g_strip_links g_strip_folded g_strip_stiff g_folds_lay_links g_folds_lay_low g_folds_lay_high g_strip_lengths g_folds_lay_places) [4, 2, 5, 6, 7] := ⟨rfl, by decide +kernel⟩
    refine go_i hp hP hD hS hA (fun _ => rfl) (va_runV (As := [.ref q_strip]) (rest := []) ⟨hx, hb, hml, hown, hts⟩ (c_X0_leastFold h _) (cwV 1 hts gX7_now_X0_leastFold rfl rfl rfl (by decide +kernel) ⟨Nat.le_of_ble_eq_true rfl, Nat.le_of_ble_eq_true rfl⟩) (pre_V (b := q_folds) (q0 := 1) (ci := 0) (q := (RX0, TX0, 2)) hp hK hN hP hD rfl rfl) rfl rfl hl.1 rfl (lv_room (Nat.le_of_ble_eq_true rfl)) dX7_now_89 ⟨Nat.le_of_ble_eq_true rfl, Nat.le_of_ble_eq_true rfl⟩) (fun r49 u H locs h hP hD hS => ?_)
    obtain ⟨u50, u51, u52, u53⟩ := u
    try dsimp only at h
    have hP : va_P D vwCl (w_X7_now Y q q_text q_strip q_told q_images q_kept q_history q_lay q_folds q_sightings q_rater q_history_steps q_folds_lay q_folds_measured q_strip_lengths q_folds_lay_places q_lay_places g_history_slot g_history_size g_folds_measured g_strip_links g_strip_folded g_strip_stiff u50 u51 u52 g_strip_lengths u53 g_lay_links g_lay_low g_lay_high g_lay_places) H := hP
    have hD : va_D A (w_X7_now Y q q_text q_strip q_told q_images q_kept q_history q_lay q_folds q_sightings q_rater q_history_steps q_folds_lay q_folds_measured q_strip_lengths q_folds_lay_places q_lay_places g_history_slot g_history_size g_folds_measured g_strip_links g_strip_folded g_strip_stiff u50 u51 u52 g_strip_lengths u53 g_lay_links g_lay_low g_lay_high g_lay_places) := hD
    exact ret_i (g_folds_measured, u50, u51, u52, u53, g_lay_links, g_lay_low, g_lay_high, g_lay_places) hx hb hr hlocks hK hP hD hS h dX7_now_92
  by_cases c32_5 : x1 = (5 : Int32)
  · have h := h.2.2.2.2.2.1 c32_5
    refine lv_tableIn (off := (92)) (tgt := 93) hx hb dX7_now_1 (by rw [c32_5]; decide) (by rw [c32_5]; decide) (by rw [c32_5]; rfl) (by decide) ?_
    refine lv_aload_n hx hb dX7_now_93 rfl (lv_at hl 0 rfl) ?_
    refine va_get (D := D) (ci := 7) (v := .ref q_folds) (C := RX7) (T := TX7) (N := 10) hx hb hts in_X7_now_X7 hown hK hP 0 rfl rfl 7 (by decide) (k_X7_now_f51 hts) (fun _ h9 => h9) rfl dX7_now_94 ?_
    refine lv_aload_n hx hb dX7_now_97 rfl (lv_at hl 0 rfl) ?_
    refine va_get (D := D) (ci := 7) (v := .ref q_strip) (C := RX7) (T := TX7) (N := 10) hx hb hts in_X7_now_X7 hown hK hP 0 rfl rfl 1 (by decide) (k_X7_now_f19 hts) (fun _ h9 => h9) rfl dX7_now_98 ?_
    have hp : Pt (w_X7_now Y q q_text q_strip q_told q_images q_kept q_history q_lay q_folds q_sightings q_rater q_history_steps q_folds_lay q_folds_measured q_strip_lengths q_folds_lay_places q_lay_places g_history_slot g_history_size g_folds_measured g_strip_links g_strip_folded g_strip_stiff g_folds_lay_links g_folds_lay_low g_folds_lay_high g_strip_lengths g_folds_lay_places g_lay_links g_lay_low g_lay_high g_lay_places) (w_X0_greatestEnd Y q_strip q_strip_lengths q_folds q_folds_lay q_folds_measured q_folds_lay_places g_strip_links g_strip_folded g_strip_stiff g_folds_lay_links g_folds_lay_low g_folds_lay_high g_strip_lengths g_folds_lay_places) [4, 2, 5, 6, 7] := ⟨rfl, by decide +kernel⟩
    refine go_i hp hP hD hS hA (fun _ => rfl) (va_runV (As := [.ref q_strip]) (rest := []) ⟨hx, hb, hml, hown, hts⟩ (c_X0_greatestEnd h _) (cwV 1 hts gX7_now_X0_greatestEnd rfl rfl rfl (by decide +kernel) ⟨Nat.le_of_ble_eq_true rfl, Nat.le_of_ble_eq_true rfl⟩) (pre_V (b := q_folds) (q0 := 1) (ci := 0) (q := (RX0, TX0, 2)) hp hK hN hP hD rfl rfl) rfl rfl hl.1 rfl (lv_room (Nat.le_of_ble_eq_true rfl)) dX7_now_101 ⟨Nat.le_of_ble_eq_true rfl, Nat.le_of_ble_eq_true rfl⟩) (fun r54 u H locs h hP hD hS => ?_)
    obtain ⟨u55, u56, u57, u58⟩ := u
    try dsimp only at h
    have hP : va_P D vwCl (w_X7_now Y q q_text q_strip q_told q_images q_kept q_history q_lay q_folds q_sightings q_rater q_history_steps q_folds_lay q_folds_measured q_strip_lengths q_folds_lay_places q_lay_places g_history_slot g_history_size g_folds_measured g_strip_links g_strip_folded g_strip_stiff u55 u56 u57 g_strip_lengths u58 g_lay_links g_lay_low g_lay_high g_lay_places) H := hP
    have hD : va_D A (w_X7_now Y q q_text q_strip q_told q_images q_kept q_history q_lay q_folds q_sightings q_rater q_history_steps q_folds_lay q_folds_measured q_strip_lengths q_folds_lay_places q_lay_places g_history_slot g_history_size g_folds_measured g_strip_links g_strip_folded g_strip_stiff u55 u56 u57 g_strip_lengths u58 g_lay_links g_lay_low g_lay_high g_lay_places) := hD
    exact ret_i (g_folds_measured, u55, u56, u57, u58, g_lay_links, g_lay_low, g_lay_high, g_lay_places) hx hb hr hlocks hK hP hD hS h dX7_now_104
  by_cases c32_6 : x1 = (6 : Int32)
  · have h := h.2.2.2.2.2.2.1 c32_6
    refine lv_tableIn (off := (104)) (tgt := 105) hx hb dX7_now_1 (by rw [c32_6]; decide) (by rw [c32_6]; decide) (by rw [c32_6]; rfl) (by decide) ?_
    refine lv_aload_n hx hb dX7_now_105 rfl (lv_at hl 0 rfl) ?_
    refine va_get (D := D) (ci := 7) (v := .ref q_folds) (C := RX7) (T := TX7) (N := 10) hx hb hts in_X7_now_X7 hown hK hP 0 rfl rfl 7 (by decide) (k_X7_now_f51 hts) (fun _ h9 => h9) rfl dX7_now_106 ?_
    refine lv_aload_n hx hb dX7_now_109 rfl (lv_at hl 0 rfl) ?_
    refine va_get (D := D) (ci := 7) (v := .ref q_strip) (C := RX7) (T := TX7) (N := 10) hx hb hts in_X7_now_X7 hown hK hP 0 rfl rfl 1 (by decide) (k_X7_now_f19 hts) (fun _ h9 => h9) rfl dX7_now_110 ?_
    have hp : Pt (w_X7_now Y q q_text q_strip q_told q_images q_kept q_history q_lay q_folds q_sightings q_rater q_history_steps q_folds_lay q_folds_measured q_strip_lengths q_folds_lay_places q_lay_places g_history_slot g_history_size g_folds_measured g_strip_links g_strip_folded g_strip_stiff g_folds_lay_links g_folds_lay_low g_folds_lay_high g_strip_lengths g_folds_lay_places g_lay_links g_lay_low g_lay_high g_lay_places) (w_X0_gap Y q_folds q_folds_lay q_folds_measured q_strip q_strip_lengths q_folds_lay_places g_folds_measured g_strip_links g_strip_folded g_strip_stiff g_folds_lay_links g_folds_lay_low g_folds_lay_high g_strip_lengths g_folds_lay_places) [2, 3, 4, 5, 6, 7] := ⟨rfl, by decide +kernel⟩
    refine go_i hp hP hD hS hA (fun _ => rfl) (va_runV (As := [.ref q_strip]) (rest := []) ⟨hx, hb, hml, hown, hts⟩ (c_X0_gap h _) (cwV 1 hts gX7_now_X0_gap rfl rfl rfl (by decide +kernel) ⟨Nat.le_of_ble_eq_true rfl, Nat.le_of_ble_eq_true rfl⟩) (pre_V (b := q_folds) (q0 := 0) (ci := 0) (q := (RX0, TX0, 2)) hp hK hN hP hD rfl rfl) rfl rfl hl.1 rfl (lv_room (Nat.le_of_ble_eq_true rfl)) dX7_now_113 ⟨Nat.le_of_ble_eq_true rfl, Nat.le_of_ble_eq_true rfl⟩) (fun r59 u H locs h hP hD hS => ?_)
    obtain ⟨u60, u61, u62, u63, u64⟩ := u
    try dsimp only at h
    have hP : va_P D vwCl (w_X7_now Y q q_text q_strip q_told q_images q_kept q_history q_lay q_folds q_sightings q_rater q_history_steps q_folds_lay q_folds_measured q_strip_lengths q_folds_lay_places q_lay_places g_history_slot g_history_size u60 g_strip_links g_strip_folded g_strip_stiff u61 u62 u63 g_strip_lengths u64 g_lay_links g_lay_low g_lay_high g_lay_places) H := hP
    have hD : va_D A (w_X7_now Y q q_text q_strip q_told q_images q_kept q_history q_lay q_folds q_sightings q_rater q_history_steps q_folds_lay q_folds_measured q_strip_lengths q_folds_lay_places q_lay_places g_history_slot g_history_size u60 g_strip_links g_strip_folded g_strip_stiff u61 u62 u63 g_strip_lengths u64 g_lay_links g_lay_low g_lay_high g_lay_places) := hD
    exact ret_i (u60, u61, u62, u63, u64, g_lay_links, g_lay_low, g_lay_high, g_lay_places) hx hb hr hlocks hK hP hD hS h dX7_now_116
  by_cases c32_7 : x1 = (7 : Int32)
  · have h := h.2.2.2.2.2.2.2.1 c32_7
    refine lv_tableIn (off := (116)) (tgt := 117) hx hb dX7_now_1 (by rw [c32_7]; decide) (by rw [c32_7]; decide) (by rw [c32_7]; rfl) (by decide) ?_
    refine lv_aload_n hx hb dX7_now_117 rfl (lv_at hl 0 rfl) ?_
    refine va_get (D := D) (ci := 7) (v := .ref q_history) (C := RX7) (T := TX7) (N := 10) hx hb hts in_X7_now_X7 hown hK hP 0 rfl rfl 5 (by decide) (k_X7_now_f37 hts) (fun _ h9 => h9) rfl dX7_now_118 ?_
    refine va_getN (D := D) (ci := 1) (v := .int g_history_size) (C := RX1) (T := TX1) (N := 3) hx hb hts in_X7_now_X1 hown hK hP 1 rfl rfl 2 (by decide) (va_Nw.use rfl (nwX7_157 hN)) (fun _ h9 => h9) rfl dX7_now_121 ?_
    exact ret_i (g_folds_measured, g_folds_lay_links, g_folds_lay_low, g_folds_lay_high, g_folds_lay_places, g_lay_links, g_lay_low, g_lay_high, g_lay_places) hx hb hr hlocks hK hP hD hS h dX7_now_124
  have h := h.2.2.2.2.2.2.2.2 c32_0 c32_1 c32_2 c32_3 c32_4 c32_5 c32_6 c32_7
  refine lv_tableOut (tgt := 125) hx hb dX7_now_1 (by have := lv_neT (a := 0) c32_0 (by decide); have := lv_neT (a := 1) c32_1 (by decide); have := lv_neT (a := 2) c32_2 (by decide); have := lv_neT (a := 3) c32_3 (by decide); have := lv_neT (a := 4) c32_4 (by decide); have := lv_neT (a := 5) c32_5 (by decide); have := lv_neT (a := 6) c32_6 (by decide); have := lv_neT (a := 7) c32_7 (by decide); omega) (by decide) ?_
  refine lv_iconst (v := (-1)) hx hb dX7_now_125 (by decide) ?_
  exact ret_i (g_folds_measured, g_folds_lay_links, g_folds_lay_low, g_folds_lay_high, g_folds_lay_places, g_lay_links, g_lay_low, g_lay_high, g_lay_places) hx hb hr hlocks hK hP hD hS h dX7_now_126
