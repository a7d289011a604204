abbrev rm_X4_firstWay : Room := { frames := 4, cells := 0, slots := 0, locals := 98 }
theorem in_X4_firstWay_X4 : ∀ w ∈ wsX40, w ∈ wsX4_firstWay := fun _ h => List.mem_cons_of_mem _ (List.mem_append_left _ (List.mem_append_left _ (List.mem_append_right _ h)))
theorem k_X4_firstWay_f18 {s : State} {args : Array Value} (hts : ∀ w ∈ wsX4_firstWay, w.before args s = true) : (Cond.fieldLink RX4 18 "FoldRule$Sightings" "isWay" "[Z").before args s = true := hts _ (by decide +kernel)
set_option maxHeartbeats 4000000 in
set_option maxRecDepth 100000 in
theorem L_X4_firstWay_8 {p : Program} {l : Launch} {e : Env} {s : State} {m : MethodId} {args : Array Value} {below : List Frame} {meth : Method} {c : Code} {D : va_G} {Y : ClassId × ClassId × ClassId} {A : Nat → Prop} {q1 q1_lengths q q_seenFolds q_seenSpans q_isWay q_tally q_lay q_lay_places : Nat} {g1_links g1_folded g1_stiff : Int32} {g1_lengths : Nat → Int32} {g_size : Int32} {g_seenFolds : Nat → Int32} {g_lay_links g_lay_low g_lay_high : Int32} {g_lay_places g_seenSpans g_isWay : Nat → Int32} {Q : Int32 → Int32 → Int32 → Int32 → (Nat → Int32) → (Nat → Int32) → Prop} (C : Ctx p s m args meth c cX4_firstWay 3 (some .int) wsX4_firstWay RX4) (hK : va_K D vwCl (tyS Y) s) (hA : ∀ q, s.heap.size ≤ q → A q) : ∀ (n : Nat) (x2 : Int32), itr1 (B_X4_firstWay_8 g_lay_links g_lay_low g_lay_high g_lay_places g_isWay Q) n x2 → ∀ (H : Heap) (locs : List Loc) (ls : Array Slot), va_P D vwCl (w_X4_firstWay Y q1 q1_lengths q q_seenFolds q_seenSpans q_isWay q_tally q_lay q_lay_places g1_links g1_folded g1_stiff g1_lengths g_size g_seenFolds g_lay_links g_lay_low g_lay_high g_lay_places g_seenSpans g_isWay) H → va_D A (w_X4_firstWay Y q1 q1_lengths q q_seenFolds q_seenSpans q_isWay q_tally q_lay q_lay_places g1_links g1_folded g1_stiff g1_lengths g_size g_seenFolds g_lay_links g_lay_low g_lay_high g_lay_places g_seenSpans g_isWay) → va_S A s.heap H locs → lv_has ls 3 [(0, .ref q), (2, .int x2)] → W p l e rm_X4_firstWay s m args below meth c H locs 0 0 (QI below args s D Y A (fun r (u : Int32 × Int32 × Int32 × (Nat → Int32) × (Nat → Int32)) => Q r u.1 u.2.1 u.2.2.1 u.2.2.2.1 u.2.2.2.2) (fun u : Int32 × Int32 × Int32 × (Nat → Int32) × (Nat → Int32) => (w_X4_firstWay Y q1 q1_lengths q q_seenFolds q_seenSpans q_isWay q_tally q_lay q_lay_places g1_links g1_folded g1_stiff g1_lengths g_size g_seenFolds u.1 u.2.1 u.2.2.1 u.2.2.2.1 g_seenSpans u.2.2.2.2))) (F0 m 8 ls []) := by
  intro n
  induction n with
  | zero => intro x2 h; exact False.elim h
  | succ n ih =>
    intro x2 h H locs ls hP hD hS hl
    obtain ⟨⟨hx, hb, hml, hown, hts⟩, hr, hlocks, hN⟩ := id C
    have h : B_X4_firstWay_8 g_lay_links g_lay_low g_lay_high g_lay_places g_isWay Q (itr1 (B_X4_firstWay_8 g_lay_links g_lay_low g_lay_high g_lay_places g_isWay Q) n) x2 := h
    unfold B_X4_firstWay_8 at h
    refine lv_iload_n hx hb dX4_firstWay_8 rfl (lv_at hl 1 rfl) ?_
    refine lv_aload_n hx hb dX4_firstWay_9 rfl (lv_at hl 0 rfl) ?_
    refine va_get (D := D) (ci := 4) (v := .ref q_isWay) (C := RX4) (T := TX4) (N := 6) hx hb hts in_X4_firstWay_X4 hown hK hP 2 rfl rfl 3 (by decide) (k_X4_firstWay_f18 hts) (fun _ h9 => h9) rfl dX4_firstWay_10 ?_
    refine va_alen (v := 90) hx hb hK hP 7 1 rfl rfl (show Int32.ofNat 90 = 90 by decide) dX4_firstWay_13 ?_
    refine lv_icmp_ge (tgt := 34) hx hb dX4_firstWay_14 (by decide) (fun c8 => ?_) (fun c8 => ?_)
    · have h := h.1 c8
      refine lv_bipush (v := (-9)) hx hb dX4_firstWay_34 (by decide) ?_
      exact ret_i (g_lay_links, g_lay_low, g_lay_high, g_lay_places, g_isWay) hx hb hr hlocks hK hP hD hS h dX4_firstWay_36
    · have h := h.2 c8
      refine lv_aload_n hx hb dX4_firstWay_17 rfl (lv_at hl 0 rfl) ?_
      refine va_get (D := D) (ci := 4) (v := .ref q_isWay) (C := RX4) (T := TX4) (N := 6) hx hb hts in_X4_firstWay_X4 hown hK hP 2 rfl rfl 3 (by decide) (k_X4_firstWay_f18 hts) (fun _ h9 => h9) rfl dX4_firstWay_18 ?_
      refine lv_iload_n hx hb dX4_firstWay_21 rfl (lv_at hl 1 rfl) ?_
      obtain ⟨hin, h⟩ := h
      refine va_zald hx hb hK hP 7 1 rfl rfl hin dX4_firstWay_22 ?_
      refine lv_if_eq (tgt := 28) hx hb dX4_firstWay_23 (by decide) (fun c9 => ?_) (fun c9 => ?_)
      · have h := h.1 c9
        obtain ⟨z10, ez10⟩ : ∃ y : Int32, y = (x2 + (1 : Int32)) := ⟨_, rfl⟩
        have h := h z10 ez10
        refine lv_iinc (v := z10) (lv' := [(2, .int z10), (0, .ref q)]) hx hb dX4_firstWay_28 hl (k := 1) rfl (by rw [ez10]; rfl) (by decide) rfl (fun ls hl => ?_)
        refine lv_goto (tgt := 8) hx hb dX4_firstWay_31 (by decide) ?_
        exact ih _ h _ _ _ hP hD hS (lv_sub hl [1, 0] rfl)
      · have h := h.2 c9
        refine lv_iload_n hx hb dX4_firstWay_26 rfl (lv_at hl 1 rfl) ?_
        exact ret_i (g_lay_links, g_lay_low, g_lay_high, g_lay_places, g_isWay) hx hb hr hlocks hK hP hD hS h dX4_firstWay_27
set_option maxHeartbeats 4000000 in
set_option maxRecDepth 100000 in
theorem c_X4_firstWay {l : Launch} {D : va_G} {Y : ClassId × ClassId × ClassId} {q1 q1_lengths q q_seenFolds q_seenSpans q_isWay q_tally q_lay q_lay_places : Nat} {g1_links g1_folded g1_stiff : Int32} {g1_lengths : Nat → Int32} {g_size : Int32} {g_seenFolds : Nat → Int32} {g_lay_links g_lay_low g_lay_high : Int32} {g_lay_places g_seenSpans g_isWay : Nat → Int32} {Q : Int32 → Int32 → Int32 → Int32 → (Nat → Int32) → (Nat → Int32) → Prop} (h : wp_X4_firstWay g1_links g1_lengths g_size g_seenFolds g_lay_links g_lay_low g_lay_high g_lay_places g_seenSpans g_isWay Q) (sz : Nat) : MtI l yX4_firstWay wsX4_firstWay rm_X4_firstWay [.ref q, .ref q1] D Y (w_X4_firstWay Y q1 q1_lengths q q_seenFolds q_seenSpans q_isWay q_tally q_lay q_lay_places g1_links g1_folded g1_stiff g1_lengths g_size g_seenFolds g_lay_links g_lay_low g_lay_high g_lay_places g_seenSpans g_isWay) (fun r (u : Int32 × Int32 × Int32 × (Nat → Int32) × (Nat → Int32)) => Q r u.1 u.2.1 u.2.2.1 u.2.2.2.1 u.2.2.2.2) (fun u : Int32 × Int32 × Int32 × (Nat → Int32) × (Nat → Int32) => (w_X4_firstWay Y q1 q1_lengths q q_seenFolds q_seenSpans q_isWay q_tally q_lay q_lay_places g1_links g1_folded g1_stiff g1_lengths g_size g_seenFolds u.1 u.2.1 u.2.2.1 u.2.2.2.1 g_seenSpans u.2.2.2.2)) sz := by
  refine ct_i (cc := cX4_firstWay) (nL := 3) (ret := (some .int)) (by decide) rfl (Nat.le_of_ble_eq_true rfl) ?_ sz
  intro p e s m below meth c A ls C hK hA hP hD hS hl
  obtain ⟨⟨hx, hb, hml, hown, hts⟩, hr, hlocks, hN⟩ := id C
  have hown : s.vm.findClass RX4 = some m.cls := hown
  have hl : lv_has ls 3 [(0, .ref q), (1, .ref q1)] := hl
  unfold wp_X4_firstWay at h
  refine lv_aload_n hx hb dX4_firstWay_0 rfl (lv_at hl 0 rfl) ?_
  refine lv_aload_n hx hb dX4_firstWay_1 rfl (lv_at hl 1 rfl) ?_
  have hp : Pt (w_X4_firstWay Y q1 q1_lengths q q_seenFolds q_seenSpans q_isWay q_tally q_lay q_lay_places g1_links g1_folded g1_stiff g1_lengths g_size g_seenFolds g_lay_links g_lay_low g_lay_high g_lay_places g_seenSpans g_isWay) (w_X4_findWays Y q1 q1_lengths q q_seenFolds q_seenSpans q_isWay q_tally q_lay q_lay_places g1_links g1_folded g1_stiff g1_lengths g_size g_seenFolds g_lay_links g_lay_low g_lay_high g_lay_places g_seenSpans g_isWay) [0, 1, 2, 3, 4, 5, 6, 7] := ⟨rfl, by decide +kernel⟩
  refine go_i hp hP hD hS hA (fun _ => rfl) (va_runV (As := [.ref q1]) (rest := []) ⟨hx, hb, hml, hown, hts⟩ (c_X4_findWays h _) (cwV 1 hts gX4_firstWay_X4_findWays rfl rfl rfl (by decide +kernel) ⟨Nat.le_of_ble_eq_true rfl, Nat.le_of_ble_eq_true rfl⟩) (pre_V (b := q) (q0 := 2) (ci := 4) (q := (RX4, TX4, 6)) hp hK hN hP hD rfl rfl) rfl rfl hl.1 rfl (lv_room (Nat.le_of_ble_eq_true rfl)) dX4_firstWay_2 ⟨Nat.le_of_ble_eq_true rfl, Nat.le_of_ble_eq_true rfl⟩) (fun r11 u H locs h hP hD hS => ?_)
  obtain ⟨u12, u13, u14, u15, u16⟩ := u
  try dsimp only at h
  have hP : va_P D vwCl (w_X4_firstWay Y q1 q1_lengths q q_seenFolds q_seenSpans q_isWay q_tally q_lay q_lay_places g1_links g1_folded g1_stiff g1_lengths g_size g_seenFolds u12 u13 u14 u15 g_seenSpans u16) H := hP
  have hD : va_D A (w_X4_firstWay Y q1 q1_lengths q q_seenFolds q_seenSpans q_isWay q_tally q_lay q_lay_places g1_links g1_folded g1_stiff g1_lengths g_size g_seenFolds u12 u13 u14 u15 g_seenSpans u16) := hD
  refine lv_pop hx hb dX4_firstWay_5 rfl ?_
  refine lv_iconst (v := 0) hx hb dX4_firstWay_6 (by decide) ?_
  refine lv_istore_n (lv' := [(2, .int (0 : Int32)), (0, .ref q), (1, .ref q1)]) hx hb dX4_firstWay_7 rfl hl (by decide) rfl (fun ls hl => ?_)
  obtain ⟨n, h⟩ := h
  exact L_X4_firstWay_8 C hK hA  n _ h _ _ _ hP hD hS (lv_sub hl [1, 0] rfl)
abbrev rm_X7_isWithin : Room := { frames := 0, cells := 0, slots := 0, locals := 0 }
set_option maxHeartbeats 4000000 in
set_option maxRecDepth 100000 in
theorem c_X7_isWithin {l : Launch} {D : va_G} {Y : ClassId × ClassId × ClassId} {x0 x1 x2 : Int32} {Q : Int32 → Prop} (h : wp_X7_isWithin x0 x1 x2 Q) (sz : Nat) : MtI l yX7_isWithin wsX7_isWithin rm_X7_isWithin [.int x0, .int x1, .int x2] D Y (w_X7_isWithin Y ) (fun r (_ : Unit) => Q r) (fun _ : Unit => (w_X7_isWithin Y )) sz := by
  refine ct_i (cc := cX7_isWithin) (nL := 3) (ret := (some .boolean)) (by decide) rfl (Nat.le_of_ble_eq_true rfl) ?_ sz
  intro p e s m below meth c A ls C hK hA hP hD hS hl
  obtain ⟨⟨hx, hb, hml, hown, hts⟩, hr, hlocks, hN⟩ := id C
  have hown : s.vm.findClass RX7 = some m.cls := hown
  have hl : lv_has ls 3 [(0, .int x0), (1, .int x1), (2, .int x2)] := hl
  unfold wp_X7_isWithin at h
  refine lv_iload_n hx hb dX7_isWithin_0 rfl (lv_at hl 0 rfl) ?_
  refine lv_iload_n hx hb dX7_isWithin_1 rfl (lv_at hl 1 rfl) ?_
  refine lv_icmp_lt (tgt := 14) hx hb dX7_isWithin_2 (by decide) (fun c1 => ?_) (fun c1 => ?_)
  · have h := h.1 c1
    refine lv_iconst (v := 0) hx hb dX7_isWithin_14 (by decide) ?_
    exact ret_z () hx hb hr hlocks hK hP hD hS (Or.inl rfl) h dX7_isWithin_15
  · have h := h.2 c1
    refine lv_iload_n hx hb dX7_isWithin_5 rfl (lv_at hl 0 rfl) ?_
    refine lv_iload_n hx hb dX7_isWithin_6 rfl (lv_at hl 2 rfl) ?_
    refine lv_icmp_gt (tgt := 14) hx hb dX7_isWithin_7 (by decide) (fun c2 => ?_) (fun c2 => ?_)
    · have h := h.1 c2
      refine lv_iconst (v := 0) hx hb dX7_isWithin_14 (by decide) ?_
      exact ret_z () hx hb hr hlocks hK hP hD hS (Or.inl rfl) h dX7_isWithin_15
    · have h := h.2 c2
      refine lv_iconst (v := 1) hx hb dX7_isWithin_10 (by decide) ?_
      refine lv_goto (tgt := 15) hx hb dX7_isWithin_11 (by decide) ?_
      exact ret_z () hx hb hr hlocks hK hP hD hS (Or.inr rfl) h dX7_isWithin_15
abbrev rm_X4_tallied : Room := { frames := 1, cells := 0, slots := 0, locals := 22 }
theorem in_X4_tallied_X4 : ∀ w ∈ wsX40, w ∈ wsX4_tallied := fun _ h => List.mem_cons_of_mem _ (List.mem_append_right _ h)
theorem k_X4_tallied_iX7 {s : State} {args : Array Value} (hts : ∀ w ∈ wsX4_tallied, w.before args s = true) : (Cond.initialized RX7).before args s = true := hts _ (by decide +kernel)
theorem k_X4_tallied_stX7_isWithin {s : State} {args : Array Value} (hts : ∀ w ∈ wsX4_tallied, w.before args s = true) : (Cond.static yX7_isWithin).before args s = true := hts _ (by decide +kernel)
theorem k_X4_tallied_f22 {s : State} {args : Array Value} (hts : ∀ w ∈ wsX4_tallied, w.before args s = true) : (Cond.fieldLink RX4 22 "FoldRule$Sightings" "tally" "[I").before args s = true := hts _ (by decide +kernel)
set_option maxHeartbeats 4000000 in
set_option maxRecDepth 100000 in
theorem c_X4_tallied {l : Launch} {D : va_G} {Y : ClassId × ClassId × ClassId} {q q_seenFolds q_seenSpans q_isWay q_tally q_lay : Nat} {g_size : Int32} {g_tally : Nat → Int32} {x1 : Int32} {Q : Int32 → (Nat → Int32) → Prop} (h : wp_X4_tallied g_tally x1 Q) (sz : Nat) : MtI l yX4_tallied wsX4_tallied rm_X4_tallied [.ref q, .int x1] D Y (w_X4_tallied Y q q_seenFolds q_seenSpans q_isWay q_tally q_lay g_size g_tally) (fun r (u : (Nat → Int32)) => Q r u) (fun u : (Nat → Int32) => (w_X4_tallied Y q q_seenFolds q_seenSpans q_isWay q_tally q_lay g_size u)) sz := by
  refine ct_i (cc := cX4_tallied) (nL := 2) (ret := (some .int)) (by decide) rfl (Nat.le_of_ble_eq_true rfl) ?_ sz
  intro p e s m below meth c A ls C hK hA hP hD hS hl
  obtain ⟨⟨hx, hb, hml, hown, hts⟩, hr, hlocks, hN⟩ := id C
  have hown : s.vm.findClass RX4 = some m.cls := hown
  have hl : lv_has ls 2 [(0, .ref q), (1, .int x1)] := hl
  unfold wp_X4_tallied at h
  refine lv_iload_n hx hb dX4_tallied_0 rfl (lv_at hl 1 rfl) ?_
  refine lv_iconst (v := 0) hx hb dX4_tallied_1 (by decide) ?_
  refine lv_sipush (v := 180) hx hb dX4_tallied_2 (by decide) ?_
  have hp : Pt (w_X4_tallied Y q q_seenFolds q_seenSpans q_isWay q_tally q_lay g_size g_tally) (w_X7_isWithin Y ) [] := ⟨rfl, by decide +kernel⟩
  refine go_i hp hP hD hS hA (fun _ => rfl) (va_runSN (As := [.int x1, .int (0 : Int32), .int (180 : Int32)]) (rest := []) ⟨hx, hb, hml, hown, hts⟩ (c_X7_isWithin h _) ⟨va_cnB 3 hts gX4_tallied_X7_isWithin_n83 rfl rfl rfl (nwX4_83 hN) (k_X4_tallied_iX7 hts) (by decide +kernel) ⟨Nat.le_of_ble_eq_true rfl, Nat.le_of_ble_eq_true rfl⟩, (k_X4_tallied_stX7_isWithin hts), trivial⟩ (pre_S hp hK hN hP hD) rfl rfl hl.1 rfl (lv_room (Nat.le_of_ble_eq_true rfl)) dX4_tallied_5 ⟨Nat.le_of_ble_eq_true rfl, Nat.le_of_ble_eq_true rfl⟩) (fun r3 u H locs h hP hD hS => ?_)
  try dsimp only at h
  have hP : va_P D vwCl (w_X4_tallied Y q q_seenFolds q_seenSpans q_isWay q_tally q_lay g_size g_tally) H := hP
  have hD : va_D A (w_X4_tallied Y q q_seenFolds q_seenSpans q_isWay q_tally q_lay g_size g_tally) := hD
  refine lv_if_ne (tgt := 13) hx hb dX4_tallied_8 (by decide) (fun c4 => ?_) (fun c4 => ?_)
  · have h := h.1 c4
    refine lv_aload_n hx hb dX4_tallied_13 rfl (lv_at hl 0 rfl) ?_
    refine va_get (D := D) (ci := 4) (v := .ref q_tally) (C := RX4) (T := TX4) (N := 6) hx hb hts in_X4_tallied_X4 hown hK hP 0 rfl rfl 4 (by decide) (k_X4_tallied_f22 hts) (fun _ h9 => h9) rfl dX4_tallied_14 ?_
    refine lv_iload_n hx hb dX4_tallied_17 rfl (lv_at hl 1 rfl) ?_
    refine lv_dup2_11 hx hb dX4_tallied_18 rfl rfl ?_
    obtain ⟨hin, h⟩ := h
    refine va_iald hx hb hK hP 1 0 rfl rfl hin dX4_tallied_19 ?_
    refine lv_iconst (v := 1) hx hb dX4_tallied_20 (by decide) ?_
    refine lv_iadd hx hb dX4_tallied_21 ?_
    refine lv_topi (fun z5 ez5 => ?_)
    have h := h z5 ez5
    obtain ⟨hin, h⟩ := h
    refine va_iast hx hb hK hP hD hS 1 0 rfl rfl hin dX4_tallied_22 (fun H locs hP hD hS => ?_)
    have hP : va_P D vwCl (w_X4_tallied Y q q_seenFolds q_seenSpans q_isWay q_tally q_lay g_size (upd g_tally (x1).toNatClampNeg z5)) H := hP
    have hD : va_D A (w_X4_tallied Y q q_seenFolds q_seenSpans q_isWay q_tally q_lay g_size (upd g_tally (x1).toNatClampNeg z5)) := hD
    refine lv_aload_n hx hb dX4_tallied_23 rfl (lv_at hl 0 rfl) ?_
    refine va_get (D := D) (ci := 4) (v := .ref q_tally) (C := RX4) (T := TX4) (N := 6) hx hb hts in_X4_tallied_X4 hown hK hP 0 rfl rfl 4 (by decide) (k_X4_tallied_f22 hts) (fun _ h9 => h9) rfl dX4_tallied_24 ?_
    refine lv_iload_n hx hb dX4_tallied_27 rfl (lv_at hl 1 rfl) ?_
    obtain ⟨hin, h⟩ := h
    refine va_iald hx hb hK hP 1 0 rfl rfl hin dX4_tallied_28 ?_
    exact ret_i ((upd g_tally (x1).toNatClampNeg z5)) hx hb hr hlocks hK hP hD hS h dX4_tallied_29
  · have h := h.2 c4
    refine lv_iconst (v := 0) hx hb dX4_tallied_11 (by decide) ?_
    exact ret_i (g_tally) hx hb hr hlocks hK hP hD hS h dX4_tallied_12
abbrev rm_X4_mostAlike : Room := { frames := 2, cells := 0, slots := 0, locals := 49 }
theorem in_X4_mostAlike_X4 : ∀ w ∈ wsX40, w ∈ wsX4_mostAlike := fun _ h => List.mem_cons_of_mem _ (List.mem_append_left _ (List.mem_append_left _ (List.mem_append_right _ h)))
theorem k_X4_mostAlike_f18 {s : State} {args : Array Value} (hts : ∀ w ∈ wsX4_mostAlike, w.before args s = true) : (Cond.fieldLink RX4 18 "FoldRule$Sightings" "isWay" "[Z").before args s = true := hts _ (by decide +kernel)
theorem k_X4_mostAlike_f28 {s : State} {args : Array Value} (hts : ∀ w ∈ wsX4_mostAlike, w.before args s = true) : (Cond.fieldLink RX4 28 "FoldRule$Sightings" "lay" "LFoldRule$Lay;").before args s = true := hts _ (by decide +kernel)
theorem k_X4_mostAlike_m77 {s : State} {args : Array Value} (hts : ∀ w ∈ wsX4_mostAlike, w.before args s = true) : (Cond.methodLink RX4 77 Lib.Math.max.name).before args s = true := hts _ (by decide +kernel)
theorem k_X4_mostAlike_smax {s : State} {args : Array Value} (hts : ∀ w ∈ wsX4_mostAlike, w.before args s = true) : (Cond.static Lib.Math.max.name).before args s = true := hts _ (by decide +kernel)
theorem k_X4_mostAlike_imath {s : State} {args : Array Value} (hts : ∀ w ∈ wsX4_mostAlike, w.before args s = true) : (Cond.initialized "java/lang/Math").before args s = true := hts _ (by decide +kernel)
theorem k_X4_mostAlike_bmax {s : State} {args : Array Value} (hts : ∀ w ∈ wsX4_mostAlike, w.before args s = true) : (Cond.code Lib.Math.max.name Lib.Math.max.code 2 (some .int)).before args s = true := hts _ (by decide +kernel)
theorem k_X4_mostAlike_f22 {s : State} {args : Array Value} (hts : ∀ w ∈ wsX4_mostAlike, w.before args s = true) : (Cond.fieldLink RX4 22 "FoldRule$Sightings" "tally" "[I").before args s = true := hts _ (by decide +kernel)
set_option maxHeartbeats 4000000 in
set_option maxRecDepth 100000 in
theorem L_X4_mostAlike_27 {p : Program} {l : Launch} {e : Env} {s : State} {m : MethodId} {args : Array Value} {below : List Frame} {meth : Method} {c : Code} {D : va_G} {Y : ClassId × ClassId × ClassId} {A : Nat → Prop} {q q_seenFolds q_seenSpans q_isWay q_tally q_lay q1 q1_lengths q_lay_places : Nat} {g_size : Int32} {g_isWay : Nat → Int32} {g1_links g1_folded g1_stiff : Int32} {g1_lengths : Nat → Int32} {x2 : Int32} {Q : Int32 → (Nat → Int32) → Int32 → Int32 → Int32 → (Nat → Int32) → Prop} (C : Ctx p s m args meth c cX4_mostAlike 5 (some .int) wsX4_mostAlike RX4) (hK : va_K D vwCl (tyS Y) s) (hA : ∀ q, s.heap.size ≤ q → A q) : ∀ (n : Nat) (x3 x4 : Int32) (g_tally : Nat → Int32) (g_lay_links g_lay_low g_lay_high : Int32) (g_lay_places : Nat → Int32), itr7 (B_X4_mostAlike_27 g_isWay g1_links g1_lengths x2 Q) n x3 x4 g_tally g_lay_links g_lay_low g_lay_high g_lay_places → ∀ (H : Heap) (locs : List Loc) (ls : Array Slot), va_P D vwCl (w_X4_mostAlike Y q q_seenFolds q_seenSpans q_isWay q_tally q_lay q1 q1_lengths q_lay_places g_size g_tally g_isWay g1_links g1_folded g1_stiff g_lay_links g_lay_low g_lay_high g1_lengths g_lay_places) H → va_D A (w_X4_mostAlike Y q q_seenFolds q_seenSpans q_isWay q_tally q_lay q1 q1_lengths q_lay_places g_size g_tally g_isWay g1_links g1_folded g1_stiff g_lay_links g_lay_low g_lay_high g1_lengths g_lay_places) → va_S A s.heap H locs → lv_has ls 5 [(0, .ref q), (1, .ref q1), (2, .int x2), (3, .int x3), (4, .int x4)] → W p l e rm_X4_mostAlike s m args below meth c H locs 0 0 (QI below args s D Y A (fun r (u : (Nat → Int32) × Int32 × Int32 × Int32 × (Nat → Int32)) => Q r u.1 u.2.1 u.2.2.1 u.2.2.2.1 u.2.2.2.2) (fun u : (Nat → Int32) × Int32 × Int32 × Int32 × (Nat → Int32) => (w_X4_mostAlike Y q q_seenFolds q_seenSpans q_isWay q_tally q_lay q1 q1_lengths q_lay_places g_size u.1 g_isWay g1_links g1_folded g1_stiff u.2.1 u.2.2.1 u.2.2.2.1 g1_lengths u.2.2.2.2))) (F0 m 27 ls []) := by
  intro n
  induction n with
  | zero => intro x3 x4 g_tally g_lay_links g_lay_low g_lay_high g_lay_places h; exact False.elim h
  | succ n ih =>
    intro x3 x4 g_tally g_lay_links g_lay_low g_lay_high g_lay_places h H locs ls hP hD hS hl
    obtain ⟨⟨hx, hb, hml, hown, hts⟩, hr, hlocks, hN⟩ := id C
    have h : B_X4_mostAlike_27 g_isWay g1_links g1_lengths x2 Q (itr7 (B_X4_mostAlike_27 g_isWay g1_links g1_lengths x2 Q) n) x3 x4 g_tally g_lay_links g_lay_low g_lay_high g_lay_places := h
    unfold B_X4_mostAlike_27 at h
    refine lv_iload hx hb dX4_mostAlike_27 (lv_at hl 4 rfl) ?_
    refine lv_aload_n hx hb dX4_mostAlike_29 rfl (lv_at hl 0 rfl) ?_
    refine va_get (D := D) (ci := 4) (v := .ref q_isWay) (C := RX4) (T := TX4) (N := 6) hx hb hts in_X4_mostAlike_X4 hown hK hP 0 rfl rfl 3 (by decide) (k_X4_mostAlike_f18 hts) (fun _ h9 => h9) rfl dX4_mostAlike_30 ?_
    refine va_alen (v := 90) hx hb hK hP 2 1 rfl rfl (show Int32.ofNat 90 = 90 by decide) dX4_mostAlike_33 ?_
    refine lv_icmp_ge (tgt := 88) hx hb dX4_mostAlike_34 (by decide) (fun c12 => ?_) (fun c12 => ?_)
    · have h := h.1 c12
      refine lv_iload_n hx hb dX4_mostAlike_88 rfl (lv_at hl 3 rfl) ?_
      exact ret_i (g_tally, g_lay_links, g_lay_low, g_lay_high, g_lay_places) hx hb hr hlocks hK hP hD hS h dX4_mostAlike_89
    · have h := h.2 c12
      refine lv_aload_n hx hb dX4_mostAlike_37 rfl (lv_at hl 0 rfl) ?_
      refine va_get (D := D) (ci := 4) (v := .ref q_isWay) (C := RX4) (T := TX4) (N := 6) hx hb hts in_X4_mostAlike_X4 hown hK hP 0 rfl rfl 3 (by decide) (k_X4_mostAlike_f18 hts) (fun _ h9 => h9) rfl dX4_mostAlike_38 ?_
      refine lv_iload hx hb dX4_mostAlike_41 (lv_at hl 4 rfl) ?_
      obtain ⟨hin, h⟩ := h
      refine va_zald hx hb hK hP 2 1 rfl rfl hin dX4_mostAlike_43 ?_
      refine lv_if_eq (tgt := 82) hx hb dX4_mostAlike_44 (by decide) (fun c13 => ?_) (fun c13 => ?_)
      · have h := h.1 c13
        obtain ⟨z14, ez14⟩ : ∃ y : Int32, y = (x4 + (1 : Int32)) := ⟨_, rfl⟩
        have h := h z14 ez14
        refine lv_iinc (v := z14) (lv' := [(4, .int z14), (0, .ref q), (1, .ref q1), (2, .int x2), (3, .int x3)]) hx hb dX4_mostAlike_82 hl (k := 4) rfl (by rw [ez14]; rfl) (by decide) rfl (fun ls hl => ?_)
        refine lv_goto (tgt := 27) hx hb dX4_mostAlike_85 (by decide) ?_
        exact ih _ _ _ _ _ _ _ h _ _ _ hP hD hS (lv_sub hl [1, 2, 3, 4, 0] rfl)
      · have h := h.2 c13
        refine lv_aload_n hx hb dX4_mostAlike_47 rfl (lv_at hl 0 rfl) ?_
        refine va_get (D := D) (ci := 4) (v := .ref q_lay) (C := RX4) (T := TX4) (N := 6) hx hb hts in_X4_mostAlike_X4 hown hK hP 0 rfl rfl 5 (by decide) (k_X4_mostAlike_f28 hts) (fun _ h9 => h9) rfl dX4_mostAlike_48 ?_
        refine lv_aload_n hx hb dX4_mostAlike_51 rfl (lv_at hl 1 rfl) ?_
        refine lv_iload_n hx hb dX4_mostAlike_52 rfl (lv_at hl 2 rfl) ?_
        refine lv_iload hx hb dX4_mostAlike_53 (lv_at hl 4 rfl) ?_
        refine lv_bipush (v := 10) hx hb dX4_mostAlike_55 (by decide) ?_
        obtain ⟨hne, h⟩ := h
        refine lv_idiv hx hb dX4_mostAlike_57 hne ?_
        refine lv_iload hx hb dX4_mostAlike_58 (lv_at hl 4 rfl) ?_
        refine lv_bipush (v := 10) hx hb dX4_mostAlike_60 (by decide) ?_
        obtain ⟨hne, h⟩ := h
        refine lv_irem hx hb dX4_mostAlike_62 hne ?_
        have hp : Pt (w_X4_mostAlike Y q q_seenFolds q_seenSpans q_isWay q_tally q_lay q1 q1_lengths q_lay_places g_size g_tally g_isWay g1_links g1_folded g1_stiff g_lay_links g_lay_low g_lay_high g1_lengths g_lay_places) (w_X2_layOutFiled Y q1 q1_lengths q_lay q_lay_places g1_links g1_folded g1_stiff g_lay_links g_lay_low g_lay_high g1_lengths g_lay_places) [3, 4, 5, 6] := ⟨rfl, by decide +kernel⟩
        refine go_v hp hP hD hS hA (fun _ => rfl) (va_runV (As := [.ref q1, .int x2, .int (x4 / (10 : Int32)), .int (x4 - x4 / (10 : Int32) * (10 : Int32))]) (rest := []) ⟨hx, hb, hml, hown, hts⟩ (c_X2_layOutFiled h _) (cwV 4 hts gX4_mostAlike_X2_layOutFiled rfl rfl rfl (by decide +kernel) ⟨Nat.le_of_ble_eq_true rfl, Nat.le_of_ble_eq_true rfl⟩) (pre_V (b := q_lay) (q0 := 1) (ci := 2) (q := (RX2, TX2, 4)) hp hK hN hP hD rfl rfl) rfl rfl hl.1 rfl (lv_room (Nat.le_of_ble_eq_true rfl)) dX4_mostAlike_63 ⟨Nat.le_of_ble_eq_true rfl, Nat.le_of_ble_eq_true rfl⟩) (fun u H locs h hP hD hS => ?_)
        obtain ⟨u16, u17, u18, u19⟩ := u
        try dsimp only at h
        have hP : va_P D vwCl (w_X4_mostAlike Y q q_seenFolds q_seenSpans q_isWay q_tally q_lay q1 q1_lengths q_lay_places g_size g_tally g_isWay g1_links g1_folded g1_stiff u16 u17 u18 g1_lengths u19) H := hP
        have hD : va_D A (w_X4_mostAlike Y q q_seenFolds q_seenSpans q_isWay q_tally q_lay q1 q1_lengths q_lay_places g_size g_tally g_isWay g1_links g1_folded g1_stiff u16 u17 u18 g1_lengths u19) := hD
        refine lv_iload_n hx hb dX4_mostAlike_66 rfl (lv_at hl 3 rfl) ?_
        refine lv_aload_n hx hb dX4_mostAlike_67 rfl (lv_at hl 0 rfl) ?_
        refine lv_aload_n hx hb dX4_mostAlike_68 rfl (lv_at hl 0 rfl) ?_
        refine va_get (D := D) (ci := 4) (v := .ref q_lay) (C := RX4) (T := TX4) (N := 6) hx hb hts in_X4_mostAlike_X4 hown hK hP 0 rfl rfl 5 (by decide) (k_X4_mostAlike_f28 hts) (fun _ h9 => h9) rfl dX4_mostAlike_69 ?_
        have hp : Pt (w_X4_mostAlike Y q q_seenFolds q_seenSpans q_isWay q_tally q_lay q1 q1_lengths q_lay_places g_size g_tally g_isWay g1_links g1_folded g1_stiff u16 u17 u18 g1_lengths u19) (w_X2_span Y q_lay q_lay_places u16 u17 u18) [4] := ⟨rfl, by decide +kernel⟩
        refine go_i hp hP hD hS hA (fun _ => rfl) (va_runV (As := []) (rest := [.ref q, .int x3]) ⟨hx, hb, hml, hown, hts⟩ (c_X2_span h _) (cwV 0 hts gX4_mostAlike_X2_span rfl rfl rfl (by decide +kernel) ⟨Nat.le_of_ble_eq_true rfl, Nat.le_of_ble_eq_true rfl⟩) (pre_V (b := q_lay) (q0 := 0) (ci := 2) (q := (RX2, TX2, 4)) hp hK hN hP hD rfl rfl) rfl rfl hl.1 rfl (lv_room (Nat.le_of_ble_eq_true rfl)) dX4_mostAlike_72 ⟨Nat.le_of_ble_eq_true rfl, Nat.le_of_ble_eq_true rfl⟩) (fun r20 u H locs h hP hD hS => ?_)
        try dsimp only at h
        have hP : va_P D vwCl (w_X4_mostAlike Y q q_seenFolds q_seenSpans q_isWay q_tally q_lay q1 q1_lengths q_lay_places g_size g_tally g_isWay g1_links g1_folded g1_stiff u16 u17 u18 g1_lengths u19) H := hP
        have hD : va_D A (w_X4_mostAlike Y q q_seenFolds q_seenSpans q_isWay q_tally q_lay q1 q1_lengths q_lay_places g_size g_tally g_isWay g1_links g1_folded g1_stiff u16 u17 u18 g1_lengths u19) := hD
        have hp : Pt (w_X4_mostAlike Y q q_seenFolds q_seenSpans q_isWay q_tally q_lay q1 q1_lengths q_lay_places g_size g_tally g_isWay g1_links g1_folded g1_stiff u16 u17 u18 g1_lengths u19) (w_X4_tallied Y q q_seenFolds q_seenSpans q_isWay q_tally q_lay g_size g_tally) [0, 1] := ⟨rfl, by decide +kernel⟩
        refine go_i hp hP hD hS hA (fun _ => rfl) (va_runV (As := [.int r20]) (rest := [.int x3]) ⟨hx, hb, hml, hown, hts⟩ (c_X4_tallied h _) (cwV 1 hts gX4_mostAlike_X4_tallied rfl rfl rfl (by decide +kernel) ⟨Nat.le_of_ble_eq_true rfl, Nat.le_of_ble_eq_true rfl⟩) (pre_V (b := q) (q0 := 0) (ci := 4) (q := (RX4, TX4, 6)) hp hK hN hP hD rfl rfl) rfl rfl hl.1 rfl (lv_room (Nat.le_of_ble_eq_true rfl)) dX4_mostAlike_75 ⟨Nat.le_of_ble_eq_true rfl, Nat.le_of_ble_eq_true rfl⟩) (fun r21 u H locs h hP hD hS => ?_)
        obtain ⟨u22, rfl⟩ : ∃ z, z = u := ⟨_, rfl⟩
        try dsimp only at h
        have hP : va_P D vwCl (w_X4_mostAlike Y q q_seenFolds q_seenSpans q_isWay q_tally q_lay q1 q1_lengths q_lay_places g_size u22 g_isWay g1_links g1_folded g1_stiff u16 u17 u18 g1_lengths u19) H := hP
        have hD : va_D A (w_X4_mostAlike Y q q_seenFolds q_seenSpans q_isWay q_tally q_lay q1 q1_lengths q_lay_places g_size u22 g_isWay g1_links g1_folded g1_stiff u16 u17 u18 g1_lengths u19) := hD
        refine va_mmax hx hb (hml.trans hl.1.symm) hown (k_X4_mostAlike_m77 hts) (k_X4_mostAlike_smax hts) (k_X4_mostAlike_imath hts) (k_X4_mostAlike_bmax hts) (Nat.le_of_ble_eq_true rfl) (Nat.le_of_ble_eq_true rfl) (Nat.le_of_ble_eq_true rfl) (Nat.le_of_ble_eq_true rfl) dX4_mostAlike_78 ?_
        refine lv_topi (fun z23 ez23 => ?_)
        have h := h z23 ez23
        refine lv_istore_n (lv' := [(3, .int z23), (0, .ref q), (1, .ref q1), (2, .int x2), (4, .int x4)]) hx hb dX4_mostAlike_81 rfl hl (by decide) rfl (fun ls hl => ?_)
        obtain ⟨z24, ez24⟩ : ∃ y : Int32, y = (x4 + (1 : Int32)) := ⟨_, rfl⟩
        have h := h z24 ez24
        refine lv_iinc (v := z24) (lv' := [(4, .int z24), (3, .int z23), (0, .ref q), (1, .ref q1), (2, .int x2)]) hx hb dX4_mostAlike_82 hl (k := 4) rfl (by rw [ez24]; rfl) (by decide) rfl (fun ls hl => ?_)
        refine lv_goto (tgt := 27) hx hb dX4_mostAlike_85 (by decide) ?_
        exact ih _ _ _ _ _ _ _ h _ _ _ hP hD hS (lv_sub hl [2, 3, 4, 1, 0] rfl)
set_option maxHeartbeats 4000000 in
set_option maxRecDepth 100000 in
theorem L_X4_mostAlike_2 {p : Program} {l : Launch} {e : Env} {s : State} {m : MethodId} {args : Array Value} {below : List Frame} {meth : Method} {c : Code} {D : va_G} {Y : ClassId × ClassId × ClassId} {A : Nat → Prop} {q q_seenFolds q_seenSpans q_isWay q_tally q_lay q1 q1_lengths q_lay_places : Nat} {g_size : Int32} {g_isWay : Nat → Int32} {g1_links g1_folded g1_stiff g_lay_links g_lay_low g_lay_high : Int32} {g1_lengths g_lay_places : Nat → Int32} {x2 : Int32} {Q : Int32 → (Nat → Int32) → Int32 → Int32 → Int32 → (Nat → Int32) → Prop} (C : Ctx p s m args meth c cX4_mostAlike 5 (some .int) wsX4_mostAlike RX4) (hK : va_K D vwCl (tyS Y) s) (hA : ∀ q, s.heap.size ≤ q → A q) : ∀ (n : Nat) (x3 : Int32) (g_tally : Nat → Int32), itr2 (B_X4_mostAlike_2 g_isWay g1_links g_lay_links g_lay_low g_lay_high g1_lengths g_lay_places x2 Q) n x3 g_tally → ∀ (H : Heap) (locs : List Loc) (ls : Array Slot), va_P D vwCl (w_X4_mostAlike Y q q_seenFolds q_seenSpans q_isWay q_tally q_lay q1 q1_lengths q_lay_places g_size g_tally g_isWay g1_links g1_folded g1_stiff g_lay_links g_lay_low g_lay_high g1_lengths g_lay_places) H → va_D A (w_X4_mostAlike Y q q_seenFolds q_seenSpans q_isWay q_tally q_lay q1 q1_lengths q_lay_places g_size g_tally g_isWay g1_links g1_folded g1_stiff g_lay_links g_lay_low g_lay_high g1_lengths g_lay_places) → va_S A s.heap H locs → lv_has ls 5 [(0, .ref q), (1, .ref q1), (2, .int x2), (3, .int x3)] → W p l e rm_X4_mostAlike s m args below meth c H locs 0 0 (QI below args s D Y A (fun r (u : (Nat → Int32) × Int32 × Int32 × Int32 × (Nat → Int32)) => Q r u.1 u.2.1 u.2.2.1 u.2.2.2.1 u.2.2.2.2) (fun u : (Nat → Int32) × Int32 × Int32 × Int32 × (Nat → Int32) => (w_X4_mostAlike Y q q_seenFolds q_seenSpans q_isWay q_tally q_lay q1 q1_lengths q_lay_places g_size u.1 g_isWay g1_links g1_folded g1_stiff u.2.1 u.2.2.1 u.2.2.2.1 g1_lengths u.2.2.2.2))) (F0 m 2 ls []) := by
  intro n
  induction n with
  | zero => intro x3 g_tally h; exact False.elim h
  | succ n ih =>
    intro x3 g_tally h H locs ls hP hD hS hl
    obtain ⟨⟨hx, hb, hml, hown, hts⟩, hr, hlocks, hN⟩ := id C
    have h : B_X4_mostAlike_2 g_isWay g1_links g_lay_links g_lay_low g_lay_high g1_lengths g_lay_places x2 Q (itr2 (B_X4_mostAlike_2 g_isWay g1_links g_lay_links g_lay_low g_lay_high g1_lengths g_lay_places x2 Q) n) x3 g_tally := h
    unfold B_X4_mostAlike_2 at h
    refine lv_iload_n hx hb dX4_mostAlike_2 rfl (lv_at hl 3 rfl) ?_
    refine lv_sipush (v := 180) hx hb dX4_mostAlike_3 (by decide) ?_
    refine lv_icmp_gt (tgt := 22) hx hb dX4_mostAlike_6 (by decide) (fun c25 => ?_) (fun c25 => ?_)
    · have h := h.1 c25
      refine lv_iconst (v := 0) hx hb dX4_mostAlike_22 (by decide) ?_
      refine lv_istore_n (lv' := [(3, .int (0 : Int32)), (0, .ref q), (1, .ref q1), (2, .int x2)]) hx hb dX4_mostAlike_23 rfl hl (by decide) rfl (fun ls hl => ?_)
      refine lv_iconst (v := 0) hx hb dX4_mostAlike_24 (by decide) ?_
      refine lv_istore (lv' := [(4, .int (0 : Int32)), (3, .int (0 : Int32)), (0, .ref q), (1, .ref q1), (2, .int x2)]) hx hb dX4_mostAlike_25 hl (by decide) rfl (fun ls hl => ?_)
      obtain ⟨n, h⟩ := h
      exact L_X4_mostAlike_27 C hK hA  n _ _ _ _ _ _ _ h _ _ _ hP hD hS (lv_sub hl [2, 3, 4, 1, 0] rfl)
    · have h := h.2 c25
      refine lv_aload_n hx hb dX4_mostAlike_9 rfl (lv_at hl 0 rfl) ?_
      refine va_get (D := D) (ci := 4) (v := .ref q_tally) (C := RX4) (T := TX4) (N := 6) hx hb hts in_X4_mostAlike_X4 hown hK hP 0 rfl rfl 4 (by decide) (k_X4_mostAlike_f22 hts) (fun _ h9 => h9) rfl dX4_mostAlike_10 ?_
      refine lv_iload_n hx hb dX4_mostAlike_13 rfl (lv_at hl 3 rfl) ?_
      refine lv_iconst (v := 0) hx hb dX4_mostAlike_14 (by decide) ?_
      obtain ⟨hin, h⟩ := h
      refine va_iast hx hb hK hP hD hS 1 0 rfl rfl hin dX4_mostAlike_15 (fun H locs hP hD hS => ?_)
      have hP : va_P D vwCl (w_X4_mostAlike Y q q_seenFolds q_seenSpans q_isWay q_tally q_lay q1 q1_lengths q_lay_places g_size (upd g_tally (x3).toNatClampNeg (0 : Int32)) g_isWay g1_links g1_folded g1_stiff g_lay_links g_lay_low g_lay_high g1_lengths g_lay_places) H := hP
      have hD : va_D A (w_X4_mostAlike Y q q_seenFolds q_seenSpans q_isWay q_tally q_lay q1 q1_lengths q_lay_places g_size (upd g_tally (x3).toNatClampNeg (0 : Int32)) g_isWay g1_links g1_folded g1_stiff g_lay_links g_lay_low g_lay_high g1_lengths g_lay_places) := hD
      obtain ⟨z26, ez26⟩ : ∃ y : Int32, y = (x3 + (1 : Int32)) := ⟨_, rfl⟩
      have h := h z26 ez26
      refine lv_iinc (v := z26) (lv' := [(3, .int z26), (0, .ref q), (1, .ref q1), (2, .int x2)]) hx hb dX4_mostAlike_16 hl (k := 3) rfl (by rw [ez26]; rfl) (by decide) rfl (fun ls hl => ?_)
      refine lv_goto (tgt := 2) hx hb dX4_mostAlike_19 (by decide) ?_
      exact ih _ _ h _ _ _ hP hD hS (lv_sub hl [1, 2, 3, 0] rfl)
set_option maxHeartbeats 4000000 in
set_option maxRecDepth 100000 in
theorem c_X4_mostAlike {l : Launch} {D : va_G} {Y : ClassId × ClassId × ClassId} {q q_seenFolds q_seenSpans q_isWay q_tally q_lay q1 q1_lengths q_lay_places : Nat} {g_size : Int32} {g_tally g_isWay : Nat → Int32} {g1_links g1_folded g1_stiff g_lay_links g_lay_low g_lay_high : Int32} {g1_lengths g_lay_places : Nat → Int32} {x2 : Int32} {Q : Int32 → (Nat → Int32) → Int32 → Int32 → Int32 → (Nat → Int32) → Prop} (h : wp_X4_mostAlike g_tally g_isWay g1_links g_lay_links g_lay_low g_lay_high g1_lengths g_lay_places x2 Q) (sz : Nat) : MtI l yX4_mostAlike wsX4_mostAlike rm_X4_mostAlike [.ref q, .ref q1, .int x2] D Y (w_X4_mostAlike Y q q_seenFolds q_seenSpans q_isWay q_tally q_lay q1 q1_lengths q_lay_places g_size g_tally g_isWay g1_links g1_folded g1_stiff g_lay_links g_lay_low g_lay_high g1_lengths g_lay_places) (fun r (u : (Nat → Int32) × Int32 × Int32 × Int32 × (Nat → Int32)) => Q r u.1 u.2.1 u.2.2.1 u.2.2.2.1 u.2.2.2.2) (fun u : (Nat → Int32) × Int32 × Int32 × Int32 × (Nat → Int32) => (w_X4_mostAlike Y q q_seenFolds q_seenSpans q_isWay q_tally q_lay q1 q1_lengths q_lay_places g_size u.1 g_isWay g1_links g1_folded g1_stiff u.2.1 u.2.2.1 u.2.2.2.1 g1_lengths u.2.2.2.2)) sz := by
  refine ct_i (cc := cX4_mostAlike) (nL := 5) (ret := (some .int)) (by decide) rfl (Nat.le_of_ble_eq_true rfl) ?_ sz
  intro p e s m below meth c A ls C hK hA hP hD hS hl
  obtain ⟨⟨hx, hb, hml, hown, hts⟩, hr, hlocks, hN⟩ := id C
  have hown : s.vm.findClass RX4 = some m.cls := hown
  have hl : lv_has ls 5 [(0, .ref q), (1, .ref q1), (2, .int x2)] := hl
  unfold wp_X4_mostAlike at h
  refine lv_iconst (v := 0) hx hb dX4_mostAlike_0 (by decide) ?_
  refine lv_istore_n (lv' := [(3, .int (0 : Int32)), (0, .ref q), (1, .ref q1), (2, .int x2)]) hx hb dX4_mostAlike_1 rfl hl (by decide) rfl (fun ls hl => ?_)
  obtain ⟨n, h⟩ := h
  exact L_X4_mostAlike_2 C hK hA  n _ _ h _ _ _ hP hD hS (lv_sub hl [1, 2, 3, 0] rfl)
abbrev rm_X4_bestTry : Room := { frames := 4, cells := 0, slots := 0, locals := 98 }
set_option maxHeartbeats 4000000 in
set_option maxRecDepth 100000 in
theorem L_X4_bestTry_22 {p : Program} {l : Launch} {e : Env} {s : State} {m : MethodId} {args : Array Value} {below : List Frame} {meth : Method} {c : Code} {D : va_G} {Y : ClassId × ClassId × ClassId} {A : Nat → Prop} {q1 q1_lengths q q_seenFolds q_seenSpans q_isWay q_tally q_lay q_lay_places : Nat} {g1_links g1_folded g1_stiff : Int32} {g1_lengths : Nat → Int32} {g_size : Int32} {g_seenFolds g_seenSpans g_isWay : Nat → Int32} {Q : Int32 → Int32 → Int32 → Int32 → (Nat → Int32) → (Nat → Int32) → (Nat → Int32) → Prop} (C : Ctx p s m args meth c cX4_bestTry 6 (some .int) wsX4_bestTry RX4) (hK : va_K D vwCl (tyS Y) s) (hA : ∀ q, s.heap.size ≤ q → A q) : ∀ (n : Nat) (x2 x3 x4 g_lay_links g_lay_low g_lay_high : Int32) (g_lay_places g_tally : Nat → Int32), itr8 (B_X4_bestTry_22 g1_links g1_folded g1_stiff g1_lengths g_isWay Q) n x2 x3 x4 g_lay_links g_lay_low g_lay_high g_lay_places g_tally → ∀ (H : Heap) (locs : List Loc) (ls : Array Slot), va_P D vwCl (w_X4_bestTry Y q1 q1_lengths q q_seenFolds q_seenSpans q_isWay q_tally q_lay q_lay_places g1_links g1_folded g1_stiff g1_lengths g_size g_seenFolds g_lay_links g_lay_low g_lay_high g_lay_places g_seenSpans g_isWay g_tally) H → va_D A (w_X4_bestTry Y q1 q1_lengths q q_seenFolds q_seenSpans q_isWay q_tally q_lay q_lay_places g1_links g1_folded g1_stiff g1_lengths g_size g_seenFolds g_lay_links g_lay_low g_lay_high g_lay_places g_seenSpans g_isWay g_tally) → va_S A s.heap H locs → lv_has ls 6 [(0, .ref q), (1, .ref q1), (2, .int x2), (3, .int x3), (4, .int x4)] → W p l e rm_X4_bestTry s m args below meth c H locs 0 0 (QI below args s D Y A (fun r (u : Int32 × Int32 × Int32 × (Nat → Int32) × (Nat → Int32) × (Nat → Int32)) => Q r u.1 u.2.1 u.2.2.1 u.2.2.2.1 u.2.2.2.2.1 u.2.2.2.2.2) (fun u : Int32 × Int32 × Int32 × (Nat → Int32) × (Nat → Int32) × (Nat → Int32) => (w_X4_bestTry Y q1 q1_lengths q q_seenFolds q_seenSpans q_isWay q_tally q_lay q_lay_places g1_links g1_folded g1_stiff g1_lengths g_size g_seenFolds u.1 u.2.1 u.2.2.1 u.2.2.2.1 g_seenSpans u.2.2.2.2.1 u.2.2.2.2.2))) (F0 m 22 ls []) := by
  intro n
  induction n with
  | zero => intro x2 x3 x4 g_lay_links g_lay_low g_lay_high g_lay_places g_tally h; exact False.elim h
  | succ n ih =>
    intro x2 x3 x4 g_lay_links g_lay_low g_lay_high g_lay_places g_tally h H locs ls hP hD hS hl
    obtain ⟨⟨hx, hb, hml, hown, hts⟩, hr, hlocks, hN⟩ := id C
    have h : B_X4_bestTry_22 g1_links g1_folded g1_stiff g1_lengths g_isWay Q (itr8 (B_X4_bestTry_22 g1_links g1_folded g1_stiff g1_lengths g_isWay Q) n) x2 x3 x4 g_lay_links g_lay_low g_lay_high g_lay_places g_tally := h
    unfold B_X4_bestTry_22 at h
    refine lv_iload hx hb dX4_bestTry_22 (lv_at hl 4 rfl) ?_
    refine lv_aload_n hx hb dX4_bestTry_24 rfl (lv_at hl 1 rfl) ?_
    have hp : Pt (w_X4_bestTry Y q1 q1_lengths q q_seenFolds q_seenSpans q_isWay q_tally q_lay q_lay_places g1_links g1_folded g1_stiff g1_lengths g_size g_seenFolds g_lay_links g_lay_low g_lay_high g_lay_places g_seenSpans g_isWay g_tally) (w_X5_foldLimit Y q1 q1_lengths g1_links g1_folded g1_stiff) [0] := ⟨rfl, by decide +kernel⟩
    refine go_i hp hP hD hS hA (fun _ => rfl) (va_runV (As := []) (rest := [.int x4]) ⟨hx, hb, hml, hown, hts⟩ (c_X5_foldLimit h _) (cwV 0 hts gX4_bestTry_X5_foldLimit rfl rfl rfl (by decide +kernel) ⟨Nat.le_of_ble_eq_true rfl, Nat.le_of_ble_eq_true rfl⟩) (pre_V (b := q1) (q0 := 0) (ci := 5) (q := (RX5, TX5, 4)) hp hK hN hP hD rfl rfl) rfl rfl hl.1 rfl (lv_room (Nat.le_of_ble_eq_true rfl)) dX4_bestTry_25 ⟨Nat.le_of_ble_eq_true rfl, Nat.le_of_ble_eq_true rfl⟩) (fun r19 u H locs h hP hD hS => ?_)
    try dsimp only at h
    have hP : va_P D vwCl (w_X4_bestTry Y q1 q1_lengths q q_seenFolds q_seenSpans q_isWay q_tally q_lay q_lay_places g1_links g1_folded g1_stiff g1_lengths g_size g_seenFolds g_lay_links g_lay_low g_lay_high g_lay_places g_seenSpans g_isWay g_tally) H := hP
    have hD : va_D A (w_X4_bestTry Y q1 q1_lengths q q_seenFolds q_seenSpans q_isWay q_tally q_lay q_lay_places g1_links g1_folded g1_stiff g1_lengths g_size g_seenFolds g_lay_links g_lay_low g_lay_high g_lay_places g_seenSpans g_isWay g_tally) := hD
    refine lv_icmp_ge (tgt := 67) hx hb dX4_bestTry_28 (by decide) (fun c20 => ?_) (fun c20 => ?_)
    · have h := h.1 c20
      refine lv_iload_n hx hb dX4_bestTry_67 rfl (lv_at hl 3 rfl) ?_
      exact ret_i (g_lay_links, g_lay_low, g_lay_high, g_lay_places, g_isWay, g_tally) hx hb hr hlocks hK hP hD hS h dX4_bestTry_68
    · have h := h.2 c20
      refine lv_aload_n hx hb dX4_bestTry_31 rfl (lv_at hl 1 rfl) ?_
      refine lv_iload hx hb dX4_bestTry_32 (lv_at hl 4 rfl) ?_
      have hp : Pt (w_X4_bestTry Y q1 q1_lengths q q_seenFolds q_seenSpans q_isWay q_tally q_lay q_lay_places g1_links g1_folded g1_stiff g1_lengths g_size g_seenFolds g_lay_links g_lay_low g_lay_high g_lay_places g_seenSpans g_isWay g_tally) (w_X5_isFold Y q1 q1_lengths g1_links g1_folded g1_stiff) [0] := ⟨rfl, by decide +kernel⟩
      refine go_i hp hP hD hS hA (fun _ => rfl) (va_runV (As := [.int x4]) (rest := []) ⟨hx, hb, hml, hown, hts⟩ (c_X5_isFold h _) (cwV 1 hts gX4_bestTry_X5_isFold rfl rfl rfl (by decide +kernel) ⟨Nat.le_of_ble_eq_true rfl, Nat.le_of_ble_eq_true rfl⟩) (pre_V (b := q1) (q0 := 0) (ci := 5) (q := (RX5, TX5, 4)) hp hK hN hP hD rfl rfl) rfl rfl hl.1 rfl (lv_room (Nat.le_of_ble_eq_true rfl)) dX4_bestTry_34 ⟨Nat.le_of_ble_eq_true rfl, Nat.le_of_ble_eq_true rfl⟩) (fun r21 u H locs h hP hD hS => ?_)
      try dsimp only at h
      have hP : va_P D vwCl (w_X4_bestTry Y q1 q1_lengths q q_seenFolds q_seenSpans q_isWay q_tally q_lay q_lay_places g1_links g1_folded g1_stiff g1_lengths g_size g_seenFolds g_lay_links g_lay_low g_lay_high g_lay_places g_seenSpans g_isWay g_tally) H := hP
      have hD : va_D A (w_X4_bestTry Y q1 q1_lengths q q_seenFolds q_seenSpans q_isWay q_tally q_lay q_lay_places g1_links g1_folded g1_stiff g1_lengths g_size g_seenFolds g_lay_links g_lay_low g_lay_high g_lay_places g_seenSpans g_isWay g_tally) := hD
      refine lv_if_eq (tgt := 61) hx hb dX4_bestTry_37 (by decide) (fun c22 => ?_) (fun c22 => ?_)
      · have h := h.1 c22
        obtain ⟨z23, ez23⟩ : ∃ y : Int32, y = (x4 + (1 : Int32)) := ⟨_, rfl⟩
        have h := h z23 ez23
        refine lv_iinc (v := z23) (lv' := [(4, .int z23), (0, .ref q), (1, .ref q1), (2, .int x2), (3, .int x3)]) hx hb dX4_bestTry_61 hl (k := 4) rfl (by rw [ez23]; rfl) (by decide) rfl (fun ls hl => ?_)
        refine lv_goto (tgt := 22) hx hb dX4_bestTry_64 (by decide) ?_
        exact ih _ _ _ _ _ _ _ _ h _ _ _ hP hD hS (lv_sub hl [1, 2, 3, 4, 0] rfl)
      · have h := h.2 c22
        refine lv_aload_n hx hb dX4_bestTry_40 rfl (lv_at hl 0 rfl) ?_
        refine lv_aload_n hx hb dX4_bestTry_41 rfl (lv_at hl 1 rfl) ?_
        refine lv_iload hx hb dX4_bestTry_42 (lv_at hl 4 rfl) ?_
        have hp : Pt (w_X4_bestTry Y q1 q1_lengths q q_seenFolds q_seenSpans q_isWay q_tally q_lay q_lay_places g1_links g1_folded g1_stiff g1_lengths g_size g_seenFolds g_lay_links g_lay_low g_lay_high g_lay_places g_seenSpans g_isWay g_tally) (w_X4_mostAlike Y q q_seenFolds q_seenSpans q_isWay q_tally q_lay q1 q1_lengths q_lay_places g_size g_tally g_isWay g1_links g1_folded g1_stiff g_lay_links g_lay_low g_lay_high g1_lengths g_lay_places) [2, 8, 7, 0, 4, 1, 5] := ⟨rfl, by decide +kernel⟩
        refine go_i hp hP hD hS hA (fun _ => rfl) (va_runV (As := [.ref q1, .int x4]) (rest := []) ⟨hx, hb, hml, hown, hts⟩ (c_X4_mostAlike h _) (cwV 2 hts gX4_bestTry_X4_mostAlike rfl rfl rfl (by decide +kernel) ⟨Nat.le_of_ble_eq_true rfl, Nat.le_of_ble_eq_true rfl⟩) (pre_V (b := q) (q0 := 0) (ci := 4) (q := (RX4, TX4, 6)) hp hK hN hP hD rfl rfl) rfl rfl hl.1 rfl (lv_room (Nat.le_of_ble_eq_true rfl)) dX4_bestTry_44 ⟨Nat.le_of_ble_eq_true rfl, Nat.le_of_ble_eq_true rfl⟩) (fun r24 u H locs h hP hD hS => ?_)
        obtain ⟨u25, u26, u27, u28, u29⟩ := u
        try dsimp only at h
        have hP : va_P D vwCl (w_X4_bestTry Y q1 q1_lengths q q_seenFolds q_seenSpans q_isWay q_tally q_lay q_lay_places g1_links g1_folded g1_stiff g1_lengths g_size g_seenFolds u26 u27 u28 u29 g_seenSpans g_isWay u25) H := hP
        have hD : va_D A (w_X4_bestTry Y q1 q1_lengths q q_seenFolds q_seenSpans q_isWay q_tally q_lay q_lay_places g1_links g1_folded g1_stiff g1_lengths g_size g_seenFolds u26 u27 u28 u29 g_seenSpans g_isWay u25) := hD
        refine lv_istore (lv' := [(5, .int r24), (0, .ref q), (1, .ref q1), (2, .int x2), (3, .int x3), (4, .int x4)]) hx hb dX4_bestTry_47 hl (by decide) rfl (fun ls hl => ?_)
        refine lv_iload hx hb dX4_bestTry_49 (lv_at hl 0 rfl) ?_
        refine lv_iload_n hx hb dX4_bestTry_51 rfl (lv_at hl 3 rfl) ?_
        refine lv_icmp_ge (tgt := 61) hx hb dX4_bestTry_52 (by decide) (fun c30 => ?_) (fun c30 => ?_)
        · have h := h.1 c30
          obtain ⟨z31, ez31⟩ : ∃ y : Int32, y = (x4 + (1 : Int32)) := ⟨_, rfl⟩
          have h := h z31 ez31
          refine lv_iinc (v := z31) (lv' := [(4, .int z31), (5, .int r24), (0, .ref q), (1, .ref q1), (2, .int x2), (3, .int x3)]) hx hb dX4_bestTry_61 hl (k := 5) rfl (by rw [ez31]; rfl) (by decide) rfl (fun ls hl => ?_)
          refine lv_goto (tgt := 22) hx hb dX4_bestTry_64 (by decide) ?_
          exact ih _ _ _ _ _ _ _ _ h _ _ _ hP hD hS (lv_sub hl [2, 3, 4, 5, 0] rfl)
        · have h := h.2 c30
          refine lv_iload hx hb dX4_bestTry_55 (lv_at hl 0 rfl) ?_
          refine lv_istore_n (lv' := [(2, .int r24), (5, .int r24), (0, .ref q), (1, .ref q1), (3, .int x3), (4, .int x4)]) hx hb dX4_bestTry_57 rfl hl (by decide) rfl (fun ls hl => ?_)
          refine lv_iload hx hb dX4_bestTry_58 (lv_at hl 5 rfl) ?_
          refine lv_istore_n (lv' := [(3, .int x4), (2, .int r24), (5, .int r24), (0, .ref q), (1, .ref q1), (4, .int x4)]) hx hb dX4_bestTry_60 rfl hl (by decide) rfl (fun ls hl => ?_)
          obtain ⟨z32, ez32⟩ : ∃ y : Int32, y = (x4 + (1 : Int32)) := ⟨_, rfl⟩
          have h := h z32 ez32
          refine lv_iinc (v := z32) (lv' := [(4, .int z32), (3, .int x4), (2, .int r24), (5, .int r24), (0, .ref q), (1, .ref q1)]) hx hb dX4_bestTry_61 hl (k := 5) rfl (by rw [ez32]; rfl) (by decide) rfl (fun ls hl => ?_)
          refine lv_goto (tgt := 22) hx hb dX4_bestTry_64 (by decide) ?_
          exact ih _ _ _ _ _ _ _ _ h _ _ _ hP hD hS (lv_sub hl [4, 5, 2, 1, 0] rfl)
set_option maxHeartbeats 4000000 in
set_option maxRecDepth 100000 in
theorem c_X4_bestTry {l : Launch} {D : va_G} {Y : ClassId × ClassId × ClassId} {q1 q1_lengths q q_seenFolds q_seenSpans q_isWay q_tally q_lay q_lay_places : Nat} {g1_links g1_folded g1_stiff : Int32} {g1_lengths : Nat → Int32} {g_size : Int32} {g_seenFolds : Nat → Int32} {g_lay_links g_lay_low g_lay_high : Int32} {g_lay_places g_seenSpans g_isWay g_tally : Nat → Int32} {Q : Int32 → Int32 → Int32 → Int32 → (Nat → Int32) → (Nat → Int32) → (Nat → Int32) → Prop} (h : wp_X4_bestTry g1_links g1_folded g1_stiff g1_lengths g_size g_seenFolds g_lay_links g_lay_low g_lay_high g_lay_places g_seenSpans g_isWay g_tally Q) (sz : Nat) : MtI l yX4_bestTry wsX4_bestTry rm_X4_bestTry [.ref q, .ref q1] D Y (w_X4_bestTry Y q1 q1_lengths q q_seenFolds q_seenSpans q_isWay q_tally q_lay q_lay_places g1_links g1_folded g1_stiff g1_lengths g_size g_seenFolds g_lay_links g_lay_low g_lay_high g_lay_places g_seenSpans g_isWay g_tally) (fun r (u : Int32 × Int32 × Int32 × (Nat → Int32) × (Nat → Int32) × (Nat → Int32)) => Q r u.1 u.2.1 u.2.2.1 u.2.2.2.1 u.2.2.2.2.1 u.2.2.2.2.2) (fun u : Int32 × Int32 × Int32 × (Nat → Int32) × (Nat → Int32) × (Nat → Int32) => (w_X4_bestTry Y q1 q1_lengths q q_seenFolds q_seenSpans q_isWay q_tally q_lay q_lay_places g1_links g1_folded g1_stiff g1_lengths g_size g_seenFolds u.1 u.2.1 u.2.2.1 u.2.2.2.1 g_seenSpans u.2.2.2.2.1 u.2.2.2.2.2)) sz := by
  refine ct_i (cc := cX4_bestTry) (nL := 6) (ret := (some .int)) (by decide) rfl (Nat.le_of_ble_eq_true rfl) ?_ sz
  intro p e s m below meth c A ls C hK hA hP hD hS hl
  obtain ⟨⟨hx, hb, hml, hown, hts⟩, hr, hlocks, hN⟩ := id C
  have hown : s.vm.findClass RX4 = some m.cls := hown
  have hl : lv_has ls 6 [(0, .ref q), (1, .ref q1)] := hl
  unfold wp_X4_bestTry at h
  refine lv_aload_n hx hb dX4_bestTry_0 rfl (lv_at hl 0 rfl) ?_
  refine lv_aload_n hx hb dX4_bestTry_1 rfl (lv_at hl 1 rfl) ?_
  have hp : Pt (w_X4_bestTry Y q1 q1_lengths q q_seenFolds q_seenSpans q_isWay q_tally q_lay q_lay_places g1_links g1_folded g1_stiff g1_lengths g_size g_seenFolds g_lay_links g_lay_low g_lay_high g_lay_places g_seenSpans g_isWay g_tally) (w_X4_findWays Y q1 q1_lengths q q_seenFolds q_seenSpans q_isWay q_tally q_lay q_lay_places g1_links g1_folded g1_stiff g1_lengths g_size g_seenFolds g_lay_links g_lay_low g_lay_high g_lay_places g_seenSpans g_isWay) [0, 1, 2, 3, 4, 5, 6, 7] := ⟨rfl, by decide +kernel⟩
  refine go_i hp hP hD hS hA (fun _ => rfl) (va_runV (As := [.ref q1]) (rest := []) ⟨hx, hb, hml, hown, hts⟩ (c_X4_findWays h _) (cwV 1 hts gX4_bestTry_X4_findWays rfl rfl rfl (by decide +kernel) ⟨Nat.le_of_ble_eq_true rfl, Nat.le_of_ble_eq_true rfl⟩) (pre_V (b := q) (q0 := 2) (ci := 4) (q := (RX4, TX4, 6)) hp hK hN hP hD rfl rfl) rfl rfl hl.1 rfl (lv_room (Nat.le_of_ble_eq_true rfl)) dX4_bestTry_2 ⟨Nat.le_of_ble_eq_true rfl, Nat.le_of_ble_eq_true rfl⟩) (fun r33 u H locs h hP hD hS => ?_)
  obtain ⟨u34, u35, u36, u37, u38⟩ := u
  try dsimp only at h
  have hP : va_P D vwCl (w_X4_bestTry Y q1 q1_lengths q q_seenFolds q_seenSpans q_isWay q_tally q_lay q_lay_places g1_links g1_folded g1_stiff g1_lengths g_size g_seenFolds u34 u35 u36 u37 g_seenSpans u38 g_tally) H := hP
  have hD : va_D A (w_X4_bestTry Y q1 q1_lengths q q_seenFolds q_seenSpans q_isWay q_tally q_lay q_lay_places g1_links g1_folded g1_stiff g1_lengths g_size g_seenFolds u34 u35 u36 u37 g_seenSpans u38 g_tally) := hD
  refine lv_iconst (v := 1) hx hb dX4_bestTry_5 (by decide) ?_
  refine lv_iadd hx hb dX4_bestTry_6 ?_
  refine lv_topi (fun z39 ez39 => ?_)
  have h := h z39 ez39
  refine lv_istore_n (lv' := [(2, .int z39), (0, .ref q), (1, .ref q1)]) hx hb dX4_bestTry_7 rfl hl (by decide) rfl (fun ls hl => ?_)
  refine lv_iload_n hx hb dX4_bestTry_8 rfl (lv_at hl 0 rfl) ?_
  refine lv_iconst (v := 2) hx hb dX4_bestTry_9 (by decide) ?_
  refine lv_icmp_gt (tgt := 16) hx hb dX4_bestTry_10 (by decide) (fun c40 => ?_) (fun c40 => ?_)
  · have h := h.1 c40
    refine lv_bipush (v := (-9)) hx hb dX4_bestTry_16 (by decide) ?_
    refine lv_istore_n (lv' := [(3, .int (-9 : Int32)), (2, .int z39), (0, .ref q), (1, .ref q1)]) hx hb dX4_bestTry_18 rfl hl (by decide) rfl (fun ls hl => ?_)
    refine lv_iconst (v := 0) hx hb dX4_bestTry_19 (by decide) ?_
    refine lv_istore (lv' := [(4, .int (0 : Int32)), (3, .int (-9 : Int32)), (2, .int z39), (0, .ref q), (1, .ref q1)]) hx hb dX4_bestTry_20 hl (by decide) rfl (fun ls hl => ?_)
    obtain ⟨n, h⟩ := h
    exact L_X4_bestTry_22 C hK hA  n _ _ _ _ _ _ _ _ h _ _ _ hP hD hS (lv_sub hl [3, 4, 2, 1, 0] rfl)
  · have h := h.2 c40
    refine lv_bipush (v := (-9)) hx hb dX4_bestTry_13 (by decide) ?_
    exact ret_i (u34, u35, u36, u37, u38, g_tally) hx hb hr hlocks hK hP hD hS h dX4_bestTry_15
abbrev rm_X5_makeEmpty : Room := { frames := 0, cells := 0, slots := 0, locals := 0 }
theorem in_X5_makeEmpty_X5 : ∀ w ∈ wsX50, w ∈ wsX5_makeEmpty := fun _ h => List.mem_cons_of_mem _ (List.mem_append_right _ h)
theorem k_X5_makeEmpty_f15 {s : State} {args : Array Value} (hts : ∀ w ∈ wsX5_makeEmpty, w.before args s = true) : (Cond.fieldLink RX5 15 "FoldRule$Strip" "links" "I").before args s = true := hts _ (by decide +kernel)
theorem k_X5_makeEmpty_f19 {s : State} {args : Array Value} (hts : ∀ w ∈ wsX5_makeEmpty, w.before args s = true) : (Cond.fieldLink RX5 19 "FoldRule$Strip" "folded" "I").before args s = true := hts _ (by decide +kernel)
theorem k_X5_makeEmpty_f22 {s : State} {args : Array Value} (hts : ∀ w ∈ wsX5_makeEmpty, w.before args s = true) : (Cond.fieldLink RX5 22 "FoldRule$Strip" "stiff" "I").before args s = true := hts _ (by decide +kernel)
set_option maxHeartbeats 4000000 in
set_option maxRecDepth 100000 in
theorem c_X5_makeEmpty {l : Launch} {D : va_G} {Y : ClassId × ClassId × ClassId} {q q_lengths : Nat} {g_links g_folded g_stiff : Int32} {Q : Int32 → Int32 → Int32 → Prop} (h : wp_X5_makeEmpty g_links g_folded g_stiff Q) (sz : Nat) : MtV l yX5_makeEmpty wsX5_makeEmpty rm_X5_makeEmpty [.ref q] D Y (w_X5_makeEmpty Y q q_lengths g_links g_folded g_stiff) (fun (u : Int32 × Int32 × Int32) => Q u.1 u.2.1 u.2.2) (fun u : Int32 × Int32 × Int32 => (w_X5_makeEmpty Y q q_lengths u.1 u.2.1 u.2.2)) sz := by
  refine ct_v (cc := cX5_makeEmpty) (nL := 1) (ret := none) (by decide) rfl (Nat.le_of_ble_eq_true rfl) ?_ sz
  intro p e s m below meth c A ls C hK hA hP hD hS hl
  obtain ⟨⟨hx, hb, hml, hown, hts⟩, hr, hlocks, hN⟩ := id C
  have hown : s.vm.findClass RX5 = some m.cls := hown
  have hl : lv_has ls 1 [(0, .ref q)] := hl
  unfold wp_X5_makeEmpty at h
  refine lv_aload_n hx hb dX5_makeEmpty_0 rfl (lv_at hl 0 rfl) ?_
  refine lv_iconst (v := 0) hx hb dX5_makeEmpty_1 (by decide) ?_
  refine va_put (D := D) (ci := 5) (v := .int (0 : Int32)) (ty := .int) (C := RX5) (T := TX5) (N := 4) hx hb hts in_X5_makeEmpty_X5 tyX5 tyX5_ok nmX5 hown hK hP hD hS 0 rfl rfl 1 (by decide) (k_X5_makeEmpty_f15 hts) (fun _ h9 => h9) rfl (by decide +kernel) rfl rfl (Nat.le_of_ble_eq_true rfl) dX5_makeEmpty_2 (fun H locs hP hD hS => ?_)
  have hP : va_P D vwCl (w_X5_makeEmpty Y q q_lengths (0 : Int32) g_folded g_stiff) H := hP
  have hD : va_D A (w_X5_makeEmpty Y q q_lengths (0 : Int32) g_folded g_stiff) := hD
  refine lv_aload_n hx hb dX5_makeEmpty_5 rfl (lv_at hl 0 rfl) ?_
  refine lv_iconst (v := 0) hx hb dX5_makeEmpty_6 (by decide) ?_
  refine va_put (D := D) (ci := 5) (v := .int (0 : Int32)) (ty := .int) (C := RX5) (T := TX5) (N := 4) hx hb hts in_X5_makeEmpty_X5 tyX5 tyX5_ok nmX5 hown hK hP hD hS 0 rfl rfl 2 (by decide) (k_X5_makeEmpty_f19 hts) (fun _ h9 => h9) rfl (by decide +kernel) rfl rfl (Nat.le_of_ble_eq_true rfl) dX5_makeEmpty_7 (fun H locs hP hD hS => ?_)
  have hP : va_P D vwCl (w_X5_makeEmpty Y q q_lengths (0 : Int32) (0 : Int32) g_stiff) H := hP
  have hD : va_D A (w_X5_makeEmpty Y q q_lengths (0 : Int32) (0 : Int32) g_stiff) := hD
  refine lv_aload_n hx hb dX5_makeEmpty_10 rfl (lv_at hl 0 rfl) ?_
  refine lv_iconst (v := 0) hx hb dX5_makeEmpty_11 (by decide) ?_
  refine va_put (D := D) (ci := 5) (v := .int (0 : Int32)) (ty := .int) (C := RX5) (T := TX5) (N := 4) hx hb hts in_X5_makeEmpty_X5 tyX5 tyX5_ok nmX5 hown hK hP hD hS 0 rfl rfl 3 (by decide) (k_X5_makeEmpty_f22 hts) (fun _ h9 => h9) rfl (by decide +kernel) rfl rfl (Nat.le_of_ble_eq_true rfl) dX5_makeEmpty_12 (fun H locs hP hD hS => ?_)
  have hP : va_P D vwCl (w_X5_makeEmpty Y q q_lengths (0 : Int32) (0 : Int32) (0 : Int32)) H := hP
  have hD : va_D A (w_X5_makeEmpty Y q q_lengths (0 : Int32) (0 : Int32) (0 : Int32)) := hD
  exact ret_v ((0 : Int32), (0 : Int32), (0 : Int32)) hx hb hr hlocks hK hP hD hS h dX5_makeEmpty_15
abbrev rm_X5_isFull : Room := { frames := 0, cells := 0, slots := 0, locals := 0 }
theorem in_X5_isFull_X5 : ∀ w ∈ wsX50, w ∈ wsX5_isFull := fun _ h => List.mem_cons_of_mem _ (List.mem_append_right _ h)
theorem k_X5_isFull_f15 {s : State} {args : Array Value} (hts : ∀ w ∈ wsX5_isFull, w.before args s = true) : (Cond.fieldLink RX5 15 "FoldRule$Strip" "links" "I").before args s = true := hts _ (by decide +kernel)
set_option maxHeartbeats 4000000 in
set_option maxRecDepth 100000 in
theorem c_X5_isFull {l : Launch} {D : va_G} {Y : ClassId × ClassId × ClassId} {q q_lengths : Nat} {g_links g_folded g_stiff : Int32} {Q : Int32 → Prop} (h : wp_X5_isFull g_links Q) (sz : Nat) : MtI l yX5_isFull wsX5_isFull rm_X5_isFull [.ref q] D Y (w_X5_isFull Y q q_lengths g_links g_folded g_stiff) (fun r (_ : Unit) => Q r) (fun _ : Unit => (w_X5_isFull Y q q_lengths g_links g_folded g_stiff)) sz := by
  refine ct_i (cc := cX5_isFull) (nL := 1) (ret := (some .boolean)) (by decide) rfl (Nat.le_of_ble_eq_true rfl) ?_ sz
  intro p e s m below meth c A ls C hK hA hP hD hS hl
  obtain ⟨⟨hx, hb, hml, hown, hts⟩, hr, hlocks, hN⟩ := id C
  have hown : s.vm.findClass RX5 = some m.cls := hown
  have hl : lv_has ls 1 [(0, .ref q)] := hl
  unfold wp_X5_isFull at h
  refine lv_aload_n hx hb dX5_isFull_0 rfl (lv_at hl 0 rfl) ?_
  refine va_get (D := D) (ci := 5) (v := .int g_links) (C := RX5) (T := TX5) (N := 4) hx hb hts in_X5_isFull_X5 hown hK hP 0 rfl rfl 1 (by decide) (k_X5_isFull_f15 hts) (fun _ h9 => h9) rfl dX5_isFull_1 ?_
  refine lv_bipush (v := 9) hx hb dX5_isFull_4 (by decide) ?_
  refine lv_icmp_lt (tgt := 13) hx hb dX5_isFull_6 (by decide) (fun c1 => ?_) (fun c1 => ?_)
  · have h := h.1 c1
    refine lv_iconst (v := 0) hx hb dX5_isFull_13 (by decide) ?_
    exact ret_z () hx hb hr hlocks hK hP hD hS (Or.inl rfl) h dX5_isFull_14
  · have h := h.2 c1
    refine lv_iconst (v := 1) hx hb dX5_isFull_9 (by decide) ?_
    refine lv_goto (tgt := 14) hx hb dX5_isFull_10 (by decide) ?_
    exact ret_z () hx hb hr hlocks hK hP hD hS (Or.inr rfl) h dX5_isFull_14
abbrev rm_X5_addLink : Room := { frames := 1, cells := 0, slots := 0, locals := 20 }
theorem in_X5_addLink_X5 : ∀ w ∈ wsX50, w ∈ wsX5_addLink := fun _ h => List.mem_cons_of_mem _ (List.mem_append_right _ h)
theorem k_X5_addLink_f9 {s : State} {args : Array Value} (hts : ∀ w ∈ wsX5_addLink, w.before args s = true) : (Cond.fieldLink RX5 9 "FoldRule$Strip" "lengths" "[I").before args s = true := hts _ (by decide +kernel)
theorem k_X5_addLink_f15 {s : State} {args : Array Value} (hts : ∀ w ∈ wsX5_addLink, w.before args s = true) : (Cond.fieldLink RX5 15 "FoldRule$Strip" "links" "I").before args s = true := hts _ (by decide +kernel)
set_option maxHeartbeats 4000000 in
set_option maxRecDepth 100000 in
theorem c_X5_addLink {l : Launch} {D : va_G} {Y : ClassId × ClassId × ClassId} {q q_lengths : Nat} {g_links g_folded g_stiff : Int32} {g_lengths : Nat → Int32} {x1 : Int32} {Q : Int32 → (Nat → Int32) → Prop} (h : wp_X5_addLink g_links g_lengths x1 Q) (sz : Nat) : MtV l yX5_addLink wsX5_addLink rm_X5_addLink [.ref q, .int x1] D Y (w_X5_addLink Y q q_lengths g_links g_folded g_stiff g_lengths) (fun (u : Int32 × (Nat → Int32)) => Q u.1 u.2) (fun u : Int32 × (Nat → Int32) => (w_X5_addLink Y q q_lengths u.1 g_folded g_stiff u.2)) sz := by
  refine ct_v (cc := cX5_addLink) (nL := 2) (ret := none) (by decide) rfl (Nat.le_of_ble_eq_true rfl) ?_ sz
  intro p e s m below meth c A ls C hK hA hP hD hS hl
  obtain ⟨⟨hx, hb, hml, hown, hts⟩, hr, hlocks, hN⟩ := id C
  have hown : s.vm.findClass RX5 = some m.cls := hown
  have hl : lv_has ls 2 [(0, .ref q), (1, .int x1)] := hl
  unfold wp_X5_addLink at h
  refine lv_aload_n hx hb dX5_addLink_0 rfl (lv_at hl 0 rfl) ?_
  have hp : Pt (w_X5_addLink Y q q_lengths g_links g_folded g_stiff g_lengths) (w_X5_isFull Y q q_lengths g_links g_folded g_stiff) [0] := ⟨rfl, by decide +kernel⟩
  refine go_i hp hP hD hS hA (fun _ => rfl) (va_runV (As := []) (rest := []) ⟨hx, hb, hml, hown, hts⟩ (c_X5_isFull h _) (cwV 0 hts gX5_addLink_X5_isFull rfl rfl rfl (by decide +kernel) ⟨Nat.le_of_ble_eq_true rfl, Nat.le_of_ble_eq_true rfl⟩) (pre_V (b := q) (q0 := 0) (ci := 5) (q := (RX5, TX5, 4)) hp hK hN hP hD rfl rfl) rfl rfl hl.1 rfl (lv_room (Nat.le_of_ble_eq_true rfl)) dX5_addLink_1 ⟨Nat.le_of_ble_eq_true rfl, Nat.le_of_ble_eq_true rfl⟩) (fun r3 u H locs h hP hD hS => ?_)
  try dsimp only at h
  have hP : va_P D vwCl (w_X5_addLink Y q q_lengths g_links g_folded g_stiff g_lengths) H := hP
  have hD : va_D A (w_X5_addLink Y q q_lengths g_links g_folded g_stiff g_lengths) := hD
  refine lv_if_ne (tgt := 27) hx hb dX5_addLink_4 (by decide) (fun c4 => ?_) (fun c4 => ?_)
  · have h := h.1 c4
    exact ret_v (g_links, g_lengths) hx hb hr hlocks hK hP hD hS h dX5_addLink_27
  · have h := h.2 c4
    refine lv_aload_n hx hb dX5_addLink_7 rfl (lv_at hl 0 rfl) ?_
    refine va_get (D := D) (ci := 5) (v := .ref q_lengths) (C := RX5) (T := TX5) (N := 4) hx hb hts in_X5_addLink_X5 hown hK hP 0 rfl rfl 0 (by decide) (k_X5_addLink_f9 hts) (fun _ h9 => h9) rfl dX5_addLink_8 ?_
    refine lv_aload_n hx hb dX5_addLink_11 rfl (lv_at hl 0 rfl) ?_
    refine va_get (D := D) (ci := 5) (v := .int g_links) (C := RX5) (T := TX5) (N := 4) hx hb hts in_X5_addLink_X5 hown hK hP 0 rfl rfl 1 (by decide) (k_X5_addLink_f15 hts) (fun _ h9 => h9) rfl dX5_addLink_12 ?_
    refine lv_iload_n hx hb dX5_addLink_15 rfl (lv_at hl 1 rfl) ?_
    obtain ⟨hin, h⟩ := h
    refine va_iast hx hb hK hP hD hS 1 0 rfl rfl hin dX5_addLink_16 (fun H locs hP hD hS => ?_)
    have hP : va_P D vwCl (w_X5_addLink Y q q_lengths g_links g_folded g_stiff (upd g_lengths (g_links).toNatClampNeg x1)) H := hP
    have hD : va_D A (w_X5_addLink Y q q_lengths g_links g_folded g_stiff (upd g_lengths (g_links).toNatClampNeg x1)) := hD
    refine lv_aload_n hx hb dX5_addLink_17 rfl (lv_at hl 0 rfl) ?_
    refine lv_dup hx hb dX5_addLink_18 rfl ?_
    refine va_get (D := D) (ci := 5) (v := .int g_links) (C := RX5) (T := TX5) (N := 4) hx hb hts in_X5_addLink_X5 hown hK hP 0 rfl rfl 1 (by decide) (k_X5_addLink_f15 hts) (fun _ h9 => h9) rfl dX5_addLink_19 ?_
    refine lv_iconst (v := 1) hx hb dX5_addLink_22 (by decide) ?_
    refine lv_iadd hx hb dX5_addLink_23 ?_
    refine lv_topi (fun z5 ez5 => ?_)
    have h := h z5 ez5
    refine va_put (D := D) (ci := 5) (v := .int z5) (ty := .int) (C := RX5) (T := TX5) (N := 4) hx hb hts in_X5_addLink_X5 tyX5 tyX5_ok nmX5 hown hK hP hD hS 0 rfl rfl 1 (by decide) (k_X5_addLink_f15 hts) (fun _ h9 => h9) rfl (by decide +kernel) rfl rfl (Nat.le_of_ble_eq_true rfl) dX5_addLink_24 (fun H locs hP hD hS => ?_)
    have hP : va_P D vwCl (w_X5_addLink Y q q_lengths z5 g_folded g_stiff (upd g_lengths (g_links).toNatClampNeg x1)) H := hP
    have hD : va_D A (w_X5_addLink Y q q_lengths z5 g_folded g_stiff (upd g_lengths (g_links).toNatClampNeg x1)) := hD
    exact ret_v (z5, (upd g_lengths (g_links).toNatClampNeg x1)) hx hb hr hlocks hK hP hD hS h dX5_addLink_27
abbrev rm_X5_hasJoint : Room := { frames := 2, cells := 0, slots := 0, locals := 33 }
set_option maxHeartbeats 4000000 in
set_option maxRecDepth 100000 in
theorem c_X5_hasJoint {l : Launch} {D : va_G} {Y : ClassId × ClassId × ClassId} {q q_lengths : Nat} {g_links g_folded g_stiff x1 : Int32} {Q : Int32 → Prop} (h : wp_X5_hasJoint g_links x1 Q) (sz : Nat) : MtI l yX5_hasJoint wsX5_hasJoint rm_X5_hasJoint [.ref q, .int x1] D Y (w_X5_hasJoint Y q q_lengths g_links g_folded g_stiff) (fun r (_ : Unit) => Q r) (fun _ : Unit => (w_X5_hasJoint Y q q_lengths g_links g_folded g_stiff)) sz := by
  refine ct_i (cc := cX5_hasJoint) (nL := 2) (ret := (some .boolean)) (by decide) rfl (Nat.le_of_ble_eq_true rfl) ?_ sz
  intro p e s m below meth c A ls C hK hA hP hD hS hl
  obtain ⟨⟨hx, hb, hml, hown, hts⟩, hr, hlocks, hN⟩ := id C
  have hown : s.vm.findClass RX5 = some m.cls := hown
  have hl : lv_has ls 2 [(0, .ref q), (1, .int x1)] := hl
  unfold wp_X5_hasJoint at h
  refine lv_iload_n hx hb dX5_hasJoint_0 rfl (lv_at hl 1 rfl) ?_
  refine lv_if_lt (tgt := 16) hx hb dX5_hasJoint_1 (by decide) (fun c2 => ?_) (fun c2 => ?_)
  · have h := h.1 c2
    refine lv_iconst (v := 0) hx hb dX5_hasJoint_16 (by decide) ?_
    exact ret_z () hx hb hr hlocks hK hP hD hS (Or.inl rfl) h dX5_hasJoint_17
  · have h := h.2 c2
    refine lv_iload_n hx hb dX5_hasJoint_4 rfl (lv_at hl 1 rfl) ?_
    refine lv_aload_n hx hb dX5_hasJoint_5 rfl (lv_at hl 0 rfl) ?_
    have hp : Pt (w_X5_hasJoint Y q q_lengths g_links g_folded g_stiff) (w_X5_joints Y q q_lengths g_links g_folded g_stiff) [0] := ⟨rfl, by decide +kernel⟩
    refine go_i hp hP hD hS hA (fun _ => rfl) (va_runV (As := []) (rest := [.int x1]) ⟨hx, hb, hml, hown, hts⟩ (c_X5_joints h _) (cwV 0 hts gX5_hasJoint_X5_joints rfl rfl rfl (by decide +kernel) ⟨Nat.le_of_ble_eq_true rfl, Nat.le_of_ble_eq_true rfl⟩) (pre_V (b := q) (q0 := 0) (ci := 5) (q := (RX5, TX5, 4)) hp hK hN hP hD rfl rfl) rfl rfl hl.1 rfl (lv_room (Nat.le_of_ble_eq_true rfl)) dX5_hasJoint_6 ⟨Nat.le_of_ble_eq_true rfl, Nat.le_of_ble_eq_true rfl⟩) (fun r3 u H locs h hP hD hS => ?_)
    try dsimp only at h
    have hP : va_P D vwCl (w_X5_hasJoint Y q q_lengths g_links g_folded g_stiff) H := hP
    have hD : va_D A (w_X5_hasJoint Y q q_lengths g_links g_folded g_stiff) := hD
    refine lv_icmp_ge (tgt := 16) hx hb dX5_hasJoint_9 (by decide) (fun c4 => ?_) (fun c4 => ?_)
    · have h := h.1 c4
      refine lv_iconst (v := 0) hx hb dX5_hasJoint_16 (by decide) ?_
      exact ret_z () hx hb hr hlocks hK hP hD hS (Or.inl rfl) h dX5_hasJoint_17
    · have h := h.2 c4
      refine lv_iconst (v := 1) hx hb dX5_hasJoint_12 (by decide) ?_
      refine lv_goto (tgt := 17) hx hb dX5_hasJoint_13 (by decide) ?_
      exact ret_z () hx hb hr hlocks hK hP hD hS (Or.inr rfl) h dX5_hasJoint_17
abbrev rm_X5_file : Room := { frames := 1, cells := 0, slots := 0, locals := 21 }
theorem in_X5_file_X5 : ∀ w ∈ wsX50, w ∈ wsX5_file := fun _ h => List.mem_cons_of_mem _ (List.mem_append_right _ h)
theorem k_X5_file_f9 {s : State} {args : Array Value} (hts : ∀ w ∈ wsX5_file, w.before args s = true) : (Cond.fieldLink RX5 9 "FoldRule$Strip" "lengths" "[I").before args s = true := hts _ (by decide +kernel)
set_option maxHeartbeats 4000000 in
set_option maxRecDepth 100000 in
theorem c_X5_file {l : Launch} {D : va_G} {Y : ClassId × ClassId × ClassId} {q q_lengths : Nat} {g_links g_folded g_stiff : Int32} {g_lengths : Nat → Int32} {x1 x2 : Int32} {Q : (Nat → Int32) → Prop} (h : wp_X5_file g_links g_lengths x1 x2 Q) (sz : Nat) : MtV l yX5_file wsX5_file rm_X5_file [.ref q, .int x1, .int x2] D Y (w_X5_file Y q q_lengths g_links g_folded g_stiff g_lengths) (fun (u : (Nat → Int32)) => Q u) (fun u : (Nat → Int32) => (w_X5_file Y q q_lengths g_links g_folded g_stiff u)) sz := by
  refine ct_v (cc := cX5_file) (nL := 3) (ret := none) (by decide) rfl (Nat.le_of_ble_eq_true rfl) ?_ sz
  intro p e s m below meth c A ls C hK hA hP hD hS hl
  obtain ⟨⟨hx, hb, hml, hown, hts⟩, hr, hlocks, hN⟩ := id C
  have hown : s.vm.findClass RX5 = some m.cls := hown
  have hl : lv_has ls 3 [(0, .ref q), (1, .int x1), (2, .int x2)] := hl
  unfold wp_X5_file at h
  refine lv_aload_n hx hb dX5_file_0 rfl (lv_at hl 0 rfl) ?_
  refine lv_iload_n hx hb dX5_file_1 rfl (lv_at hl 1 rfl) ?_
  have hp : Pt (w_X5_file Y q q_lengths g_links g_folded g_stiff g_lengths) (w_X5_hasLink Y q q_lengths g_links g_folded g_stiff) [0] := ⟨rfl, by decide +kernel⟩
  refine go_i hp hP hD hS hA (fun _ => rfl) (va_runV (As := [.int x1]) (rest := []) ⟨hx, hb, hml, hown, hts⟩ (c_X5_hasLink h _) (cwV 1 hts gX5_file_X5_hasLink rfl rfl rfl (by decide +kernel) ⟨Nat.le_of_ble_eq_true rfl, Nat.le_of_ble_eq_true rfl⟩) (pre_V (b := q) (q0 := 0) (ci := 5) (q := (RX5, TX5, 4)) hp hK hN hP hD rfl rfl) rfl rfl hl.1 rfl (lv_room (Nat.le_of_ble_eq_true rfl)) dX5_file_2 ⟨Nat.le_of_ble_eq_true rfl, Nat.le_of_ble_eq_true rfl⟩) (fun r3 u H locs h hP hD hS => ?_)
  try dsimp only at h
  have hP : va_P D vwCl (w_X5_file Y q q_lengths g_links g_folded g_stiff g_lengths) H := hP
  have hD : va_D A (w_X5_file Y q q_lengths g_links g_folded g_stiff g_lengths) := hD
  refine lv_if_eq (tgt := 18) hx hb dX5_file_5 (by decide) (fun c4 => ?_) (fun c4 => ?_)
  · have h := h.1 c4
    exact ret_v (g_lengths) hx hb hr hlocks hK hP hD hS h dX5_file_18
  · have h := h.2 c4
    refine lv_aload_n hx hb dX5_file_8 rfl (lv_at hl 0 rfl) ?_
    refine va_get (D := D) (ci := 5) (v := .ref q_lengths) (C := RX5) (T := TX5) (N := 4) hx hb hts in_X5_file_X5 hown hK hP 0 rfl rfl 0 (by decide) (k_X5_file_f9 hts) (fun _ h9 => h9) rfl dX5_file_9 ?_
    refine lv_iload_n hx hb dX5_file_12 rfl (lv_at hl 1 rfl) ?_
    refine lv_dup2_11 hx hb dX5_file_13 rfl rfl ?_
    obtain ⟨hin, h⟩ := h
    refine va_iald hx hb hK hP 1 0 rfl rfl hin dX5_file_14 ?_
    refine lv_iload_n hx hb dX5_file_15 rfl (lv_at hl 2 rfl) ?_
    refine lv_isub hx hb dX5_file_16 ?_
    refine lv_topi (fun z5 ez5 => ?_)
    have h := h z5 ez5
    obtain ⟨hin, h⟩ := h
    refine va_iast hx hb hK hP hD hS 1 0 rfl rfl hin dX5_file_17 (fun H locs hP hD hS => ?_)
    have hP : va_P D vwCl (w_X5_file Y q q_lengths g_links g_folded g_stiff (upd g_lengths (x1).toNatClampNeg z5)) H := hP
    have hD : va_D A (w_X5_file Y q q_lengths g_links g_folded g_stiff (upd g_lengths (x1).toNatClampNeg z5)) := hD
    exact ret_v ((upd g_lengths (x1).toNatClampNeg z5)) hx hb hr hlocks hK hP hD hS h dX5_file_18
abbrev rm_X5_bend : Room := { frames := 0, cells := 0, slots := 0, locals := 0 }
theorem in_X5_bend_X5 : ∀ w ∈ wsX50, w ∈ wsX5_bend := fun _ h => List.mem_cons_of_mem _ (List.mem_append_right _ h)
theorem k_X5_bend_f19 {s : State} {args : Array Value} (hts : ∀ w ∈ wsX5_bend, w.before args s = true) : (Cond.fieldLink RX5 19 "FoldRule$Strip" "folded" "I").before args s = true := hts _ (by decide +kernel)
set_option maxHeartbeats 4000000 in
set_option maxRecDepth 100000 in
theorem c_X5_bend {l : Launch} {D : va_G} {Y : ClassId × ClassId × ClassId} {q q_lengths : Nat} {g_links g_folded g_stiff x1 : Int32} {Q : Int32 → Prop} (h : wp_X5_bend g_folded x1 Q) (sz : Nat) : MtV l yX5_bend wsX5_bend rm_X5_bend [.ref q, .int x1] D Y (w_X5_bend Y q q_lengths g_links g_folded g_stiff) (fun (u : Int32) => Q u) (fun u : Int32 => (w_X5_bend Y q q_lengths g_links u g_stiff)) sz := by
  refine ct_v (cc := cX5_bend) (nL := 2) (ret := none) (by decide) rfl (Nat.le_of_ble_eq_true rfl) ?_ sz
  intro p e s m below meth c A ls C hK hA hP hD hS hl
  obtain ⟨⟨hx, hb, hml, hown, hts⟩, hr, hlocks, hN⟩ := id C
  have hown : s.vm.findClass RX5 = some m.cls := hown
  have hl : lv_has ls 2 [(0, .ref q), (1, .int x1)] := hl
  unfold wp_X5_bend at h
  refine lv_aload_n hx hb dX5_bend_0 rfl (lv_at hl 0 rfl) ?_
  refine lv_dup hx hb dX5_bend_1 rfl ?_
  refine va_get (D := D) (ci := 5) (v := .int g_folded) (C := RX5) (T := TX5) (N := 4) hx hb hts in_X5_bend_X5 hown hK hP 0 rfl rfl 2 (by decide) (k_X5_bend_f19 hts) (fun _ h9 => h9) rfl dX5_bend_2 ?_
  refine lv_iconst (v := 1) hx hb dX5_bend_5 (by decide) ?_
  refine lv_iload_n hx hb dX5_bend_6 rfl (lv_at hl 1 rfl) ?_
  refine lv_ishl hx hb dX5_bend_7 ?_
  refine lv_ixor hx hb dX5_bend_8 ?_
  refine lv_topi (fun z2 ez2 => ?_)
  have h := h z2 ez2
  refine va_put (D := D) (ci := 5) (v := .int z2) (ty := .int) (C := RX5) (T := TX5) (N := 4) hx hb hts in_X5_bend_X5 tyX5 tyX5_ok nmX5 hown hK hP hD hS 0 rfl rfl 2 (by decide) (k_X5_bend_f19 hts) (fun _ h9 => h9) rfl (by decide +kernel) rfl rfl (Nat.le_of_ble_eq_true rfl) dX5_bend_9 (fun H locs hP hD hS => ?_)
  have hP : va_P D vwCl (w_X5_bend Y q q_lengths g_links z2 g_stiff) H := hP
  have hD : va_D A (w_X5_bend Y q q_lengths g_links z2 g_stiff) := hD
  exact ret_v (z2) hx hb hr hlocks hK hP hD hS h dX5_bend_12
abbrev rm_X5_inOtherOrder : Room := { frames := 2, cells := 0, slots := 0, locals := 33 }
set_option maxHeartbeats 4000000 in
set_option maxRecDepth 100000 in
theorem L_X5_inOtherOrder_4 {p : Program} {l : Launch} {e : Env} {s : State} {m : MethodId} {args : Array Value} {below : List Frame} {meth : Method} {c : Code} {D : va_G} {Y : ClassId × ClassId × ClassId} {A : Nat → Prop} {q q_lengths : Nat} {g_links g_folded g_stiff x1 : Int32} {Q : Int32 → Prop} (C : Ctx p s m args meth c cX5_inOtherOrder 4 (some .int) wsX5_inOtherOrder RX5) (hK : va_K D vwCl (tyS Y) s) (hA : ∀ q, s.heap.size ≤ q → A q) : ∀ (n : Nat) (x2 x3 : Int32), itr2 (B_X5_inOtherOrder_4 g_links x1 Q) n x2 x3 → ∀ (H : Heap) (locs : List Loc) (ls : Array Slot), va_P D vwCl (w_X5_inOtherOrder Y q q_lengths g_links g_folded g_stiff) H → va_D A (w_X5_inOtherOrder Y q q_lengths g_links g_folded g_stiff) → va_S A s.heap H locs → lv_has ls 4 [(0, .ref q), (1, .int x1), (2, .int x2), (3, .int x3)] → W p l e rm_X5_inOtherOrder s m args below meth c H locs 0 0 (QI below args s D Y A (fun r (_ : Unit) => Q r) (fun _ : Unit => (w_X5_inOtherOrder Y q q_lengths g_links g_folded g_stiff))) (F0 m 4 ls []) := by
  intro n
  induction n with
  | zero => intro x2 x3 h; exact False.elim h
  | succ n ih =>
    intro x2 x3 h H locs ls hP hD hS hl
    obtain ⟨⟨hx, hb, hml, hown, hts⟩, hr, hlocks, hN⟩ := id C
    have h : B_X5_inOtherOrder_4 g_links x1 Q (itr2 (B_X5_inOtherOrder_4 g_links x1 Q) n) x2 x3 := h
    unfold B_X5_inOtherOrder_4 at h
    refine lv_iload_n hx hb dX5_inOtherOrder_4 rfl (lv_at hl 3 rfl) ?_
    refine lv_aload_n hx hb dX5_inOtherOrder_5 rfl (lv_at hl 0 rfl) ?_
    have hp : Pt (w_X5_inOtherOrder Y q q_lengths g_links g_folded g_stiff) (w_X5_joints Y q q_lengths g_links g_folded g_stiff) [0] := ⟨rfl, by decide +kernel⟩
    refine go_i hp hP hD hS hA (fun _ => rfl) (va_runV (As := []) (rest := [.int x3]) ⟨hx, hb, hml, hown, hts⟩ (c_X5_joints h _) (cwV 0 hts gX5_inOtherOrder_X5_joints rfl rfl rfl (by decide +kernel) ⟨Nat.le_of_ble_eq_true rfl, Nat.le_of_ble_eq_true rfl⟩) (pre_V (b := q) (q0 := 0) (ci := 5) (q := (RX5, TX5, 4)) hp hK hN hP hD rfl rfl) rfl rfl hl.1 rfl (lv_room (Nat.le_of_ble_eq_true rfl)) dX5_inOtherOrder_6 ⟨Nat.le_of_ble_eq_true rfl, Nat.le_of_ble_eq_true rfl⟩) (fun r4 u H locs h hP hD hS => ?_)
    try dsimp only at h
    have hP : va_P D vwCl (w_X5_inOtherOrder Y q q_lengths g_links g_folded g_stiff) H := hP
    have hD : va_D A (w_X5_inOtherOrder Y q q_lengths g_links g_folded g_stiff) := hD
    refine lv_icmp_ge (tgt := 28) hx hb dX5_inOtherOrder_9 (by decide) (fun c5 => ?_) (fun c5 => ?_)
    · have h := h.1 c5
      refine lv_iload_n hx hb dX5_inOtherOrder_28 rfl (lv_at hl 2 rfl) ?_
      exact ret_i () hx hb hr hlocks hK hP hD hS h dX5_inOtherOrder_29
    · have h := h.2 c5
      refine lv_iload_n hx hb dX5_inOtherOrder_12 rfl (lv_at hl 2 rfl) ?_
      refine lv_iconst (v := 1) hx hb dX5_inOtherOrder_13 (by decide) ?_
      refine lv_ishl hx hb dX5_inOtherOrder_14 ?_
      refine lv_iload_n hx hb dX5_inOtherOrder_15 rfl (lv_at hl 1 rfl) ?_
      refine lv_iload_n hx hb dX5_inOtherOrder_16 rfl (lv_at hl 3 rfl) ?_
      refine lv_ishr hx hb dX5_inOtherOrder_17 ?_
      refine lv_iconst (v := 1) hx hb dX5_inOtherOrder_18 (by decide) ?_
      refine lv_iand hx hb dX5_inOtherOrder_19 ?_
      refine lv_ior hx hb dX5_inOtherOrder_20 ?_
      refine lv_topi (fun z6 ez6 => ?_)
      have h := h z6 ez6
      refine lv_istore_n (lv' := [(2, .int z6), (0, .ref q), (1, .int x1), (3, .int x3)]) hx hb dX5_inOtherOrder_21 rfl hl (by decide) rfl (fun ls hl => ?_)
      obtain ⟨z7, ez7⟩ : ∃ y : Int32, y = (x3 + (1 : Int32)) := ⟨_, rfl⟩
      have h := h z7 ez7
      refine lv_iinc (v := z7) (lv' := [(3, .int z7), (2, .int z6), (0, .ref q), (1, .int x1)]) hx hb dX5_inOtherOrder_22 hl (k := 3) rfl (by rw [ez7]; rfl) (by decide) rfl (fun ls hl => ?_)
      refine lv_goto (tgt := 4) hx hb dX5_inOtherOrder_25 (by decide) ?_
      exact ih _ _ h _ _ _ hP hD hS (lv_sub hl [2, 3, 1, 0] rfl)
set_option maxHeartbeats 4000000 in
set_option maxRecDepth 100000 in
theorem c_X5_inOtherOrder {l : Launch} {D : va_G} {Y : ClassId × ClassId × ClassId} {q q_lengths : Nat} {g_links g_folded g_stiff x1 : Int32} {Q : Int32 → Prop} (h : wp_X5_inOtherOrder g_links x1 Q) (sz : Nat) : MtI l yX5_inOtherOrder wsX5_inOtherOrder rm_X5_inOtherOrder [.ref q, .int x1] D Y (w_X5_inOtherOrder Y q q_lengths g_links g_folded g_stiff) (fun r (_ : Unit) => Q r) (fun _ : Unit => (w_X5_inOtherOrder Y q q_lengths g_links g_folded g_stiff)) sz := by
  refine ct_i (cc := cX5_inOtherOrder) (nL := 4) (ret := (some .int)) (by decide) rfl (Nat.le_of_ble_eq_true rfl) ?_ sz
  intro p e s m below meth c A ls C hK hA hP hD hS hl
  obtain ⟨⟨hx, hb, hml, hown, hts⟩, hr, hlocks, hN⟩ := id C
  have hown : s.vm.findClass RX5 = some m.cls := hown
  have hl : lv_has ls 4 [(0, .ref q), (1, .int x1)] := hl
  unfold wp_X5_inOtherOrder at h
  refine lv_iconst (v := 0) hx hb dX5_inOtherOrder_0 (by decide) ?_
  refine lv_istore_n (lv' := [(2, .int (0 : Int32)), (0, .ref q), (1, .int x1)]) hx hb dX5_inOtherOrder_1 rfl hl (by decide) rfl (fun ls hl => ?_)
  refine lv_iconst (v := 0) hx hb dX5_inOtherOrder_2 (by decide) ?_
  refine lv_istore_n (lv' := [(3, .int (0 : Int32)), (2, .int (0 : Int32)), (0, .ref q), (1, .int x1)]) hx hb dX5_inOtherOrder_3 rfl hl (by decide) rfl (fun ls hl => ?_)
  obtain ⟨n, h⟩ := h
  exact L_X5_inOtherOrder_4 C hK hA  n _ _ h _ _ _ hP hD hS (lv_sub hl [2, 3, 1, 0] rfl)
abbrev rm_X5_turnAbout : Room := { frames := 3, cells := 0, slots := 0, locals := 56 }
theorem in_X5_turnAbout_X5 : ∀ w ∈ wsX50, w ∈ wsX5_turnAbout := fun _ h => List.mem_cons_of_mem _ (List.mem_append_right _ h)
theorem k_X5_turnAbout_f19 {s : State} {args : Array Value} (hts : ∀ w ∈ wsX5_turnAbout, w.before args s = true) : (Cond.fieldLink RX5 19 "FoldRule$Strip" "folded" "I").before args s = true := hts _ (by decide +kernel)
theorem k_X5_turnAbout_f22 {s : State} {args : Array Value} (hts : ∀ w ∈ wsX5_turnAbout, w.before args s = true) : (Cond.fieldLink RX5 22 "FoldRule$Strip" "stiff" "I").before args s = true := hts _ (by decide +kernel)
theorem k_X5_turnAbout_f9 {s : State} {args : Array Value} (hts : ∀ w ∈ wsX5_turnAbout, w.before args s = true) : (Cond.fieldLink RX5 9 "FoldRule$Strip" "lengths" "[I").before args s = true := hts _ (by decide +kernel)
theorem k_X5_turnAbout_f15 {s : State} {args : Array Value} (hts : ∀ w ∈ wsX5_turnAbout, w.before args s = true) : (Cond.fieldLink RX5 15 "FoldRule$Strip" "links" "I").before args s = true := hts _ (by decide +kernel)
set_option maxHeartbeats 4000000 in
set_option maxRecDepth 100000 in
theorem L_X5_turnAbout_9 {p : Program} {l : Launch} {e : Env} {s : State} {m : MethodId} {args : Array Value} {below : List Frame} {meth : Method} {c : Code} {D : va_G} {Y : ClassId × ClassId × ClassId} {A : Nat → Prop} {q q_lengths : Nat} {g_links g_folded g_stiff : Int32} {Q : Int32 → Int32 → (Nat → Int32) → Prop} (C : Ctx p s m args meth c cX5_turnAbout 4 none wsX5_turnAbout RX5) (hK : va_K D vwCl (tyS Y) s) (hA : ∀ q, s.heap.size ≤ q → A q) : ∀ (n : Nat) (x1 x2 : Int32) (g_lengths : Nat → Int32), itr3 (B_X5_turnAbout_9 g_links g_folded g_stiff Q) n x1 x2 g_lengths → ∀ (H : Heap) (locs : List Loc) (ls : Array Slot), va_P D vwCl (w_X5_turnAbout Y q q_lengths g_links g_folded g_stiff g_lengths) H → va_D A (w_X5_turnAbout Y q q_lengths g_links g_folded g_stiff g_lengths) → va_S A s.heap H locs → lv_has ls 4 [(0, .ref q), (1, .int x1), (2, .int x2)] → W p l e rm_X5_turnAbout s m args below meth c H locs 0 0 (QV below args s D Y A (fun (u : Int32 × Int32 × (Nat → Int32)) => Q u.1 u.2.1 u.2.2) (fun u : Int32 × Int32 × (Nat → Int32) => (w_X5_turnAbout Y q q_lengths g_links u.1 u.2.1 u.2.2))) (F0 m 9 ls []) := by
  intro n
  induction n with
  | zero => intro x1 x2 g_lengths h; exact False.elim h
  | succ n ih =>
    intro x1 x2 g_lengths h H locs ls hP hD hS hl
    obtain ⟨⟨hx, hb, hml, hown, hts⟩, hr, hlocks, hN⟩ := id C
    have h : B_X5_turnAbout_9 g_links g_folded g_stiff Q (itr3 (B_X5_turnAbout_9 g_links g_folded g_stiff Q) n) x1 x2 g_lengths := h
    unfold B_X5_turnAbout_9 at h
    refine lv_iload_n hx hb dX5_turnAbout_9 rfl (lv_at hl 1 rfl) ?_
    refine lv_iload_n hx hb dX5_turnAbout_10 rfl (lv_at hl 2 rfl) ?_
    refine lv_icmp_ge (tgt := 49) hx hb dX5_turnAbout_11 (by decide) (fun c8 => ?_) (fun c8 => ?_)
    · have h := h.1 c8
      refine lv_aload_n hx hb dX5_turnAbout_49 rfl (lv_at hl 0 rfl) ?_
      refine lv_aload_n hx hb dX5_turnAbout_50 rfl (lv_at hl 0 rfl) ?_
      refine lv_aload_n hx hb dX5_turnAbout_51 rfl (lv_at hl 0 rfl) ?_
      refine va_get (D := D) (ci := 5) (v := .int g_folded) (C := RX5) (T := TX5) (N := 4) hx hb hts in_X5_turnAbout_X5 hown hK hP 0 rfl rfl 2 (by decide) (k_X5_turnAbout_f19 hts) (fun _ h9 => h9) rfl dX5_turnAbout_52 ?_
      have hp : Pt (w_X5_turnAbout Y q q_lengths g_links g_folded g_stiff g_lengths) (w_X5_inOtherOrder Y q q_lengths g_links g_folded g_stiff) [0] := ⟨rfl, by decide +kernel⟩
      refine go_i hp hP hD hS hA (fun _ => rfl) (va_runV (As := [.int g_folded]) (rest := [.ref q]) ⟨hx, hb, hml, hown, hts⟩ (c_X5_inOtherOrder h _) (cwV 1 hts gX5_turnAbout_X5_inOtherOrder rfl rfl rfl (by decide +kernel) ⟨Nat.le_of_ble_eq_true rfl, Nat.le_of_ble_eq_true rfl⟩) (pre_V (b := q) (q0 := 0) (ci := 5) (q := (RX5, TX5, 4)) hp hK hN hP hD rfl rfl) rfl rfl hl.1 rfl (lv_room (Nat.le_of_ble_eq_true rfl)) dX5_turnAbout_55 ⟨Nat.le_of_ble_eq_true rfl, Nat.le_of_ble_eq_true rfl⟩) (fun r9 u H locs h hP hD hS => ?_)
      try dsimp only at h
      have hP : va_P D vwCl (w_X5_turnAbout Y q q_lengths g_links g_folded g_stiff g_lengths) H := hP
      have hD : va_D A (w_X5_turnAbout Y q q_lengths g_links g_folded g_stiff g_lengths) := hD
      refine va_put (D := D) (ci := 5) (v := .int r9) (ty := .int) (C := RX5) (T := TX5) (N := 4) hx hb hts in_X5_turnAbout_X5 tyX5 tyX5_ok nmX5 hown hK hP hD hS 0 rfl rfl 2 (by decide) (k_X5_turnAbout_f19 hts) (fun _ h9 => h9) rfl (by decide +kernel) rfl rfl (Nat.le_of_ble_eq_true rfl) dX5_turnAbout_58 (fun H locs hP hD hS => ?_)
      have hP : va_P D vwCl (w_X5_turnAbout Y q q_lengths g_links r9 g_stiff g_lengths) H := hP
      have hD : va_D A (w_X5_turnAbout Y q q_lengths g_links r9 g_stiff g_lengths) := hD
      refine lv_aload_n hx hb dX5_turnAbout_61 rfl (lv_at hl 0 rfl) ?_
      refine lv_aload_n hx hb dX5_turnAbout_62 rfl (lv_at hl 0 rfl) ?_
      refine lv_aload_n hx hb dX5_turnAbout_63 rfl (lv_at hl 0 rfl) ?_
      refine va_get (D := D) (ci := 5) (v := .int g_stiff) (C := RX5) (T := TX5) (N := 4) hx hb hts in_X5_turnAbout_X5 hown hK hP 0 rfl rfl 3 (by decide) (k_X5_turnAbout_f22 hts) (fun _ h9 => h9) rfl dX5_turnAbout_64 ?_
      have hp : Pt (w_X5_turnAbout Y q q_lengths g_links r9 g_stiff g_lengths) (w_X5_inOtherOrder Y q q_lengths g_links r9 g_stiff) [0] := ⟨rfl, by decide +kernel⟩
      refine go_i hp hP hD hS hA (fun _ => rfl) (va_runV (As := [.int g_stiff]) (rest := [.ref q]) ⟨hx, hb, hml, hown, hts⟩ (c_X5_inOtherOrder h _) (cwV 1 hts gX5_turnAbout_X5_inOtherOrder rfl rfl rfl (by decide +kernel) ⟨Nat.le_of_ble_eq_true rfl, Nat.le_of_ble_eq_true rfl⟩) (pre_V (b := q) (q0 := 0) (ci := 5) (q := (RX5, TX5, 4)) hp hK hN hP hD rfl rfl) rfl rfl hl.1 rfl (lv_room (Nat.le_of_ble_eq_true rfl)) dX5_turnAbout_67 ⟨Nat.le_of_ble_eq_true rfl, Nat.le_of_ble_eq_true rfl⟩) (fun r10 u H locs h hP hD hS => ?_)
      try dsimp only at h
      have hP : va_P D vwCl (w_X5_turnAbout Y q q_lengths g_links r9 g_stiff g_lengths) H := hP
      have hD : va_D A (w_X5_turnAbout Y q q_lengths g_links r9 g_stiff g_lengths) := hD
      refine va_put (D := D) (ci := 5) (v := .int r10) (ty := .int) (C := RX5) (T := TX5) (N := 4) hx hb hts in_X5_turnAbout_X5 tyX5 tyX5_ok nmX5 hown hK hP hD hS 0 rfl rfl 3 (by decide) (k_X5_turnAbout_f22 hts) (fun _ h9 => h9) rfl (by decide +kernel) rfl rfl (Nat.le_of_ble_eq_true rfl) dX5_turnAbout_70 (fun H locs hP hD hS => ?_)
      have hP : va_P D vwCl (w_X5_turnAbout Y q q_lengths g_links r9 r10 g_lengths) H := hP
      have hD : va_D A (w_X5_turnAbout Y q q_lengths g_links r9 r10 g_lengths) := hD
      exact ret_v (r9, r10, g_lengths) hx hb hr hlocks hK hP hD hS h dX5_turnAbout_73
    · have h := h.2 c8
      refine lv_aload_n hx hb dX5_turnAbout_14 rfl (lv_at hl 0 rfl) ?_
      refine va_get (D := D) (ci := 5) (v := .ref q_lengths) (C := RX5) (T := TX5) (N := 4) hx hb hts in_X5_turnAbout_X5 hown hK hP 0 rfl rfl 0 (by decide) (k_X5_turnAbout_f9 hts) (fun _ h9 => h9) rfl dX5_turnAbout_15 ?_
      refine lv_iload_n hx hb dX5_turnAbout_18 rfl (lv_at hl 1 rfl) ?_
      obtain ⟨hin, h⟩ := h
      refine va_iald hx hb hK hP 1 0 rfl rfl hin dX5_turnAbout_19 ?_
      refine lv_topi (fun z11 ez11 => ?_)
      have h := h z11 ez11
      refine lv_istore_n (lv' := [(3, .int z11), (0, .ref q), (1, .int x1), (2, .int x2)]) hx hb dX5_turnAbout_20 rfl hl (by decide) rfl (fun ls hl => ?_)
      refine lv_aload_n hx hb dX5_turnAbout_21 rfl (lv_at hl 1 rfl) ?_
      refine va_get (D := D) (ci := 5) (v := .ref q_lengths) (C := RX5) (T := TX5) (N := 4) hx hb hts in_X5_turnAbout_X5 hown hK hP 0 rfl rfl 0 (by decide) (k_X5_turnAbout_f9 hts) (fun _ h9 => h9) rfl dX5_turnAbout_22 ?_
      refine lv_iload_n hx hb dX5_turnAbout_25 rfl (lv_at hl 2 rfl) ?_
      refine lv_aload_n hx hb dX5_turnAbout_26 rfl (lv_at hl 1 rfl) ?_
      refine va_get (D := D) (ci := 5) (v := .ref q_lengths) (C := RX5) (T := TX5) (N := 4) hx hb hts in_X5_turnAbout_X5 hown hK hP 0 rfl rfl 0 (by decide) (k_X5_turnAbout_f9 hts) (fun _ h9 => h9) rfl dX5_turnAbout_27 ?_
      refine lv_iload_n hx hb dX5_turnAbout_30 rfl (lv_at hl 3 rfl) ?_
      obtain ⟨hin, h⟩ := h
      refine va_iald hx hb hK hP 1 0 rfl rfl hin dX5_turnAbout_31 ?_
      refine lv_topi (fun z12 ez12 => ?_)
      have h := h z12 ez12
      obtain ⟨hin, h⟩ := h
      refine va_iast hx hb hK hP hD hS 1 0 rfl rfl hin dX5_turnAbout_32 (fun H locs hP hD hS => ?_)
      have hP : va_P D vwCl (w_X5_turnAbout Y q q_lengths g_links g_folded g_stiff (upd g_lengths (x1).toNatClampNeg z12)) H := hP
      have hD : va_D A (w_X5_turnAbout Y q q_lengths g_links g_folded g_stiff (upd g_lengths (x1).toNatClampNeg z12)) := hD
      refine lv_aload_n hx hb dX5_turnAbout_33 rfl (lv_at hl 1 rfl) ?_
      refine va_get (D := D) (ci := 5) (v := .ref q_lengths) (C := RX5) (T := TX5) (N := 4) hx hb hts in_X5_turnAbout_X5 hown hK hP 0 rfl rfl 0 (by decide) (k_X5_turnAbout_f9 hts) (fun _ h9 => h9) rfl dX5_turnAbout_34 ?_
      refine lv_iload_n hx hb dX5_turnAbout_37 rfl (lv_at hl 3 rfl) ?_
      refine lv_iload_n hx hb dX5_turnAbout_38 rfl (lv_at hl 0 rfl) ?_
      obtain ⟨hin, h⟩ := h
      refine va_iast hx hb hK hP hD hS 1 0 rfl rfl hin dX5_turnAbout_39 (fun H locs hP hD hS => ?_)
      have hP : va_P D vwCl (w_X5_turnAbout Y q q_lengths g_links g_folded g_stiff (upd (upd g_lengths (x1).toNatClampNeg z12) (x2).toNatClampNeg z11)) H := hP
      have hD : va_D A (w_X5_turnAbout Y q q_lengths g_links g_folded g_stiff (upd (upd g_lengths (x1).toNatClampNeg z12) (x2).toNatClampNeg z11)) := hD
      obtain ⟨z13, ez13⟩ : ∃ y : Int32, y = (x1 + (1 : Int32)) := ⟨_, rfl⟩
      have h := h z13 ez13
      refine lv_iinc (v := z13) (lv' := [(1, .int z13), (3, .int z11), (0, .ref q), (2, .int x2)]) hx hb dX5_turnAbout_40 hl (k := 2) rfl (by rw [ez13]; rfl) (by decide) rfl (fun ls hl => ?_)
      obtain ⟨z14, ez14⟩ : ∃ y : Int32, y = (x2 + (-1 : Int32)) := ⟨_, rfl⟩
      have h := h z14 ez14
      refine lv_iinc (v := z14) (lv' := [(2, .int z14), (1, .int z13), (3, .int z11), (0, .ref q)]) hx hb dX5_turnAbout_43 hl (k := 3) rfl (by rw [ez14]; rfl) (by decide) rfl (fun ls hl => ?_)
      refine lv_goto (tgt := 9) hx hb dX5_turnAbout_46 (by decide) ?_
      exact ih _ _ _ h _ _ _ hP hD hS (lv_sub hl [3, 1, 0] rfl)
set_option maxHeartbeats 4000000 in
set_option maxRecDepth 100000 in
theorem c_X5_turnAbout {l : Launch} {D : va_G} {Y : ClassId × ClassId × ClassId} {q q_lengths : Nat} {g_links g_folded g_stiff : Int32} {g_lengths : Nat → Int32} {Q : Int32 → Int32 → (Nat → Int32) → Prop} (h : wp_X5_turnAbout g_links g_folded g_stiff g_lengths Q) (sz : Nat) : MtV l yX5_turnAbout wsX5_turnAbout rm_X5_turnAbout [.ref q] D Y (w_X5_turnAbout Y q q_lengths g_links g_folded g_stiff g_lengths) (fun (u : Int32 × Int32 × (Nat → Int32)) => Q u.1 u.2.1 u.2.2) (fun u : Int32 × Int32 × (Nat → Int32) => (w_X5_turnAbout Y q q_lengths g_links u.1 u.2.1 u.2.2)) sz := by
  refine ct_v (cc := cX5_turnAbout) (nL := 4) (ret := none) (by decide) rfl (Nat.le_of_ble_eq_true rfl) ?_ sz
  intro p e s m below meth c A ls C hK hA hP hD hS hl
  obtain ⟨⟨hx, hb, hml, hown, hts⟩, hr, hlocks, hN⟩ := id C
  have hown : s.vm.findClass RX5 = some m.cls := hown
  have hl : lv_has ls 4 [(0, .ref q)] := hl
  unfold wp_X5_turnAbout at h
  refine lv_iconst (v := 0) hx hb dX5_turnAbout_0 (by decide) ?_
  refine lv_istore_n (lv' := [(1, .int (0 : Int32)), (0, .ref q)]) hx hb dX5_turnAbout_1 rfl hl (by decide) rfl (fun ls hl => ?_)
  refine lv_aload_n hx hb dX5_turnAbout_2 rfl (lv_at hl 1 rfl) ?_
  refine va_get (D := D) (ci := 5) (v := .int g_links) (C := RX5) (T := TX5) (N := 4) hx hb hts in_X5_turnAbout_X5 hown hK hP 0 rfl rfl 1 (by decide) (k_X5_turnAbout_f15 hts) (fun _ h9 => h9) rfl dX5_turnAbout_3 ?_
  refine lv_iconst (v := 1) hx hb dX5_turnAbout_6 (by decide) ?_
  refine lv_isub hx hb dX5_turnAbout_7 ?_
  refine lv_topi (fun z15 ez15 => ?_)
  have h := h z15 ez15
  refine lv_istore_n (lv' := [(2, .int z15), (1, .int (0 : Int32)), (0, .ref q)]) hx hb dX5_turnAbout_8 rfl hl (by decide) rfl (fun ls hl => ?_)
  obtain ⟨n, h⟩ := h
  exact L_X5_turnAbout_9 C hK hA  n _ _ _ h _ _ _ hP hD hS (lv_sub hl [2, 1, 0] rfl)
abbrev rm_X6_isFull : Room := { frames := 0, cells := 0, slots := 0, locals := 0 }
theorem in_X6_isFull_X6 : ∀ w ∈ wsX60, w ∈ wsX6_isFull := fun _ h => List.mem_cons_of_mem _ (List.mem_append_right _ h)
theorem k_X6_isFull_f15 {s : State} {args : Array Value} (hts : ∀ w ∈ wsX6_isFull, w.before args s = true) : (Cond.fieldLink RX6 15 "FoldRule$Text" "size" "I").before args s = true := hts _ (by decide +kernel)
set_option maxHeartbeats 4000000 in
set_option maxRecDepth 100000 in
theorem c_X6_isFull {l : Launch} {D : va_G} {Y : ClassId × ClassId × ClassId} {q q_letters : Nat} {g_size g_place g_items : Int32} {Q : Int32 → Prop} (h : wp_X6_isFull g_size Q) (sz : Nat) : MtI l yX6_isFull wsX6_isFull rm_X6_isFull [.ref q] D Y (w_X6_isFull Y q q_letters g_size g_place g_items) (fun r (_ : Unit) => Q r) (fun _ : Unit => (w_X6_isFull Y q q_letters g_size g_place g_items)) sz := by
  refine ct_i (cc := cX6_isFull) (nL := 1) (ret := (some .boolean)) (by decide) rfl (Nat.le_of_ble_eq_true rfl) ?_ sz
  intro p e s m below meth c A ls C hK hA hP hD hS hl
  obtain ⟨⟨hx, hb, hml, hown, hts⟩, hr, hlocks, hN⟩ := id C
  have hown : s.vm.findClass RX6 = some m.cls := hown
  have hl : lv_has ls 1 [(0, .ref q)] := hl
  unfold wp_X6_isFull at h
  refine lv_aload_n hx hb dX6_isFull_0 rfl (lv_at hl 0 rfl) ?_
  refine va_get (D := D) (ci := 6) (v := .int g_size) (C := RX6) (T := TX6) (N := 4) hx hb hts in_X6_isFull_X6 hown hK hP 0 rfl rfl 1 (by decide) (k_X6_isFull_f15 hts) (fun _ h9 => h9) rfl dX6_isFull_1 ?_
  refine lv_bipush (v := 90) hx hb dX6_isFull_4 (by decide) ?_
  refine lv_icmp_lt (tgt := 13) hx hb dX6_isFull_6 (by decide) (fun c1 => ?_) (fun c1 => ?_)
  · have h := h.1 c1
    refine lv_iconst (v := 0) hx hb dX6_isFull_13 (by decide) ?_
    exact ret_z () hx hb hr hlocks hK hP hD hS (Or.inl rfl) h dX6_isFull_14
  · have h := h.2 c1
    refine lv_iconst (v := 1) hx hb dX6_isFull_9 (by decide) ?_
    refine lv_goto (tgt := 14) hx hb dX6_isFull_10 (by decide) ?_
    exact ret_z () hx hb hr hlocks hK hP hD hS (Or.inr rfl) h dX6_isFull_14
abbrev rm_X6_append : Room := { frames := 1, cells := 0, slots := 0, locals := 20 }
theorem in_X6_append_X6 : ∀ w ∈ wsX60, w ∈ wsX6_append := fun _ h => List.mem_cons_of_mem _ (List.mem_append_right _ h)
theorem k_X6_append_f9 {s : State} {args : Array Value} (hts : ∀ w ∈ wsX6_append, w.before args s = true) : (Cond.fieldLink RX6 9 "FoldRule$Text" "letters" "[I").before args s = true := hts _ (by decide +kernel)
theorem k_X6_append_f15 {s : State} {args : Array Value} (hts : ∀ w ∈ wsX6_append, w.before args s = true) : (Cond.fieldLink RX6 15 "FoldRule$Text" "size" "I").before args s = true := hts _ (by decide +kernel)
set_option maxHeartbeats 4000000 in
set_option maxRecDepth 100000 in
theorem c_X6_append {l : Launch} {D : va_G} {Y : ClassId × ClassId × ClassId} {q q_letters : Nat} {g_size g_place g_items : Int32} {g_letters : Nat → Int32} {x1 : Int32} {Q : Int32 → (Nat → Int32) → Prop} (h : wp_X6_append g_size g_letters x1 Q) (sz : Nat) : MtV l yX6_append wsX6_append rm_X6_append [.ref q, .int x1] D Y (w_X6_append Y q q_letters g_size g_place g_items g_letters) (fun (u : Int32 × (Nat → Int32)) => Q u.1 u.2) (fun u : Int32 × (Nat → Int32) => (w_X6_append Y q q_letters u.1 g_place g_items u.2)) sz := by
  refine ct_v (cc := cX6_append) (nL := 2) (ret := none) (by decide) rfl (Nat.le_of_ble_eq_true rfl) ?_ sz
  intro p e s m below meth c A ls C hK hA hP hD hS hl
  obtain ⟨⟨hx, hb, hml, hown, hts⟩, hr, hlocks, hN⟩ := id C
  have hown : s.vm.findClass RX6 = some m.cls := hown
  have hl : lv_has ls 2 [(0, .ref q), (1, .int x1)] := hl
  unfold wp_X6_append at h
  refine lv_aload_n hx hb dX6_append_0 rfl (lv_at hl 0 rfl) ?_
  have hp : Pt (w_X6_append Y q q_letters g_size g_place g_items g_letters) (w_X6_isFull Y q q_letters g_size g_place g_items) [0] := ⟨rfl, by decide +kernel⟩
  refine go_i hp hP hD hS hA (fun _ => rfl) (va_runV (As := []) (rest := []) ⟨hx, hb, hml, hown, hts⟩ (c_X6_isFull h _) (cwV 0 hts gX6_append_X6_isFull rfl rfl rfl (by decide +kernel) ⟨Nat.le_of_ble_eq_true rfl, Nat.le_of_ble_eq_true rfl⟩) (pre_V (b := q) (q0 := 0) (ci := 6) (q := (RX6, TX6, 4)) hp hK hN hP hD rfl rfl) rfl rfl hl.1 rfl (lv_room (Nat.le_of_ble_eq_true rfl)) dX6_append_1 ⟨Nat.le_of_ble_eq_true rfl, Nat.le_of_ble_eq_true rfl⟩) (fun r3 u H locs h hP hD hS => ?_)
  try dsimp only at h
  have hP : va_P D vwCl (w_X6_append Y q q_letters g_size g_place g_items g_letters) H := hP
  have hD : va_D A (w_X6_append Y q q_letters g_size g_place g_items g_letters) := hD
  refine lv_if_ne (tgt := 27) hx hb dX6_append_4 (by decide) (fun c4 => ?_) (fun c4 => ?_)
  · have h := h.1 c4
    exact ret_v (g_size, g_letters) hx hb hr hlocks hK hP hD hS h dX6_append_27
  · have h := h.2 c4
    refine lv_aload_n hx hb dX6_append_7 rfl (lv_at hl 0 rfl) ?_
    refine va_get (D := D) (ci := 6) (v := .ref q_letters) (C := RX6) (T := TX6) (N := 4) hx hb hts in_X6_append_X6 hown hK hP 0 rfl rfl 0 (by decide) (k_X6_append_f9 hts) (fun _ h9 => h9) rfl dX6_append_8 ?_
    refine lv_aload_n hx hb dX6_append_11 rfl (lv_at hl 0 rfl) ?_
    refine va_get (D := D) (ci := 6) (v := .int g_size) (C := RX6) (T := TX6) (N := 4) hx hb hts in_X6_append_X6 hown hK hP 0 rfl rfl 1 (by decide) (k_X6_append_f15 hts) (fun _ h9 => h9) rfl dX6_append_12 ?_
    refine lv_iload_n hx hb dX6_append_15 rfl (lv_at hl 1 rfl) ?_
    obtain ⟨hin, h⟩ := h
    refine va_iast hx hb hK hP hD hS 1 0 rfl rfl hin dX6_append_16 (fun H locs hP hD hS => ?_)
    have hP : va_P D vwCl (w_X6_append Y q q_letters g_size g_place g_items (upd g_letters (g_size).toNatClampNeg x1)) H := hP
    have hD : va_D A (w_X6_append Y q q_letters g_size g_place g_items (upd g_letters (g_size).toNatClampNeg x1)) := hD
    refine lv_aload_n hx hb dX6_append_17 rfl (lv_at hl 0 rfl) ?_
    refine lv_dup hx hb dX6_append_18 rfl ?_
    refine va_get (D := D) (ci := 6) (v := .int g_size) (C := RX6) (T := TX6) (N := 4) hx hb hts in_X6_append_X6 hown hK hP 0 rfl rfl 1 (by decide) (k_X6_append_f15 hts) (fun _ h9 => h9) rfl dX6_append_19 ?_
    refine lv_iconst (v := 1) hx hb dX6_append_22 (by decide) ?_
    refine lv_iadd hx hb dX6_append_23 ?_
    refine lv_topi (fun z5 ez5 => ?_)
    have h := h z5 ez5
    refine va_put (D := D) (ci := 6) (v := .int z5) (ty := .int) (C := RX6) (T := TX6) (N := 4) hx hb hts in_X6_append_X6 tyX6 tyX6_ok nmX6 hown hK hP hD hS 0 rfl rfl 1 (by decide) (k_X6_append_f15 hts) (fun _ h9 => h9) rfl (by decide +kernel) rfl rfl (Nat.le_of_ble_eq_true rfl) dX6_append_24 (fun H locs hP hD hS => ?_)
    have hP : va_P D vwCl (w_X6_append Y q q_letters z5 g_place g_items (upd g_letters (g_size).toNatClampNeg x1)) H := hP
    have hD : va_D A (w_X6_append Y q q_letters z5 g_place g_items (upd g_letters (g_size).toNatClampNeg x1)) := hD
    exact ret_v (z5, (upd g_letters (g_size).toNatClampNeg x1)) hx hb hr hlocks hK hP hD hS h dX6_append_27
abbrev rm_X6_makeEmpty : Room := { frames := 0, cells := 0, slots := 0, locals := 0 }
theorem in_X6_makeEmpty_X6 : ∀ w ∈ wsX60, w ∈ wsX6_makeEmpty := fun _ h => List.mem_cons_of_mem _ (List.mem_append_right _ h)
theorem k_X6_makeEmpty_f15 {s : State} {args : Array Value} (hts : ∀ w ∈ wsX6_makeEmpty, w.before args s = true) : (Cond.fieldLink RX6 15 "FoldRule$Text" "size" "I").before args s = true := hts _ (by decide +kernel)
set_option maxHeartbeats 4000000 in
set_option maxRecDepth 100000 in
theorem c_X6_makeEmpty {l : Launch} {D : va_G} {Y : ClassId × ClassId × ClassId} {q q_letters : Nat} {g_size g_place g_items : Int32} {Q : Int32 → Prop} (h : wp_X6_makeEmpty g_size Q) (sz : Nat) : MtV l yX6_makeEmpty wsX6_makeEmpty rm_X6_makeEmpty [.ref q] D Y (w_X6_makeEmpty Y q q_letters g_size g_place g_items) (fun (u : Int32) => Q u) (fun u : Int32 => (w_X6_makeEmpty Y q q_letters u g_place g_items)) sz := by
  refine ct_v (cc := cX6_makeEmpty) (nL := 1) (ret := none) (by decide) rfl (Nat.le_of_ble_eq_true rfl) ?_ sz
  intro p e s m below meth c A ls C hK hA hP hD hS hl
  obtain ⟨⟨hx, hb, hml, hown, hts⟩, hr, hlocks, hN⟩ := id C
  have hown : s.vm.findClass RX6 = some m.cls := hown
  have hl : lv_has ls 1 [(0, .ref q)] := hl
  unfold wp_X6_makeEmpty at h
  refine lv_aload_n hx hb dX6_makeEmpty_0 rfl (lv_at hl 0 rfl) ?_
  refine lv_iconst (v := 0) hx hb dX6_makeEmpty_1 (by decide) ?_
  refine va_put (D := D) (ci := 6) (v := .int (0 : Int32)) (ty := .int) (C := RX6) (T := TX6) (N := 4) hx hb hts in_X6_makeEmpty_X6 tyX6 tyX6_ok nmX6 hown hK hP hD hS 0 rfl rfl 1 (by decide) (k_X6_makeEmpty_f15 hts) (fun _ h9 => h9) rfl (by decide +kernel) rfl rfl (Nat.le_of_ble_eq_true rfl) dX6_makeEmpty_2 (fun H locs hP hD hS => ?_)
  have hP : va_P D vwCl (w_X6_makeEmpty Y q q_letters (0 : Int32) g_place g_items) H := hP
  have hD : va_D A (w_X6_makeEmpty Y q q_letters (0 : Int32) g_place g_items) := hD
  exact ret_v ((0 : Int32)) hx hb hr hlocks hK hP hD hS h dX6_makeEmpty_5
abbrev rm_X6_letterHere : Room := { frames := 0, cells := 0, slots := 0, locals := 0 }
theorem in_X6_letterHere_X6 : ∀ w ∈ wsX60, w ∈ wsX6_letterHere := fun _ h => List.mem_cons_of_mem _ (List.mem_append_right _ h)
theorem k_X6_letterHere_f28 {s : State} {args : Array Value} (hts : ∀ w ∈ wsX6_letterHere, w.before args s = true) : (Cond.fieldLink RX6 28 "FoldRule$Text" "place" "I").before args s = true := hts _ (by decide +kernel)
theorem k_X6_letterHere_f15 {s : State} {args : Array Value} (hts : ∀ w ∈ wsX6_letterHere, w.before args s = true) : (Cond.fieldLink RX6 15 "FoldRule$Text" "size" "I").before args s = true := hts _ (by decide +kernel)
theorem k_X6_letterHere_f9 {s : State} {args : Array Value} (hts : ∀ w ∈ wsX6_letterHere, w.before args s = true) : (Cond.fieldLink RX6 9 "FoldRule$Text" "letters" "[I").before args s = true := hts _ (by decide +kernel)
set_option maxHeartbeats 4000000 in
set_option maxRecDepth 100000 in
theorem c_X6_letterHere {l : Launch} {D : va_G} {Y : ClassId × ClassId × ClassId} {q q_letters : Nat} {g_size g_place g_items : Int32} {g_letters : Nat → Int32} {Q : Int32 → Prop} (h : wp_X6_letterHere g_size g_place g_letters Q) (sz : Nat) : MtI l yX6_letterHere wsX6_letterHere rm_X6_letterHere [.ref q] D Y (w_X6_letterHere Y q q_letters g_size g_place g_items g_letters) (fun r (_ : Unit) => Q r) (fun _ : Unit => (w_X6_letterHere Y q q_letters g_size g_place g_items g_letters)) sz := by
  refine ct_i (cc := cX6_letterHere) (nL := 1) (ret := (some .int)) (by decide) rfl (Nat.le_of_ble_eq_true rfl) ?_ sz
  intro p e s m below meth c A ls C hK hA hP hD hS hl
  obtain ⟨⟨hx, hb, hml, hown, hts⟩, hr, hlocks, hN⟩ := id C
  have hown : s.vm.findClass RX6 = some m.cls := hown
  have hl : lv_has ls 1 [(0, .ref q)] := hl
  unfold wp_X6_letterHere at h
  refine lv_aload_n hx hb dX6_letterHere_0 rfl (lv_at hl 0 rfl) ?_
  refine va_get (D := D) (ci := 6) (v := .int g_place) (C := RX6) (T := TX6) (N := 4) hx hb hts in_X6_letterHere_X6 hown hK hP 0 rfl rfl 2 (by decide) (k_X6_letterHere_f28 hts) (fun _ h9 => h9) rfl dX6_letterHere_1 ?_
  refine lv_if_lt (tgt := 30) hx hb dX6_letterHere_4 (by decide) (fun c1 => ?_) (fun c1 => ?_)
  · have h := h.1 c1
    refine lv_bipush (v := (-9)) hx hb dX6_letterHere_30 (by decide) ?_
    exact ret_i () hx hb hr hlocks hK hP hD hS h dX6_letterHere_32
  · have h := h.2 c1
    refine lv_aload_n hx hb dX6_letterHere_7 rfl (lv_at hl 0 rfl) ?_
    refine va_get (D := D) (ci := 6) (v := .int g_place) (C := RX6) (T := TX6) (N := 4) hx hb hts in_X6_letterHere_X6 hown hK hP 0 rfl rfl 2 (by decide) (k_X6_letterHere_f28 hts) (fun _ h9 => h9) rfl dX6_letterHere_8 ?_
    refine lv_aload_n hx hb dX6_letterHere_11 rfl (lv_at hl 0 rfl) ?_
    refine va_get (D := D) (ci := 6) (v := .int g_size) (C := RX6) (T := TX6) (N := 4) hx hb hts in_X6_letterHere_X6 hown hK hP 0 rfl rfl 1 (by decide) (k_X6_letterHere_f15 hts) (fun _ h9 => h9) rfl dX6_letterHere_12 ?_
    refine lv_icmp_ge (tgt := 30) hx hb dX6_letterHere_15 (by decide) (fun c2 => ?_) (fun c2 => ?_)
    · have h := h.1 c2
      refine lv_bipush (v := (-9)) hx hb dX6_letterHere_30 (by decide) ?_
      exact ret_i () hx hb hr hlocks hK hP hD hS h dX6_letterHere_32
    · have h := h.2 c2
      refine lv_aload_n hx hb dX6_letterHere_18 rfl (lv_at hl 0 rfl) ?_
      refine va_get (D := D) (ci := 6) (v := .ref q_letters) (C := RX6) (T := TX6) (N := 4) hx hb hts in_X6_letterHere_X6 hown hK hP 0 rfl rfl 0 (by decide) (k_X6_letterHere_f9 hts) (fun _ h9 => h9) rfl dX6_letterHere_19 ?_
      refine lv_aload_n hx hb dX6_letterHere_22 rfl (lv_at hl 0 rfl) ?_
      refine va_get (D := D) (ci := 6) (v := .int g_place) (C := RX6) (T := TX6) (N := 4) hx hb hts in_X6_letterHere_X6 hown hK hP 0 rfl rfl 2 (by decide) (k_X6_letterHere_f28 hts) (fun _ h9 => h9) rfl dX6_letterHere_23 ?_
      obtain ⟨hin, h⟩ := h
      refine va_iald hx hb hK hP 1 0 rfl rfl hin dX6_letterHere_26 ?_
      refine lv_goto (tgt := 32) hx hb dX6_letterHere_27 (by decide) ?_
      exact ret_i () hx hb hr hlocks hK hP hD hS h dX6_letterHere_32
abbrev rm_X6_skipBlanks : Room := { frames := 1, cells := 0, slots := 0, locals := 20 }
theorem in_X6_skipBlanks_X6 : ∀ w ∈ wsX60, w ∈ wsX6_skipBlanks := fun _ h => List.mem_cons_of_mem _ (List.mem_append_right _ h)
theorem k_X6_skipBlanks_f28 {s : State} {args : Array Value} (hts : ∀ w ∈ wsX6_skipBlanks, w.before args s = true) : (Cond.fieldLink RX6 28 "FoldRule$Text" "place" "I").before args s = true := hts _ (by decide +kernel)
theorem k_X6_skipBlanks_f15 {s : State} {args : Array Value} (hts : ∀ w ∈ wsX6_skipBlanks, w.before args s = true) : (Cond.fieldLink RX6 15 "FoldRule$Text" "size" "I").before args s = true := hts _ (by decide +kernel)
set_option maxHeartbeats 4000000 in
set_option maxRecDepth 100000 in
theorem L_X6_skipBlanks_0 {p : Program} {l : Launch} {e : Env} {s : State} {m : MethodId} {args : Array Value} {below : List Frame} {meth : Method} {c : Code} {D : va_G} {Y : ClassId × ClassId × ClassId} {A : Nat → Prop} {q q_letters : Nat} {g_size g_items : Int32} {g_letters : Nat → Int32} {Q : Int32 → Prop} (C : Ctx p s m args meth c cX6_skipBlanks 1 none wsX6_skipBlanks RX6) (hK : va_K D vwCl (tyS Y) s) (hA : ∀ q, s.heap.size ≤ q → A q) : ∀ (n : Nat) (g_place : Int32), itr1 (B_X6_skipBlanks_0 g_size g_letters Q) n g_place → ∀ (H : Heap) (locs : List Loc) (ls : Array Slot), va_P D vwCl (w_X6_skipBlanks Y q q_letters g_size g_place g_items g_letters) H → va_D A (w_X6_skipBlanks Y q q_letters g_size g_place g_items g_letters) → va_S A s.heap H locs → lv_has ls 1 [(0, .ref q)] → W p l e rm_X6_skipBlanks s m args below meth c H locs 0 0 (QV below args s D Y A (fun (u : Int32) => Q u) (fun u : Int32 => (w_X6_skipBlanks Y q q_letters g_size u g_items g_letters))) (F0 m 0 ls []) := by
  intro n
  induction n with
  | zero => intro g_place h; exact False.elim h
  | succ n ih =>
    intro g_place h H locs ls hP hD hS hl
    obtain ⟨⟨hx, hb, hml, hown, hts⟩, hr, hlocks, hN⟩ := id C
    have h : B_X6_skipBlanks_0 g_size g_letters Q (itr1 (B_X6_skipBlanks_0 g_size g_letters Q) n) g_place := h
    unfold B_X6_skipBlanks_0 at h
    refine lv_aload_n hx hb dX6_skipBlanks_0 rfl (lv_at hl 0 rfl) ?_
    refine va_get (D := D) (ci := 6) (v := .int g_place) (C := RX6) (T := TX6) (N := 4) hx hb hts in_X6_skipBlanks_X6 hown hK hP 0 rfl rfl 2 (by decide) (k_X6_skipBlanks_f28 hts) (fun _ h9 => h9) rfl dX6_skipBlanks_1 ?_
    refine lv_aload_n hx hb dX6_skipBlanks_4 rfl (lv_at hl 0 rfl) ?_
    refine va_get (D := D) (ci := 6) (v := .int g_size) (C := RX6) (T := TX6) (N := 4) hx hb hts in_X6_skipBlanks_X6 hown hK hP 0 rfl rfl 1 (by decide) (k_X6_skipBlanks_f15 hts) (fun _ h9 => h9) rfl dX6_skipBlanks_5 ?_
    refine lv_icmp_ge (tgt := 33) hx hb dX6_skipBlanks_8 (by decide) (fun c3 => ?_) (fun c3 => ?_)
    · have h := h.1 c3
      exact ret_v (g_place) hx hb hr hlocks hK hP hD hS h dX6_skipBlanks_33
    · have h := h.2 c3
      refine lv_aload_n hx hb dX6_skipBlanks_11 rfl (lv_at hl 0 rfl) ?_
      have hp : Pt (w_X6_skipBlanks Y q q_letters g_size g_place g_items g_letters) (w_X6_letterHere Y q q_letters g_size g_place g_items g_letters) [0, 1] := ⟨rfl, by decide +kernel⟩
      refine go_i hp hP hD hS hA (fun _ => rfl) (va_runV (As := []) (rest := []) ⟨hx, hb, hml, hown, hts⟩ (c_X6_letterHere h _) (cwV 0 hts gX6_skipBlanks_X6_letterHere rfl rfl rfl (by decide +kernel) ⟨Nat.le_of_ble_eq_true rfl, Nat.le_of_ble_eq_true rfl⟩) (pre_V (b := q) (q0 := 0) (ci := 6) (q := (RX6, TX6, 4)) hp hK hN hP hD rfl rfl) rfl rfl hl.1 rfl (lv_room (Nat.le_of_ble_eq_true rfl)) dX6_skipBlanks_12 ⟨Nat.le_of_ble_eq_true rfl, Nat.le_of_ble_eq_true rfl⟩) (fun r4 u H locs h hP hD hS => ?_)
      try dsimp only at h
      have hP : va_P D vwCl (w_X6_skipBlanks Y q q_letters g_size g_place g_items g_letters) H := hP
      have hD : va_D A (w_X6_skipBlanks Y q q_letters g_size g_place g_items g_letters) := hD
      refine lv_bipush (v := 32) hx hb dX6_skipBlanks_15 (by decide) ?_
      refine lv_icmp_ne (tgt := 33) hx hb dX6_skipBlanks_17 (by decide) (fun c5 => ?_) (fun c5 => ?_)
      · have h := h.1 c5
        exact ret_v (g_place) hx hb hr hlocks hK hP hD hS h dX6_skipBlanks_33
      · have h := h.2 c5
        refine lv_aload_n hx hb dX6_skipBlanks_20 rfl (lv_at hl 0 rfl) ?_
        refine lv_dup hx hb dX6_skipBlanks_21 rfl ?_
        refine va_get (D := D) (ci := 6) (v := .int g_place) (C := RX6) (T := TX6) (N := 4) hx hb hts in_X6_skipBlanks_X6 hown hK hP 0 rfl rfl 2 (by decide) (k_X6_skipBlanks_f28 hts) (fun _ h9 => h9) rfl dX6_skipBlanks_22 ?_
        refine lv_iconst (v := 1) hx hb dX6_skipBlanks_25 (by decide) ?_
        refine lv_iadd hx hb dX6_skipBlanks_26 ?_
        refine lv_topi (fun z6 ez6 => ?_)
        have h := h z6 ez6
        refine va_put (D := D) (ci := 6) (v := .int z6) (ty := .int) (C := RX6) (T := TX6) (N := 4) hx hb hts in_X6_skipBlanks_X6 tyX6 tyX6_ok nmX6 hown hK hP hD hS 0 rfl rfl 2 (by decide) (k_X6_skipBlanks_f28 hts) (fun _ h9 => h9) rfl (by decide +kernel) rfl rfl (Nat.le_of_ble_eq_true rfl) dX6_skipBlanks_27 (fun H locs hP hD hS => ?_)
        have hP : va_P D vwCl (w_X6_skipBlanks Y q q_letters g_size z6 g_items g_letters) H := hP
        have hD : va_D A (w_X6_skipBlanks Y q q_letters g_size z6 g_items g_letters) := hD
        refine lv_goto (tgt := 0) hx hb dX6_skipBlanks_30 (by decide) ?_
        exact ih _ h _ _ _ hP hD hS (lv_sub hl [0] rfl)
set_option maxHeartbeats 4000000 in
set_option maxRecDepth 100000 in
theorem c_X6_skipBlanks {l : Launch} {D : va_G} {Y : ClassId × ClassId × ClassId} {q q_letters : Nat} {g_size g_place g_items : Int32} {g_letters : Nat → Int32} {Q : Int32 → Prop} (h : wp_X6_skipBlanks g_size g_place g_letters Q) (sz : Nat) : MtV l yX6_skipBlanks wsX6_skipBlanks rm_X6_skipBlanks [.ref q] D Y (w_X6_skipBlanks Y q q_letters g_size g_place g_items g_letters) (fun (u : Int32) => Q u) (fun u : Int32 => (w_X6_skipBlanks Y q q_letters g_size u g_items g_letters)) sz := by
  refine ct_v (cc := cX6_skipBlanks) (nL := 1) (ret := none) (by decide) rfl (Nat.le_of_ble_eq_true rfl) ?_ sz
  intro p e s m below meth c A ls C hK hA hP hD hS hl
  obtain ⟨⟨hx, hb, hml, hown, hts⟩, hr, hlocks, hN⟩ := id C
  have hown : s.vm.findClass RX6 = some m.cls := hown
  have hl : lv_has ls 1 [(0, .ref q)] := hl
  unfold wp_X6_skipBlanks at h
  obtain ⟨n, h⟩ := h
  exact L_X6_skipBlanks_0 C hK hA  n _ h _ _ _ hP hD hS (lv_sub hl [0] rfl)
abbrev rm_X6_canBegin : Room := { frames := 1, cells := 0, slots := 0, locals := 20 }
set_option maxHeartbeats 4000000 in
set_option maxRecDepth 100000 in
theorem c_X6_canBegin {l : Launch} {D : va_G} {Y : ClassId × ClassId × ClassId} {q1 q1_lengths : Nat} {g1_links g1_folded g1_stiff x0 : Int32} {Q : Int32 → Prop} (h : wp_X6_canBegin g1_links x0 Q) (sz : Nat) : MtI l yX6_canBegin wsX6_canBegin rm_X6_canBegin [.int x0, .ref q1] D Y (w_X6_canBegin Y q1 q1_lengths g1_links g1_folded g1_stiff) (fun r (_ : Unit) => Q r) (fun _ : Unit => (w_X6_canBegin Y q1 q1_lengths g1_links g1_folded g1_stiff)) sz := by
  refine ct_i (cc := cX6_canBegin) (nL := 2) (ret := (some .boolean)) (by decide) rfl (Nat.le_of_ble_eq_true rfl) ?_ sz
  intro p e s m below meth c A ls C hK hA hP hD hS hl
  obtain ⟨⟨hx, hb, hml, hown, hts⟩, hr, hlocks, hN⟩ := id C
  have hown : s.vm.findClass RX6 = some m.cls := hown
  have hl : lv_has ls 2 [(0, .int x0), (1, .ref q1)] := hl
  unfold wp_X6_canBegin at h
  refine lv_iload_n hx hb dX6_canBegin_0 rfl (lv_at hl 0 rfl) ?_
  refine lv_bipush (v := 107) hx hb dX6_canBegin_1 (by decide) ?_
  refine lv_icmp_ne (tgt := 21) hx hb dX6_canBegin_3 (by decide) (fun c2 => ?_) (fun c2 => ?_)
  · have h := h.1 c2
    refine lv_iload_n hx hb dX6_canBegin_21 rfl (lv_at hl 0 rfl) ?_
    refine lv_bipush (v := 102) hx hb dX6_canBegin_22 (by decide) ?_
    refine lv_icmp_eq (tgt := 33) hx hb dX6_canBegin_24 (by decide) (fun c3 => ?_) (fun c3 => ?_)
    · have h := h.1 c3
      refine lv_iconst (v := 1) hx hb dX6_canBegin_33 (by decide) ?_
      refine lv_goto (tgt := 38) hx hb dX6_canBegin_34 (by decide) ?_
      exact ret_z () hx hb hr hlocks hK hP hD hS (Or.inr rfl) h dX6_canBegin_38
    · have h := h.2 c3
      refine lv_iload_n hx hb dX6_canBegin_27 rfl (lv_at hl 0 rfl) ?_
      refine lv_bipush (v := 120) hx hb dX6_canBegin_28 (by decide) ?_
      refine lv_icmp_ne (tgt := 37) hx hb dX6_canBegin_30 (by decide) (fun c4 => ?_) (fun c4 => ?_)
      · have h := h.1 c4
        refine lv_iconst (v := 0) hx hb dX6_canBegin_37 (by decide) ?_
        exact ret_z () hx hb hr hlocks hK hP hD hS (Or.inl rfl) h dX6_canBegin_38
      · have h := h.2 c4
        refine lv_iconst (v := 1) hx hb dX6_canBegin_33 (by decide) ?_
        refine lv_goto (tgt := 38) hx hb dX6_canBegin_34 (by decide) ?_
        exact ret_z () hx hb hr hlocks hK hP hD hS (Or.inr rfl) h dX6_canBegin_38
  · have h := h.2 c2
    refine lv_aload_n hx hb dX6_canBegin_6 rfl (lv_at hl 1 rfl) ?_
    have hp : Pt (w_X6_canBegin Y q1 q1_lengths g1_links g1_folded g1_stiff) (w_X5_isFull Y q1 q1_lengths g1_links g1_folded g1_stiff) [0] := ⟨rfl, by decide +kernel⟩
    refine go_i hp hP hD hS hA (fun _ => rfl) (va_runV (As := []) (rest := []) ⟨hx, hb, hml, hown, hts⟩ (c_X5_isFull h _) (cwV 0 hts gX6_canBegin_X5_isFull rfl rfl rfl (by decide +kernel) ⟨Nat.le_of_ble_eq_true rfl, Nat.le_of_ble_eq_true rfl⟩) (pre_V (b := q1) (q0 := 0) (ci := 5) (q := (RX5, TX5, 4)) hp hK hN hP hD rfl rfl) rfl rfl hl.1 rfl (lv_room (Nat.le_of_ble_eq_true rfl)) dX6_canBegin_7 ⟨Nat.le_of_ble_eq_true rfl, Nat.le_of_ble_eq_true rfl⟩) (fun r5 u H locs h hP hD hS => ?_)
    try dsimp only at h
    have hP : va_P D vwCl (w_X6_canBegin Y q1 q1_lengths g1_links g1_folded g1_stiff) H := hP
    have hD : va_D A (w_X6_canBegin Y q1 q1_lengths g1_links g1_folded g1_stiff) := hD
    refine lv_if_ne (tgt := 17) hx hb dX6_canBegin_10 (by decide) (fun c6 => ?_) (fun c6 => ?_)
    · have h := h.1 c6
      refine lv_iconst (v := 0) hx hb dX6_canBegin_17 (by decide) ?_
      refine lv_goto (tgt := 38) hx hb dX6_canBegin_18 (by decide) ?_
      exact ret_z () hx hb hr hlocks hK hP hD hS (Or.inl rfl) h dX6_canBegin_38
    · have h := h.2 c6
      refine lv_iconst (v := 1) hx hb dX6_canBegin_13 (by decide) ?_
      refine lv_goto (tgt := 38) hx hb dX6_canBegin_14 (by decide) ?_
      exact ret_z () hx hb hr hlocks hK hP hD hS (Or.inr rfl) h dX6_canBegin_38
abbrev rm_X6_isDigitHere : Room := { frames := 1, cells := 0, slots := 0, locals := 22 }
theorem k_X6_isDigitHere_iX7 {s : State} {args : Array Value} (hts : ∀ w ∈ wsX6_isDigitHere, w.before args s = true) : (Cond.initialized RX7).before args s = true := hts _ (by decide +kernel)
theorem k_X6_isDigitHere_stX7_isWithin {s : State} {args : Array Value} (hts : ∀ w ∈ wsX6_isDigitHere, w.before args s = true) : (Cond.static yX7_isWithin).before args s = true := hts _ (by decide +kernel)
set_option maxHeartbeats 4000000 in
set_option maxRecDepth 100000 in
theorem c_X6_isDigitHere {l : Launch} {D : va_G} {Y : ClassId × ClassId × ClassId} {q q_letters : Nat} {g_size g_place g_items : Int32} {g_letters : Nat → Int32} {Q : Int32 → Prop} (h : wp_X6_isDigitHere g_size g_place g_letters Q) (sz : Nat) : MtI l yX6_isDigitHere wsX6_isDigitHere rm_X6_isDigitHere [.ref q] D Y (w_X6_isDigitHere Y q q_letters g_size g_place g_items g_letters) (fun r (_ : Unit) => Q r) (fun _ : Unit => (w_X6_isDigitHere Y q q_letters g_size g_place g_items g_letters)) sz := by
  refine ct_i (cc := cX6_isDigitHere) (nL := 1) (ret := (some .boolean)) (by decide) rfl (Nat.le_of_ble_eq_true rfl) ?_ sz
  intro p e s m below meth c A ls C hK hA hP hD hS hl
  obtain ⟨⟨hx, hb, hml, hown, hts⟩, hr, hlocks, hN⟩ := id C
  have hown : s.vm.findClass RX6 = some m.cls := hown
  have hl : lv_has ls 1 [(0, .ref q)] := hl
  unfold wp_X6_isDigitHere at h
  refine lv_aload_n hx hb dX6_isDigitHere_0 rfl (lv_at hl 0 rfl) ?_
  have hp : Pt (w_X6_isDigitHere Y q q_letters g_size g_place g_items g_letters) (w_X6_letterHere Y q q_letters g_size g_place g_items g_letters) [0, 1] := ⟨rfl, by decide +kernel⟩
  refine go_i hp hP hD hS hA (fun _ => rfl) (va_runV (As := []) (rest := []) ⟨hx, hb, hml, hown, hts⟩ (c_X6_letterHere h _) (cwV 0 hts gX6_isDigitHere_X6_letterHere rfl rfl rfl (by decide +kernel) ⟨Nat.le_of_ble_eq_true rfl, Nat.le_of_ble_eq_true rfl⟩) (pre_V (b := q) (q0 := 0) (ci := 6) (q := (RX6, TX6, 4)) hp hK hN hP hD rfl rfl) rfl rfl hl.1 rfl (lv_room (Nat.le_of_ble_eq_true rfl)) dX6_isDigitHere_1 ⟨Nat.le_of_ble_eq_true rfl, Nat.le_of_ble_eq_true rfl⟩) (fun r3 u H locs h hP hD hS => ?_)
  try dsimp only at h
  have hP : va_P D vwCl (w_X6_isDigitHere Y q q_letters g_size g_place g_items g_letters) H := hP
  have hD : va_D A (w_X6_isDigitHere Y q q_letters g_size g_place g_items g_letters) := hD
  refine lv_bipush (v := 48) hx hb dX6_isDigitHere_4 (by decide) ?_
  refine lv_bipush (v := 57) hx hb dX6_isDigitHere_6 (by decide) ?_
  have hp : Pt (w_X6_isDigitHere Y q q_letters g_size g_place g_items g_letters) (w_X7_isWithin Y ) [] := ⟨rfl, by decide +kernel⟩
  refine go_i hp hP hD hS hA (fun _ => rfl) (va_runSN (As := [.int r3, .int (48 : Int32), .int (57 : Int32)]) (rest := []) ⟨hx, hb, hml, hown, hts⟩ (c_X7_isWithin h _) ⟨va_cnB 3 hts gX6_isDigitHere_X7_isWithin_n61 rfl rfl rfl (nwX6_61 hN) (k_X6_isDigitHere_iX7 hts) (by decide +kernel) ⟨Nat.le_of_ble_eq_true rfl, Nat.le_of_ble_eq_true rfl⟩, (k_X6_isDigitHere_stX7_isWithin hts), trivial⟩ (pre_S hp hK hN hP hD) rfl rfl hl.1 rfl (lv_room (Nat.le_of_ble_eq_true rfl)) dX6_isDigitHere_8 ⟨Nat.le_of_ble_eq_true rfl, Nat.le_of_ble_eq_true rfl⟩) (fun r4 u H locs h hP hD hS => ?_)
  try dsimp only at h
  have hP : va_P D vwCl (w_X6_isDigitHere Y q q_letters g_size g_place g_items g_letters) H := hP
  have hD : va_D A (w_X6_isDigitHere Y q q_letters g_size g_place g_items g_letters) := hD
  exact ret_z () hx hb hr hlocks hK hP hD hS h.1 h.2 dX6_isDigitHere_11
abbrev rm_X6_readNumber : Room := { frames := 2, cells := 0, slots := 0, locals := 42 }
theorem in_X6_readNumber_X6 : ∀ w ∈ wsX60, w ∈ wsX6_readNumber := fun _ h => List.mem_cons_of_mem _ (List.mem_append_right _ h)
theorem k_X6_readNumber_f28 {s : State} {args : Array Value} (hts : ∀ w ∈ wsX6_readNumber, w.before args s = true) : (Cond.fieldLink RX6 28 "FoldRule$Text" "place" "I").before args s = true := hts _ (by decide +kernel)
theorem k_X6_readNumber_f15 {s : State} {args : Array Value} (hts : ∀ w ∈ wsX6_readNumber, w.before args s = true) : (Cond.fieldLink RX6 15 "FoldRule$Text" "size" "I").before args s = true := hts _ (by decide +kernel)
theorem k_X6_readNumber_m86 {s : State} {args : Array Value} (hts : ∀ w ∈ wsX6_readNumber, w.before args s = true) : (Cond.methodLink RX6 86 Lib.Math.min.name).before args s = true := hts _ (by decide +kernel)
theorem k_X6_readNumber_smin {s : State} {args : Array Value} (hts : ∀ w ∈ wsX6_readNumber, w.before args s = true) : (Cond.static Lib.Math.min.name).before args s = true := hts _ (by decide +kernel)
theorem k_X6_readNumber_imath {s : State} {args : Array Value} (hts : ∀ w ∈ wsX6_readNumber, w.before args s = true) : (Cond.initialized "java/lang/Math").before args s = true := hts _ (by decide +kernel)
theorem k_X6_readNumber_bmin {s : State} {args : Array Value} (hts : ∀ w ∈ wsX6_readNumber, w.before args s = true) : (Cond.code Lib.Math.min.name Lib.Math.min.code 2 (some .int)).before args s = true := hts _ (by decide +kernel)
set_option maxHeartbeats 4000000 in
set_option maxRecDepth 100000 in
theorem L_X6_readNumber_9 {p : Program} {l : Launch} {e : Env} {s : State} {m : MethodId} {args : Array Value} {below : List Frame} {meth : Method} {c : Code} {D : va_G} {Y : ClassId × ClassId × ClassId} {A : Nat → Prop} {q q_letters : Nat} {g_size g_items : Int32} {g_letters : Nat → Int32} {x1 : Int32} {Q : Int32 → Int32 → Prop} (C : Ctx p s m args meth c cX6_readNumber 5 (some .int) wsX6_readNumber RX6) (hK : va_K D vwCl (tyS Y) s) (hA : ∀ q, s.heap.size ≤ q → A q) : ∀ (n : Nat) (x2 x3 g_place : Int32), itr3 (B_X6_readNumber_9 g_size g_letters x1 Q) n x2 x3 g_place → ∀ (H : Heap) (locs : List Loc) (ls : Array Slot), va_P D vwCl (w_X6_readNumber Y q q_letters g_size g_place g_items g_letters) H → va_D A (w_X6_readNumber Y q q_letters g_size g_place g_items g_letters) → va_S A s.heap H locs → lv_has ls 5 [(0, .ref q), (1, .int x1), (2, .int x2), (3, .int x3)] → W p l e rm_X6_readNumber s m args below meth c H locs 0 0 (QI below args s D Y A (fun r (u : Int32) => Q r u) (fun u : Int32 => (w_X6_readNumber Y q q_letters g_size u g_items g_letters))) (F0 m 9 ls []) := by
  intro n
  induction n with
  | zero => intro x2 x3 g_place h; exact False.elim h
  | succ n ih =>
    intro x2 x3 g_place h H locs ls hP hD hS hl
    obtain ⟨⟨hx, hb, hml, hown, hts⟩, hr, hlocks, hN⟩ := id C
    have h : B_X6_readNumber_9 g_size g_letters x1 Q (itr3 (B_X6_readNumber_9 g_size g_letters x1 Q) n) x2 x3 g_place := h
    unfold B_X6_readNumber_9 at h
    refine lv_aload_n hx hb dX6_readNumber_9 rfl (lv_at hl 0 rfl) ?_
    refine va_get (D := D) (ci := 6) (v := .int g_place) (C := RX6) (T := TX6) (N := 4) hx hb hts in_X6_readNumber_X6 hown hK hP 0 rfl rfl 2 (by decide) (k_X6_readNumber_f28 hts) (fun _ h9 => h9) rfl dX6_readNumber_10 ?_
    refine lv_aload_n hx hb dX6_readNumber_13 rfl (lv_at hl 0 rfl) ?_
    refine va_get (D := D) (ci := 6) (v := .int g_size) (C := RX6) (T := TX6) (N := 4) hx hb hts in_X6_readNumber_X6 hown hK hP 0 rfl rfl 1 (by decide) (k_X6_readNumber_f15 hts) (fun _ h9 => h9) rfl dX6_readNumber_14 ?_
    refine lv_icmp_ge (tgt := 61) hx hb dX6_readNumber_17 (by decide) (fun c7 => ?_) (fun c7 => ?_)
    · have h := h.1 c7
      refine lv_iload_n hx hb dX6_readNumber_61 rfl (lv_at hl 2 rfl) ?_
      refine lv_if_le (tgt := 86) hx hb dX6_readNumber_62 (by decide) (fun c8 => ?_) (fun c8 => ?_)
      · have h := h.1 c8
        refine lv_iconst (v := 0) hx hb dX6_readNumber_86 (by decide) ?_
        refine lv_istore (lv' := [(4, .int (0 : Int32)), (0, .ref q), (1, .int x1), (2, .int x2), (3, .int x3)]) hx hb dX6_readNumber_87 hl (by decide) rfl (fun ls hl => ?_)
        refine lv_iload hx hb dX6_readNumber_89 (lv_at hl 0 rfl) ?_
        refine lv_if_eq (tgt := 98) hx hb dX6_readNumber_91 (by decide) (fun c9 => ?_) (fun c9 => ?_)
        · have h := h.1 c9
          refine lv_bipush (v := (-9)) hx hb dX6_readNumber_98 (by decide) ?_
          exact ret_i (g_place) hx hb hr hlocks hK hP hD hS h dX6_readNumber_100
        · have h := h.2 c9
          refine lv_iload_n hx hb dX6_readNumber_94 rfl (lv_at hl 4 rfl) ?_
          refine lv_goto (tgt := 100) hx hb dX6_readNumber_95 (by decide) ?_
          exact ret_i (g_place) hx hb hr hlocks hK hP hD hS h dX6_readNumber_100
      · have h := h.2 c8
        refine lv_iload_n hx hb dX6_readNumber_65 rfl (lv_at hl 3 rfl) ?_
        refine lv_bipush (v := 99) hx hb dX6_readNumber_66 (by decide) ?_
        refine lv_icmp_gt (tgt := 86) hx hb dX6_readNumber_68 (by decide) (fun c10 => ?_) (fun c10 => ?_)
        · have h := h.1 c10
          refine lv_iconst (v := 0) hx hb dX6_readNumber_86 (by decide) ?_
          refine lv_istore (lv' := [(4, .int (0 : Int32)), (0, .ref q), (1, .int x1), (2, .int x2), (3, .int x3)]) hx hb dX6_readNumber_87 hl (by decide) rfl (fun ls hl => ?_)
          refine lv_iload hx hb dX6_readNumber_89 (lv_at hl 0 rfl) ?_
          refine lv_if_eq (tgt := 98) hx hb dX6_readNumber_91 (by decide) (fun c11 => ?_) (fun c11 => ?_)
          · have h := h.1 c11
            refine lv_bipush (v := (-9)) hx hb dX6_readNumber_98 (by decide) ?_
            exact ret_i (g_place) hx hb hr hlocks hK hP hD hS h dX6_readNumber_100
          · have h := h.2 c11
            refine lv_iload_n hx hb dX6_readNumber_94 rfl (lv_at hl 4 rfl) ?_
            refine lv_goto (tgt := 100) hx hb dX6_readNumber_95 (by decide) ?_
            exact ret_i (g_place) hx hb hr hlocks hK hP hD hS h dX6_readNumber_100
        · have h := h.2 c10
          refine lv_iload_n hx hb dX6_readNumber_71 rfl (lv_at hl 1 rfl) ?_
          refine lv_bipush (v := 48) hx hb dX6_readNumber_72 (by decide) ?_
          refine lv_icmp_ne (tgt := 82) hx hb dX6_readNumber_74 (by decide) (fun c12 => ?_) (fun c12 => ?_)
          · have h := h.1 c12
            refine lv_iconst (v := 1) hx hb dX6_readNumber_82 (by decide) ?_
            refine lv_goto (tgt := 87) hx hb dX6_readNumber_83 (by decide) ?_
            refine lv_istore (lv' := [(4, .int (1 : Int32)), (0, .ref q), (1, .int x1), (2, .int x2), (3, .int x3)]) hx hb dX6_readNumber_87 hl (by decide) rfl (fun ls hl => ?_)
            refine lv_iload hx hb dX6_readNumber_89 (lv_at hl 0 rfl) ?_
            refine lv_if_eq (tgt := 98) hx hb dX6_readNumber_91 (by decide) (fun c13 => ?_) (fun c13 => ?_)
            · have h := h.1 c13
              refine lv_bipush (v := (-9)) hx hb dX6_readNumber_98 (by decide) ?_
              exact ret_i (g_place) hx hb hr hlocks hK hP hD hS h dX6_readNumber_100
            · have h := h.2 c13
              refine lv_iload_n hx hb dX6_readNumber_94 rfl (lv_at hl 4 rfl) ?_
              refine lv_goto (tgt := 100) hx hb dX6_readNumber_95 (by decide) ?_
              exact ret_i (g_place) hx hb hr hlocks hK hP hD hS h dX6_readNumber_100
          · have h := h.2 c12
            refine lv_iload_n hx hb dX6_readNumber_77 rfl (lv_at hl 2 rfl) ?_
            refine lv_iconst (v := 1) hx hb dX6_readNumber_78 (by decide) ?_
            refine lv_icmp_ne (tgt := 86) hx hb dX6_readNumber_79 (by decide) (fun c14 => ?_) (fun c14 => ?_)
            · have h := h.1 c14
              refine lv_iconst (v := 0) hx hb dX6_readNumber_86 (by decide) ?_
              refine lv_istore (lv' := [(4, .int (0 : Int32)), (0, .ref q), (1, .int x1), (2, .int x2), (3, .int x3)]) hx hb dX6_readNumber_87 hl (by decide) rfl (fun ls hl => ?_)
              refine lv_iload hx hb dX6_readNumber_89 (lv_at hl 0 rfl) ?_
              refine lv_if_eq (tgt := 98) hx hb dX6_readNumber_91 (by decide) (fun c15 => ?_) (fun c15 => ?_)
              · have h := h.1 c15
                refine lv_bipush (v := (-9)) hx hb dX6_readNumber_98 (by decide) ?_
                exact ret_i (g_place) hx hb hr hlocks hK hP hD hS h dX6_readNumber_100
              · have h := h.2 c15
                refine lv_iload_n hx hb dX6_readNumber_94 rfl (lv_at hl 4 rfl) ?_
                refine lv_goto (tgt := 100) hx hb dX6_readNumber_95 (by decide) ?_
                exact ret_i (g_place) hx hb hr hlocks hK hP hD hS h dX6_readNumber_100
            · have h := h.2 c14
              refine lv_iconst (v := 1) hx hb dX6_readNumber_82 (by decide) ?_
              refine lv_goto (tgt := 87) hx hb dX6_readNumber_83 (by decide) ?_
              refine lv_istore (lv' := [(4, .int (1 : Int32)), (0, .ref q), (1, .int x1), (2, .int x2), (3, .int x3)]) hx hb dX6_readNumber_87 hl (by decide) rfl (fun ls hl => ?_)
              refine lv_iload hx hb dX6_readNumber_89 (lv_at hl 0 rfl) ?_
              refine lv_if_eq (tgt := 98) hx hb dX6_readNumber_91 (by decide) (fun c16 => ?_) (fun c16 => ?_)
              · have h := h.1 c16
                refine lv_bipush (v := (-9)) hx hb dX6_readNumber_98 (by decide) ?_
                exact ret_i (g_place) hx hb hr hlocks hK hP hD hS h dX6_readNumber_100
              · have h := h.2 c16
                refine lv_iload_n hx hb dX6_readNumber_94 rfl (lv_at hl 4 rfl) ?_
                refine lv_goto (tgt := 100) hx hb dX6_readNumber_95 (by decide) ?_
                exact ret_i (g_place) hx hb hr hlocks hK hP hD hS h dX6_readNumber_100
    · have h := h.2 c7
      refine lv_aload_n hx hb dX6_readNumber_20 rfl (lv_at hl 0 rfl) ?_
      have hp : Pt (w_X6_readNumber Y q q_letters g_size g_place g_items g_letters) (w_X6_isDigitHere Y q q_letters g_size g_place g_items g_letters) [0, 1] := ⟨rfl, by decide +kernel⟩
      refine go_i hp hP hD hS hA (fun _ => rfl) (va_runV (As := []) (rest := []) ⟨hx, hb, hml, hown, hts⟩ (c_X6_isDigitHere h _) (cwV 0 hts gX6_readNumber_X6_isDigitHere rfl rfl rfl (by decide +kernel) ⟨Nat.le_of_ble_eq_true rfl, Nat.le_of_ble_eq_true rfl⟩) (pre_V (b := q) (q0 := 0) (ci := 6) (q := (RX6, TX6, 4)) hp hK hN hP hD rfl rfl) rfl rfl hl.1 rfl (lv_room (Nat.le_of_ble_eq_true rfl)) dX6_readNumber_21 ⟨Nat.le_of_ble_eq_true rfl, Nat.le_of_ble_eq_true rfl⟩) (fun r17 u H locs h hP hD hS => ?_)
      try dsimp only at h
      have hP : va_P D vwCl (w_X6_readNumber Y q q_letters g_size g_place g_items g_letters) H := hP
      have hD : va_D A (w_X6_readNumber Y q q_letters g_size g_place g_items g_letters) := hD
      refine lv_if_eq (tgt := 61) hx hb dX6_readNumber_24 (by decide) (fun c18 => ?_) (fun c18 => ?_)
      · have h := h.1 c18
        refine lv_iload_n hx hb dX6_readNumber_61 rfl (lv_at hl 2 rfl) ?_
        refine lv_if_le (tgt := 86) hx hb dX6_readNumber_62 (by decide) (fun c19 => ?_) (fun c19 => ?_)
        · have h := h.1 c19
          refine lv_iconst (v := 0) hx hb dX6_readNumber_86 (by decide) ?_
          refine lv_istore (lv' := [(4, .int (0 : Int32)), (0, .ref q), (1, .int x1), (2, .int x2), (3, .int x3)]) hx hb dX6_readNumber_87 hl (by decide) rfl (fun ls hl => ?_)
          refine lv_iload hx hb dX6_readNumber_89 (lv_at hl 0 rfl) ?_
          refine lv_if_eq (tgt := 98) hx hb dX6_readNumber_91 (by decide) (fun c20 => ?_) (fun c20 => ?_)
          · have h := h.1 c20
            refine lv_bipush (v := (-9)) hx hb dX6_readNumber_98 (by decide) ?_
            exact ret_i (g_place) hx hb hr hlocks hK hP hD hS h dX6_readNumber_100
          · have h := h.2 c20
            refine lv_iload_n hx hb dX6_readNumber_94 rfl (lv_at hl 4 rfl) ?_
            refine lv_goto (tgt := 100) hx hb dX6_readNumber_95 (by decide) ?_
            exact ret_i (g_place) hx hb hr hlocks hK hP hD hS h dX6_readNumber_100
        · have h := h.2 c19
          refine lv_iload_n hx hb dX6_readNumber_65 rfl (lv_at hl 3 rfl) ?_
          refine lv_bipush (v := 99) hx hb dX6_readNumber_66 (by decide) ?_
          refine lv_icmp_gt (tgt := 86) hx hb dX6_readNumber_68 (by decide) (fun c21 => ?_) (fun c21 => ?_)
          · have h := h.1 c21
            refine lv_iconst (v := 0) hx hb dX6_readNumber_86 (by decide) ?_
            refine lv_istore (lv' := [(4, .int (0 : Int32)), (0, .ref q), (1, .int x1), (2, .int x2), (3, .int x3)]) hx hb dX6_readNumber_87 hl (by decide) rfl (fun ls hl => ?_)
            refine lv_iload hx hb dX6_readNumber_89 (lv_at hl 0 rfl) ?_
            refine lv_if_eq (tgt := 98) hx hb dX6_readNumber_91 (by decide) (fun c22 => ?_) (fun c22 => ?_)
            · have h := h.1 c22
              refine lv_bipush (v := (-9)) hx hb dX6_readNumber_98 (by decide) ?_
              exact ret_i (g_place) hx hb hr hlocks hK hP hD hS h dX6_readNumber_100
            · have h := h.2 c22
              refine lv_iload_n hx hb dX6_readNumber_94 rfl (lv_at hl 4 rfl) ?_
              refine lv_goto (tgt := 100) hx hb dX6_readNumber_95 (by decide) ?_
              exact ret_i (g_place) hx hb hr hlocks hK hP hD hS h dX6_readNumber_100
          · have h := h.2 c21
            refine lv_iload_n hx hb dX6_readNumber_71 rfl (lv_at hl 1 rfl) ?_
            refine lv_bipush (v := 48) hx hb dX6_readNumber_72 (by decide) ?_
            refine lv_icmp_ne (tgt := 82) hx hb dX6_readNumber_74 (by decide) (fun c23 => ?_) (fun c23 => ?_)
            · have h := h.1 c23
              refine lv_iconst (v := 1) hx hb dX6_readNumber_82 (by decide) ?_
              refine lv_goto (tgt := 87) hx hb dX6_readNumber_83 (by decide) ?_
              refine lv_istore (lv' := [(4, .int (1 : Int32)), (0, .ref q), (1, .int x1), (2, .int x2), (3, .int x3)]) hx hb dX6_readNumber_87 hl (by decide) rfl (fun ls hl => ?_)
              refine lv_iload hx hb dX6_readNumber_89 (lv_at hl 0 rfl) ?_
              refine lv_if_eq (tgt := 98) hx hb dX6_readNumber_91 (by decide) (fun c24 => ?_) (fun c24 => ?_)
              · have h := h.1 c24
                refine lv_bipush (v := (-9)) hx hb dX6_readNumber_98 (by decide) ?_
                exact ret_i (g_place) hx hb hr hlocks hK hP hD hS h dX6_readNumber_100
              · have h := h.2 c24
                refine lv_iload_n hx hb dX6_readNumber_94 rfl (lv_at hl 4 rfl) ?_
                refine lv_goto (tgt := 100) hx hb dX6_readNumber_95 (by decide) ?_
                exact ret_i (g_place) hx hb hr hlocks hK hP hD hS h dX6_readNumber_100
            · have h := h.2 c23
              refine lv_iload_n hx hb dX6_readNumber_77 rfl (lv_at hl 2 rfl) ?_
              refine lv_iconst (v := 1) hx hb dX6_readNumber_78 (by decide) ?_
              refine lv_icmp_ne (tgt := 86) hx hb dX6_readNumber_79 (by decide) (fun c25 => ?_) (fun c25 => ?_)
              · have h := h.1 c25
                refine lv_iconst (v := 0) hx hb dX6_readNumber_86 (by decide) ?_
                refine lv_istore (lv' := [(4, .int (0 : Int32)), (0, .ref q), (1, .int x1), (2, .int x2), (3, .int x3)]) hx hb dX6_readNumber_87 hl (by decide) rfl (fun ls hl => ?_)
                refine lv_iload hx hb dX6_readNumber_89 (lv_at hl 0 rfl) ?_
                refine lv_if_eq (tgt := 98) hx hb dX6_readNumber_91 (by decide) (fun c26 => ?_) (fun c26 => ?_)
                · have h := h.1 c26
                  refine lv_bipush (v := (-9)) hx hb dX6_readNumber_98 (by decide) ?_
                  exact ret_i (g_place) hx hb hr hlocks hK hP hD hS h dX6_readNumber_100
                · have h := h.2 c26
                  refine lv_iload_n hx hb dX6_readNumber_94 rfl (lv_at hl 4 rfl) ?_
                  refine lv_goto (tgt := 100) hx hb dX6_readNumber_95 (by decide) ?_
                  exact ret_i (g_place) hx hb hr hlocks hK hP hD hS h dX6_readNumber_100
              · have h := h.2 c25
                refine lv_iconst (v := 1) hx hb dX6_readNumber_82 (by decide) ?_
                refine lv_goto (tgt := 87) hx hb dX6_readNumber_83 (by decide) ?_
                refine lv_istore (lv' := [(4, .int (1 : Int32)), (0, .ref q), (1, .int x1), (2, .int x2), (3, .int x3)]) hx hb dX6_readNumber_87 hl (by decide) rfl (fun ls hl => ?_)
                refine lv_iload hx hb dX6_readNumber_89 (lv_at hl 0 rfl) ?_
                refine lv_if_eq (tgt := 98) hx hb dX6_readNumber_91 (by decide) (fun c27 => ?_) (fun c27 => ?_)
                · have h := h.1 c27
                  refine lv_bipush (v := (-9)) hx hb dX6_readNumber_98 (by decide) ?_
                  exact ret_i (g_place) hx hb hr hlocks hK hP hD hS h dX6_readNumber_100
                · have h := h.2 c27
                  refine lv_iload_n hx hb dX6_readNumber_94 rfl (lv_at hl 4 rfl) ?_
                  refine lv_goto (tgt := 100) hx hb dX6_readNumber_95 (by decide) ?_
                  exact ret_i (g_place) hx hb hr hlocks hK hP hD hS h dX6_readNumber_100
      · have h := h.2 c18
        refine lv_iload_n hx hb dX6_readNumber_27 rfl (lv_at hl 3 rfl) ?_
        refine lv_bipush (v := 10) hx hb dX6_readNumber_28 (by decide) ?_
        refine lv_imul hx hb dX6_readNumber_30 ?_
        refine lv_aload_n hx hb dX6_readNumber_31 rfl (lv_at hl 0 rfl) ?_
        have hp : Pt (w_X6_readNumber Y q q_letters g_size g_place g_items g_letters) (w_X6_letterHere Y q q_letters g_size g_place g_items g_letters) [0, 1] := ⟨rfl, by decide +kernel⟩
        refine go_i hp hP hD hS hA (fun _ => rfl) (va_runV (As := []) (rest := [.int (x3 * (10 : Int32))]) ⟨hx, hb, hml, hown, hts⟩ (c_X6_letterHere h _) (cwV 0 hts gX6_readNumber_X6_letterHere rfl rfl rfl (by decide +kernel) ⟨Nat.le_of_ble_eq_true rfl, Nat.le_of_ble_eq_true rfl⟩) (pre_V (b := q) (q0 := 0) (ci := 6) (q := (RX6, TX6, 4)) hp hK hN hP hD rfl rfl) rfl rfl hl.1 rfl (lv_room (Nat.le_of_ble_eq_true rfl)) dX6_readNumber_32 ⟨Nat.le_of_ble_eq_true rfl, Nat.le_of_ble_eq_true rfl⟩) (fun r28 u H locs h hP hD hS => ?_)
        try dsimp only at h
        have hP : va_P D vwCl (w_X6_readNumber Y q q_letters g_size g_place g_items g_letters) H := hP
        have hD : va_D A (w_X6_readNumber Y q q_letters g_size g_place g_items g_letters) := hD
        refine lv_iadd hx hb dX6_readNumber_35 ?_
        refine lv_bipush (v := 48) hx hb dX6_readNumber_36 (by decide) ?_
        refine lv_isub hx hb dX6_readNumber_38 ?_
        refine lv_bipush (v := 100) hx hb dX6_readNumber_39 (by decide) ?_
        refine va_mmin hx hb (hml.trans hl.1.symm) hown (k_X6_readNumber_m86 hts) (k_X6_readNumber_smin hts) (k_X6_readNumber_imath hts) (k_X6_readNumber_bmin hts) (Nat.le_of_ble_eq_true rfl) (Nat.le_of_ble_eq_true rfl) (Nat.le_of_ble_eq_true rfl) (Nat.le_of_ble_eq_true rfl) dX6_readNumber_41 ?_
        refine lv_topi (fun z29 ez29 => ?_)
        have h := h z29 ez29
        refine lv_istore_n (lv' := [(3, .int z29), (0, .ref q), (1, .int x1), (2, .int x2)]) hx hb dX6_readNumber_44 rfl hl (by decide) rfl (fun ls hl => ?_)
        obtain ⟨z30, ez30⟩ : ∃ y : Int32, y = (x2 + (1 : Int32)) := ⟨_, rfl⟩
        have h := h z30 ez30
        refine lv_iinc (v := z30) (lv' := [(2, .int z30), (3, .int z29), (0, .ref q), (1, .int x1)]) hx hb dX6_readNumber_45 hl (k := 3) rfl (by rw [ez30]; rfl) (by decide) rfl (fun ls hl => ?_)
        refine lv_aload_n hx hb dX6_readNumber_48 rfl (lv_at hl 2 rfl) ?_
        refine lv_dup hx hb dX6_readNumber_49 rfl ?_
        refine va_get (D := D) (ci := 6) (v := .int g_place) (C := RX6) (T := TX6) (N := 4) hx hb hts in_X6_readNumber_X6 hown hK hP 0 rfl rfl 2 (by decide) (k_X6_readNumber_f28 hts) (fun _ h9 => h9) rfl dX6_readNumber_50 ?_
        refine lv_iconst (v := 1) hx hb dX6_readNumber_53 (by decide) ?_
        refine lv_iadd hx hb dX6_readNumber_54 ?_
        refine lv_topi (fun z31 ez31 => ?_)
        have h := h z31 ez31
        refine va_put (D := D) (ci := 6) (v := .int z31) (ty := .int) (C := RX6) (T := TX6) (N := 4) hx hb hts in_X6_readNumber_X6 tyX6 tyX6_ok nmX6 hown hK hP hD hS 0 rfl rfl 2 (by decide) (k_X6_readNumber_f28 hts) (fun _ h9 => h9) rfl (by decide +kernel) rfl rfl (Nat.le_of_ble_eq_true rfl) dX6_readNumber_55 (fun H locs hP hD hS => ?_)
        have hP : va_P D vwCl (w_X6_readNumber Y q q_letters g_size z31 g_items g_letters) H := hP
        have hD : va_D A (w_X6_readNumber Y q q_letters g_size z31 g_items g_letters) := hD
        refine lv_goto (tgt := 9) hx hb dX6_readNumber_58 (by decide) ?_
        exact ih _ _ _ h _ _ _ hP hD hS (lv_sub hl [2, 3, 0, 1] rfl)
set_option maxHeartbeats 4000000 in
set_option maxRecDepth 100000 in
theorem c_X6_readNumber {l : Launch} {D : va_G} {Y : ClassId × ClassId × ClassId} {q q_letters : Nat} {g_size g_place g_items : Int32} {g_letters : Nat → Int32} {Q : Int32 → Int32 → Prop} (h : wp_X6_readNumber g_size g_place g_letters Q) (sz : Nat) : MtI l yX6_readNumber wsX6_readNumber rm_X6_readNumber [.ref q] D Y (w_X6_readNumber Y q q_letters g_size g_place g_items g_letters) (fun r (u : Int32) => Q r u) (fun u : Int32 => (w_X6_readNumber Y q q_letters g_size u g_items g_letters)) sz := by
  refine ct_i (cc := cX6_readNumber) (nL := 5) (ret := (some .int)) (by decide) rfl (Nat.le_of_ble_eq_true rfl) ?_ sz
  intro p e s m below meth c A ls C hK hA hP hD hS hl
  obtain ⟨⟨hx, hb, hml, hown, hts⟩, hr, hlocks, hN⟩ := id C
  have hown : s.vm.findClass RX6 = some m.cls := hown
  have hl : lv_has ls 5 [(0, .ref q)] := hl
  unfold wp_X6_readNumber at h
  refine lv_aload_n hx hb dX6_readNumber_0 rfl (lv_at hl 0 rfl) ?_
  have hp : Pt (w_X6_readNumber Y q q_letters g_size g_place g_items g_letters) (w_X6_letterHere Y q q_letters g_size g_place g_items g_letters) [0, 1] := ⟨rfl, by decide +kernel⟩
  refine go_i hp hP hD hS hA (fun _ => rfl) (va_runV (As := []) (rest := []) ⟨hx, hb, hml, hown, hts⟩ (c_X6_letterHere h _) (cwV 0 hts gX6_readNumber_X6_letterHere rfl rfl rfl (by decide +kernel) ⟨Nat.le_of_ble_eq_true rfl, Nat.le_of_ble_eq_true rfl⟩) (pre_V (b := q) (q0 := 0) (ci := 6) (q := (RX6, TX6, 4)) hp hK hN hP hD rfl rfl) rfl rfl hl.1 rfl (lv_room (Nat.le_of_ble_eq_true rfl)) dX6_readNumber_1 ⟨Nat.le_of_ble_eq_true rfl, Nat.le_of_ble_eq_true rfl⟩) (fun r32 u H locs h hP hD hS => ?_)
  try dsimp only at h
  have hP : va_P D vwCl (w_X6_readNumber Y q q_letters g_size g_place g_items g_letters) H := hP
  have hD : va_D A (w_X6_readNumber Y q q_letters g_size g_place g_items g_letters) := hD
  refine lv_istore_n (lv' := [(1, .int r32), (0, .ref q)]) hx hb dX6_readNumber_4 rfl hl (by decide) rfl (fun ls hl => ?_)
  refine lv_iconst (v := 0) hx hb dX6_readNumber_5 (by decide) ?_
  refine lv_istore_n (lv' := [(2, .int (0 : Int32)), (1, .int r32), (0, .ref q)]) hx hb dX6_readNumber_6 rfl hl (by decide) rfl (fun ls hl => ?_)
  refine lv_iconst (v := 0) hx hb dX6_readNumber_7 (by decide) ?_
  refine lv_istore_n (lv' := [(3, .int (0 : Int32)), (2, .int (0 : Int32)), (1, .int r32), (0, .ref q)]) hx hb dX6_readNumber_8 rfl hl (by decide) rfl (fun ls hl => ?_)
  obtain ⟨n, h⟩ := h
  exact L_X6_readNumber_9 C hK hA  n _ _ _ h _ _ _ hP hD hS (lv_sub hl [3, 2, 1, 0] rfl)
