abbrev rm_X2_lowOf : Room := { frames := 1, cells := 0, slots := 0, locals := 21 }
theorem k_X2_lowOf_m25 {s : State} {args : Array Value} (hts : ∀ w ∈ wsX2_lowOf, w.before args s = true) : (Cond.methodLink RX2 25 Lib.Math.min.name).before args s = true := hts _ (by decide +kernel)
theorem k_X2_lowOf_smin {s : State} {args : Array Value} (hts : ∀ w ∈ wsX2_lowOf, w.before args s = true) : (Cond.static Lib.Math.min.name).before args s = true := hts _ (by decide +kernel)
theorem k_X2_lowOf_imath {s : State} {args : Array Value} (hts : ∀ w ∈ wsX2_lowOf, w.before args s = true) : (Cond.initialized "java/lang/Math").before args s = true := hts _ (by decide +kernel)
theorem k_X2_lowOf_bmin {s : State} {args : Array Value} (hts : ∀ w ∈ wsX2_lowOf, w.before args s = true) : (Cond.code Lib.Math.min.name Lib.Math.min.code 2 (some .int)).before args s = true := hts _ (by decide +kernel)
set_option maxHeartbeats 4000000 in
set_option maxRecDepth 100000 in
theorem c_X2_lowOf {l : Launch} {D : va_G} {Y : ClassId × ClassId × ClassId} {q q_places : Nat} {g_links g_low g_high : Int32} {g_places : Nat → Int32} {x1 : Int32} {Q : Int32 → Prop} (h : wp_X2_lowOf g_links g_places x1 Q) (sz : Nat) : MtI l yX2_lowOf wsX2_lowOf rm_X2_lowOf [.ref q, .int x1] D Y (w_X2_lowOf Y q q_places g_links g_low g_high g_places) (fun r (_ : Unit) => Q r) (fun _ : Unit => (w_X2_lowOf Y q q_places g_links g_low g_high g_places)) sz := by
  refine ct_i (cc := cX2_lowOf) (nL := 2) (ret := (some .int)) (by decide) rfl (Nat.le_of_ble_eq_true rfl) ?_ sz
  intro p e s m below meth c A ls C hK hA hP hD hS hl
  obtain ⟨⟨hx, hb, hml, hown, hts⟩, hr, hlocks, hN⟩ := id C
  have hown : s.vm.findClass RX2 = some m.cls := hown
  have hl : lv_has ls 2 [(0, .ref q), (1, .int x1)] := hl
  unfold wp_X2_lowOf at h
  refine lv_aload_n hx hb dX2_lowOf_0 rfl (lv_at hl 0 rfl) ?_
  refine lv_iload_n hx hb dX2_lowOf_1 rfl (lv_at hl 1 rfl) ?_
  have hp : Pt (w_X2_lowOf Y q q_places g_links g_low g_high g_places) (w_X2_placeOf Y q q_places g_links g_low g_high g_places) [0, 1] := ⟨rfl, by decide +kernel⟩
  refine go_i hp hP hD hS hA (fun _ => rfl) (va_runV (As := [.int x1]) (rest := []) ⟨hx, hb, hml, hown, hts⟩ (c_X2_placeOf h _) (cwV 1 hts gX2_lowOf_X2_placeOf rfl rfl rfl (by decide +kernel) ⟨Nat.le_of_ble_eq_true rfl, Nat.le_of_ble_eq_true rfl⟩) (pre_V (b := q) (q0 := 0) (ci := 2) (q := (RX2, TX2, 4)) hp hK hN hP hD rfl rfl) rfl rfl hl.1 rfl (lv_room (Nat.le_of_ble_eq_true rfl)) dX2_lowOf_2 ⟨Nat.le_of_ble_eq_true rfl, Nat.le_of_ble_eq_true rfl⟩) (fun r4 u H locs h hP hD hS => ?_)
  try dsimp only at h
  have hP : va_P D vwCl (w_X2_lowOf Y q q_places g_links g_low g_high g_places) H := hP
  have hD : va_D A (w_X2_lowOf Y q q_places g_links g_low g_high g_places) := hD
  refine lv_aload_n hx hb dX2_lowOf_5 rfl (lv_at hl 0 rfl) ?_
  refine lv_iload_n hx hb dX2_lowOf_6 rfl (lv_at hl 1 rfl) ?_
  refine lv_iconst (v := 1) hx hb dX2_lowOf_7 (by decide) ?_
  refine lv_iadd hx hb dX2_lowOf_8 ?_
  have hp : Pt (w_X2_lowOf Y q q_places g_links g_low g_high g_places) (w_X2_placeOf Y q q_places g_links g_low g_high g_places) [0, 1] := ⟨rfl, by decide +kernel⟩
  refine go_i hp hP hD hS hA (fun _ => rfl) (va_runV (As := [.int (x1 + (1 : Int32))]) (rest := [.int r4]) ⟨hx, hb, hml, hown, hts⟩ (c_X2_placeOf h _) (cwV 1 hts gX2_lowOf_X2_placeOf rfl rfl rfl (by decide +kernel) ⟨Nat.le_of_ble_eq_true rfl, Nat.le_of_ble_eq_true rfl⟩) (pre_V (b := q) (q0 := 0) (ci := 2) (q := (RX2, TX2, 4)) hp hK hN hP hD rfl rfl) rfl rfl hl.1 rfl (lv_room (Nat.le_of_ble_eq_true rfl)) dX2_lowOf_9 ⟨Nat.le_of_ble_eq_true rfl, Nat.le_of_ble_eq_true rfl⟩) (fun r5 u H locs h hP hD hS => ?_)
  try dsimp only at h
  have hP : va_P D vwCl (w_X2_lowOf Y q q_places g_links g_low g_high g_places) H := hP
  have hD : va_D A (w_X2_lowOf Y q q_places g_links g_low g_high g_places) := hD
  refine va_mmin hx hb (hml.trans hl.1.symm) hown (k_X2_lowOf_m25 hts) (k_X2_lowOf_smin hts) (k_X2_lowOf_imath hts) (k_X2_lowOf_bmin hts) (Nat.le_of_ble_eq_true rfl) (Nat.le_of_ble_eq_true rfl) (Nat.le_of_ble_eq_true rfl) (Nat.le_of_ble_eq_true rfl) dX2_lowOf_12 ?_
  refine lv_topi (fun z6 ez6 => ?_)
  have h := h z6 ez6
  exact ret_i () hx hb hr hlocks hK hP hD hS h dX2_lowOf_15
abbrev rm_X2_highOf : Room := { frames := 1, cells := 0, slots := 0, locals := 21 }
theorem k_X2_highOf_m41 {s : State} {args : Array Value} (hts : ∀ w ∈ wsX2_highOf, w.before args s = true) : (Cond.methodLink RX2 41 Lib.Math.max.name).before args s = true := hts _ (by decide +kernel)
theorem k_X2_highOf_smax {s : State} {args : Array Value} (hts : ∀ w ∈ wsX2_highOf, w.before args s = true) : (Cond.static Lib.Math.max.name).before args s = true := hts _ (by decide +kernel)
theorem k_X2_highOf_imath {s : State} {args : Array Value} (hts : ∀ w ∈ wsX2_highOf, w.before args s = true) : (Cond.initialized "java/lang/Math").before args s = true := hts _ (by decide +kernel)
theorem k_X2_highOf_bmax {s : State} {args : Array Value} (hts : ∀ w ∈ wsX2_highOf, w.before args s = true) : (Cond.code Lib.Math.max.name Lib.Math.max.code 2 (some .int)).before args s = true := hts _ (by decide +kernel)
set_option maxHeartbeats 4000000 in
set_option maxRecDepth 100000 in
theorem c_X2_highOf {l : Launch} {D : va_G} {Y : ClassId × ClassId × ClassId} {q q_places : Nat} {g_links g_low g_high : Int32} {g_places : Nat → Int32} {x1 : Int32} {Q : Int32 → Prop} (h : wp_X2_highOf g_links g_places x1 Q) (sz : Nat) : MtI l yX2_highOf wsX2_highOf rm_X2_highOf [.ref q, .int x1] D Y (w_X2_highOf Y q q_places g_links g_low g_high g_places) (fun r (_ : Unit) => Q r) (fun _ : Unit => (w_X2_highOf Y q q_places g_links g_low g_high g_places)) sz := by
  refine ct_i (cc := cX2_highOf) (nL := 2) (ret := (some .int)) (by decide) rfl (Nat.le_of_ble_eq_true rfl) ?_ sz
  intro p e s m below meth c A ls C hK hA hP hD hS hl
  obtain ⟨⟨hx, hb, hml, hown, hts⟩, hr, hlocks, hN⟩ := id C
  have hown : s.vm.findClass RX2 = some m.cls := hown
  have hl : lv_has ls 2 [(0, .ref q), (1, .int x1)] := hl
  unfold wp_X2_highOf at h
  refine lv_aload_n hx hb dX2_highOf_0 rfl (lv_at hl 0 rfl) ?_
  refine lv_iload_n hx hb dX2_highOf_1 rfl (lv_at hl 1 rfl) ?_
  have hp : Pt (w_X2_highOf Y q q_places g_links g_low g_high g_places) (w_X2_placeOf Y q q_places g_links g_low g_high g_places) [0, 1] := ⟨rfl, by decide +kernel⟩
  refine go_i hp hP hD hS hA (fun _ => rfl) (va_runV (As := [.int x1]) (rest := []) ⟨hx, hb, hml, hown, hts⟩ (c_X2_placeOf h _) (cwV 1 hts gX2_highOf_X2_placeOf rfl rfl rfl (by decide +kernel) ⟨Nat.le_of_ble_eq_true rfl, Nat.le_of_ble_eq_true rfl⟩) (pre_V (b := q) (q0 := 0) (ci := 2) (q := (RX2, TX2, 4)) hp hK hN hP hD rfl rfl) rfl rfl hl.1 rfl (lv_room (Nat.le_of_ble_eq_true rfl)) dX2_highOf_2 ⟨Nat.le_of_ble_eq_true rfl, Nat.le_of_ble_eq_true rfl⟩) (fun r4 u H locs h hP hD hS => ?_)
  try dsimp only at h
  have hP : va_P D vwCl (w_X2_highOf Y q q_places g_links g_low g_high g_places) H := hP
  have hD : va_D A (w_X2_highOf Y q q_places g_links g_low g_high g_places) := hD
  refine lv_aload_n hx hb dX2_highOf_5 rfl (lv_at hl 0 rfl) ?_
  refine lv_iload_n hx hb dX2_highOf_6 rfl (lv_at hl 1 rfl) ?_
  refine lv_iconst (v := 1) hx hb dX2_highOf_7 (by decide) ?_
  refine lv_iadd hx hb dX2_highOf_8 ?_
  have hp : Pt (w_X2_highOf Y q q_places g_links g_low g_high g_places) (w_X2_placeOf Y q q_places g_links g_low g_high g_places) [0, 1] := ⟨rfl, by decide +kernel⟩
  refine go_i hp hP hD hS hA (fun _ => rfl) (va_runV (As := [.int (x1 + (1 : Int32))]) (rest := [.int r4]) ⟨hx, hb, hml, hown, hts⟩ (c_X2_placeOf h _) (cwV 1 hts gX2_highOf_X2_placeOf rfl rfl rfl (by decide +kernel) ⟨Nat.le_of_ble_eq_true rfl, Nat.le_of_ble_eq_true rfl⟩) (pre_V (b := q) (q0 := 0) (ci := 2) (q := (RX2, TX2, 4)) hp hK hN hP hD rfl rfl) rfl rfl hl.1 rfl (lv_room (Nat.le_of_ble_eq_true rfl)) dX2_highOf_9 ⟨Nat.le_of_ble_eq_true rfl, Nat.le_of_ble_eq_true rfl⟩) (fun r5 u H locs h hP hD hS => ?_)
  try dsimp only at h
  have hP : va_P D vwCl (w_X2_highOf Y q q_places g_links g_low g_high g_places) H := hP
  have hD : va_D A (w_X2_highOf Y q q_places g_links g_low g_high g_places) := hD
  refine va_mmax hx hb (hml.trans hl.1.symm) hown (k_X2_highOf_m41 hts) (k_X2_highOf_smax hts) (k_X2_highOf_imath hts) (k_X2_highOf_bmax hts) (Nat.le_of_ble_eq_true rfl) (Nat.le_of_ble_eq_true rfl) (Nat.le_of_ble_eq_true rfl) (Nat.le_of_ble_eq_true rfl) dX2_highOf_12 ?_
  refine lv_topi (fun z6 ez6 => ?_)
  have h := h z6 ez6
  exact ret_i () hx hb hr hlocks hK hP hD hS h dX2_highOf_15
abbrev rm_X2_linksBehind : Room := { frames := 2, cells := 0, slots := 0, locals := 42 }
theorem in_X2_linksBehind_X2 : ∀ w ∈ wsX20, w ∈ wsX2_linksBehind := fun _ h => List.mem_cons_of_mem _ (List.mem_append_right _ h)
theorem k_X2_linksBehind_f31 {s : State} {args : Array Value} (hts : ∀ w ∈ wsX2_linksBehind, w.before args s = true) : (Cond.fieldLink RX2 31 "FoldRule$Lay" "links" "I").before args s = true := hts _ (by decide +kernel)
set_option maxHeartbeats 4000000 in
set_option maxRecDepth 100000 in
theorem L_X2_linksBehind_4 {p : Program} {l : Launch} {e : Env} {s : State} {m : MethodId} {args : Array Value} {below : List Frame} {meth : Method} {c : Code} {D : va_G} {Y : ClassId × ClassId × ClassId} {A : Nat → Prop} {q q_places : Nat} {g_links g_low g_high : Int32} {g_places : Nat → Int32} {x1 : Int32} {Q : Int32 → Prop} (C : Ctx p s m args meth c cX2_linksBehind 4 (some .int) wsX2_linksBehind RX2) (hK : va_K D vwCl (tyS Y) s) (hA : ∀ q, s.heap.size ≤ q → A q) : ∀ (n : Nat) (x2 x3 : Int32), itr2 (B_X2_linksBehind_4 g_links g_places x1 Q) n x2 x3 → ∀ (H : Heap) (locs : List Loc) (ls : Array Slot), va_P D vwCl (w_X2_linksBehind Y q q_places g_links g_low g_high g_places) H → va_D A (w_X2_linksBehind Y q q_places g_links g_low g_high g_places) → va_S A s.heap H locs → lv_has ls 4 [(0, .ref q), (1, .int x1), (2, .int x2), (3, .int x3)] → W p l e rm_X2_linksBehind s m args below meth c H locs 0 0 (QI below args s D Y A (fun r (_ : Unit) => Q r) (fun _ : Unit => (w_X2_linksBehind Y q q_places g_links g_low g_high g_places))) (F0 m 4 ls []) := by
  intro n
  induction n with
  | zero => intro x2 x3 h; exact False.elim h
  | succ n ih =>
    intro x2 x3 h H locs ls hP hD hS hl
    obtain ⟨⟨hx, hb, hml, hown, hts⟩, hr, hlocks, hN⟩ := id C
    have h : B_X2_linksBehind_4 g_links g_places x1 Q (itr2 (B_X2_linksBehind_4 g_links g_places x1 Q) n) x2 x3 := h
    unfold B_X2_linksBehind_4 at h
    refine lv_iload_n hx hb dX2_linksBehind_4 rfl (lv_at hl 3 rfl) ?_
    refine lv_aload_n hx hb dX2_linksBehind_5 rfl (lv_at hl 0 rfl) ?_
    refine va_get (D := D) (ci := 2) (v := .int g_links) (C := RX2) (T := TX2) (N := 4) hx hb hts in_X2_linksBehind_X2 hown hK hP 0 rfl rfl 1 (by decide) (k_X2_linksBehind_f31 hts) (fun _ h9 => h9) rfl dX2_linksBehind_6 ?_
    refine lv_icmp_ge (tgt := 39) hx hb dX2_linksBehind_9 (by decide) (fun c7 => ?_) (fun c7 => ?_)
    · have h := h.1 c7
      refine lv_iload_n hx hb dX2_linksBehind_39 rfl (lv_at hl 2 rfl) ?_
      exact ret_i () hx hb hr hlocks hK hP hD hS h dX2_linksBehind_40
    · have h := h.2 c7
      refine lv_aload_n hx hb dX2_linksBehind_12 rfl (lv_at hl 0 rfl) ?_
      refine lv_iload_n hx hb dX2_linksBehind_13 rfl (lv_at hl 3 rfl) ?_
      have hp : Pt (w_X2_linksBehind Y q q_places g_links g_low g_high g_places) (w_X2_lowOf Y q q_places g_links g_low g_high g_places) [0, 1] := ⟨rfl, by decide +kernel⟩
      refine go_i hp hP hD hS hA (fun _ => rfl) (va_runV (As := [.int x3]) (rest := []) ⟨hx, hb, hml, hown, hts⟩ (c_X2_lowOf h _) (cwV 1 hts gX2_linksBehind_X2_lowOf rfl rfl rfl (by decide +kernel) ⟨Nat.le_of_ble_eq_true rfl, Nat.le_of_ble_eq_true rfl⟩) (pre_V (b := q) (q0 := 0) (ci := 2) (q := (RX2, TX2, 4)) hp hK hN hP hD rfl rfl) rfl rfl hl.1 rfl (lv_room (Nat.le_of_ble_eq_true rfl)) dX2_linksBehind_14 ⟨Nat.le_of_ble_eq_true rfl, Nat.le_of_ble_eq_true rfl⟩) (fun r8 u H locs h hP hD hS => ?_)
      try dsimp only at h
      have hP : va_P D vwCl (w_X2_linksBehind Y q q_places g_links g_low g_high g_places) H := hP
      have hD : va_D A (w_X2_linksBehind Y q q_places g_links g_low g_high g_places) := hD
      refine lv_iload_n hx hb dX2_linksBehind_17 rfl (lv_at hl 1 rfl) ?_
      refine lv_icmp_gt (tgt := 33) hx hb dX2_linksBehind_18 (by decide) (fun c9 => ?_) (fun c9 => ?_)
      · have h := h.1 c9
        obtain ⟨z10, ez10⟩ : ∃ y : Int32, y = (x3 + (1 : Int32)) := ⟨_, rfl⟩
        have h := h z10 ez10
        refine lv_iinc (v := z10) (lv' := [(3, .int z10), (0, .ref q), (1, .int x1), (2, .int x2)]) hx hb dX2_linksBehind_33 hl (k := 3) rfl (by rw [ez10]; rfl) (by decide) rfl (fun ls hl => ?_)
        refine lv_goto (tgt := 4) hx hb dX2_linksBehind_36 (by decide) ?_
        exact ih _ _ h _ _ _ hP hD hS (lv_sub hl [1, 2, 3, 0] rfl)
      · have h := h.2 c9
        refine lv_iload_n hx hb dX2_linksBehind_21 rfl (lv_at hl 1 rfl) ?_
        refine lv_aload_n hx hb dX2_linksBehind_22 rfl (lv_at hl 0 rfl) ?_
        refine lv_iload_n hx hb dX2_linksBehind_23 rfl (lv_at hl 3 rfl) ?_
        have hp : Pt (w_X2_linksBehind Y q q_places g_links g_low g_high g_places) (w_X2_highOf Y q q_places g_links g_low g_high g_places) [0, 1] := ⟨rfl, by decide +kernel⟩
        refine go_i hp hP hD hS hA (fun _ => rfl) (va_runV (As := [.int x3]) (rest := [.int x1]) ⟨hx, hb, hml, hown, hts⟩ (c_X2_highOf h _) (cwV 1 hts gX2_linksBehind_X2_highOf rfl rfl rfl (by decide +kernel) ⟨Nat.le_of_ble_eq_true rfl, Nat.le_of_ble_eq_true rfl⟩) (pre_V (b := q) (q0 := 0) (ci := 2) (q := (RX2, TX2, 4)) hp hK hN hP hD rfl rfl) rfl rfl hl.1 rfl (lv_room (Nat.le_of_ble_eq_true rfl)) dX2_linksBehind_24 ⟨Nat.le_of_ble_eq_true rfl, Nat.le_of_ble_eq_true rfl⟩) (fun r11 u H locs h hP hD hS => ?_)
        try dsimp only at h
        have hP : va_P D vwCl (w_X2_linksBehind Y q q_places g_links g_low g_high g_places) H := hP
        have hD : va_D A (w_X2_linksBehind Y q q_places g_links g_low g_high g_places) := hD
        refine lv_icmp_ge (tgt := 33) hx hb dX2_linksBehind_27 (by decide) (fun c12 => ?_) (fun c12 => ?_)
        · have h := h.1 c12
          obtain ⟨z13, ez13⟩ : ∃ y : Int32, y = (x3 + (1 : Int32)) := ⟨_, rfl⟩
          have h := h z13 ez13
          refine lv_iinc (v := z13) (lv' := [(3, .int z13), (0, .ref q), (1, .int x1), (2, .int x2)]) hx hb dX2_linksBehind_33 hl (k := 3) rfl (by rw [ez13]; rfl) (by decide) rfl (fun ls hl => ?_)
          refine lv_goto (tgt := 4) hx hb dX2_linksBehind_36 (by decide) ?_
          exact ih _ _ h _ _ _ hP hD hS (lv_sub hl [1, 2, 3, 0] rfl)
        · have h := h.2 c12
          obtain ⟨z14, ez14⟩ : ∃ y : Int32, y = (x2 + (1 : Int32)) := ⟨_, rfl⟩
          have h := h z14 ez14
          refine lv_iinc (v := z14) (lv' := [(2, .int z14), (0, .ref q), (1, .int x1), (3, .int x3)]) hx hb dX2_linksBehind_30 hl (k := 2) rfl (by rw [ez14]; rfl) (by decide) rfl (fun ls hl => ?_)
          obtain ⟨z15, ez15⟩ : ∃ y : Int32, y = (x3 + (1 : Int32)) := ⟨_, rfl⟩
          have h := h z15 ez15
          refine lv_iinc (v := z15) (lv' := [(3, .int z15), (2, .int z14), (0, .ref q), (1, .int x1)]) hx hb dX2_linksBehind_33 hl (k := 3) rfl (by rw [ez15]; rfl) (by decide) rfl (fun ls hl => ?_)
          refine lv_goto (tgt := 4) hx hb dX2_linksBehind_36 (by decide) ?_
          exact ih _ _ h _ _ _ hP hD hS (lv_sub hl [2, 3, 1, 0] rfl)
set_option maxHeartbeats 4000000 in
set_option maxRecDepth 100000 in
theorem c_X2_linksBehind {l : Launch} {D : va_G} {Y : ClassId × ClassId × ClassId} {q q_places : Nat} {g_links g_low g_high : Int32} {g_places : Nat → Int32} {x1 : Int32} {Q : Int32 → Prop} (h : wp_X2_linksBehind g_links g_places x1 Q) (sz : Nat) : MtI l yX2_linksBehind wsX2_linksBehind rm_X2_linksBehind [.ref q, .int x1] D Y (w_X2_linksBehind Y q q_places g_links g_low g_high g_places) (fun r (_ : Unit) => Q r) (fun _ : Unit => (w_X2_linksBehind Y q q_places g_links g_low g_high g_places)) sz := by
  refine ct_i (cc := cX2_linksBehind) (nL := 4) (ret := (some .int)) (by decide) rfl (Nat.le_of_ble_eq_true rfl) ?_ sz
  intro p e s m below meth c A ls C hK hA hP hD hS hl
  obtain ⟨⟨hx, hb, hml, hown, hts⟩, hr, hlocks, hN⟩ := id C
  have hown : s.vm.findClass RX2 = some m.cls := hown
  have hl : lv_has ls 4 [(0, .ref q), (1, .int x1)] := hl
  unfold wp_X2_linksBehind at h
  refine lv_iconst (v := 0) hx hb dX2_linksBehind_0 (by decide) ?_
  refine lv_istore_n (lv' := [(2, .int (0 : Int32)), (0, .ref q), (1, .int x1)]) hx hb dX2_linksBehind_1 rfl hl (by decide) rfl (fun ls hl => ?_)
  refine lv_iconst (v := 0) hx hb dX2_linksBehind_2 (by decide) ?_
  refine lv_istore_n (lv' := [(3, .int (0 : Int32)), (2, .int (0 : Int32)), (0, .ref q), (1, .int x1)]) hx hb dX2_linksBehind_3 rfl hl (by decide) rfl (fun ls hl => ?_)
  obtain ⟨n, h⟩ := h
  exact L_X2_linksBehind_4 C hK hA  n _ _ h _ _ _ hP hD hS (lv_sub hl [2, 3, 1, 0] rfl)
abbrev rm_X2_stack : Room := { frames := 3, cells := 0, slots := 0, locals := 65 }
theorem in_X2_stack_X2 : ∀ w ∈ wsX20, w ∈ wsX2_stack := fun _ h => List.mem_cons_of_mem _ (List.mem_append_right _ h)
theorem k_X2_stack_f31 {s : State} {args : Array Value} (hts : ∀ w ∈ wsX2_stack, w.before args s = true) : (Cond.fieldLink RX2 31 "FoldRule$Lay" "links" "I").before args s = true := hts _ (by decide +kernel)
theorem k_X2_stack_m41 {s : State} {args : Array Value} (hts : ∀ w ∈ wsX2_stack, w.before args s = true) : (Cond.methodLink RX2 41 Lib.Math.max.name).before args s = true := hts _ (by decide +kernel)
theorem k_X2_stack_smax {s : State} {args : Array Value} (hts : ∀ w ∈ wsX2_stack, w.before args s = true) : (Cond.static Lib.Math.max.name).before args s = true := hts _ (by decide +kernel)
theorem k_X2_stack_imath {s : State} {args : Array Value} (hts : ∀ w ∈ wsX2_stack, w.before args s = true) : (Cond.initialized "java/lang/Math").before args s = true := hts _ (by decide +kernel)
theorem k_X2_stack_bmax {s : State} {args : Array Value} (hts : ∀ w ∈ wsX2_stack, w.before args s = true) : (Cond.code Lib.Math.max.name Lib.Math.max.code 2 (some .int)).before args s = true := hts _ (by decide +kernel)
set_option maxHeartbeats 4000000 in
set_option maxRecDepth 100000 in
theorem L_X2_stack_4 {p : Program} {l : Launch} {e : Env} {s : State} {m : MethodId} {args : Array Value} {below : List Frame} {meth : Method} {c : Code} {D : va_G} {Y : ClassId × ClassId × ClassId} {A : Nat → Prop} {q q_places : Nat} {g_links g_low g_high : Int32} {g_places : Nat → Int32} {Q : Int32 → Prop} (C : Ctx p s m args meth c cX2_stack 3 (some .int) wsX2_stack RX2) (hK : va_K D vwCl (tyS Y) s) (hA : ∀ q, s.heap.size ≤ q → A q) : ∀ (n : Nat) (x1 x2 : Int32), itr2 (B_X2_stack_4 g_links g_places Q) n x1 x2 → ∀ (H : Heap) (locs : List Loc) (ls : Array Slot), va_P D vwCl (w_X2_stack Y q q_places g_links g_low g_high g_places) H → va_D A (w_X2_stack Y q q_places g_links g_low g_high g_places) → va_S A s.heap H locs → lv_has ls 3 [(0, .ref q), (1, .int x1), (2, .int x2)] → W p l e rm_X2_stack s m args below meth c H locs 0 0 (QI below args s D Y A (fun r (_ : Unit) => Q r) (fun _ : Unit => (w_X2_stack Y q q_places g_links g_low g_high g_places))) (F0 m 4 ls []) := by
  intro n
  induction n with
  | zero => intro x1 x2 h; exact False.elim h
  | succ n ih =>
    intro x1 x2 h H locs ls hP hD hS hl
    obtain ⟨⟨hx, hb, hml, hown, hts⟩, hr, hlocks, hN⟩ := id C
    have h : B_X2_stack_4 g_links g_places Q (itr2 (B_X2_stack_4 g_links g_places Q) n) x1 x2 := h
    unfold B_X2_stack_4 at h
    refine lv_iload_n hx hb dX2_stack_4 rfl (lv_at hl 2 rfl) ?_
    refine lv_aload_n hx hb dX2_stack_5 rfl (lv_at hl 0 rfl) ?_
    refine va_get (D := D) (ci := 2) (v := .int g_links) (C := RX2) (T := TX2) (N := 4) hx hb hts in_X2_stack_X2 hown hK hP 0 rfl rfl 1 (by decide) (k_X2_stack_f31 hts) (fun _ h9 => h9) rfl dX2_stack_6 ?_
    refine lv_icmp_ge (tgt := 32) hx hb dX2_stack_9 (by decide) (fun c5 => ?_) (fun c5 => ?_)
    · have h := h.1 c5
      refine lv_iload_n hx hb dX2_stack_32 rfl (lv_at hl 1 rfl) ?_
      exact ret_i () hx hb hr hlocks hK hP hD hS h dX2_stack_33
    · have h := h.2 c5
      refine lv_iload_n hx hb dX2_stack_12 rfl (lv_at hl 1 rfl) ?_
      refine lv_aload_n hx hb dX2_stack_13 rfl (lv_at hl 0 rfl) ?_
      refine lv_aload_n hx hb dX2_stack_14 rfl (lv_at hl 0 rfl) ?_
      refine lv_iload_n hx hb dX2_stack_15 rfl (lv_at hl 2 rfl) ?_
      have hp : Pt (w_X2_stack Y q q_places g_links g_low g_high g_places) (w_X2_lowOf Y q q_places g_links g_low g_high g_places) [0, 1] := ⟨rfl, by decide +kernel⟩
      refine go_i hp hP hD hS hA (fun _ => rfl) (va_runV (As := [.int x2]) (rest := [.ref q, .int x1]) ⟨hx, hb, hml, hown, hts⟩ (c_X2_lowOf h _) (cwV 1 hts gX2_stack_X2_lowOf rfl rfl rfl (by decide +kernel) ⟨Nat.le_of_ble_eq_true rfl, Nat.le_of_ble_eq_true rfl⟩) (pre_V (b := q) (q0 := 0) (ci := 2) (q := (RX2, TX2, 4)) hp hK hN hP hD rfl rfl) rfl rfl hl.1 rfl (lv_room (Nat.le_of_ble_eq_true rfl)) dX2_stack_16 ⟨Nat.le_of_ble_eq_true rfl, Nat.le_of_ble_eq_true rfl⟩) (fun r6 u H locs h hP hD hS => ?_)
      try dsimp only at h
      have hP : va_P D vwCl (w_X2_stack Y q q_places g_links g_low g_high g_places) H := hP
      have hD : va_D A (w_X2_stack Y q q_places g_links g_low g_high g_places) := hD
      have hp : Pt (w_X2_stack Y q q_places g_links g_low g_high g_places) (w_X2_linksBehind Y q q_places g_links g_low g_high g_places) [0, 1] := ⟨rfl, by decide +kernel⟩
      refine go_i hp hP hD hS hA (fun _ => rfl) (va_runV (As := [.int r6]) (rest := [.int x1]) ⟨hx, hb, hml, hown, hts⟩ (c_X2_linksBehind h _) (cwV 1 hts gX2_stack_X2_linksBehind rfl rfl rfl (by decide +kernel) ⟨Nat.le_of_ble_eq_true rfl, Nat.le_of_ble_eq_true rfl⟩) (pre_V (b := q) (q0 := 0) (ci := 2) (q := (RX2, TX2, 4)) hp hK hN hP hD rfl rfl) rfl rfl hl.1 rfl (lv_room (Nat.le_of_ble_eq_true rfl)) dX2_stack_19 ⟨Nat.le_of_ble_eq_true rfl, Nat.le_of_ble_eq_true rfl⟩) (fun r7 u H locs h hP hD hS => ?_)
      try dsimp only at h
      have hP : va_P D vwCl (w_X2_stack Y q q_places g_links g_low g_high g_places) H := hP
      have hD : va_D A (w_X2_stack Y q q_places g_links g_low g_high g_places) := hD
      refine va_mmax hx hb (hml.trans hl.1.symm) hown (k_X2_stack_m41 hts) (k_X2_stack_smax hts) (k_X2_stack_imath hts) (k_X2_stack_bmax hts) (Nat.le_of_ble_eq_true rfl) (Nat.le_of_ble_eq_true rfl) (Nat.le_of_ble_eq_true rfl) (Nat.le_of_ble_eq_true rfl) dX2_stack_22 ?_
      refine lv_topi (fun z8 ez8 => ?_)
      have h := h z8 ez8
      refine lv_istore_n (lv' := [(1, .int z8), (0, .ref q), (2, .int x2)]) hx hb dX2_stack_25 rfl hl (by decide) rfl (fun ls hl => ?_)
      obtain ⟨z9, ez9⟩ : ∃ y : Int32, y = (x2 + (1 : Int32)) := ⟨_, rfl⟩
      have h := h z9 ez9
      refine lv_iinc (v := z9) (lv' := [(2, .int z9), (1, .int z8), (0, .ref q)]) hx hb dX2_stack_26 hl (k := 2) rfl (by rw [ez9]; rfl) (by decide) rfl (fun ls hl => ?_)
      refine lv_goto (tgt := 4) hx hb dX2_stack_29 (by decide) ?_
      exact ih _ _ h _ _ _ hP hD hS (lv_sub hl [2, 1, 0] rfl)
set_option maxHeartbeats 4000000 in
set_option maxRecDepth 100000 in
theorem c_X2_stack {l : Launch} {D : va_G} {Y : ClassId × ClassId × ClassId} {q q_places : Nat} {g_links g_low g_high : Int32} {g_places : Nat → Int32} {Q : Int32 → Prop} (h : wp_X2_stack g_links g_places Q) (sz : Nat) : MtI l yX2_stack wsX2_stack rm_X2_stack [.ref q] D Y (w_X2_stack Y q q_places g_links g_low g_high g_places) (fun r (_ : Unit) => Q r) (fun _ : Unit => (w_X2_stack Y q q_places g_links g_low g_high g_places)) sz := by
  refine ct_i (cc := cX2_stack) (nL := 3) (ret := (some .int)) (by decide) rfl (Nat.le_of_ble_eq_true rfl) ?_ sz
  intro p e s m below meth c A ls C hK hA hP hD hS hl
  obtain ⟨⟨hx, hb, hml, hown, hts⟩, hr, hlocks, hN⟩ := id C
  have hown : s.vm.findClass RX2 = some m.cls := hown
  have hl : lv_has ls 3 [(0, .ref q)] := hl
  unfold wp_X2_stack at h
  refine lv_iconst (v := 0) hx hb dX2_stack_0 (by decide) ?_
  refine lv_istore_n (lv' := [(1, .int (0 : Int32)), (0, .ref q)]) hx hb dX2_stack_1 rfl hl (by decide) rfl (fun ls hl => ?_)
  refine lv_iconst (v := 0) hx hb dX2_stack_2 (by decide) ?_
  refine lv_istore_n (lv' := [(2, .int (0 : Int32)), (1, .int (0 : Int32)), (0, .ref q)]) hx hb dX2_stack_3 rfl hl (by decide) rfl (fun ls hl => ?_)
  obtain ⟨n, h⟩ := h
  exact L_X2_stack_4 C hK hA  n _ _ h _ _ _ hP hD hS (lv_sub hl [2, 1, 0] rfl)
abbrev rm_X2_othersOver : Room := { frames := 2, cells := 0, slots := 0, locals := 42 }
theorem in_X2_othersOver_X2 : ∀ w ∈ wsX20, w ∈ wsX2_othersOver := fun _ h => List.mem_cons_of_mem _ (List.mem_append_right _ h)
theorem k_X2_othersOver_f31 {s : State} {args : Array Value} (hts : ∀ w ∈ wsX2_othersOver, w.before args s = true) : (Cond.fieldLink RX2 31 "FoldRule$Lay" "links" "I").before args s = true := hts _ (by decide +kernel)
set_option maxHeartbeats 4000000 in
set_option maxRecDepth 100000 in
theorem L_X2_othersOver_4 {p : Program} {l : Launch} {e : Env} {s : State} {m : MethodId} {args : Array Value} {below : List Frame} {meth : Method} {c : Code} {D : va_G} {Y : ClassId × ClassId × ClassId} {A : Nat → Prop} {q q_places : Nat} {g_links g_low g_high : Int32} {g_places : Nat → Int32} {x1 : Int32} {Q : Int32 → Prop} (C : Ctx p s m args meth c cX2_othersOver 4 (some .int) wsX2_othersOver RX2) (hK : va_K D vwCl (tyS Y) s) (hA : ∀ q, s.heap.size ≤ q → A q) : ∀ (n : Nat) (x2 x3 : Int32), itr2 (B_X2_othersOver_4 g_links g_places x1 Q) n x2 x3 → ∀ (H : Heap) (locs : List Loc) (ls : Array Slot), va_P D vwCl (w_X2_othersOver Y q q_places g_links g_low g_high g_places) H → va_D A (w_X2_othersOver Y q q_places g_links g_low g_high g_places) → va_S A s.heap H locs → lv_has ls 4 [(0, .ref q), (1, .int x1), (2, .int x2), (3, .int x3)] → W p l e rm_X2_othersOver s m args below meth c H locs 0 0 (QI below args s D Y A (fun r (_ : Unit) => Q r) (fun _ : Unit => (w_X2_othersOver Y q q_places g_links g_low g_high g_places))) (F0 m 4 ls []) := by
  intro n
  induction n with
  | zero => intro x2 x3 h; exact False.elim h
  | succ n ih =>
    intro x2 x3 h H locs ls hP hD hS hl
    obtain ⟨⟨hx, hb, hml, hown, hts⟩, hr, hlocks, hN⟩ := id C
    have h : B_X2_othersOver_4 g_links g_places x1 Q (itr2 (B_X2_othersOver_4 g_links g_places x1 Q) n) x2 x3 := h
    unfold B_X2_othersOver_4 at h
    refine lv_iload_n hx hb dX2_othersOver_4 rfl (lv_at hl 3 rfl) ?_
    refine lv_aload_n hx hb dX2_othersOver_5 rfl (lv_at hl 0 rfl) ?_
    refine va_get (D := D) (ci := 2) (v := .int g_links) (C := RX2) (T := TX2) (N := 4) hx hb hts in_X2_othersOver_X2 hown hK hP 0 rfl rfl 1 (by decide) (k_X2_othersOver_f31 hts) (fun _ h9 => h9) rfl dX2_othersOver_6 ?_
    refine lv_icmp_ge (tgt := 52) hx hb dX2_othersOver_9 (by decide) (fun c10 => ?_) (fun c10 => ?_)
    · have h := h.1 c10
      refine lv_iload_n hx hb dX2_othersOver_52 rfl (lv_at hl 2 rfl) ?_
      exact ret_i () hx hb hr hlocks hK hP hD hS h dX2_othersOver_53
    · have h := h.2 c10
      refine lv_iload_n hx hb dX2_othersOver_12 rfl (lv_at hl 3 rfl) ?_
      refine lv_iload_n hx hb dX2_othersOver_13 rfl (lv_at hl 1 rfl) ?_
      refine lv_icmp_eq (tgt := 46) hx hb dX2_othersOver_14 (by decide) (fun c11 => ?_) (fun c11 => ?_)
      · have h := h.1 c11
        obtain ⟨z12, ez12⟩ : ∃ y : Int32, y = (x3 + (1 : Int32)) := ⟨_, rfl⟩
        have h := h z12 ez12
        refine lv_iinc (v := z12) (lv' := [(3, .int z12), (0, .ref q), (1, .int x1), (2, .int x2)]) hx hb dX2_othersOver_46 hl (k := 3) rfl (by rw [ez12]; rfl) (by decide) rfl (fun ls hl => ?_)
        refine lv_goto (tgt := 4) hx hb dX2_othersOver_49 (by decide) ?_
        exact ih _ _ h _ _ _ hP hD hS (lv_sub hl [1, 2, 3, 0] rfl)
      · have h := h.2 c11
        refine lv_aload_n hx hb dX2_othersOver_17 rfl (lv_at hl 0 rfl) ?_
        refine lv_iload_n hx hb dX2_othersOver_18 rfl (lv_at hl 3 rfl) ?_
        have hp : Pt (w_X2_othersOver Y q q_places g_links g_low g_high g_places) (w_X2_lowOf Y q q_places g_links g_low g_high g_places) [0, 1] := ⟨rfl, by decide +kernel⟩
        refine go_i hp hP hD hS hA (fun _ => rfl) (va_runV (As := [.int x3]) (rest := []) ⟨hx, hb, hml, hown, hts⟩ (c_X2_lowOf h _) (cwV 1 hts gX2_othersOver_X2_lowOf rfl rfl rfl (by decide +kernel) ⟨Nat.le_of_ble_eq_true rfl, Nat.le_of_ble_eq_true rfl⟩) (pre_V (b := q) (q0 := 0) (ci := 2) (q := (RX2, TX2, 4)) hp hK hN hP hD rfl rfl) rfl rfl hl.1 rfl (lv_room (Nat.le_of_ble_eq_true rfl)) dX2_othersOver_19 ⟨Nat.le_of_ble_eq_true rfl, Nat.le_of_ble_eq_true rfl⟩) (fun r13 u H locs h hP hD hS => ?_)
        try dsimp only at h
        have hP : va_P D vwCl (w_X2_othersOver Y q q_places g_links g_low g_high g_places) H := hP
        have hD : va_D A (w_X2_othersOver Y q q_places g_links g_low g_high g_places) := hD
        refine lv_aload_n hx hb dX2_othersOver_22 rfl (lv_at hl 0 rfl) ?_
        refine lv_iload_n hx hb dX2_othersOver_23 rfl (lv_at hl 1 rfl) ?_
        have hp : Pt (w_X2_othersOver Y q q_places g_links g_low g_high g_places) (w_X2_highOf Y q q_places g_links g_low g_high g_places) [0, 1] := ⟨rfl, by decide +kernel⟩
        refine go_i hp hP hD hS hA (fun _ => rfl) (va_runV (As := [.int x1]) (rest := [.int r13]) ⟨hx, hb, hml, hown, hts⟩ (c_X2_highOf h _) (cwV 1 hts gX2_othersOver_X2_highOf rfl rfl rfl (by decide +kernel) ⟨Nat.le_of_ble_eq_true rfl, Nat.le_of_ble_eq_true rfl⟩) (pre_V (b := q) (q0 := 0) (ci := 2) (q := (RX2, TX2, 4)) hp hK hN hP hD rfl rfl) rfl rfl hl.1 rfl (lv_room (Nat.le_of_ble_eq_true rfl)) dX2_othersOver_24 ⟨Nat.le_of_ble_eq_true rfl, Nat.le_of_ble_eq_true rfl⟩) (fun r14 u H locs h hP hD hS => ?_)
        try dsimp only at h
        have hP : va_P D vwCl (w_X2_othersOver Y q q_places g_links g_low g_high g_places) H := hP
        have hD : va_D A (w_X2_othersOver Y q q_places g_links g_low g_high g_places) := hD
        refine lv_icmp_ge (tgt := 46) hx hb dX2_othersOver_27 (by decide) (fun c15 => ?_) (fun c15 => ?_)
        · have h := h.1 c15
          obtain ⟨z16, ez16⟩ : ∃ y : Int32, y = (x3 + (1 : Int32)) := ⟨_, rfl⟩
          have h := h z16 ez16
          refine lv_iinc (v := z16) (lv' := [(3, .int z16), (0, .ref q), (1, .int x1), (2, .int x2)]) hx hb dX2_othersOver_46 hl (k := 3) rfl (by rw [ez16]; rfl) (by decide) rfl (fun ls hl => ?_)
          refine lv_goto (tgt := 4) hx hb dX2_othersOver_49 (by decide) ?_
          exact ih _ _ h _ _ _ hP hD hS (lv_sub hl [1, 2, 3, 0] rfl)
        · have h := h.2 c15
          refine lv_aload_n hx hb dX2_othersOver_30 rfl (lv_at hl 0 rfl) ?_
          refine lv_iload_n hx hb dX2_othersOver_31 rfl (lv_at hl 1 rfl) ?_
          have hp : Pt (w_X2_othersOver Y q q_places g_links g_low g_high g_places) (w_X2_lowOf Y q q_places g_links g_low g_high g_places) [0, 1] := ⟨rfl, by decide +kernel⟩
          refine go_i hp hP hD hS hA (fun _ => rfl) (va_runV (As := [.int x1]) (rest := []) ⟨hx, hb, hml, hown, hts⟩ (c_X2_lowOf h _) (cwV 1 hts gX2_othersOver_X2_lowOf rfl rfl rfl (by decide +kernel) ⟨Nat.le_of_ble_eq_true rfl, Nat.le_of_ble_eq_true rfl⟩) (pre_V (b := q) (q0 := 0) (ci := 2) (q := (RX2, TX2, 4)) hp hK hN hP hD rfl rfl) rfl rfl hl.1 rfl (lv_room (Nat.le_of_ble_eq_true rfl)) dX2_othersOver_32 ⟨Nat.le_of_ble_eq_true rfl, Nat.le_of_ble_eq_true rfl⟩) (fun r17 u H locs h hP hD hS => ?_)
          try dsimp only at h
          have hP : va_P D vwCl (w_X2_othersOver Y q q_places g_links g_low g_high g_places) H := hP
          have hD : va_D A (w_X2_othersOver Y q q_places g_links g_low g_high g_places) := hD
          refine lv_aload_n hx hb dX2_othersOver_35 rfl (lv_at hl 0 rfl) ?_
          refine lv_iload_n hx hb dX2_othersOver_36 rfl (lv_at hl 3 rfl) ?_
          have hp : Pt (w_X2_othersOver Y q q_places g_links g_low g_high g_places) (w_X2_highOf Y q q_places g_links g_low g_high g_places) [0, 1] := ⟨rfl, by decide +kernel⟩
          refine go_i hp hP hD hS hA (fun _ => rfl) (va_runV (As := [.int x3]) (rest := [.int r17]) ⟨hx, hb, hml, hown, hts⟩ (c_X2_highOf h _) (cwV 1 hts gX2_othersOver_X2_highOf rfl rfl rfl (by decide +kernel) ⟨Nat.le_of_ble_eq_true rfl, Nat.le_of_ble_eq_true rfl⟩) (pre_V (b := q) (q0 := 0) (ci := 2) (q := (RX2, TX2, 4)) hp hK hN hP hD rfl rfl) rfl rfl hl.1 rfl (lv_room (Nat.le_of_ble_eq_true rfl)) dX2_othersOver_37 ⟨Nat.le_of_ble_eq_true rfl, Nat.le_of_ble_eq_true rfl⟩) (fun r18 u H locs h hP hD hS => ?_)
          try dsimp only at h
          have hP : va_P D vwCl (w_X2_othersOver Y q q_places g_links g_low g_high g_places) H := hP
          have hD : va_D A (w_X2_othersOver Y q q_places g_links g_low g_high g_places) := hD
          refine lv_icmp_ge (tgt := 46) hx hb dX2_othersOver_40 (by decide) (fun c19 => ?_) (fun c19 => ?_)
          · have h := h.1 c19
            obtain ⟨z20, ez20⟩ : ∃ y : Int32, y = (x3 + (1 : Int32)) := ⟨_, rfl⟩
            have h := h z20 ez20
            refine lv_iinc (v := z20) (lv' := [(3, .int z20), (0, .ref q), (1, .int x1), (2, .int x2)]) hx hb dX2_othersOver_46 hl (k := 3) rfl (by rw [ez20]; rfl) (by decide) rfl (fun ls hl => ?_)
            refine lv_goto (tgt := 4) hx hb dX2_othersOver_49 (by decide) ?_
            exact ih _ _ h _ _ _ hP hD hS (lv_sub hl [1, 2, 3, 0] rfl)
          · have h := h.2 c19
            obtain ⟨z21, ez21⟩ : ∃ y : Int32, y = (x2 + (1 : Int32)) := ⟨_, rfl⟩
            have h := h z21 ez21
            refine lv_iinc (v := z21) (lv' := [(2, .int z21), (0, .ref q), (1, .int x1), (3, .int x3)]) hx hb dX2_othersOver_43 hl (k := 2) rfl (by rw [ez21]; rfl) (by decide) rfl (fun ls hl => ?_)
            obtain ⟨z22, ez22⟩ : ∃ y : Int32, y = (x3 + (1 : Int32)) := ⟨_, rfl⟩
            have h := h z22 ez22
            refine lv_iinc (v := z22) (lv' := [(3, .int z22), (2, .int z21), (0, .ref q), (1, .int x1)]) hx hb dX2_othersOver_46 hl (k := 3) rfl (by rw [ez22]; rfl) (by decide) rfl (fun ls hl => ?_)
            refine lv_goto (tgt := 4) hx hb dX2_othersOver_49 (by decide) ?_
            exact ih _ _ h _ _ _ hP hD hS (lv_sub hl [2, 3, 1, 0] rfl)
set_option maxHeartbeats 4000000 in
set_option maxRecDepth 100000 in
theorem c_X2_othersOver {l : Launch} {D : va_G} {Y : ClassId × ClassId × ClassId} {q q_places : Nat} {g_links g_low g_high : Int32} {g_places : Nat → Int32} {x1 : Int32} {Q : Int32 → Prop} (h : wp_X2_othersOver g_links g_places x1 Q) (sz : Nat) : MtI l yX2_othersOver wsX2_othersOver rm_X2_othersOver [.ref q, .int x1] D Y (w_X2_othersOver Y q q_places g_links g_low g_high g_places) (fun r (_ : Unit) => Q r) (fun _ : Unit => (w_X2_othersOver Y q q_places g_links g_low g_high g_places)) sz := by
  refine ct_i (cc := cX2_othersOver) (nL := 4) (ret := (some .int)) (by decide) rfl (Nat.le_of_ble_eq_true rfl) ?_ sz
  intro p e s m below meth c A ls C hK hA hP hD hS hl
  obtain ⟨⟨hx, hb, hml, hown, hts⟩, hr, hlocks, hN⟩ := id C
  have hown : s.vm.findClass RX2 = some m.cls := hown
  have hl : lv_has ls 4 [(0, .ref q), (1, .int x1)] := hl
  unfold wp_X2_othersOver at h
  refine lv_iconst (v := 0) hx hb dX2_othersOver_0 (by decide) ?_
  refine lv_istore_n (lv' := [(2, .int (0 : Int32)), (0, .ref q), (1, .int x1)]) hx hb dX2_othersOver_1 rfl hl (by decide) rfl (fun ls hl => ?_)
  refine lv_iconst (v := 0) hx hb dX2_othersOver_2 (by decide) ?_
  refine lv_istore_n (lv' := [(3, .int (0 : Int32)), (2, .int (0 : Int32)), (0, .ref q), (1, .int x1)]) hx hb dX2_othersOver_3 rfl hl (by decide) rfl (fun ls hl => ?_)
  obtain ⟨n, h⟩ := h
  exact L_X2_othersOver_4 C hK hA  n _ _ h _ _ _ hP hD hS (lv_sub hl [2, 3, 1, 0] rfl)
abbrev rm_X5_hasLink : Room := { frames := 0, cells := 0, slots := 0, locals := 0 }
theorem in_X5_hasLink_X5 : ∀ w ∈ wsX50, w ∈ wsX5_hasLink := fun _ h => List.mem_cons_of_mem _ (List.mem_append_right _ h)
theorem k_X5_hasLink_f15 {s : State} {args : Array Value} (hts : ∀ w ∈ wsX5_hasLink, w.before args s = true) : (Cond.fieldLink RX5 15 "FoldRule$Strip" "links" "I").before args s = true := hts _ (by decide +kernel)
set_option maxHeartbeats 4000000 in
set_option maxRecDepth 100000 in
theorem c_X5_hasLink {l : Launch} {D : va_G} {Y : ClassId × ClassId × ClassId} {q q_lengths : Nat} {g_links g_folded g_stiff x1 : Int32} {Q : Int32 → Prop} (h : wp_X5_hasLink g_links x1 Q) (sz : Nat) : MtI l yX5_hasLink wsX5_hasLink rm_X5_hasLink [.ref q, .int x1] D Y (w_X5_hasLink Y q q_lengths g_links g_folded g_stiff) (fun r (_ : Unit) => Q r) (fun _ : Unit => (w_X5_hasLink Y q q_lengths g_links g_folded g_stiff)) sz := by
  refine ct_i (cc := cX5_hasLink) (nL := 2) (ret := (some .boolean)) (by decide) rfl (Nat.le_of_ble_eq_true rfl) ?_ sz
  intro p e s m below meth c A ls C hK hA hP hD hS hl
  obtain ⟨⟨hx, hb, hml, hown, hts⟩, hr, hlocks, hN⟩ := id C
  have hown : s.vm.findClass RX5 = some m.cls := hown
  have hl : lv_has ls 2 [(0, .ref q), (1, .int x1)] := hl
  unfold wp_X5_hasLink at h
  refine lv_iload_n hx hb dX5_hasLink_0 rfl (lv_at hl 1 rfl) ?_
  refine lv_if_lt (tgt := 16) hx hb dX5_hasLink_1 (by decide) (fun c1 => ?_) (fun c1 => ?_)
  · have h := h.1 c1
    refine lv_iconst (v := 0) hx hb dX5_hasLink_16 (by decide) ?_
    exact ret_z () hx hb hr hlocks hK hP hD hS (Or.inl rfl) h dX5_hasLink_17
  · have h := h.2 c1
    refine lv_iload_n hx hb dX5_hasLink_4 rfl (lv_at hl 1 rfl) ?_
    refine lv_aload_n hx hb dX5_hasLink_5 rfl (lv_at hl 0 rfl) ?_
    refine va_get (D := D) (ci := 5) (v := .int g_links) (C := RX5) (T := TX5) (N := 4) hx hb hts in_X5_hasLink_X5 hown hK hP 0 rfl rfl 1 (by decide) (k_X5_hasLink_f15 hts) (fun _ h9 => h9) rfl dX5_hasLink_6 ?_
    refine lv_icmp_ge (tgt := 16) hx hb dX5_hasLink_9 (by decide) (fun c2 => ?_) (fun c2 => ?_)
    · have h := h.1 c2
      refine lv_iconst (v := 0) hx hb dX5_hasLink_16 (by decide) ?_
      exact ret_z () hx hb hr hlocks hK hP hD hS (Or.inl rfl) h dX5_hasLink_17
    · have h := h.2 c2
      refine lv_iconst (v := 1) hx hb dX5_hasLink_12 (by decide) ?_
      refine lv_goto (tgt := 17) hx hb dX5_hasLink_13 (by decide) ?_
      exact ret_z () hx hb hr hlocks hK hP hD hS (Or.inr rfl) h dX5_hasLink_17
abbrev rm_X5_lengthOf : Room := { frames := 1, cells := 0, slots := 0, locals := 21 }
theorem in_X5_lengthOf_X5 : ∀ w ∈ wsX50, w ∈ wsX5_lengthOf := fun _ h => List.mem_cons_of_mem _ (List.mem_append_right _ h)
theorem k_X5_lengthOf_f9 {s : State} {args : Array Value} (hts : ∀ w ∈ wsX5_lengthOf, w.before args s = true) : (Cond.fieldLink RX5 9 "FoldRule$Strip" "lengths" "[I").before args s = true := hts _ (by decide +kernel)
set_option maxHeartbeats 4000000 in
set_option maxRecDepth 100000 in
theorem c_X5_lengthOf {l : Launch} {D : va_G} {Y : ClassId × ClassId × ClassId} {q q_lengths : Nat} {g_links g_folded g_stiff : Int32} {g_lengths : Nat → Int32} {x1 : Int32} {Q : Int32 → Prop} (h : wp_X5_lengthOf g_links g_lengths x1 Q) (sz : Nat) : MtI l yX5_lengthOf wsX5_lengthOf rm_X5_lengthOf [.ref q, .int x1] D Y (w_X5_lengthOf Y q q_lengths g_links g_folded g_stiff g_lengths) (fun r (_ : Unit) => Q r) (fun _ : Unit => (w_X5_lengthOf Y q q_lengths g_links g_folded g_stiff g_lengths)) sz := by
  refine ct_i (cc := cX5_lengthOf) (nL := 2) (ret := (some .int)) (by decide) rfl (Nat.le_of_ble_eq_true rfl) ?_ sz
  intro p e s m below meth c A ls C hK hA hP hD hS hl
  obtain ⟨⟨hx, hb, hml, hown, hts⟩, hr, hlocks, hN⟩ := id C
  have hown : s.vm.findClass RX5 = some m.cls := hown
  have hl : lv_has ls 2 [(0, .ref q), (1, .int x1)] := hl
  unfold wp_X5_lengthOf at h
  refine lv_aload_n hx hb dX5_lengthOf_0 rfl (lv_at hl 0 rfl) ?_
  refine lv_iload_n hx hb dX5_lengthOf_1 rfl (lv_at hl 1 rfl) ?_
  have hp : Pt (w_X5_lengthOf Y q q_lengths g_links g_folded g_stiff g_lengths) (w_X5_hasLink Y q q_lengths g_links g_folded g_stiff) [0] := ⟨rfl, by decide +kernel⟩
  refine go_i hp hP hD hS hA (fun _ => rfl) (va_runV (As := [.int x1]) (rest := []) ⟨hx, hb, hml, hown, hts⟩ (c_X5_hasLink h _) (cwV 1 hts gX5_lengthOf_X5_hasLink rfl rfl rfl (by decide +kernel) ⟨Nat.le_of_ble_eq_true rfl, Nat.le_of_ble_eq_true rfl⟩) (pre_V (b := q) (q0 := 0) (ci := 5) (q := (RX5, TX5, 4)) hp hK hN hP hD rfl rfl) rfl rfl hl.1 rfl (lv_room (Nat.le_of_ble_eq_true rfl)) dX5_lengthOf_2 ⟨Nat.le_of_ble_eq_true rfl, Nat.le_of_ble_eq_true rfl⟩) (fun r2 u H locs h hP hD hS => ?_)
  try dsimp only at h
  have hP : va_P D vwCl (w_X5_lengthOf Y q q_lengths g_links g_folded g_stiff g_lengths) H := hP
  have hD : va_D A (w_X5_lengthOf Y q q_lengths g_links g_folded g_stiff g_lengths) := hD
  refine lv_if_eq (tgt := 17) hx hb dX5_lengthOf_5 (by decide) (fun c3 => ?_) (fun c3 => ?_)
  · have h := h.1 c3
    refine lv_iconst (v := 0) hx hb dX5_lengthOf_17 (by decide) ?_
    exact ret_i () hx hb hr hlocks hK hP hD hS h dX5_lengthOf_18
  · have h := h.2 c3
    refine lv_aload_n hx hb dX5_lengthOf_8 rfl (lv_at hl 0 rfl) ?_
    refine va_get (D := D) (ci := 5) (v := .ref q_lengths) (C := RX5) (T := TX5) (N := 4) hx hb hts in_X5_lengthOf_X5 hown hK hP 0 rfl rfl 0 (by decide) (k_X5_lengthOf_f9 hts) (fun _ h9 => h9) rfl dX5_lengthOf_9 ?_
    refine lv_iload_n hx hb dX5_lengthOf_12 rfl (lv_at hl 1 rfl) ?_
    obtain ⟨hin, h⟩ := h
    refine va_iald hx hb hK hP 1 0 rfl rfl hin dX5_lengthOf_13 ?_
    refine lv_goto (tgt := 18) hx hb dX5_lengthOf_14 (by decide) ?_
    exact ret_i () hx hb hr hlocks hK hP hD hS h dX5_lengthOf_18
abbrev rm_X3_asLink : Room := { frames := 2, cells := 0, slots := 0, locals := 42 }
theorem in_X3_asLink_X3 : ∀ w ∈ wsX30, w ∈ wsX3_asLink := fun _ h => List.mem_cons_of_mem _ (List.mem_append_left _ (List.mem_append_right _ h))
theorem k_X3_asLink_f32 {s : State} {args : Array Value} (hts : ∀ w ∈ wsX3_asLink, w.before args s = true) : (Cond.fieldLink RX3 32 "FoldRule$Rater" "traced" "J").before args s = true := hts _ (by decide +kernel)
set_option maxHeartbeats 4000000 in
set_option maxRecDepth 100000 in
theorem c_X3_asLink {l : Launch} {D : va_G} {Y : ClassId × ClassId × ClassId} {q q1 q1_lengths : Nat} {g_traced : Int64} {g1_links g1_folded g1_stiff : Int32} {g1_lengths : Nat → Int32} {x2 : Int32} {Q : Int32 → Int64 → Prop} (h : wp_X3_asLink g_traced g1_links g1_lengths x2 Q) (sz : Nat) : MtI l yX3_asLink wsX3_asLink rm_X3_asLink [.ref q, .ref q1, .int x2] D Y (w_X3_asLink Y q q1 q1_lengths g_traced g1_links g1_folded g1_stiff g1_lengths) (fun r (u : Int64) => Q r u) (fun u : Int64 => (w_X3_asLink Y q q1 q1_lengths u g1_links g1_folded g1_stiff g1_lengths)) sz := by
  refine ct_i (cc := cX3_asLink) (nL := 3) (ret := (some .int)) (by decide) rfl (Nat.le_of_ble_eq_true rfl) ?_ sz
  intro p e s m below meth c A ls C hK hA hP hD hS hl
  obtain ⟨⟨hx, hb, hml, hown, hts⟩, hr, hlocks, hN⟩ := id C
  have hown : s.vm.findClass RX3 = some m.cls := hown
  have hl : lv_has ls 3 [(0, .ref q), (1, .ref q1), (2, .int x2)] := hl
  unfold wp_X3_asLink at h
  refine lv_aload_n hx hb dX3_asLink_0 rfl (lv_at hl 0 rfl) ?_
  refine lv_dup hx hb dX3_asLink_1 rfl ?_
  refine va_get (D := D) (ci := 3) (v := .long g_traced) (C := RX3) (T := TX3) (N := 1) hx hb hts in_X3_asLink_X3 hown hK hP 0 rfl rfl 0 (by decide) (k_X3_asLink_f32 hts) (fun _ h9 => h9) rfl dX3_asLink_2 ?_
  refine lv_lconst (v := 1) hx hb dX3_asLink_5 (by decide) ?_
  refine lv_ladd hx hb dX3_asLink_6 ?_
  refine lv_topl (fun z3 ez3 => ?_)
  have h := h z3 ez3
  refine va_put (D := D) (ci := 3) (v := .long z3) (ty := .long) (C := RX3) (T := TX3) (N := 1) hx hb hts in_X3_asLink_X3 tyX3 tyX3_ok nmX3 hown hK hP hD hS 0 rfl rfl 0 (by decide) (k_X3_asLink_f32 hts) (fun _ h9 => h9) rfl (by decide +kernel) rfl rfl (Nat.le_of_ble_eq_true rfl) dX3_asLink_7 (fun H locs hP hD hS => ?_)
  have hP : va_P D vwCl (w_X3_asLink Y q q1 q1_lengths z3 g1_links g1_folded g1_stiff g1_lengths) H := hP
  have hD : va_D A (w_X3_asLink Y q q1 q1_lengths z3 g1_links g1_folded g1_stiff g1_lengths) := hD
  refine lv_aload_n hx hb dX3_asLink_10 rfl (lv_at hl 1 rfl) ?_
  refine lv_iload_n hx hb dX3_asLink_11 rfl (lv_at hl 2 rfl) ?_
  have hp : Pt (w_X3_asLink Y q q1 q1_lengths z3 g1_links g1_folded g1_stiff g1_lengths) (w_X5_lengthOf Y q1 q1_lengths g1_links g1_folded g1_stiff g1_lengths) [1, 2] := ⟨rfl, by decide +kernel⟩
  refine go_i hp hP hD hS hA (fun _ => rfl) (va_runV (As := [.int x2]) (rest := []) ⟨hx, hb, hml, hown, hts⟩ (c_X5_lengthOf h _) (cwV 1 hts gX3_asLink_X5_lengthOf rfl rfl rfl (by decide +kernel) ⟨Nat.le_of_ble_eq_true rfl, Nat.le_of_ble_eq_true rfl⟩) (pre_V (b := q1) (q0 := 0) (ci := 5) (q := (RX5, TX5, 4)) hp hK hN hP hD rfl rfl) rfl rfl hl.1 rfl (lv_room (Nat.le_of_ble_eq_true rfl)) dX3_asLink_12 ⟨Nat.le_of_ble_eq_true rfl, Nat.le_of_ble_eq_true rfl⟩) (fun r4 u H locs h hP hD hS => ?_)
  try dsimp only at h
  have hP : va_P D vwCl (w_X3_asLink Y q q1 q1_lengths z3 g1_links g1_folded g1_stiff g1_lengths) H := hP
  have hD : va_D A (w_X3_asLink Y q q1 q1_lengths z3 g1_links g1_folded g1_stiff g1_lengths) := hD
  exact ret_i (z3) hx hb hr hlocks hK hP hD hS h dX3_asLink_15
abbrev rm_X3_asWood : Room := { frames := 3, cells := 0, slots := 0, locals := 64 }
theorem in_X3_asWood_X3 : ∀ w ∈ wsX30, w ∈ wsX3_asWood := fun _ h => List.mem_cons_of_mem _ (List.mem_append_left _ (List.mem_append_left _ (List.mem_append_right _ h)))
theorem k_X3_asWood_f32 {s : State} {args : Array Value} (hts : ∀ w ∈ wsX3_asWood, w.before args s = true) : (Cond.fieldLink RX3 32 "FoldRule$Rater" "traced" "J").before args s = true := hts _ (by decide +kernel)
theorem k_X3_asWood_c42 {s : State} {args : Array Value} (hts : ∀ w ∈ wsX3_asWood, w.before args s = true) : (Cond.constantLong RX3 42 (10)).before args s = true := hts _ (by decide +kernel)
set_option maxHeartbeats 4000000 in
set_option maxRecDepth 100000 in
theorem c_X3_asWood {l : Launch} {D : va_G} {Y : ClassId × ClassId × ClassId} {q q1 q1_lengths q2 q2_places : Nat} {g_traced : Int64} {g1_links g1_folded g1_stiff : Int32} {g1_lengths : Nat → Int32} {g2_links g2_low g2_high : Int32} {g2_places : Nat → Int32} {x3 : Int32} {Q : Int32 → Int64 → Prop} (h : wp_X3_asWood g_traced g1_links g1_lengths g2_links g2_places x3 Q) (sz : Nat) : MtI l yX3_asWood wsX3_asWood rm_X3_asWood [.ref q, .ref q1, .ref q2, .int x3] D Y (w_X3_asWood Y q q1 q1_lengths q2 q2_places g_traced g1_links g1_folded g1_stiff g1_lengths g2_links g2_low g2_high g2_places) (fun r (u : Int64) => Q r u) (fun u : Int64 => (w_X3_asWood Y q q1 q1_lengths q2 q2_places u g1_links g1_folded g1_stiff g1_lengths g2_links g2_low g2_high g2_places)) sz := by
  refine ct_i (cc := cX3_asWood) (nL := 4) (ret := (some .int)) (by decide) rfl (Nat.le_of_ble_eq_true rfl) ?_ sz
  intro p e s m below meth c A ls C hK hA hP hD hS hl
  obtain ⟨⟨hx, hb, hml, hown, hts⟩, hr, hlocks, hN⟩ := id C
  have hown : s.vm.findClass RX3 = some m.cls := hown
  have hl : lv_has ls 4 [(0, .ref q), (1, .ref q1), (2, .ref q2), (3, .int x3)] := hl
  unfold wp_X3_asWood at h
  refine lv_aload_n hx hb dX3_asWood_0 rfl (lv_at hl 0 rfl) ?_
  refine lv_dup hx hb dX3_asWood_1 rfl ?_
  refine va_get (D := D) (ci := 3) (v := .long g_traced) (C := RX3) (T := TX3) (N := 1) hx hb hts in_X3_asWood_X3 hown hK hP 0 rfl rfl 0 (by decide) (k_X3_asWood_f32 hts) (fun _ h9 => h9) rfl dX3_asWood_2 ?_
  refine lv_ldc2 hx hb hown (k_X3_asWood_c42 hts) dX3_asWood_5 ?_
  refine lv_ladd hx hb dX3_asWood_8 ?_
  refine lv_topl (fun z5 ez5 => ?_)
  have h := h z5 ez5
  refine va_put (D := D) (ci := 3) (v := .long z5) (ty := .long) (C := RX3) (T := TX3) (N := 1) hx hb hts in_X3_asWood_X3 tyX3 tyX3_ok nmX3 hown hK hP hD hS 0 rfl rfl 0 (by decide) (k_X3_asWood_f32 hts) (fun _ h9 => h9) rfl (by decide +kernel) rfl rfl (Nat.le_of_ble_eq_true rfl) dX3_asWood_9 (fun H locs hP hD hS => ?_)
  have hP : va_P D vwCl (w_X3_asWood Y q q1 q1_lengths q2 q2_places z5 g1_links g1_folded g1_stiff g1_lengths g2_links g2_low g2_high g2_places) H := hP
  have hD : va_D A (w_X3_asWood Y q q1 q1_lengths q2 q2_places z5 g1_links g1_folded g1_stiff g1_lengths g2_links g2_low g2_high g2_places) := hD
  refine lv_aload_n hx hb dX3_asWood_12 rfl (lv_at hl 0 rfl) ?_
  refine lv_aload_n hx hb dX3_asWood_13 rfl (lv_at hl 1 rfl) ?_
  refine lv_iload_n hx hb dX3_asWood_14 rfl (lv_at hl 3 rfl) ?_
  have hp : Pt (w_X3_asWood Y q q1 q1_lengths q2 q2_places z5 g1_links g1_folded g1_stiff g1_lengths g2_links g2_low g2_high g2_places) (w_X3_asLink Y q q1 q1_lengths z5 g1_links g1_folded g1_stiff g1_lengths) [0, 1, 2] := ⟨rfl, by decide +kernel⟩
  refine go_i hp hP hD hS hA (fun _ => rfl) (va_runV (As := [.ref q1, .int x3]) (rest := []) ⟨hx, hb, hml, hown, hts⟩ (c_X3_asLink h _) (cwV 2 hts gX3_asWood_X3_asLink rfl rfl rfl (by decide +kernel) ⟨Nat.le_of_ble_eq_true rfl, Nat.le_of_ble_eq_true rfl⟩) (pre_V (b := q) (q0 := 0) (ci := 3) (q := (RX3, TX3, 1)) hp hK hN hP hD rfl rfl) rfl rfl hl.1 rfl (lv_room (Nat.le_of_ble_eq_true rfl)) dX3_asWood_15 ⟨Nat.le_of_ble_eq_true rfl, Nat.le_of_ble_eq_true rfl⟩) (fun r6 u H locs h hP hD hS => ?_)
  obtain ⟨u7, rfl⟩ : ∃ z, z = u := ⟨_, rfl⟩
  try dsimp only at h
  have hP : va_P D vwCl (w_X3_asWood Y q q1 q1_lengths q2 q2_places u7 g1_links g1_folded g1_stiff g1_lengths g2_links g2_low g2_high g2_places) H := hP
  have hD : va_D A (w_X3_asWood Y q q1 q1_lengths q2 q2_places u7 g1_links g1_folded g1_stiff g1_lengths g2_links g2_low g2_high g2_places) := hD
  refine lv_aload_n hx hb dX3_asWood_18 rfl (lv_at hl 2 rfl) ?_
  refine lv_iload_n hx hb dX3_asWood_19 rfl (lv_at hl 3 rfl) ?_
  have hp : Pt (w_X3_asWood Y q q1 q1_lengths q2 q2_places u7 g1_links g1_folded g1_stiff g1_lengths g2_links g2_low g2_high g2_places) (w_X2_placeOf Y q2 q2_places g2_links g2_low g2_high g2_places) [3, 4] := ⟨rfl, by decide +kernel⟩
  refine go_i hp hP hD hS hA (fun _ => rfl) (va_runV (As := [.int x3]) (rest := [.int r6]) ⟨hx, hb, hml, hown, hts⟩ (c_X2_placeOf h _) (cwV 1 hts gX3_asWood_X2_placeOf rfl rfl rfl (by decide +kernel) ⟨Nat.le_of_ble_eq_true rfl, Nat.le_of_ble_eq_true rfl⟩) (pre_V (b := q2) (q0 := 0) (ci := 2) (q := (RX2, TX2, 4)) hp hK hN hP hD rfl rfl) rfl rfl hl.1 rfl (lv_room (Nat.le_of_ble_eq_true rfl)) dX3_asWood_20 ⟨Nat.le_of_ble_eq_true rfl, Nat.le_of_ble_eq_true rfl⟩) (fun r8 u H locs h hP hD hS => ?_)
  try dsimp only at h
  have hP : va_P D vwCl (w_X3_asWood Y q q1 q1_lengths q2 q2_places u7 g1_links g1_folded g1_stiff g1_lengths g2_links g2_low g2_high g2_places) H := hP
  have hD : va_D A (w_X3_asWood Y q q1 q1_lengths q2 q2_places u7 g1_links g1_folded g1_stiff g1_lengths g2_links g2_low g2_high g2_places) := hD
  refine lv_iadd hx hb dX3_asWood_23 ?_
  exact ret_i (u7) hx hb hr hlocks hK hP hD hS h dX3_asWood_24
abbrev rm_X3_asBrass : Room := { frames := 3, cells := 0, slots := 0, locals := 64 }
theorem in_X3_asBrass_X3 : ∀ w ∈ wsX30, w ∈ wsX3_asBrass := fun _ h => List.mem_cons_of_mem _ (List.mem_append_left _ (List.mem_append_left _ (List.mem_append_right _ h)))
theorem k_X3_asBrass_f32 {s : State} {args : Array Value} (hts : ∀ w ∈ wsX3_asBrass, w.before args s = true) : (Cond.fieldLink RX3 32 "FoldRule$Rater" "traced" "J").before args s = true := hts _ (by decide +kernel)
theorem k_X3_asBrass_c49 {s : State} {args : Array Value} (hts : ∀ w ∈ wsX3_asBrass, w.before args s = true) : (Cond.constantLong RX3 49 (100)).before args s = true := hts _ (by decide +kernel)
set_option maxHeartbeats 4000000 in
set_option maxRecDepth 100000 in
theorem c_X3_asBrass {l : Launch} {D : va_G} {Y : ClassId × ClassId × ClassId} {q q1 q1_lengths q2 q2_places : Nat} {g_traced : Int64} {g1_links g1_folded g1_stiff : Int32} {g1_lengths : Nat → Int32} {g2_links g2_low g2_high x3 : Int32} {Q : Int32 → Int64 → Prop} (h : wp_X3_asBrass g_traced g1_links g1_lengths g2_low g2_high x3 Q) (sz : Nat) : MtI l yX3_asBrass wsX3_asBrass rm_X3_asBrass [.ref q, .ref q1, .ref q2, .int x3] D Y (w_X3_asBrass Y q q1 q1_lengths q2 q2_places g_traced g1_links g1_folded g1_stiff g1_lengths g2_links g2_low g2_high) (fun r (u : Int64) => Q r u) (fun u : Int64 => (w_X3_asBrass Y q q1 q1_lengths q2 q2_places u g1_links g1_folded g1_stiff g1_lengths g2_links g2_low g2_high)) sz := by
  refine ct_i (cc := cX3_asBrass) (nL := 4) (ret := (some .int)) (by decide) rfl (Nat.le_of_ble_eq_true rfl) ?_ sz
  intro p e s m below meth c A ls C hK hA hP hD hS hl
  obtain ⟨⟨hx, hb, hml, hown, hts⟩, hr, hlocks, hN⟩ := id C
  have hown : s.vm.findClass RX3 = some m.cls := hown
  have hl : lv_has ls 4 [(0, .ref q), (1, .ref q1), (2, .ref q2), (3, .int x3)] := hl
  unfold wp_X3_asBrass at h
  refine lv_aload_n hx hb dX3_asBrass_0 rfl (lv_at hl 0 rfl) ?_
  refine lv_dup hx hb dX3_asBrass_1 rfl ?_
  refine va_get (D := D) (ci := 3) (v := .long g_traced) (C := RX3) (T := TX3) (N := 1) hx hb hts in_X3_asBrass_X3 hown hK hP 0 rfl rfl 0 (by decide) (k_X3_asBrass_f32 hts) (fun _ h9 => h9) rfl dX3_asBrass_2 ?_
  refine lv_ldc2 hx hb hown (k_X3_asBrass_c49 hts) dX3_asBrass_5 ?_
  refine lv_ladd hx hb dX3_asBrass_8 ?_
  refine lv_topl (fun z5 ez5 => ?_)
  have h := h z5 ez5
  refine va_put (D := D) (ci := 3) (v := .long z5) (ty := .long) (C := RX3) (T := TX3) (N := 1) hx hb hts in_X3_asBrass_X3 tyX3 tyX3_ok nmX3 hown hK hP hD hS 0 rfl rfl 0 (by decide) (k_X3_asBrass_f32 hts) (fun _ h9 => h9) rfl (by decide +kernel) rfl rfl (Nat.le_of_ble_eq_true rfl) dX3_asBrass_9 (fun H locs hP hD hS => ?_)
  have hP : va_P D vwCl (w_X3_asBrass Y q q1 q1_lengths q2 q2_places z5 g1_links g1_folded g1_stiff g1_lengths g2_links g2_low g2_high) H := hP
  have hD : va_D A (w_X3_asBrass Y q q1 q1_lengths q2 q2_places z5 g1_links g1_folded g1_stiff g1_lengths g2_links g2_low g2_high) := hD
  refine lv_aload_n hx hb dX3_asBrass_12 rfl (lv_at hl 0 rfl) ?_
  refine lv_aload_n hx hb dX3_asBrass_13 rfl (lv_at hl 1 rfl) ?_
  refine lv_iload_n hx hb dX3_asBrass_14 rfl (lv_at hl 3 rfl) ?_
  have hp : Pt (w_X3_asBrass Y q q1 q1_lengths q2 q2_places z5 g1_links g1_folded g1_stiff g1_lengths g2_links g2_low g2_high) (w_X3_asLink Y q q1 q1_lengths z5 g1_links g1_folded g1_stiff g1_lengths) [0, 1, 2] := ⟨rfl, by decide +kernel⟩
  refine go_i hp hP hD hS hA (fun _ => rfl) (va_runV (As := [.ref q1, .int x3]) (rest := []) ⟨hx, hb, hml, hown, hts⟩ (c_X3_asLink h _) (cwV 2 hts gX3_asBrass_X3_asLink rfl rfl rfl (by decide +kernel) ⟨Nat.le_of_ble_eq_true rfl, Nat.le_of_ble_eq_true rfl⟩) (pre_V (b := q) (q0 := 0) (ci := 3) (q := (RX3, TX3, 1)) hp hK hN hP hD rfl rfl) rfl rfl hl.1 rfl (lv_room (Nat.le_of_ble_eq_true rfl)) dX3_asBrass_15 ⟨Nat.le_of_ble_eq_true rfl, Nat.le_of_ble_eq_true rfl⟩) (fun r6 u H locs h hP hD hS => ?_)
  obtain ⟨u7, rfl⟩ : ∃ z, z = u := ⟨_, rfl⟩
  try dsimp only at h
  have hP : va_P D vwCl (w_X3_asBrass Y q q1 q1_lengths q2 q2_places u7 g1_links g1_folded g1_stiff g1_lengths g2_links g2_low g2_high) H := hP
  have hD : va_D A (w_X3_asBrass Y q q1 q1_lengths q2 q2_places u7 g1_links g1_folded g1_stiff g1_lengths g2_links g2_low g2_high) := hD
  refine lv_aload_n hx hb dX3_asBrass_18 rfl (lv_at hl 2 rfl) ?_
  have hp : Pt (w_X3_asBrass Y q q1 q1_lengths q2 q2_places u7 g1_links g1_folded g1_stiff g1_lengths g2_links g2_low g2_high) (w_X2_span Y q2 q2_places g2_links g2_low g2_high) [3] := ⟨rfl, by decide +kernel⟩
  refine go_i hp hP hD hS hA (fun _ => rfl) (va_runV (As := []) (rest := [.int r6]) ⟨hx, hb, hml, hown, hts⟩ (c_X2_span h _) (cwV 0 hts gX3_asBrass_X2_span rfl rfl rfl (by decide +kernel) ⟨Nat.le_of_ble_eq_true rfl, Nat.le_of_ble_eq_true rfl⟩) (pre_V (b := q2) (q0 := 0) (ci := 2) (q := (RX2, TX2, 4)) hp hK hN hP hD rfl rfl) rfl rfl hl.1 rfl (lv_room (Nat.le_of_ble_eq_true rfl)) dX3_asBrass_19 ⟨Nat.le_of_ble_eq_true rfl, Nat.le_of_ble_eq_true rfl⟩) (fun r8 u H locs h hP hD hS => ?_)
  try dsimp only at h
  have hP : va_P D vwCl (w_X3_asBrass Y q q1 q1_lengths q2 q2_places u7 g1_links g1_folded g1_stiff g1_lengths g2_links g2_low g2_high) H := hP
  have hD : va_D A (w_X3_asBrass Y q q1 q1_lengths q2 q2_places u7 g1_links g1_folded g1_stiff g1_lengths g2_links g2_low g2_high) := hD
  refine lv_isub hx hb dX3_asBrass_22 ?_
  exact ret_i (u7) hx hb hr hlocks hK hP hD hS h dX3_asBrass_23
abbrev rm_X3_asBeech : Room := { frames := 4, cells := 0, slots := 0, locals := 87 }
theorem in_X3_asBeech_X3 : ∀ w ∈ wsX30, w ∈ wsX3_asBeech := fun _ h => List.mem_cons_of_mem _ (List.mem_append_left _ (List.mem_append_left _ (List.mem_append_right _ h)))
theorem k_X3_asBeech_f32 {s : State} {args : Array Value} (hts : ∀ w ∈ wsX3_asBeech, w.before args s = true) : (Cond.fieldLink RX3 32 "FoldRule$Rater" "traced" "J").before args s = true := hts _ (by decide +kernel)
theorem k_X3_asBeech_c55 {s : State} {args : Array Value} (hts : ∀ w ∈ wsX3_asBeech, w.before args s = true) : (Cond.constantLong RX3 55 (1000)).before args s = true := hts _ (by decide +kernel)
set_option maxHeartbeats 4000000 in
set_option maxRecDepth 100000 in
theorem c_X3_asBeech {l : Launch} {D : va_G} {Y : ClassId × ClassId × ClassId} {q q1 q1_lengths q2 q2_places : Nat} {g_traced : Int64} {g1_links g1_folded g1_stiff : Int32} {g1_lengths : Nat → Int32} {g2_links g2_low g2_high : Int32} {g2_places : Nat → Int32} {x3 : Int32} {Q : Int32 → Int64 → Prop} (h : wp_X3_asBeech g_traced g1_links g1_lengths g2_links g2_places x3 Q) (sz : Nat) : MtI l yX3_asBeech wsX3_asBeech rm_X3_asBeech [.ref q, .ref q1, .ref q2, .int x3] D Y (w_X3_asBeech Y q q1 q1_lengths q2 q2_places g_traced g1_links g1_folded g1_stiff g1_lengths g2_links g2_low g2_high g2_places) (fun r (u : Int64) => Q r u) (fun u : Int64 => (w_X3_asBeech Y q q1 q1_lengths q2 q2_places u g1_links g1_folded g1_stiff g1_lengths g2_links g2_low g2_high g2_places)) sz := by
  refine ct_i (cc := cX3_asBeech) (nL := 4) (ret := (some .int)) (by decide) rfl (Nat.le_of_ble_eq_true rfl) ?_ sz
  intro p e s m below meth c A ls C hK hA hP hD hS hl
  obtain ⟨⟨hx, hb, hml, hown, hts⟩, hr, hlocks, hN⟩ := id C
  have hown : s.vm.findClass RX3 = some m.cls := hown
  have hl : lv_has ls 4 [(0, .ref q), (1, .ref q1), (2, .ref q2), (3, .int x3)] := hl
  unfold wp_X3_asBeech at h
  refine lv_aload_n hx hb dX3_asBeech_0 rfl (lv_at hl 0 rfl) ?_
  refine lv_dup hx hb dX3_asBeech_1 rfl ?_
  refine va_get (D := D) (ci := 3) (v := .long g_traced) (C := RX3) (T := TX3) (N := 1) hx hb hts in_X3_asBeech_X3 hown hK hP 0 rfl rfl 0 (by decide) (k_X3_asBeech_f32 hts) (fun _ h9 => h9) rfl dX3_asBeech_2 ?_
  refine lv_ldc2 hx hb hown (k_X3_asBeech_c55 hts) dX3_asBeech_5 ?_
  refine lv_ladd hx hb dX3_asBeech_8 ?_
  refine lv_topl (fun z4 ez4 => ?_)
  have h := h z4 ez4
  refine va_put (D := D) (ci := 3) (v := .long z4) (ty := .long) (C := RX3) (T := TX3) (N := 1) hx hb hts in_X3_asBeech_X3 tyX3 tyX3_ok nmX3 hown hK hP hD hS 0 rfl rfl 0 (by decide) (k_X3_asBeech_f32 hts) (fun _ h9 => h9) rfl (by decide +kernel) rfl rfl (Nat.le_of_ble_eq_true rfl) dX3_asBeech_9 (fun H locs hP hD hS => ?_)
  have hP : va_P D vwCl (w_X3_asBeech Y q q1 q1_lengths q2 q2_places z4 g1_links g1_folded g1_stiff g1_lengths g2_links g2_low g2_high g2_places) H := hP
  have hD : va_D A (w_X3_asBeech Y q q1 q1_lengths q2 q2_places z4 g1_links g1_folded g1_stiff g1_lengths g2_links g2_low g2_high g2_places) := hD
  refine lv_iconst (v := 2) hx hb dX3_asBeech_12 (by decide) ?_
  refine lv_aload_n hx hb dX3_asBeech_13 rfl (lv_at hl 0 rfl) ?_
  refine lv_aload_n hx hb dX3_asBeech_14 rfl (lv_at hl 1 rfl) ?_
  refine lv_aload_n hx hb dX3_asBeech_15 rfl (lv_at hl 2 rfl) ?_
  refine lv_iload_n hx hb dX3_asBeech_16 rfl (lv_at hl 3 rfl) ?_
  have hp : Pt (w_X3_asBeech Y q q1 q1_lengths q2 q2_places z4 g1_links g1_folded g1_stiff g1_lengths g2_links g2_low g2_high g2_places) (w_X3_asWood Y q q1 q1_lengths q2 q2_places z4 g1_links g1_folded g1_stiff g1_lengths g2_links g2_low g2_high g2_places) [0, 1, 2, 3, 4] := ⟨rfl, by decide +kernel⟩
  refine go_i hp hP hD hS hA (fun _ => rfl) (va_runV (As := [.ref q1, .ref q2, .int x3]) (rest := [.int (2 : Int32)]) ⟨hx, hb, hml, hown, hts⟩ (c_X3_asWood h _) (cwV 3 hts gX3_asBeech_X3_asWood rfl rfl rfl (by decide +kernel) ⟨Nat.le_of_ble_eq_true rfl, Nat.le_of_ble_eq_true rfl⟩) (pre_V (b := q) (q0 := 0) (ci := 3) (q := (RX3, TX3, 1)) hp hK hN hP hD rfl rfl) rfl rfl hl.1 rfl (lv_room (Nat.le_of_ble_eq_true rfl)) dX3_asBeech_17 ⟨Nat.le_of_ble_eq_true rfl, Nat.le_of_ble_eq_true rfl⟩) (fun r5 u H locs h hP hD hS => ?_)
  obtain ⟨u6, rfl⟩ : ∃ z, z = u := ⟨_, rfl⟩
  try dsimp only at h
  have hP : va_P D vwCl (w_X3_asBeech Y q q1 q1_lengths q2 q2_places u6 g1_links g1_folded g1_stiff g1_lengths g2_links g2_low g2_high g2_places) H := hP
  have hD : va_D A (w_X3_asBeech Y q q1 q1_lengths q2 q2_places u6 g1_links g1_folded g1_stiff g1_lengths g2_links g2_low g2_high g2_places) := hD
  refine lv_imul hx hb dX3_asBeech_20 ?_
  exact ret_i (u6) hx hb hr hlocks hK hP hD hS h dX3_asBeech_21
abbrev rm_X3_asTip : Room := { frames := 4, cells := 0, slots := 0, locals := 87 }
theorem in_X3_asTip_X3 : ∀ w ∈ wsX30, w ∈ wsX3_asTip := fun _ h => List.mem_cons_of_mem _ (List.mem_append_left _ (List.mem_append_left _ (List.mem_append_right _ h)))
theorem k_X3_asTip_f32 {s : State} {args : Array Value} (hts : ∀ w ∈ wsX3_asTip, w.before args s = true) : (Cond.fieldLink RX3 32 "FoldRule$Rater" "traced" "J").before args s = true := hts _ (by decide +kernel)
theorem k_X3_asTip_c57 {s : State} {args : Array Value} (hts : ∀ w ∈ wsX3_asTip, w.before args s = true) : (Cond.constantLong RX3 57 (10000)).before args s = true := hts _ (by decide +kernel)
set_option maxHeartbeats 4000000 in
set_option maxRecDepth 100000 in
theorem c_X3_asTip {l : Launch} {D : va_G} {Y : ClassId × ClassId × ClassId} {q q1 q1_lengths q2 q2_places : Nat} {g_traced : Int64} {g1_links g1_folded g1_stiff : Int32} {g1_lengths : Nat → Int32} {g2_links g2_low g2_high x3 : Int32} {Q : Int32 → Int64 → Prop} (h : wp_X3_asTip g_traced g1_links g1_lengths g2_low g2_high x3 Q) (sz : Nat) : MtI l yX3_asTip wsX3_asTip rm_X3_asTip [.ref q, .ref q1, .ref q2, .int x3] D Y (w_X3_asTip Y q q1 q1_lengths q2 q2_places g_traced g1_links g1_folded g1_stiff g1_lengths g2_links g2_low g2_high) (fun r (u : Int64) => Q r u) (fun u : Int64 => (w_X3_asTip Y q q1 q1_lengths q2 q2_places u g1_links g1_folded g1_stiff g1_lengths g2_links g2_low g2_high)) sz := by
  refine ct_i (cc := cX3_asTip) (nL := 4) (ret := (some .int)) (by decide) rfl (Nat.le_of_ble_eq_true rfl) ?_ sz
  intro p e s m below meth c A ls C hK hA hP hD hS hl
  obtain ⟨⟨hx, hb, hml, hown, hts⟩, hr, hlocks, hN⟩ := id C
  have hown : s.vm.findClass RX3 = some m.cls := hown
  have hl : lv_has ls 4 [(0, .ref q), (1, .ref q1), (2, .ref q2), (3, .int x3)] := hl
  unfold wp_X3_asTip at h
  refine lv_aload_n hx hb dX3_asTip_0 rfl (lv_at hl 0 rfl) ?_
  refine lv_dup hx hb dX3_asTip_1 rfl ?_
  refine va_get (D := D) (ci := 3) (v := .long g_traced) (C := RX3) (T := TX3) (N := 1) hx hb hts in_X3_asTip_X3 hown hK hP 0 rfl rfl 0 (by decide) (k_X3_asTip_f32 hts) (fun _ h9 => h9) rfl dX3_asTip_2 ?_
  refine lv_ldc2 hx hb hown (k_X3_asTip_c57 hts) dX3_asTip_5 ?_
  refine lv_ladd hx hb dX3_asTip_8 ?_
  refine lv_topl (fun z4 ez4 => ?_)
  have h := h z4 ez4
  refine va_put (D := D) (ci := 3) (v := .long z4) (ty := .long) (C := RX3) (T := TX3) (N := 1) hx hb hts in_X3_asTip_X3 tyX3 tyX3_ok nmX3 hown hK hP hD hS 0 rfl rfl 0 (by decide) (k_X3_asTip_f32 hts) (fun _ h9 => h9) rfl (by decide +kernel) rfl rfl (Nat.le_of_ble_eq_true rfl) dX3_asTip_9 (fun H locs hP hD hS => ?_)
  have hP : va_P D vwCl (w_X3_asTip Y q q1 q1_lengths q2 q2_places z4 g1_links g1_folded g1_stiff g1_lengths g2_links g2_low g2_high) H := hP
  have hD : va_D A (w_X3_asTip Y q q1 q1_lengths q2 q2_places z4 g1_links g1_folded g1_stiff g1_lengths g2_links g2_low g2_high) := hD
  refine lv_aload_n hx hb dX3_asTip_12 rfl (lv_at hl 0 rfl) ?_
  refine lv_aload_n hx hb dX3_asTip_13 rfl (lv_at hl 1 rfl) ?_
  refine lv_aload_n hx hb dX3_asTip_14 rfl (lv_at hl 2 rfl) ?_
  refine lv_iload_n hx hb dX3_asTip_15 rfl (lv_at hl 3 rfl) ?_
  have hp : Pt (w_X3_asTip Y q q1 q1_lengths q2 q2_places z4 g1_links g1_folded g1_stiff g1_lengths g2_links g2_low g2_high) (w_X3_asBrass Y q q1 q1_lengths q2 q2_places z4 g1_links g1_folded g1_stiff g1_lengths g2_links g2_low g2_high) [0, 1, 2, 3] := ⟨rfl, by decide +kernel⟩
  refine go_i hp hP hD hS hA (fun _ => rfl) (va_runV (As := [.ref q1, .ref q2, .int x3]) (rest := []) ⟨hx, hb, hml, hown, hts⟩ (c_X3_asBrass h _) (cwV 3 hts gX3_asTip_X3_asBrass rfl rfl rfl (by decide +kernel) ⟨Nat.le_of_ble_eq_true rfl, Nat.le_of_ble_eq_true rfl⟩) (pre_V (b := q) (q0 := 0) (ci := 3) (q := (RX3, TX3, 1)) hp hK hN hP hD rfl rfl) rfl rfl hl.1 rfl (lv_room (Nat.le_of_ble_eq_true rfl)) dX3_asTip_16 ⟨Nat.le_of_ble_eq_true rfl, Nat.le_of_ble_eq_true rfl⟩) (fun r5 u H locs h hP hD hS => ?_)
  obtain ⟨u6, rfl⟩ : ∃ z, z = u := ⟨_, rfl⟩
  try dsimp only at h
  have hP : va_P D vwCl (w_X3_asTip Y q q1 q1_lengths q2 q2_places u6 g1_links g1_folded g1_stiff g1_lengths g2_links g2_low g2_high) H := hP
  have hD : va_D A (w_X3_asTip Y q q1 q1_lengths q2 q2_places u6 g1_links g1_folded g1_stiff g1_lengths g2_links g2_low g2_high) := hD
  refine lv_iload_n hx hb dX3_asTip_19 rfl (lv_at hl 3 rfl) ?_
  refine lv_iadd hx hb dX3_asTip_20 ?_
  exact ret_i (u6) hx hb hr hlocks hK hP hD hS h dX3_asTip_21
abbrev rm_X3_asIvory : Room := { frames := 4, cells := 0, slots := 0, locals := 87 }
theorem in_X3_asIvory_X3 : ∀ w ∈ wsX30, w ∈ wsX3_asIvory := fun _ h => List.mem_cons_of_mem _ (List.mem_append_left _ (List.mem_append_left _ (List.mem_append_right _ h)))
theorem k_X3_asIvory_f32 {s : State} {args : Array Value} (hts : ∀ w ∈ wsX3_asIvory, w.before args s = true) : (Cond.fieldLink RX3 32 "FoldRule$Rater" "traced" "J").before args s = true := hts _ (by decide +kernel)
theorem k_X3_asIvory_c59 {s : State} {args : Array Value} (hts : ∀ w ∈ wsX3_asIvory, w.before args s = true) : (Cond.constantLong RX3 59 (100000)).before args s = true := hts _ (by decide +kernel)
set_option maxHeartbeats 4000000 in
set_option maxRecDepth 100000 in
theorem c_X3_asIvory {l : Launch} {D : va_G} {Y : ClassId × ClassId × ClassId} {q q1 q1_lengths q2 q2_places : Nat} {g_traced : Int64} {g1_links g1_folded g1_stiff : Int32} {g1_lengths : Nat → Int32} {g2_links g2_low g2_high : Int32} {g2_places : Nat → Int32} {x3 : Int32} {Q : Int32 → Int64 → Prop} (h : wp_X3_asIvory g_traced g1_links g1_lengths g2_links g2_places x3 Q) (sz : Nat) : MtI l yX3_asIvory wsX3_asIvory rm_X3_asIvory [.ref q, .ref q1, .ref q2, .int x3] D Y (w_X3_asIvory Y q q1 q1_lengths q2 q2_places g_traced g1_links g1_folded g1_stiff g1_lengths g2_links g2_low g2_high g2_places) (fun r (u : Int64) => Q r u) (fun u : Int64 => (w_X3_asIvory Y q q1 q1_lengths q2 q2_places u g1_links g1_folded g1_stiff g1_lengths g2_links g2_low g2_high g2_places)) sz := by
  refine ct_i (cc := cX3_asIvory) (nL := 4) (ret := (some .int)) (by decide) rfl (Nat.le_of_ble_eq_true rfl) ?_ sz
  intro p e s m below meth c A ls C hK hA hP hD hS hl
  obtain ⟨⟨hx, hb, hml, hown, hts⟩, hr, hlocks, hN⟩ := id C
  have hown : s.vm.findClass RX3 = some m.cls := hown
  have hl : lv_has ls 4 [(0, .ref q), (1, .ref q1), (2, .ref q2), (3, .int x3)] := hl
  unfold wp_X3_asIvory at h
  refine lv_aload_n hx hb dX3_asIvory_0 rfl (lv_at hl 0 rfl) ?_
  refine lv_dup hx hb dX3_asIvory_1 rfl ?_
  refine va_get (D := D) (ci := 3) (v := .long g_traced) (C := RX3) (T := TX3) (N := 1) hx hb hts in_X3_asIvory_X3 hown hK hP 0 rfl rfl 0 (by decide) (k_X3_asIvory_f32 hts) (fun _ h9 => h9) rfl dX3_asIvory_2 ?_
  refine lv_ldc2 hx hb hown (k_X3_asIvory_c59 hts) dX3_asIvory_5 ?_
  refine lv_ladd hx hb dX3_asIvory_8 ?_
  refine lv_topl (fun z5 ez5 => ?_)
  have h := h z5 ez5
  refine va_put (D := D) (ci := 3) (v := .long z5) (ty := .long) (C := RX3) (T := TX3) (N := 1) hx hb hts in_X3_asIvory_X3 tyX3 tyX3_ok nmX3 hown hK hP hD hS 0 rfl rfl 0 (by decide) (k_X3_asIvory_f32 hts) (fun _ h9 => h9) rfl (by decide +kernel) rfl rfl (Nat.le_of_ble_eq_true rfl) dX3_asIvory_9 (fun H locs hP hD hS => ?_)
  have hP : va_P D vwCl (w_X3_asIvory Y q q1 q1_lengths q2 q2_places z5 g1_links g1_folded g1_stiff g1_lengths g2_links g2_low g2_high g2_places) H := hP
  have hD : va_D A (w_X3_asIvory Y q q1 q1_lengths q2 q2_places z5 g1_links g1_folded g1_stiff g1_lengths g2_links g2_low g2_high g2_places) := hD
  refine lv_aload_n hx hb dX3_asIvory_12 rfl (lv_at hl 0 rfl) ?_
  refine lv_aload_n hx hb dX3_asIvory_13 rfl (lv_at hl 1 rfl) ?_
  refine lv_iload_n hx hb dX3_asIvory_14 rfl (lv_at hl 3 rfl) ?_
  have hp : Pt (w_X3_asIvory Y q q1 q1_lengths q2 q2_places z5 g1_links g1_folded g1_stiff g1_lengths g2_links g2_low g2_high g2_places) (w_X3_asLink Y q q1 q1_lengths z5 g1_links g1_folded g1_stiff g1_lengths) [0, 1, 2] := ⟨rfl, by decide +kernel⟩
  refine go_i hp hP hD hS hA (fun _ => rfl) (va_runV (As := [.ref q1, .int x3]) (rest := []) ⟨hx, hb, hml, hown, hts⟩ (c_X3_asLink h _) (cwV 2 hts gX3_asIvory_X3_asLink rfl rfl rfl (by decide +kernel) ⟨Nat.le_of_ble_eq_true rfl, Nat.le_of_ble_eq_true rfl⟩) (pre_V (b := q) (q0 := 0) (ci := 3) (q := (RX3, TX3, 1)) hp hK hN hP hD rfl rfl) rfl rfl hl.1 rfl (lv_room (Nat.le_of_ble_eq_true rfl)) dX3_asIvory_15 ⟨Nat.le_of_ble_eq_true rfl, Nat.le_of_ble_eq_true rfl⟩) (fun r6 u H locs h hP hD hS => ?_)
  obtain ⟨u7, rfl⟩ : ∃ z, z = u := ⟨_, rfl⟩
  try dsimp only at h
  have hP : va_P D vwCl (w_X3_asIvory Y q q1 q1_lengths q2 q2_places u7 g1_links g1_folded g1_stiff g1_lengths g2_links g2_low g2_high g2_places) H := hP
  have hD : va_D A (w_X3_asIvory Y q q1 q1_lengths q2 q2_places u7 g1_links g1_folded g1_stiff g1_lengths g2_links g2_low g2_high g2_places) := hD
  refine lv_aload_n hx hb dX3_asIvory_18 rfl (lv_at hl 2 rfl) ?_
  have hp : Pt (w_X3_asIvory Y q q1 q1_lengths q2 q2_places u7 g1_links g1_folded g1_stiff g1_lengths g2_links g2_low g2_high g2_places) (w_X2_stack Y q2 q2_places g2_links g2_low g2_high g2_places) [3, 4] := ⟨rfl, by decide +kernel⟩
  refine go_i hp hP hD hS hA (fun _ => rfl) (va_runV (As := []) (rest := [.int r6]) ⟨hx, hb, hml, hown, hts⟩ (c_X2_stack h _) (cwV 0 hts gX3_asIvory_X2_stack rfl rfl rfl (by decide +kernel) ⟨Nat.le_of_ble_eq_true rfl, Nat.le_of_ble_eq_true rfl⟩) (pre_V (b := q2) (q0 := 0) (ci := 2) (q := (RX2, TX2, 4)) hp hK hN hP hD rfl rfl) rfl rfl hl.1 rfl (lv_room (Nat.le_of_ble_eq_true rfl)) dX3_asIvory_19 ⟨Nat.le_of_ble_eq_true rfl, Nat.le_of_ble_eq_true rfl⟩) (fun r8 u H locs h hP hD hS => ?_)
  try dsimp only at h
  have hP : va_P D vwCl (w_X3_asIvory Y q q1 q1_lengths q2 q2_places u7 g1_links g1_folded g1_stiff g1_lengths g2_links g2_low g2_high g2_places) H := hP
  have hD : va_D A (w_X3_asIvory Y q q1 q1_lengths q2 q2_places u7 g1_links g1_folded g1_stiff g1_lengths g2_links g2_low g2_high g2_places) := hD
  refine lv_iadd hx hb dX3_asIvory_22 ?_
  exact ret_i (u7) hx hb hr hlocks hK hP hD hS h dX3_asIvory_23
abbrev rm_X3_rateAs : Room := { frames := 5, cells := 0, slots := 0, locals := 110 }
theorem k_X3_rateAs_c31 {s : State} {args : Array Value} (hts : ∀ w ∈ wsX3_rateAs, w.before args s = true) : (Cond.constant RX3 31 (-1000000)).before args s = true := hts _ (by decide +kernel)
set_option maxHeartbeats 4000000 in
set_option maxRecDepth 100000 in
theorem c_X3_rateAs {l : Launch} {D : va_G} {Y : ClassId × ClassId × ClassId} {q q2 q2_lengths q3 q3_places : Nat} {g_traced : Int64} {g2_links g2_folded g2_stiff : Int32} {g2_lengths : Nat → Int32} {g3_links g3_low g3_high : Int32} {g3_places : Nat → Int32} {x1 x4 : Int32} {Q : Int32 → Int64 → Prop} (h : wp_X3_rateAs g_traced g2_links g2_lengths g3_links g3_low g3_high g3_places x1 x4 Q) (sz : Nat) : MtI l yX3_rateAs wsX3_rateAs rm_X3_rateAs [.ref q, .int x1, .ref q2, .ref q3, .int x4] D Y (w_X3_rateAs Y q q2 q2_lengths q3 q3_places g_traced g2_links g2_folded g2_stiff g2_lengths g3_links g3_low g3_high g3_places) (fun r (u : Int64) => Q r u) (fun u : Int64 => (w_X3_rateAs Y q q2 q2_lengths q3 q3_places u g2_links g2_folded g2_stiff g2_lengths g3_links g3_low g3_high g3_places)) sz := by
  refine ct_i (cc := cX3_rateAs) (nL := 5) (ret := (some .int)) (by decide) rfl (Nat.le_of_ble_eq_true rfl) ?_ sz
  intro p e s m below meth c A ls C hK hA hP hD hS hl
  obtain ⟨⟨hx, hb, hml, hown, hts⟩, hr, hlocks, hN⟩ := id C
  have hown : s.vm.findClass RX3 = some m.cls := hown
  have hl : lv_has ls 5 [(0, .ref q), (1, .int x1), (2, .ref q2), (3, .ref q3), (4, .int x4)] := hl
  unfold wp_X3_rateAs at h
  refine lv_iload_n hx hb dX3_rateAs_0 rfl (lv_at hl 1 rfl) ?_
  by_cases c13_0 : x1 = (0 : Int32)
  · have h := h.1 c13_0
    refine lv_tableIn (off := (39)) (tgt := 40) hx hb dX3_rateAs_1 (by rw [c13_0]; decide) (by rw [c13_0]; decide) (by rw [c13_0]; rfl) (by decide) ?_
    refine lv_aload_n hx hb dX3_rateAs_40 rfl (lv_at hl 0 rfl) ?_
    refine lv_aload_n hx hb dX3_rateAs_41 rfl (lv_at hl 2 rfl) ?_
    refine lv_iload hx hb dX3_rateAs_42 (lv_at hl 4 rfl) ?_
    have hp : Pt (w_X3_rateAs Y q q2 q2_lengths q3 q3_places g_traced g2_links g2_folded g2_stiff g2_lengths g3_links g3_low g3_high g3_places) (w_X3_asLink Y q q2 q2_lengths g_traced g2_links g2_folded g2_stiff g2_lengths) [0, 1, 2] := ⟨rfl, by decide +kernel⟩
    refine go_i hp hP hD hS hA (fun _ => rfl) (va_runV (As := [.ref q2, .int x4]) (rest := []) ⟨hx, hb, hml, hown, hts⟩ (c_X3_asLink h _) (cwV 2 hts gX3_rateAs_X3_asLink rfl rfl rfl (by decide +kernel) ⟨Nat.le_of_ble_eq_true rfl, Nat.le_of_ble_eq_true rfl⟩) (pre_V (b := q) (q0 := 0) (ci := 3) (q := (RX3, TX3, 1)) hp hK hN hP hD rfl rfl) rfl rfl hl.1 rfl (lv_room (Nat.le_of_ble_eq_true rfl)) dX3_rateAs_44 ⟨Nat.le_of_ble_eq_true rfl, Nat.le_of_ble_eq_true rfl⟩) (fun r14 u H locs h hP hD hS => ?_)
    obtain ⟨u15, rfl⟩ : ∃ z, z = u := ⟨_, rfl⟩
    try dsimp only at h
    have hP : va_P D vwCl (w_X3_rateAs Y q q2 q2_lengths q3 q3_places u15 g2_links g2_folded g2_stiff g2_lengths g3_links g3_low g3_high g3_places) H := hP
    have hD : va_D A (w_X3_rateAs Y q q2 q2_lengths q3 q3_places u15 g2_links g2_folded g2_stiff g2_lengths g3_links g3_low g3_high g3_places) := hD
    exact ret_i (u15) hx hb hr hlocks hK hP hD hS h dX3_rateAs_47
  by_cases c13_1 : x1 = (1 : Int32)
  · have h := h.2.1 c13_1
    refine lv_tableIn (off := (47)) (tgt := 48) hx hb dX3_rateAs_1 (by rw [c13_1]; decide) (by rw [c13_1]; decide) (by rw [c13_1]; rfl) (by decide) ?_
    refine lv_aload_n hx hb dX3_rateAs_48 rfl (lv_at hl 0 rfl) ?_
    refine lv_aload_n hx hb dX3_rateAs_49 rfl (lv_at hl 2 rfl) ?_
    refine lv_aload_n hx hb dX3_rateAs_50 rfl (lv_at hl 3 rfl) ?_
    refine lv_iload hx hb dX3_rateAs_51 (lv_at hl 4 rfl) ?_
    have hp : Pt (w_X3_rateAs Y q q2 q2_lengths q3 q3_places g_traced g2_links g2_folded g2_stiff g2_lengths g3_links g3_low g3_high g3_places) (w_X3_asWood Y q q2 q2_lengths q3 q3_places g_traced g2_links g2_folded g2_stiff g2_lengths g3_links g3_low g3_high g3_places) [0, 1, 2, 3, 4] := ⟨rfl, by decide +kernel⟩
    refine go_i hp hP hD hS hA (fun _ => rfl) (va_runV (As := [.ref q2, .ref q3, .int x4]) (rest := []) ⟨hx, hb, hml, hown, hts⟩ (c_X3_asWood h _) (cwV 3 hts gX3_rateAs_X3_asWood rfl rfl rfl (by decide +kernel) ⟨Nat.le_of_ble_eq_true rfl, Nat.le_of_ble_eq_true rfl⟩) (pre_V (b := q) (q0 := 0) (ci := 3) (q := (RX3, TX3, 1)) hp hK hN hP hD rfl rfl) rfl rfl hl.1 rfl (lv_room (Nat.le_of_ble_eq_true rfl)) dX3_rateAs_53 ⟨Nat.le_of_ble_eq_true rfl, Nat.le_of_ble_eq_true rfl⟩) (fun r16 u H locs h hP hD hS => ?_)
    obtain ⟨u17, rfl⟩ : ∃ z, z = u := ⟨_, rfl⟩
    try dsimp only at h
    have hP : va_P D vwCl (w_X3_rateAs Y q q2 q2_lengths q3 q3_places u17 g2_links g2_folded g2_stiff g2_lengths g3_links g3_low g3_high g3_places) H := hP
    have hD : va_D A (w_X3_rateAs Y q q2 q2_lengths q3 q3_places u17 g2_links g2_folded g2_stiff g2_lengths g3_links g3_low g3_high g3_places) := hD
    exact ret_i (u17) hx hb hr hlocks hK hP hD hS h dX3_rateAs_56
  by_cases c13_2 : x1 = (2 : Int32)
  · have h := h.2.2.1 c13_2
    refine lv_tableIn (off := (56)) (tgt := 57) hx hb dX3_rateAs_1 (by rw [c13_2]; decide) (by rw [c13_2]; decide) (by rw [c13_2]; rfl) (by decide) ?_
    refine lv_aload_n hx hb dX3_rateAs_57 rfl (lv_at hl 0 rfl) ?_
    refine lv_aload_n hx hb dX3_rateAs_58 rfl (lv_at hl 2 rfl) ?_
    refine lv_aload_n hx hb dX3_rateAs_59 rfl (lv_at hl 3 rfl) ?_
    refine lv_iload hx hb dX3_rateAs_60 (lv_at hl 4 rfl) ?_
    have hp : Pt (w_X3_rateAs Y q q2 q2_lengths q3 q3_places g_traced g2_links g2_folded g2_stiff g2_lengths g3_links g3_low g3_high g3_places) (w_X3_asBrass Y q q2 q2_lengths q3 q3_places g_traced g2_links g2_folded g2_stiff g2_lengths g3_links g3_low g3_high) [0, 1, 2, 3] := ⟨rfl, by decide +kernel⟩
    refine go_i hp hP hD hS hA (fun _ => rfl) (va_runV (As := [.ref q2, .ref q3, .int x4]) (rest := []) ⟨hx, hb, hml, hown, hts⟩ (c_X3_asBrass h _) (cwV 3 hts gX3_rateAs_X3_asBrass rfl rfl rfl (by decide +kernel) ⟨Nat.le_of_ble_eq_true rfl, Nat.le_of_ble_eq_true rfl⟩) (pre_V (b := q) (q0 := 0) (ci := 3) (q := (RX3, TX3, 1)) hp hK hN hP hD rfl rfl) rfl rfl hl.1 rfl (lv_room (Nat.le_of_ble_eq_true rfl)) dX3_rateAs_62 ⟨Nat.le_of_ble_eq_true rfl, Nat.le_of_ble_eq_true rfl⟩) (fun r18 u H locs h hP hD hS => ?_)
    obtain ⟨u19, rfl⟩ : ∃ z, z = u := ⟨_, rfl⟩
    try dsimp only at h
    have hP : va_P D vwCl (w_X3_rateAs Y q q2 q2_lengths q3 q3_places u19 g2_links g2_folded g2_stiff g2_lengths g3_links g3_low g3_high g3_places) H := hP
    have hD : va_D A (w_X3_rateAs Y q q2 q2_lengths q3 q3_places u19 g2_links g2_folded g2_stiff g2_lengths g3_links g3_low g3_high g3_places) := hD
    exact ret_i (u19) hx hb hr hlocks hK hP hD hS h dX3_rateAs_65
  by_cases c13_3 : x1 = (3 : Int32)
  · have h := h.2.2.2.1 c13_3
    refine lv_tableIn (off := (65)) (tgt := 66) hx hb dX3_rateAs_1 (by rw [c13_3]; decide) (by rw [c13_3]; decide) (by rw [c13_3]; rfl) (by decide) ?_
    refine lv_aload_n hx hb dX3_rateAs_66 rfl (lv_at hl 0 rfl) ?_
    refine lv_aload_n hx hb dX3_rateAs_67 rfl (lv_at hl 2 rfl) ?_
    refine lv_aload_n hx hb dX3_rateAs_68 rfl (lv_at hl 3 rfl) ?_
    refine lv_iload hx hb dX3_rateAs_69 (lv_at hl 4 rfl) ?_
    have hp : Pt (w_X3_rateAs Y q q2 q2_lengths q3 q3_places g_traced g2_links g2_folded g2_stiff g2_lengths g3_links g3_low g3_high g3_places) (w_X3_asBeech Y q q2 q2_lengths q3 q3_places g_traced g2_links g2_folded g2_stiff g2_lengths g3_links g3_low g3_high g3_places) [0, 1, 2, 3, 4] := ⟨rfl, by decide +kernel⟩
    refine go_i hp hP hD hS hA (fun _ => rfl) (va_runV (As := [.ref q2, .ref q3, .int x4]) (rest := []) ⟨hx, hb, hml, hown, hts⟩ (c_X3_asBeech h _) (cwV 3 hts gX3_rateAs_X3_asBeech rfl rfl rfl (by decide +kernel) ⟨Nat.le_of_ble_eq_true rfl, Nat.le_of_ble_eq_true rfl⟩) (pre_V (b := q) (q0 := 0) (ci := 3) (q := (RX3, TX3, 1)) hp hK hN hP hD rfl rfl) rfl rfl hl.1 rfl (lv_room (Nat.le_of_ble_eq_true rfl)) dX3_rateAs_71 ⟨Nat.le_of_ble_eq_true rfl, Nat.le_of_ble_eq_true rfl⟩) (fun r20 u H locs h hP hD hS => ?_)
    obtain ⟨u21, rfl⟩ : ∃ z, z = u := ⟨_, rfl⟩
    try dsimp only at h
    have hP : va_P D vwCl (w_X3_rateAs Y q q2 q2_lengths q3 q3_places u21 g2_links g2_folded g2_stiff g2_lengths g3_links g3_low g3_high g3_places) H := hP
    have hD : va_D A (w_X3_rateAs Y q q2 q2_lengths q3 q3_places u21 g2_links g2_folded g2_stiff g2_lengths g3_links g3_low g3_high g3_places) := hD
    exact ret_i (u21) hx hb hr hlocks hK hP hD hS h dX3_rateAs_74
  by_cases c13_4 : x1 = (4 : Int32)
  · have h := h.2.2.2.2.1 c13_4
    refine lv_tableIn (off := (74)) (tgt := 75) hx hb dX3_rateAs_1 (by rw [c13_4]; decide) (by rw [c13_4]; decide) (by rw [c13_4]; rfl) (by decide) ?_
    refine lv_aload_n hx hb dX3_rateAs_75 rfl (lv_at hl 0 rfl) ?_
    refine lv_aload_n hx hb dX3_rateAs_76 rfl (lv_at hl 2 rfl) ?_
    refine lv_aload_n hx hb dX3_rateAs_77 rfl (lv_at hl 3 rfl) ?_
    refine lv_iload hx hb dX3_rateAs_78 (lv_at hl 4 rfl) ?_
    have hp : Pt (w_X3_rateAs Y q q2 q2_lengths q3 q3_places g_traced g2_links g2_folded g2_stiff g2_lengths g3_links g3_low g3_high g3_places) (w_X3_asTip Y q q2 q2_lengths q3 q3_places g_traced g2_links g2_folded g2_stiff g2_lengths g3_links g3_low g3_high) [0, 1, 2, 3] := ⟨rfl, by decide +kernel⟩
    refine go_i hp hP hD hS hA (fun _ => rfl) (va_runV (As := [.ref q2, .ref q3, .int x4]) (rest := []) ⟨hx, hb, hml, hown, hts⟩ (c_X3_asTip h _) (cwV 3 hts gX3_rateAs_X3_asTip rfl rfl rfl (by decide +kernel) ⟨Nat.le_of_ble_eq_true rfl, Nat.le_of_ble_eq_true rfl⟩) (pre_V (b := q) (q0 := 0) (ci := 3) (q := (RX3, TX3, 1)) hp hK hN hP hD rfl rfl) rfl rfl hl.1 rfl (lv_room (Nat.le_of_ble_eq_true rfl)) dX3_rateAs_80 ⟨Nat.le_of_ble_eq_true rfl, Nat.le_of_ble_eq_true rfl⟩) (fun r22 u H locs h hP hD hS => ?_)
    obtain ⟨u23, rfl⟩ : ∃ z, z = u := ⟨_, rfl⟩
    try dsimp only at h
    have hP : va_P D vwCl (w_X3_rateAs Y q q2 q2_lengths q3 q3_places u23 g2_links g2_folded g2_stiff g2_lengths g3_links g3_low g3_high g3_places) H := hP
    have hD : va_D A (w_X3_rateAs Y q q2 q2_lengths q3 q3_places u23 g2_links g2_folded g2_stiff g2_lengths g3_links g3_low g3_high g3_places) := hD
    exact ret_i (u23) hx hb hr hlocks hK hP hD hS h dX3_rateAs_83
  by_cases c13_5 : x1 = (5 : Int32)
  · have h := h.2.2.2.2.2.1 c13_5
    refine lv_tableIn (off := (83)) (tgt := 84) hx hb dX3_rateAs_1 (by rw [c13_5]; decide) (by rw [c13_5]; decide) (by rw [c13_5]; rfl) (by decide) ?_
    refine lv_aload_n hx hb dX3_rateAs_84 rfl (lv_at hl 0 rfl) ?_
    refine lv_aload_n hx hb dX3_rateAs_85 rfl (lv_at hl 2 rfl) ?_
    refine lv_aload_n hx hb dX3_rateAs_86 rfl (lv_at hl 3 rfl) ?_
    refine lv_iload hx hb dX3_rateAs_87 (lv_at hl 4 rfl) ?_
    have hp : Pt (w_X3_rateAs Y q q2 q2_lengths q3 q3_places g_traced g2_links g2_folded g2_stiff g2_lengths g3_links g3_low g3_high g3_places) (w_X3_asIvory Y q q2 q2_lengths q3 q3_places g_traced g2_links g2_folded g2_stiff g2_lengths g3_links g3_low g3_high g3_places) [0, 1, 2, 3, 4] := ⟨rfl, by decide +kernel⟩
    refine go_i hp hP hD hS hA (fun _ => rfl) (va_runV (As := [.ref q2, .ref q3, .int x4]) (rest := []) ⟨hx, hb, hml, hown, hts⟩ (c_X3_asIvory h _) (cwV 3 hts gX3_rateAs_X3_asIvory rfl rfl rfl (by decide +kernel) ⟨Nat.le_of_ble_eq_true rfl, Nat.le_of_ble_eq_true rfl⟩) (pre_V (b := q) (q0 := 0) (ci := 3) (q := (RX3, TX3, 1)) hp hK hN hP hD rfl rfl) rfl rfl hl.1 rfl (lv_room (Nat.le_of_ble_eq_true rfl)) dX3_rateAs_89 ⟨Nat.le_of_ble_eq_true rfl, Nat.le_of_ble_eq_true rfl⟩) (fun r24 u H locs h hP hD hS => ?_)
    obtain ⟨u25, rfl⟩ : ∃ z, z = u := ⟨_, rfl⟩
    try dsimp only at h
    have hP : va_P D vwCl (w_X3_rateAs Y q q2 q2_lengths q3 q3_places u25 g2_links g2_folded g2_stiff g2_lengths g3_links g3_low g3_high g3_places) H := hP
    have hD : va_D A (w_X3_rateAs Y q q2 q2_lengths q3 q3_places u25 g2_links g2_folded g2_stiff g2_lengths g3_links g3_low g3_high g3_places) := hD
    exact ret_i (u25) hx hb hr hlocks hK hP hD hS h dX3_rateAs_92
  have h := h.2.2.2.2.2.2 c13_0 c13_1 c13_2 c13_3 c13_4 c13_5
  refine lv_tableOut (tgt := 93) hx hb dX3_rateAs_1 (by have := lv_neT (a := 0) c13_0 (by decide); have := lv_neT (a := 1) c13_1 (by decide); have := lv_neT (a := 2) c13_2 (by decide); have := lv_neT (a := 3) c13_3 (by decide); have := lv_neT (a := 4) c13_4 (by decide); have := lv_neT (a := 5) c13_5 (by decide); omega) (by decide) ?_
  refine lv_ldc hx hb hown (k_X3_rateAs_c31 hts) dX3_rateAs_93 ?_
  exact ret_i (g_traced) hx hb hr hlocks hK hP hD hS h dX3_rateAs_95
abbrev rm_X4_isFull : Room := { frames := 0, cells := 0, slots := 0, locals := 0 }
theorem in_X4_isFull_X4 : ∀ w ∈ wsX40, w ∈ wsX4_isFull := fun _ h => List.mem_cons_of_mem _ (List.mem_append_right _ h)
theorem k_X4_isFull_f32 {s : State} {args : Array Value} (hts : ∀ w ∈ wsX4_isFull, w.before args s = true) : (Cond.fieldLink RX4 32 "FoldRule$Sightings" "size" "I").before args s = true := hts _ (by decide +kernel)
set_option maxHeartbeats 4000000 in
set_option maxRecDepth 100000 in
theorem c_X4_isFull {l : Launch} {D : va_G} {Y : ClassId × ClassId × ClassId} {q q_seenFolds q_seenSpans q_isWay q_tally q_lay : Nat} {g_size : Int32} {Q : Int32 → Prop} (h : wp_X4_isFull g_size Q) (sz : Nat) : MtI l yX4_isFull wsX4_isFull rm_X4_isFull [.ref q] D Y (w_X4_isFull Y q q_seenFolds q_seenSpans q_isWay q_tally q_lay g_size) (fun r (_ : Unit) => Q r) (fun _ : Unit => (w_X4_isFull Y q q_seenFolds q_seenSpans q_isWay q_tally q_lay g_size)) sz := by
  refine ct_i (cc := cX4_isFull) (nL := 1) (ret := (some .boolean)) (by decide) rfl (Nat.le_of_ble_eq_true rfl) ?_ sz
  intro p e s m below meth c A ls C hK hA hP hD hS hl
  obtain ⟨⟨hx, hb, hml, hown, hts⟩, hr, hlocks, hN⟩ := id C
  have hown : s.vm.findClass RX4 = some m.cls := hown
  have hl : lv_has ls 1 [(0, .ref q)] := hl
  unfold wp_X4_isFull at h
  refine lv_aload_n hx hb dX4_isFull_0 rfl (lv_at hl 0 rfl) ?_
  refine va_get (D := D) (ci := 4) (v := .int g_size) (C := RX4) (T := TX4) (N := 6) hx hb hts in_X4_isFull_X4 hown hK hP 0 rfl rfl 2 (by decide) (k_X4_isFull_f32 hts) (fun _ h9 => h9) rfl dX4_isFull_1 ?_
  refine lv_bipush (v := 6) hx hb dX4_isFull_4 (by decide) ?_
  refine lv_icmp_lt (tgt := 13) hx hb dX4_isFull_6 (by decide) (fun c1 => ?_) (fun c1 => ?_)
  · have h := h.1 c1
    refine lv_iconst (v := 0) hx hb dX4_isFull_13 (by decide) ?_
    exact ret_z () hx hb hr hlocks hK hP hD hS (Or.inl rfl) h dX4_isFull_14
  · have h := h.2 c1
    refine lv_iconst (v := 1) hx hb dX4_isFull_9 (by decide) ?_
    refine lv_goto (tgt := 14) hx hb dX4_isFull_10 (by decide) ?_
    exact ret_z () hx hb hr hlocks hK hP hD hS (Or.inr rfl) h dX4_isFull_14
abbrev rm_X4_loseAll : Room := { frames := 0, cells := 0, slots := 0, locals := 0 }
theorem in_X4_loseAll_X4 : ∀ w ∈ wsX40, w ∈ wsX4_loseAll := fun _ h => List.mem_cons_of_mem _ (List.mem_append_right _ h)
theorem k_X4_loseAll_f32 {s : State} {args : Array Value} (hts : ∀ w ∈ wsX4_loseAll, w.before args s = true) : (Cond.fieldLink RX4 32 "FoldRule$Sightings" "size" "I").before args s = true := hts _ (by decide +kernel)
set_option maxHeartbeats 4000000 in
set_option maxRecDepth 100000 in
theorem c_X4_loseAll {l : Launch} {D : va_G} {Y : ClassId × ClassId × ClassId} {q q_seenFolds q_seenSpans q_isWay q_tally q_lay : Nat} {g_size : Int32} {Q : Int32 → Prop} (h : wp_X4_loseAll g_size Q) (sz : Nat) : MtV l yX4_loseAll wsX4_loseAll rm_X4_loseAll [.ref q] D Y (w_X4_loseAll Y q q_seenFolds q_seenSpans q_isWay q_tally q_lay g_size) (fun (u : Int32) => Q u) (fun u : Int32 => (w_X4_loseAll Y q q_seenFolds q_seenSpans q_isWay q_tally q_lay u)) sz := by
  refine ct_v (cc := cX4_loseAll) (nL := 1) (ret := none) (by decide) rfl (Nat.le_of_ble_eq_true rfl) ?_ sz
  intro p e s m below meth c A ls C hK hA hP hD hS hl
  obtain ⟨⟨hx, hb, hml, hown, hts⟩, hr, hlocks, hN⟩ := id C
  have hown : s.vm.findClass RX4 = some m.cls := hown
  have hl : lv_has ls 1 [(0, .ref q)] := hl
  unfold wp_X4_loseAll at h
  refine lv_aload_n hx hb dX4_loseAll_0 rfl (lv_at hl 0 rfl) ?_
  refine lv_iconst (v := 0) hx hb dX4_loseAll_1 (by decide) ?_
  refine va_put (D := D) (ci := 4) (v := .int (0 : Int32)) (ty := .int) (C := RX4) (T := TX4) (N := 6) hx hb hts in_X4_loseAll_X4 tyX4 tyX4_ok nmX4 hown hK hP hD hS 0 rfl rfl 2 (by decide) (k_X4_loseAll_f32 hts) (fun _ h9 => h9) rfl (by decide +kernel) rfl rfl (Nat.le_of_ble_eq_true rfl) dX4_loseAll_2 (fun H locs hP hD hS => ?_)
  have hP : va_P D vwCl (w_X4_loseAll Y q q_seenFolds q_seenSpans q_isWay q_tally q_lay (0 : Int32)) H := hP
  have hD : va_D A (w_X4_loseAll Y q q_seenFolds q_seenSpans q_isWay q_tally q_lay (0 : Int32)) := hD
  exact ret_v ((0 : Int32)) hx hb hr hlocks hK hP hD hS h dX4_loseAll_5
abbrev rm_X4_note : Room := { frames := 1, cells := 0, slots := 0, locals := 20 }
theorem in_X4_note_X4 : ∀ w ∈ wsX40, w ∈ wsX4_note := fun _ h => List.mem_cons_of_mem _ (List.mem_append_right _ h)
theorem k_X4_note_f9 {s : State} {args : Array Value} (hts : ∀ w ∈ wsX4_note, w.before args s = true) : (Cond.fieldLink RX4 9 "FoldRule$Sightings" "seenFolds" "[I").before args s = true := hts _ (by decide +kernel)
theorem k_X4_note_f32 {s : State} {args : Array Value} (hts : ∀ w ∈ wsX4_note, w.before args s = true) : (Cond.fieldLink RX4 32 "FoldRule$Sightings" "size" "I").before args s = true := hts _ (by decide +kernel)
theorem k_X4_note_f15 {s : State} {args : Array Value} (hts : ∀ w ∈ wsX4_note, w.before args s = true) : (Cond.fieldLink RX4 15 "FoldRule$Sightings" "seenSpans" "[I").before args s = true := hts _ (by decide +kernel)
set_option maxHeartbeats 4000000 in
set_option maxRecDepth 100000 in
theorem c_X4_note {l : Launch} {D : va_G} {Y : ClassId × ClassId × ClassId} {q q_seenFolds q_seenSpans q_isWay q_tally q_lay : Nat} {g_size : Int32} {g_seenFolds g_seenSpans : Nat → Int32} {x1 x2 : Int32} {Q : Int32 → (Nat → Int32) → (Nat → Int32) → Prop} (h : wp_X4_note g_size g_seenFolds g_seenSpans x1 x2 Q) (sz : Nat) : MtV l yX4_note wsX4_note rm_X4_note [.ref q, .int x1, .int x2] D Y (w_X4_note Y q q_seenFolds q_seenSpans q_isWay q_tally q_lay g_size g_seenFolds g_seenSpans) (fun (u : Int32 × (Nat → Int32) × (Nat → Int32)) => Q u.1 u.2.1 u.2.2) (fun u : Int32 × (Nat → Int32) × (Nat → Int32) => (w_X4_note Y q q_seenFolds q_seenSpans q_isWay q_tally q_lay u.1 u.2.1 u.2.2)) sz := by
  refine ct_v (cc := cX4_note) (nL := 3) (ret := none) (by decide) rfl (Nat.le_of_ble_eq_true rfl) ?_ sz
  intro p e s m below meth c A ls C hK hA hP hD hS hl
  obtain ⟨⟨hx, hb, hml, hown, hts⟩, hr, hlocks, hN⟩ := id C
  have hown : s.vm.findClass RX4 = some m.cls := hown
  have hl : lv_has ls 3 [(0, .ref q), (1, .int x1), (2, .int x2)] := hl
  unfold wp_X4_note at h
  refine lv_aload_n hx hb dX4_note_0 rfl (lv_at hl 0 rfl) ?_
  have hp : Pt (w_X4_note Y q q_seenFolds q_seenSpans q_isWay q_tally q_lay g_size g_seenFolds g_seenSpans) (w_X4_isFull Y q q_seenFolds q_seenSpans q_isWay q_tally q_lay g_size) [0] := ⟨rfl, by decide +kernel⟩
  refine go_i hp hP hD hS hA (fun _ => rfl) (va_runV (As := []) (rest := []) ⟨hx, hb, hml, hown, hts⟩ (c_X4_isFull h _) (cwV 0 hts gX4_note_X4_isFull rfl rfl rfl (by decide +kernel) ⟨Nat.le_of_ble_eq_true rfl, Nat.le_of_ble_eq_true rfl⟩) (pre_V (b := q) (q0 := 0) (ci := 4) (q := (RX4, TX4, 6)) hp hK hN hP hD rfl rfl) rfl rfl hl.1 rfl (lv_room (Nat.le_of_ble_eq_true rfl)) dX4_note_1 ⟨Nat.le_of_ble_eq_true rfl, Nat.le_of_ble_eq_true rfl⟩) (fun r3 u H locs h hP hD hS => ?_)
  try dsimp only at h
  have hP : va_P D vwCl (w_X4_note Y q q_seenFolds q_seenSpans q_isWay q_tally q_lay g_size g_seenFolds g_seenSpans) H := hP
  have hD : va_D A (w_X4_note Y q q_seenFolds q_seenSpans q_isWay q_tally q_lay g_size g_seenFolds g_seenSpans) := hD
  refine lv_if_ne (tgt := 37) hx hb dX4_note_4 (by decide) (fun c4 => ?_) (fun c4 => ?_)
  · have h := h.1 c4
    exact ret_v (g_size, g_seenFolds, g_seenSpans) hx hb hr hlocks hK hP hD hS h dX4_note_37
  · have h := h.2 c4
    refine lv_aload_n hx hb dX4_note_7 rfl (lv_at hl 0 rfl) ?_
    refine va_get (D := D) (ci := 4) (v := .ref q_seenFolds) (C := RX4) (T := TX4) (N := 6) hx hb hts in_X4_note_X4 hown hK hP 0 rfl rfl 0 (by decide) (k_X4_note_f9 hts) (fun _ h9 => h9) rfl dX4_note_8 ?_
    refine lv_aload_n hx hb dX4_note_11 rfl (lv_at hl 0 rfl) ?_
    refine va_get (D := D) (ci := 4) (v := .int g_size) (C := RX4) (T := TX4) (N := 6) hx hb hts in_X4_note_X4 hown hK hP 0 rfl rfl 2 (by decide) (k_X4_note_f32 hts) (fun _ h9 => h9) rfl dX4_note_12 ?_
    refine lv_iload_n hx hb dX4_note_15 rfl (lv_at hl 1 rfl) ?_
    obtain ⟨hin, h⟩ := h
    refine va_iast hx hb hK hP hD hS 1 0 rfl rfl hin dX4_note_16 (fun H locs hP hD hS => ?_)
    have hP : va_P D vwCl (w_X4_note Y q q_seenFolds q_seenSpans q_isWay q_tally q_lay g_size (upd g_seenFolds (g_size).toNatClampNeg x1) g_seenSpans) H := hP
    have hD : va_D A (w_X4_note Y q q_seenFolds q_seenSpans q_isWay q_tally q_lay g_size (upd g_seenFolds (g_size).toNatClampNeg x1) g_seenSpans) := hD
    refine lv_aload_n hx hb dX4_note_17 rfl (lv_at hl 0 rfl) ?_
    refine va_get (D := D) (ci := 4) (v := .ref q_seenSpans) (C := RX4) (T := TX4) (N := 6) hx hb hts in_X4_note_X4 hown hK hP 0 rfl rfl 1 (by decide) (k_X4_note_f15 hts) (fun _ h9 => h9) rfl dX4_note_18 ?_
    refine lv_aload_n hx hb dX4_note_21 rfl (lv_at hl 0 rfl) ?_
    refine va_get (D := D) (ci := 4) (v := .int g_size) (C := RX4) (T := TX4) (N := 6) hx hb hts in_X4_note_X4 hown hK hP 0 rfl rfl 2 (by decide) (k_X4_note_f32 hts) (fun _ h9 => h9) rfl dX4_note_22 ?_
    refine lv_iload_n hx hb dX4_note_25 rfl (lv_at hl 2 rfl) ?_
    obtain ⟨hin, h⟩ := h
    refine va_iast hx hb hK hP hD hS 2 0 rfl rfl hin dX4_note_26 (fun H locs hP hD hS => ?_)
    have hP : va_P D vwCl (w_X4_note Y q q_seenFolds q_seenSpans q_isWay q_tally q_lay g_size (upd g_seenFolds (g_size).toNatClampNeg x1) (upd g_seenSpans (g_size).toNatClampNeg x2)) H := hP
    have hD : va_D A (w_X4_note Y q q_seenFolds q_seenSpans q_isWay q_tally q_lay g_size (upd g_seenFolds (g_size).toNatClampNeg x1) (upd g_seenSpans (g_size).toNatClampNeg x2)) := hD
    refine lv_aload_n hx hb dX4_note_27 rfl (lv_at hl 0 rfl) ?_
    refine lv_dup hx hb dX4_note_28 rfl ?_
    refine va_get (D := D) (ci := 4) (v := .int g_size) (C := RX4) (T := TX4) (N := 6) hx hb hts in_X4_note_X4 hown hK hP 0 rfl rfl 2 (by decide) (k_X4_note_f32 hts) (fun _ h9 => h9) rfl dX4_note_29 ?_
    refine lv_iconst (v := 1) hx hb dX4_note_32 (by decide) ?_
    refine lv_iadd hx hb dX4_note_33 ?_
    refine lv_topi (fun z5 ez5 => ?_)
    have h := h z5 ez5
    refine va_put (D := D) (ci := 4) (v := .int z5) (ty := .int) (C := RX4) (T := TX4) (N := 6) hx hb hts in_X4_note_X4 tyX4 tyX4_ok nmX4 hown hK hP hD hS 0 rfl rfl 2 (by decide) (k_X4_note_f32 hts) (fun _ h9 => h9) rfl (by decide +kernel) rfl rfl (Nat.le_of_ble_eq_true rfl) dX4_note_34 (fun H locs hP hD hS => ?_)
    have hP : va_P D vwCl (w_X4_note Y q q_seenFolds q_seenSpans q_isWay q_tally q_lay z5 (upd g_seenFolds (g_size).toNatClampNeg x1) (upd g_seenSpans (g_size).toNatClampNeg x2)) H := hP
    have hD : va_D A (w_X4_note Y q q_seenFolds q_seenSpans q_isWay q_tally q_lay z5 (upd g_seenFolds (g_size).toNatClampNeg x1) (upd g_seenSpans (g_size).toNatClampNeg x2)) := hD
    exact ret_v (z5, (upd g_seenFolds (g_size).toNatClampNeg x1), (upd g_seenSpans (g_size).toNatClampNeg x2)) hx hb hr hlocks hK hP hD hS h dX4_note_37
abbrev rm_X5_canFile : Room := { frames := 2, cells := 0, slots := 0, locals := 42 }
set_option maxHeartbeats 4000000 in
set_option maxRecDepth 100000 in
theorem c_X5_canFile {l : Launch} {D : va_G} {Y : ClassId × ClassId × ClassId} {q q_lengths : Nat} {g_links g_folded g_stiff : Int32} {g_lengths : Nat → Int32} {x1 x2 : Int32} {Q : Int32 → Prop} (h : wp_X5_canFile g_links g_lengths x1 x2 Q) (sz : Nat) : MtI l yX5_canFile wsX5_canFile rm_X5_canFile [.ref q, .int x1, .int x2] D Y (w_X5_canFile Y q q_lengths g_links g_folded g_stiff g_lengths) (fun r (_ : Unit) => Q r) (fun _ : Unit => (w_X5_canFile Y q q_lengths g_links g_folded g_stiff g_lengths)) sz := by
  refine ct_i (cc := cX5_canFile) (nL := 3) (ret := (some .boolean)) (by decide) rfl (Nat.le_of_ble_eq_true rfl) ?_ sz
  intro p e s m below meth c A ls C hK hA hP hD hS hl
  obtain ⟨⟨hx, hb, hml, hown, hts⟩, hr, hlocks, hN⟩ := id C
  have hown : s.vm.findClass RX5 = some m.cls := hown
  have hl : lv_has ls 3 [(0, .ref q), (1, .int x1), (2, .int x2)] := hl
  unfold wp_X5_canFile at h
  refine lv_aload_n hx hb dX5_canFile_0 rfl (lv_at hl 0 rfl) ?_
  refine lv_iload_n hx hb dX5_canFile_1 rfl (lv_at hl 1 rfl) ?_
  have hp : Pt (w_X5_canFile Y q q_lengths g_links g_folded g_stiff g_lengths) (w_X5_lengthOf Y q q_lengths g_links g_folded g_stiff g_lengths) [0, 1] := ⟨rfl, by decide +kernel⟩
  refine go_i hp hP hD hS hA (fun _ => rfl) (va_runV (As := [.int x1]) (rest := []) ⟨hx, hb, hml, hown, hts⟩ (c_X5_lengthOf h _) (cwV 1 hts gX5_canFile_X5_lengthOf rfl rfl rfl (by decide +kernel) ⟨Nat.le_of_ble_eq_true rfl, Nat.le_of_ble_eq_true rfl⟩) (pre_V (b := q) (q0 := 0) (ci := 5) (q := (RX5, TX5, 4)) hp hK hN hP hD rfl rfl) rfl rfl hl.1 rfl (lv_room (Nat.le_of_ble_eq_true rfl)) dX5_canFile_2 ⟨Nat.le_of_ble_eq_true rfl, Nat.le_of_ble_eq_true rfl⟩) (fun r2 u H locs h hP hD hS => ?_)
  try dsimp only at h
  have hP : va_P D vwCl (w_X5_canFile Y q q_lengths g_links g_folded g_stiff g_lengths) H := hP
  have hD : va_D A (w_X5_canFile Y q q_lengths g_links g_folded g_stiff g_lengths) := hD
  refine lv_iload_n hx hb dX5_canFile_5 rfl (lv_at hl 2 rfl) ?_
  refine lv_isub hx hb dX5_canFile_6 ?_
  refine lv_iconst (v := 1) hx hb dX5_canFile_7 (by decide) ?_
  refine lv_icmp_lt (tgt := 15) hx hb dX5_canFile_8 (by decide) (fun c3 => ?_) (fun c3 => ?_)
  · have h := h.1 c3
    refine lv_iconst (v := 0) hx hb dX5_canFile_15 (by decide) ?_
    exact ret_z () hx hb hr hlocks hK hP hD hS (Or.inl rfl) h dX5_canFile_16
  · have h := h.2 c3
    refine lv_iconst (v := 1) hx hb dX5_canFile_11 (by decide) ?_
    refine lv_goto (tgt := 16) hx hb dX5_canFile_12 (by decide) ?_
    exact ret_z () hx hb hr hlocks hK hP hD hS (Or.inr rfl) h dX5_canFile_16
abbrev rm_X4_agrees : Room := { frames := 2, cells := 0, slots := 0, locals := 49 }
theorem in_X4_agrees_X4 : ∀ w ∈ wsX40, w ∈ wsX4_agrees := fun _ h => List.mem_cons_of_mem _ (List.mem_append_left _ (List.mem_append_left _ (List.mem_append_right _ h)))
theorem k_X4_agrees_f32 {s : State} {args : Array Value} (hts : ∀ w ∈ wsX4_agrees, w.before args s = true) : (Cond.fieldLink RX4 32 "FoldRule$Sightings" "size" "I").before args s = true := hts _ (by decide +kernel)
theorem k_X4_agrees_f28 {s : State} {args : Array Value} (hts : ∀ w ∈ wsX4_agrees, w.before args s = true) : (Cond.fieldLink RX4 28 "FoldRule$Sightings" "lay" "LFoldRule$Lay;").before args s = true := hts _ (by decide +kernel)
theorem k_X4_agrees_f9 {s : State} {args : Array Value} (hts : ∀ w ∈ wsX4_agrees, w.before args s = true) : (Cond.fieldLink RX4 9 "FoldRule$Sightings" "seenFolds" "[I").before args s = true := hts _ (by decide +kernel)
theorem k_X4_agrees_f15 {s : State} {args : Array Value} (hts : ∀ w ∈ wsX4_agrees, w.before args s = true) : (Cond.fieldLink RX4 15 "FoldRule$Sightings" "seenSpans" "[I").before args s = true := hts _ (by decide +kernel)
set_option maxHeartbeats 4000000 in
set_option maxRecDepth 100000 in
theorem L_X4_agrees_3 {p : Program} {l : Launch} {e : Env} {s : State} {m : MethodId} {args : Array Value} {below : List Frame} {meth : Method} {c : Code} {D : va_G} {Y : ClassId × ClassId × ClassId} {A : Nat → Prop} {q q_seenFolds q_seenSpans q_isWay q_tally q_lay q1 q1_lengths q_lay_places : Nat} {g_size : Int32} {g_seenFolds : Nat → Int32} {g1_links g1_folded g1_stiff : Int32} {g1_lengths g_seenSpans : Nat → Int32} {x2 x3 : Int32} {Q : Int32 → Int32 → Int32 → Int32 → (Nat → Int32) → Prop} (C : Ctx p s m args meth c cX4_agrees 5 (some .boolean) wsX4_agrees RX4) (hK : va_K D vwCl (tyS Y) s) (hA : ∀ q, s.heap.size ≤ q → A q) : ∀ (n : Nat) (x4 g_lay_links g_lay_low g_lay_high : Int32) (g_lay_places : Nat → Int32), itr5 (B_X4_agrees_3 g_size g_seenFolds g1_links g1_lengths g_seenSpans x2 x3 Q) n x4 g_lay_links g_lay_low g_lay_high g_lay_places → ∀ (H : Heap) (locs : List Loc) (ls : Array Slot), va_P D vwCl (w_X4_agrees Y q q_seenFolds q_seenSpans q_isWay q_tally q_lay q1 q1_lengths q_lay_places g_size g_seenFolds g1_links g1_folded g1_stiff g_lay_links g_lay_low g_lay_high g1_lengths g_lay_places g_seenSpans) H → va_D A (w_X4_agrees Y q q_seenFolds q_seenSpans q_isWay q_tally q_lay q1 q1_lengths q_lay_places g_size g_seenFolds g1_links g1_folded g1_stiff g_lay_links g_lay_low g_lay_high g1_lengths g_lay_places g_seenSpans) → va_S A s.heap H locs → lv_has ls 5 [(0, .ref q), (1, .ref q1), (2, .int x2), (3, .int x3), (4, .int x4)] → W p l e rm_X4_agrees s m args below meth c H locs 0 0 (QI below args s D Y A (fun r (u : Int32 × Int32 × Int32 × (Nat → Int32)) => Q r u.1 u.2.1 u.2.2.1 u.2.2.2) (fun u : Int32 × Int32 × Int32 × (Nat → Int32) => (w_X4_agrees Y q q_seenFolds q_seenSpans q_isWay q_tally q_lay q1 q1_lengths q_lay_places g_size g_seenFolds g1_links g1_folded g1_stiff u.1 u.2.1 u.2.2.1 g1_lengths u.2.2.2 g_seenSpans))) (F0 m 3 ls []) := by
  intro n
  induction n with
  | zero => intro x4 g_lay_links g_lay_low g_lay_high g_lay_places h; exact False.elim h
  | succ n ih =>
    intro x4 g_lay_links g_lay_low g_lay_high g_lay_places h H locs ls hP hD hS hl
    obtain ⟨⟨hx, hb, hml, hown, hts⟩, hr, hlocks, hN⟩ := id C
    have h : B_X4_agrees_3 g_size g_seenFolds g1_links g1_lengths g_seenSpans x2 x3 Q (itr5 (B_X4_agrees_3 g_size g_seenFolds g1_links g1_lengths g_seenSpans x2 x3 Q) n) x4 g_lay_links g_lay_low g_lay_high g_lay_places := h
    unfold B_X4_agrees_3 at h
    refine lv_iload hx hb dX4_agrees_3 (lv_at hl 4 rfl) ?_
    refine lv_aload_n hx hb dX4_agrees_5 rfl (lv_at hl 0 rfl) ?_
    refine va_get (D := D) (ci := 4) (v := .int g_size) (C := RX4) (T := TX4) (N := 6) hx hb hts in_X4_agrees_X4 hown hK hP 0 rfl rfl 2 (by decide) (k_X4_agrees_f32 hts) (fun _ h9 => h9) rfl dX4_agrees_6 ?_
    refine lv_icmp_ge (tgt := 54) hx hb dX4_agrees_9 (by decide) (fun c7 => ?_) (fun c7 => ?_)
    · have h := h.1 c7
      refine lv_iconst (v := 1) hx hb dX4_agrees_54 (by decide) ?_
      exact ret_z (g_lay_links, g_lay_low, g_lay_high, g_lay_places) hx hb hr hlocks hK hP hD hS (Or.inr rfl) h dX4_agrees_55
    · have h := h.2 c7
      refine lv_aload_n hx hb dX4_agrees_12 rfl (lv_at hl 0 rfl) ?_
      refine va_get (D := D) (ci := 4) (v := .ref q_lay) (C := RX4) (T := TX4) (N := 6) hx hb hts in_X4_agrees_X4 hown hK hP 0 rfl rfl 5 (by decide) (k_X4_agrees_f28 hts) (fun _ h9 => h9) rfl dX4_agrees_13 ?_
      refine lv_aload_n hx hb dX4_agrees_16 rfl (lv_at hl 1 rfl) ?_
      refine lv_aload_n hx hb dX4_agrees_17 rfl (lv_at hl 0 rfl) ?_
      refine va_get (D := D) (ci := 4) (v := .ref q_seenFolds) (C := RX4) (T := TX4) (N := 6) hx hb hts in_X4_agrees_X4 hown hK hP 0 rfl rfl 0 (by decide) (k_X4_agrees_f9 hts) (fun _ h9 => h9) rfl dX4_agrees_18 ?_
      refine lv_iload hx hb dX4_agrees_21 (lv_at hl 4 rfl) ?_
      obtain ⟨hin, h⟩ := h
      refine va_iald hx hb hK hP 1 0 rfl rfl hin dX4_agrees_23 ?_
      refine lv_iload_n hx hb dX4_agrees_24 rfl (lv_at hl 2 rfl) ?_
      refine lv_iload_n hx hb dX4_agrees_25 rfl (lv_at hl 3 rfl) ?_
      have hp : Pt (w_X4_agrees Y q q_seenFolds q_seenSpans q_isWay q_tally q_lay q1 q1_lengths q_lay_places g_size g_seenFolds g1_links g1_folded g1_stiff g_lay_links g_lay_low g_lay_high g1_lengths g_lay_places g_seenSpans) (w_X2_layOutFiled Y q1 q1_lengths q_lay q_lay_places g1_links g1_folded g1_stiff g_lay_links g_lay_low g_lay_high g1_lengths g_lay_places) [2, 3, 4, 5] := ⟨rfl, by decide +kernel⟩
      refine go_v hp hP hD hS hA (fun _ => rfl) (va_runV (As := [.ref q1, .int (g_seenFolds (x4).toNatClampNeg), .int x2, .int x3]) (rest := []) ⟨hx, hb, hml, hown, hts⟩ (c_X2_layOutFiled h _) (cwV 4 hts gX4_agrees_X2_layOutFiled rfl rfl rfl (by decide +kernel) ⟨Nat.le_of_ble_eq_true rfl, Nat.le_of_ble_eq_true rfl⟩) (pre_V (b := q_lay) (q0 := 1) (ci := 2) (q := (RX2, TX2, 4)) hp hK hN hP hD rfl rfl) rfl rfl hl.1 rfl (lv_room (Nat.le_of_ble_eq_true rfl)) dX4_agrees_26 ⟨Nat.le_of_ble_eq_true rfl, Nat.le_of_ble_eq_true rfl⟩) (fun u H locs h hP hD hS => ?_)
      obtain ⟨u9, u10, u11, u12⟩ := u
      try dsimp only at h
      have hP : va_P D vwCl (w_X4_agrees Y q q_seenFolds q_seenSpans q_isWay q_tally q_lay q1 q1_lengths q_lay_places g_size g_seenFolds g1_links g1_folded g1_stiff u9 u10 u11 g1_lengths u12 g_seenSpans) H := hP
      have hD : va_D A (w_X4_agrees Y q q_seenFolds q_seenSpans q_isWay q_tally q_lay q1 q1_lengths q_lay_places g_size g_seenFolds g1_links g1_folded g1_stiff u9 u10 u11 g1_lengths u12 g_seenSpans) := hD
      refine lv_aload_n hx hb dX4_agrees_29 rfl (lv_at hl 0 rfl) ?_
      refine va_get (D := D) (ci := 4) (v := .ref q_lay) (C := RX4) (T := TX4) (N := 6) hx hb hts in_X4_agrees_X4 hown hK hP 0 rfl rfl 5 (by decide) (k_X4_agrees_f28 hts) (fun _ h9 => h9) rfl dX4_agrees_30 ?_
      have hp : Pt (w_X4_agrees Y q q_seenFolds q_seenSpans q_isWay q_tally q_lay q1 q1_lengths q_lay_places g_size g_seenFolds g1_links g1_folded g1_stiff u9 u10 u11 g1_lengths u12 g_seenSpans) (w_X2_span Y q_lay q_lay_places u9 u10 u11) [3] := ⟨rfl, by decide +kernel⟩
      refine go_i hp hP hD hS hA (fun _ => rfl) (va_runV (As := []) (rest := []) ⟨hx, hb, hml, hown, hts⟩ (c_X2_span h _) (cwV 0 hts gX4_agrees_X2_span rfl rfl rfl (by decide +kernel) ⟨Nat.le_of_ble_eq_true rfl, Nat.le_of_ble_eq_true rfl⟩) (pre_V (b := q_lay) (q0 := 0) (ci := 2) (q := (RX2, TX2, 4)) hp hK hN hP hD rfl rfl) rfl rfl hl.1 rfl (lv_room (Nat.le_of_ble_eq_true rfl)) dX4_agrees_33 ⟨Nat.le_of_ble_eq_true rfl, Nat.le_of_ble_eq_true rfl⟩) (fun r13 u H locs h hP hD hS => ?_)
      try dsimp only at h
      have hP : va_P D vwCl (w_X4_agrees Y q q_seenFolds q_seenSpans q_isWay q_tally q_lay q1 q1_lengths q_lay_places g_size g_seenFolds g1_links g1_folded g1_stiff u9 u10 u11 g1_lengths u12 g_seenSpans) H := hP
      have hD : va_D A (w_X4_agrees Y q q_seenFolds q_seenSpans q_isWay q_tally q_lay q1 q1_lengths q_lay_places g_size g_seenFolds g1_links g1_folded g1_stiff u9 u10 u11 g1_lengths u12 g_seenSpans) := hD
      refine lv_aload_n hx hb dX4_agrees_36 rfl (lv_at hl 0 rfl) ?_
      refine va_get (D := D) (ci := 4) (v := .ref q_seenSpans) (C := RX4) (T := TX4) (N := 6) hx hb hts in_X4_agrees_X4 hown hK hP 0 rfl rfl 1 (by decide) (k_X4_agrees_f15 hts) (fun _ h9 => h9) rfl dX4_agrees_37 ?_
      refine lv_iload hx hb dX4_agrees_40 (lv_at hl 4 rfl) ?_
      obtain ⟨hin, h⟩ := h
      refine va_iald hx hb hK hP 6 0 rfl rfl hin dX4_agrees_42 ?_
      refine lv_icmp_eq (tgt := 48) hx hb dX4_agrees_43 (by decide) (fun c14 => ?_) (fun c14 => ?_)
      · have h := h.1 c14
        obtain ⟨z15, ez15⟩ : ∃ y : Int32, y = (x4 + (1 : Int32)) := ⟨_, rfl⟩
        have h := h z15 ez15
        refine lv_iinc (v := z15) (lv' := [(4, .int z15), (0, .ref q), (1, .ref q1), (2, .int x2), (3, .int x3)]) hx hb dX4_agrees_48 hl (k := 4) rfl (by rw [ez15]; rfl) (by decide) rfl (fun ls hl => ?_)
        refine lv_goto (tgt := 3) hx hb dX4_agrees_51 (by decide) ?_
        exact ih _ _ _ _ _ h _ _ _ hP hD hS (lv_sub hl [1, 2, 3, 4, 0] rfl)
      · have h := h.2 c14
        refine lv_iconst (v := 0) hx hb dX4_agrees_46 (by decide) ?_
        exact ret_z (u9, u10, u11, u12) hx hb hr hlocks hK hP hD hS (Or.inl rfl) h dX4_agrees_47
set_option maxHeartbeats 4000000 in
set_option maxRecDepth 100000 in
theorem c_X4_agrees {l : Launch} {D : va_G} {Y : ClassId × ClassId × ClassId} {q q_seenFolds q_seenSpans q_isWay q_tally q_lay q1 q1_lengths q_lay_places : Nat} {g_size : Int32} {g_seenFolds : Nat → Int32} {g1_links g1_folded g1_stiff g_lay_links g_lay_low g_lay_high : Int32} {g1_lengths g_lay_places g_seenSpans : Nat → Int32} {x2 x3 : Int32} {Q : Int32 → Int32 → Int32 → Int32 → (Nat → Int32) → Prop} (h : wp_X4_agrees g_size g_seenFolds g1_links g_lay_links g_lay_low g_lay_high g1_lengths g_lay_places g_seenSpans x2 x3 Q) (sz : Nat) : MtI l yX4_agrees wsX4_agrees rm_X4_agrees [.ref q, .ref q1, .int x2, .int x3] D Y (w_X4_agrees Y q q_seenFolds q_seenSpans q_isWay q_tally q_lay q1 q1_lengths q_lay_places g_size g_seenFolds g1_links g1_folded g1_stiff g_lay_links g_lay_low g_lay_high g1_lengths g_lay_places g_seenSpans) (fun r (u : Int32 × Int32 × Int32 × (Nat → Int32)) => Q r u.1 u.2.1 u.2.2.1 u.2.2.2) (fun u : Int32 × Int32 × Int32 × (Nat → Int32) => (w_X4_agrees Y q q_seenFolds q_seenSpans q_isWay q_tally q_lay q1 q1_lengths q_lay_places g_size g_seenFolds g1_links g1_folded g1_stiff u.1 u.2.1 u.2.2.1 g1_lengths u.2.2.2 g_seenSpans)) sz := by
  refine ct_i (cc := cX4_agrees) (nL := 5) (ret := (some .boolean)) (by decide) rfl (Nat.le_of_ble_eq_true rfl) ?_ sz
  intro p e s m below meth c A ls C hK hA hP hD hS hl
  obtain ⟨⟨hx, hb, hml, hown, hts⟩, hr, hlocks, hN⟩ := id C
  have hown : s.vm.findClass RX4 = some m.cls := hown
  have hl : lv_has ls 5 [(0, .ref q), (1, .ref q1), (2, .int x2), (3, .int x3)] := hl
  unfold wp_X4_agrees at h
  refine lv_iconst (v := 0) hx hb dX4_agrees_0 (by decide) ?_
  refine lv_istore (lv' := [(4, .int (0 : Int32)), (0, .ref q), (1, .ref q1), (2, .int x2), (3, .int x3)]) hx hb dX4_agrees_1 hl (by decide) rfl (fun ls hl => ?_)
  obtain ⟨n, h⟩ := h
  exact L_X4_agrees_3 C hK hA  n _ _ _ _ _ h _ _ _ hP hD hS (lv_sub hl [1, 2, 3, 4, 0] rfl)
abbrev rm_X4_findWays : Room := { frames := 3, cells := 0, slots := 0, locals := 73 }
theorem in_X4_findWays_X4 : ∀ w ∈ wsX40, w ∈ wsX4_findWays := fun _ h => List.mem_cons_of_mem _ (List.mem_append_left _ (List.mem_append_left _ (List.mem_append_right _ h)))
theorem k_X4_findWays_f18 {s : State} {args : Array Value} (hts : ∀ w ∈ wsX4_findWays, w.before args s = true) : (Cond.fieldLink RX4 18 "FoldRule$Sightings" "isWay" "[Z").before args s = true := hts _ (by decide +kernel)
set_option maxHeartbeats 4000000 in
set_option maxRecDepth 100000 in
theorem L_X4_findWays_13 {p : Program} {l : Launch} {e : Env} {s : State} {m : MethodId} {args : Array Value} {below : List Frame} {meth : Method} {c : Code} {D : va_G} {Y : ClassId × ClassId × ClassId} {A : Nat → Prop} {q1 q1_lengths q q_seenFolds q_seenSpans q_isWay q_tally q_lay q_lay_places : Nat} {g1_links g1_folded g1_stiff : Int32} {g1_lengths : Nat → Int32} {g_size : Int32} {g_seenFolds g_seenSpans : Nat → Int32} {x3 : Int32} {Q : Int32 → Int32 → Int32 → Int32 → (Nat → Int32) → (Nat → Int32) → Prop} {K4 : Int32 → Int32 → Int32 → Int32 → Int32 → (Nat → Int32) → (Nat → Int32) → Prop} (C : Ctx p s m args meth c cX4_findWays 6 (some .int) wsX4_findWays RX4) (hK : va_K D vwCl (tyS Y) s) (hA : ∀ q, s.heap.size ≤ q → A q) (hk4 : ∀ (x2 x3 g_lay_links g_lay_low g_lay_high : Int32) (g_lay_places g_isWay : Nat → Int32), K4 x2 x3 g_lay_links g_lay_low g_lay_high g_lay_places g_isWay → ∀ (H : Heap) (locs : List Loc) (ls : Array Slot), va_P D vwCl (w_X4_findWays Y q1 q1_lengths q q_seenFolds q_seenSpans q_isWay q_tally q_lay q_lay_places g1_links g1_folded g1_stiff g1_lengths g_size g_seenFolds g_lay_links g_lay_low g_lay_high g_lay_places g_seenSpans g_isWay) H → va_D A (w_X4_findWays Y q1 q1_lengths q q_seenFolds q_seenSpans q_isWay q_tally q_lay q_lay_places g1_links g1_folded g1_stiff g1_lengths g_size g_seenFolds g_lay_links g_lay_low g_lay_high g_lay_places g_seenSpans g_isWay) → va_S A s.heap H locs → lv_has ls 6 [(0, .ref q), (1, .ref q1), (2, .int x2), (3, .int x3)] → W p l e rm_X4_findWays s m args below meth c H locs 0 0 (QI below args s D Y A (fun r (u : Int32 × Int32 × Int32 × (Nat → Int32) × (Nat → Int32)) => Q r u.1 u.2.1 u.2.2.1 u.2.2.2.1 u.2.2.2.2) (fun u : Int32 × Int32 × Int32 × (Nat → Int32) × (Nat → Int32) => (w_X4_findWays Y q1 q1_lengths q q_seenFolds q_seenSpans q_isWay q_tally q_lay q_lay_places g1_links g1_folded g1_stiff g1_lengths g_size g_seenFolds u.1 u.2.1 u.2.2.1 u.2.2.2.1 g_seenSpans u.2.2.2.2))) (F0 m 4 ls [])) : ∀ (n : Nat) (x2 x4 g_lay_links g_lay_low g_lay_high : Int32) (g_lay_places g_isWay : Nat → Int32), itr7 (B_X4_findWays_13 g1_links g1_lengths g_size g_seenFolds g_seenSpans x3 K4) n x2 x4 g_lay_links g_lay_low g_lay_high g_lay_places g_isWay → ∀ (H : Heap) (locs : List Loc) (ls : Array Slot), va_P D vwCl (w_X4_findWays Y q1 q1_lengths q q_seenFolds q_seenSpans q_isWay q_tally q_lay q_lay_places g1_links g1_folded g1_stiff g1_lengths g_size g_seenFolds g_lay_links g_lay_low g_lay_high g_lay_places g_seenSpans g_isWay) H → va_D A (w_X4_findWays Y q1 q1_lengths q q_seenFolds q_seenSpans q_isWay q_tally q_lay q_lay_places g1_links g1_folded g1_stiff g1_lengths g_size g_seenFolds g_lay_links g_lay_low g_lay_high g_lay_places g_seenSpans g_isWay) → va_S A s.heap H locs → lv_has ls 6 [(0, .ref q), (1, .ref q1), (2, .int x2), (3, .int x3), (4, .int x4)] → W p l e rm_X4_findWays s m args below meth c H locs 0 0 (QI below args s D Y A (fun r (u : Int32 × Int32 × Int32 × (Nat → Int32) × (Nat → Int32)) => Q r u.1 u.2.1 u.2.2.1 u.2.2.2.1 u.2.2.2.2) (fun u : Int32 × Int32 × Int32 × (Nat → Int32) × (Nat → Int32) => (w_X4_findWays Y q1 q1_lengths q q_seenFolds q_seenSpans q_isWay q_tally q_lay q_lay_places g1_links g1_folded g1_stiff g1_lengths g_size g_seenFolds u.1 u.2.1 u.2.2.1 u.2.2.2.1 g_seenSpans u.2.2.2.2))) (F0 m 13 ls []) := by
  intro n
  induction n with
  | zero => intro x2 x4 g_lay_links g_lay_low g_lay_high g_lay_places g_isWay h; exact False.elim h
  | succ n ih =>
    intro x2 x4 g_lay_links g_lay_low g_lay_high g_lay_places g_isWay h H locs ls hP hD hS hl
    obtain ⟨⟨hx, hb, hml, hown, hts⟩, hr, hlocks, hN⟩ := id C
    have h : B_X4_findWays_13 g1_links g1_lengths g_size g_seenFolds g_seenSpans x3 K4 (itr7 (B_X4_findWays_13 g1_links g1_lengths g_size g_seenFolds g_seenSpans x3 K4) n) x2 x4 g_lay_links g_lay_low g_lay_high g_lay_places g_isWay := h
    unfold B_X4_findWays_13 at h
    refine lv_iload hx hb dX4_findWays_13 (lv_at hl 4 rfl) ?_
    refine lv_bipush (v := 9) hx hb dX4_findWays_15 (by decide) ?_
    refine lv_icmp_gt (tgt := 81) hx hb dX4_findWays_17 (by decide) (fun c20 => ?_) (fun c20 => ?_)
    · have h := h.1 c20
      obtain ⟨z21, ez21⟩ : ∃ y : Int32, y = (x3 + (1 : Int32)) := ⟨_, rfl⟩
      have h := h z21 ez21
      refine lv_iinc (v := z21) (lv' := [(3, .int z21), (0, .ref q), (1, .ref q1), (2, .int x2), (4, .int x4)]) hx hb dX4_findWays_81 hl (k := 3) rfl (by rw [ez21]; rfl) (by decide) rfl (fun ls hl => ?_)
      refine lv_goto (tgt := 4) hx hb dX4_findWays_84 (by decide) ?_
      exact hk4 _ _ _ _ _ _ _ h _ _ _ hP hD hS (lv_sub hl [1, 2, 3, 0] rfl)
    · have h := h.2 c20
      refine lv_aload_n hx hb dX4_findWays_20 rfl (lv_at hl 1 rfl) ?_
      refine lv_iload_n hx hb dX4_findWays_21 rfl (lv_at hl 3 rfl) ?_
      refine lv_iload hx hb dX4_findWays_22 (lv_at hl 4 rfl) ?_
      have hp : Pt (w_X4_findWays Y q1 q1_lengths q q_seenFolds q_seenSpans q_isWay q_tally q_lay q_lay_places g1_links g1_folded g1_stiff g1_lengths g_size g_seenFolds g_lay_links g_lay_low g_lay_high g_lay_places g_seenSpans g_isWay) (w_X5_canFile Y q1 q1_lengths g1_links g1_folded g1_stiff g1_lengths) [0, 1] := ⟨rfl, by decide +kernel⟩
      refine go_i hp hP hD hS hA (fun _ => rfl) (va_runV (As := [.int x3, .int x4]) (rest := []) ⟨hx, hb, hml, hown, hts⟩ (c_X5_canFile h _) (cwV 2 hts gX4_findWays_X5_canFile rfl rfl rfl (by decide +kernel) ⟨Nat.le_of_ble_eq_true rfl, Nat.le_of_ble_eq_true rfl⟩) (pre_V (b := q1) (q0 := 0) (ci := 5) (q := (RX5, TX5, 4)) hp hK hN hP hD rfl rfl) rfl rfl hl.1 rfl (lv_room (Nat.le_of_ble_eq_true rfl)) dX4_findWays_24 ⟨Nat.le_of_ble_eq_true rfl, Nat.le_of_ble_eq_true rfl⟩) (fun r22 u H locs h hP hD hS => ?_)
      try dsimp only at h
      have hP : va_P D vwCl (w_X4_findWays Y q1 q1_lengths q q_seenFolds q_seenSpans q_isWay q_tally q_lay q_lay_places g1_links g1_folded g1_stiff g1_lengths g_size g_seenFolds g_lay_links g_lay_low g_lay_high g_lay_places g_seenSpans g_isWay) H := hP
      have hD : va_D A (w_X4_findWays Y q1 q1_lengths q q_seenFolds q_seenSpans q_isWay q_tally q_lay q_lay_places g1_links g1_folded g1_stiff g1_lengths g_size g_seenFolds g_lay_links g_lay_low g_lay_high g_lay_places g_seenSpans g_isWay) := hD
      refine lv_if_eq (tgt := 45) hx hb dX4_findWays_27 (by decide) (fun c23 => ?_) (fun c23 => ?_)
      · have h := h.1 c23
        refine lv_iconst (v := 0) hx hb dX4_findWays_45 (by decide) ?_
        refine lv_istore (lv' := [(5, .int (0 : Int32)), (0, .ref q), (1, .ref q1), (2, .int x2), (3, .int x3), (4, .int x4)]) hx hb dX4_findWays_46 hl (by decide) rfl (fun ls hl => ?_)
        refine lv_aload_n hx hb dX4_findWays_48 rfl (lv_at hl 1 rfl) ?_
        refine va_get (D := D) (ci := 4) (v := .ref q_isWay) (C := RX4) (T := TX4) (N := 6) hx hb hts in_X4_findWays_X4 hown hK hP 2 rfl rfl 3 (by decide) (k_X4_findWays_f18 hts) (fun _ h9 => h9) rfl dX4_findWays_49 ?_
        refine lv_bipush (v := 10) hx hb dX4_findWays_52 (by decide) ?_
        refine lv_iload_n hx hb dX4_findWays_54 rfl (lv_at hl 4 rfl) ?_
        refine lv_imul hx hb dX4_findWays_55 ?_
        refine lv_iload hx hb dX4_findWays_56 (lv_at hl 5 rfl) ?_
        refine lv_iadd hx hb dX4_findWays_58 ?_
        refine lv_iload hx hb dX4_findWays_59 (lv_at hl 0 rfl) ?_
        obtain ⟨hin, h⟩ := h
        refine va_zast hx hb hK hP hD hS 7 1 rfl rfl hin dX4_findWays_61 (fun H locs hP hD hS => ?_)
        have hP : va_P D vwCl (w_X4_findWays Y q1 q1_lengths q q_seenFolds q_seenSpans q_isWay q_tally q_lay q_lay_places g1_links g1_folded g1_stiff g1_lengths g_size g_seenFolds g_lay_links g_lay_low g_lay_high g_lay_places g_seenSpans (upd g_isWay ((((10 : Int32) * x3) + x4)).toNatClampNeg (vp_nar .boolean (0 : Int32)))) H := hP
        have hD : va_D A (w_X4_findWays Y q1 q1_lengths q q_seenFolds q_seenSpans q_isWay q_tally q_lay q_lay_places g1_links g1_folded g1_stiff g1_lengths g_size g_seenFolds g_lay_links g_lay_low g_lay_high g_lay_places g_seenSpans (upd g_isWay ((((10 : Int32) * x3) + x4)).toNatClampNeg (vp_nar .boolean (0 : Int32)))) := hD
        refine lv_iload_n hx hb dX4_findWays_62 rfl (lv_at hl 3 rfl) ?_
        refine lv_iload hx hb dX4_findWays_63 (lv_at hl 0 rfl) ?_
        refine lv_if_eq (tgt := 72) hx hb dX4_findWays_65 (by decide) (fun c24 => ?_) (fun c24 => ?_)
        · have h := h.1 c24
          refine lv_iconst (v := 0) hx hb dX4_findWays_72 (by decide) ?_
          refine lv_iadd hx hb dX4_findWays_73 ?_
          refine lv_topi (fun z25 ez25 => ?_)
          have h := h z25 ez25
          refine lv_istore_n (lv' := [(2, .int z25), (5, .int (0 : Int32)), (0, .ref q), (1, .ref q1), (3, .int x3), (4, .int x4)]) hx hb dX4_findWays_74 rfl hl (by decide) rfl (fun ls hl => ?_)
          obtain ⟨z26, ez26⟩ : ∃ y : Int32, y = (x4 + (1 : Int32)) := ⟨_, rfl⟩
          have h := h z26 ez26
          refine lv_iinc (v := z26) (lv' := [(4, .int z26), (2, .int z25), (5, .int (0 : Int32)), (0, .ref q), (1, .ref q1), (3, .int x3)]) hx hb dX4_findWays_75 hl (k := 5) rfl (by rw [ez26]; rfl) (by decide) rfl (fun ls hl => ?_)
          refine lv_goto (tgt := 13) hx hb dX4_findWays_78 (by decide) ?_
          exact ih _ _ _ _ _ _ _ h _ _ _ hP hD hS (lv_sub hl [3, 4, 1, 5, 0] rfl)
        · have h := h.2 c24
          refine lv_iconst (v := 1) hx hb dX4_findWays_68 (by decide) ?_
          refine lv_goto (tgt := 73) hx hb dX4_findWays_69 (by decide) ?_
          refine lv_iadd hx hb dX4_findWays_73 ?_
          refine lv_topi (fun z27 ez27 => ?_)
          have h := h z27 ez27
          refine lv_istore_n (lv' := [(2, .int z27), (5, .int (0 : Int32)), (0, .ref q), (1, .ref q1), (3, .int x3), (4, .int x4)]) hx hb dX4_findWays_74 rfl hl (by decide) rfl (fun ls hl => ?_)
          obtain ⟨z28, ez28⟩ : ∃ y : Int32, y = (x4 + (1 : Int32)) := ⟨_, rfl⟩
          have h := h z28 ez28
          refine lv_iinc (v := z28) (lv' := [(4, .int z28), (2, .int z27), (5, .int (0 : Int32)), (0, .ref q), (1, .ref q1), (3, .int x3)]) hx hb dX4_findWays_75 hl (k := 5) rfl (by rw [ez28]; rfl) (by decide) rfl (fun ls hl => ?_)
          refine lv_goto (tgt := 13) hx hb dX4_findWays_78 (by decide) ?_
          exact ih _ _ _ _ _ _ _ h _ _ _ hP hD hS (lv_sub hl [3, 4, 1, 5, 0] rfl)
      · have h := h.2 c23
        refine lv_aload_n hx hb dX4_findWays_30 rfl (lv_at hl 0 rfl) ?_
        refine lv_aload_n hx hb dX4_findWays_31 rfl (lv_at hl 1 rfl) ?_
        refine lv_iload_n hx hb dX4_findWays_32 rfl (lv_at hl 3 rfl) ?_
        refine lv_iload hx hb dX4_findWays_33 (lv_at hl 4 rfl) ?_
        have hp : Pt (w_X4_findWays Y q1 q1_lengths q q_seenFolds q_seenSpans q_isWay q_tally q_lay q_lay_places g1_links g1_folded g1_stiff g1_lengths g_size g_seenFolds g_lay_links g_lay_low g_lay_high g_lay_places g_seenSpans g_isWay) (w_X4_agrees Y q q_seenFolds q_seenSpans q_isWay q_tally q_lay q1 q1_lengths q_lay_places g_size g_seenFolds g1_links g1_folded g1_stiff g_lay_links g_lay_low g_lay_high g1_lengths g_lay_places g_seenSpans) [2, 3, 0, 4, 1, 5, 6] := ⟨rfl, by decide +kernel⟩
        refine go_i hp hP hD hS hA (fun _ => rfl) (va_runV (As := [.ref q1, .int x3, .int x4]) (rest := []) ⟨hx, hb, hml, hown, hts⟩ (c_X4_agrees h _) (cwV 3 hts gX4_findWays_X4_agrees rfl rfl rfl (by decide +kernel) ⟨Nat.le_of_ble_eq_true rfl, Nat.le_of_ble_eq_true rfl⟩) (pre_V (b := q) (q0 := 0) (ci := 4) (q := (RX4, TX4, 6)) hp hK hN hP hD rfl rfl) rfl rfl hl.1 rfl (lv_room (Nat.le_of_ble_eq_true rfl)) dX4_findWays_35 ⟨Nat.le_of_ble_eq_true rfl, Nat.le_of_ble_eq_true rfl⟩) (fun r29 u H locs h hP hD hS => ?_)
        obtain ⟨u30, u31, u32, u33⟩ := u
        try dsimp only at h
        have hP : va_P D vwCl (w_X4_findWays Y q1 q1_lengths q q_seenFolds q_seenSpans q_isWay q_tally q_lay q_lay_places g1_links g1_folded g1_stiff g1_lengths g_size g_seenFolds u30 u31 u32 u33 g_seenSpans g_isWay) H := hP
        have hD : va_D A (w_X4_findWays Y q1 q1_lengths q q_seenFolds q_seenSpans q_isWay q_tally q_lay q_lay_places g1_links g1_folded g1_stiff g1_lengths g_size g_seenFolds u30 u31 u32 u33 g_seenSpans g_isWay) := hD
        refine lv_if_eq (tgt := 45) hx hb dX4_findWays_38 (by decide) (fun c34 => ?_) (fun c34 => ?_)
        · have h := h.1 c34
          refine lv_iconst (v := 0) hx hb dX4_findWays_45 (by decide) ?_
          refine lv_istore (lv' := [(5, .int (0 : Int32)), (0, .ref q), (1, .ref q1), (2, .int x2), (3, .int x3), (4, .int x4)]) hx hb dX4_findWays_46 hl (by decide) rfl (fun ls hl => ?_)
          refine lv_aload_n hx hb dX4_findWays_48 rfl (lv_at hl 1 rfl) ?_
          refine va_get (D := D) (ci := 4) (v := .ref q_isWay) (C := RX4) (T := TX4) (N := 6) hx hb hts in_X4_findWays_X4 hown hK hP 2 rfl rfl 3 (by decide) (k_X4_findWays_f18 hts) (fun _ h9 => h9) rfl dX4_findWays_49 ?_
          refine lv_bipush (v := 10) hx hb dX4_findWays_52 (by decide) ?_
          refine lv_iload_n hx hb dX4_findWays_54 rfl (lv_at hl 4 rfl) ?_
          refine lv_imul hx hb dX4_findWays_55 ?_
          refine lv_iload hx hb dX4_findWays_56 (lv_at hl 5 rfl) ?_
          refine lv_iadd hx hb dX4_findWays_58 ?_
          refine lv_iload hx hb dX4_findWays_59 (lv_at hl 0 rfl) ?_
          obtain ⟨hin, h⟩ := h
          refine va_zast hx hb hK hP hD hS 7 1 rfl rfl hin dX4_findWays_61 (fun H locs hP hD hS => ?_)
          have hP : va_P D vwCl (w_X4_findWays Y q1 q1_lengths q q_seenFolds q_seenSpans q_isWay q_tally q_lay q_lay_places g1_links g1_folded g1_stiff g1_lengths g_size g_seenFolds u30 u31 u32 u33 g_seenSpans (upd g_isWay ((((10 : Int32) * x3) + x4)).toNatClampNeg (vp_nar .boolean (0 : Int32)))) H := hP
          have hD : va_D A (w_X4_findWays Y q1 q1_lengths q q_seenFolds q_seenSpans q_isWay q_tally q_lay q_lay_places g1_links g1_folded g1_stiff g1_lengths g_size g_seenFolds u30 u31 u32 u33 g_seenSpans (upd g_isWay ((((10 : Int32) * x3) + x4)).toNatClampNeg (vp_nar .boolean (0 : Int32)))) := hD
          refine lv_iload_n hx hb dX4_findWays_62 rfl (lv_at hl 3 rfl) ?_
          refine lv_iload hx hb dX4_findWays_63 (lv_at hl 0 rfl) ?_
          refine lv_if_eq (tgt := 72) hx hb dX4_findWays_65 (by decide) (fun c35 => ?_) (fun c35 => ?_)
          · have h := h.1 c35
            refine lv_iconst (v := 0) hx hb dX4_findWays_72 (by decide) ?_
            refine lv_iadd hx hb dX4_findWays_73 ?_
            refine lv_topi (fun z36 ez36 => ?_)
            have h := h z36 ez36
            refine lv_istore_n (lv' := [(2, .int z36), (5, .int (0 : Int32)), (0, .ref q), (1, .ref q1), (3, .int x3), (4, .int x4)]) hx hb dX4_findWays_74 rfl hl (by decide) rfl (fun ls hl => ?_)
            obtain ⟨z37, ez37⟩ : ∃ y : Int32, y = (x4 + (1 : Int32)) := ⟨_, rfl⟩
            have h := h z37 ez37
            refine lv_iinc (v := z37) (lv' := [(4, .int z37), (2, .int z36), (5, .int (0 : Int32)), (0, .ref q), (1, .ref q1), (3, .int x3)]) hx hb dX4_findWays_75 hl (k := 5) rfl (by rw [ez37]; rfl) (by decide) rfl (fun ls hl => ?_)
            refine lv_goto (tgt := 13) hx hb dX4_findWays_78 (by decide) ?_
            exact ih _ _ _ _ _ _ _ h _ _ _ hP hD hS (lv_sub hl [3, 4, 1, 5, 0] rfl)
          · have h := h.2 c35
            refine lv_iconst (v := 1) hx hb dX4_findWays_68 (by decide) ?_
            refine lv_goto (tgt := 73) hx hb dX4_findWays_69 (by decide) ?_
            refine lv_iadd hx hb dX4_findWays_73 ?_
            refine lv_topi (fun z38 ez38 => ?_)
            have h := h z38 ez38
            refine lv_istore_n (lv' := [(2, .int z38), (5, .int (0 : Int32)), (0, .ref q), (1, .ref q1), (3, .int x3), (4, .int x4)]) hx hb dX4_findWays_74 rfl hl (by decide) rfl (fun ls hl => ?_)
            obtain ⟨z39, ez39⟩ : ∃ y : Int32, y = (x4 + (1 : Int32)) := ⟨_, rfl⟩
            have h := h z39 ez39
            refine lv_iinc (v := z39) (lv' := [(4, .int z39), (2, .int z38), (5, .int (0 : Int32)), (0, .ref q), (1, .ref q1), (3, .int x3)]) hx hb dX4_findWays_75 hl (k := 5) rfl (by rw [ez39]; rfl) (by decide) rfl (fun ls hl => ?_)
            refine lv_goto (tgt := 13) hx hb dX4_findWays_78 (by decide) ?_
            exact ih _ _ _ _ _ _ _ h _ _ _ hP hD hS (lv_sub hl [3, 4, 1, 5, 0] rfl)
        · have h := h.2 c34
          refine lv_iconst (v := 1) hx hb dX4_findWays_41 (by decide) ?_
          refine lv_goto (tgt := 46) hx hb dX4_findWays_42 (by decide) ?_
          refine lv_istore (lv' := [(5, .int (1 : Int32)), (0, .ref q), (1, .ref q1), (2, .int x2), (3, .int x3), (4, .int x4)]) hx hb dX4_findWays_46 hl (by decide) rfl (fun ls hl => ?_)
          refine lv_aload_n hx hb dX4_findWays_48 rfl (lv_at hl 1 rfl) ?_
          refine va_get (D := D) (ci := 4) (v := .ref q_isWay) (C := RX4) (T := TX4) (N := 6) hx hb hts in_X4_findWays_X4 hown hK hP 2 rfl rfl 3 (by decide) (k_X4_findWays_f18 hts) (fun _ h9 => h9) rfl dX4_findWays_49 ?_
          refine lv_bipush (v := 10) hx hb dX4_findWays_52 (by decide) ?_
          refine lv_iload_n hx hb dX4_findWays_54 rfl (lv_at hl 4 rfl) ?_
          refine lv_imul hx hb dX4_findWays_55 ?_
          refine lv_iload hx hb dX4_findWays_56 (lv_at hl 5 rfl) ?_
          refine lv_iadd hx hb dX4_findWays_58 ?_
          refine lv_iload hx hb dX4_findWays_59 (lv_at hl 0 rfl) ?_
          obtain ⟨hin, h⟩ := h
          refine va_zast hx hb hK hP hD hS 7 1 rfl rfl hin dX4_findWays_61 (fun H locs hP hD hS => ?_)
          have hP : va_P D vwCl (w_X4_findWays Y q1 q1_lengths q q_seenFolds q_seenSpans q_isWay q_tally q_lay q_lay_places g1_links g1_folded g1_stiff g1_lengths g_size g_seenFolds u30 u31 u32 u33 g_seenSpans (upd g_isWay ((((10 : Int32) * x3) + x4)).toNatClampNeg (vp_nar .boolean (1 : Int32)))) H := hP
          have hD : va_D A (w_X4_findWays Y q1 q1_lengths q q_seenFolds q_seenSpans q_isWay q_tally q_lay q_lay_places g1_links g1_folded g1_stiff g1_lengths g_size g_seenFolds u30 u31 u32 u33 g_seenSpans (upd g_isWay ((((10 : Int32) * x3) + x4)).toNatClampNeg (vp_nar .boolean (1 : Int32)))) := hD
          refine lv_iload_n hx hb dX4_findWays_62 rfl (lv_at hl 3 rfl) ?_
          refine lv_iload hx hb dX4_findWays_63 (lv_at hl 0 rfl) ?_
          refine lv_if_eq (tgt := 72) hx hb dX4_findWays_65 (by decide) (fun c40 => ?_) (fun c40 => ?_)
          · have h := h.1 c40
            refine lv_iconst (v := 0) hx hb dX4_findWays_72 (by decide) ?_
            refine lv_iadd hx hb dX4_findWays_73 ?_
            refine lv_topi (fun z41 ez41 => ?_)
            have h := h z41 ez41
            refine lv_istore_n (lv' := [(2, .int z41), (5, .int (1 : Int32)), (0, .ref q), (1, .ref q1), (3, .int x3), (4, .int x4)]) hx hb dX4_findWays_74 rfl hl (by decide) rfl (fun ls hl => ?_)
            obtain ⟨z42, ez42⟩ : ∃ y : Int32, y = (x4 + (1 : Int32)) := ⟨_, rfl⟩
            have h := h z42 ez42
            refine lv_iinc (v := z42) (lv' := [(4, .int z42), (2, .int z41), (5, .int (1 : Int32)), (0, .ref q), (1, .ref q1), (3, .int x3)]) hx hb dX4_findWays_75 hl (k := 5) rfl (by rw [ez42]; rfl) (by decide) rfl (fun ls hl => ?_)
            refine lv_goto (tgt := 13) hx hb dX4_findWays_78 (by decide) ?_
            exact ih _ _ _ _ _ _ _ h _ _ _ hP hD hS (lv_sub hl [3, 4, 1, 5, 0] rfl)
          · have h := h.2 c40
            refine lv_iconst (v := 1) hx hb dX4_findWays_68 (by decide) ?_
            refine lv_goto (tgt := 73) hx hb dX4_findWays_69 (by decide) ?_
            refine lv_iadd hx hb dX4_findWays_73 ?_
            refine lv_topi (fun z43 ez43 => ?_)
            have h := h z43 ez43
            refine lv_istore_n (lv' := [(2, .int z43), (5, .int (1 : Int32)), (0, .ref q), (1, .ref q1), (3, .int x3), (4, .int x4)]) hx hb dX4_findWays_74 rfl hl (by decide) rfl (fun ls hl => ?_)
            obtain ⟨z44, ez44⟩ : ∃ y : Int32, y = (x4 + (1 : Int32)) := ⟨_, rfl⟩
            have h := h z44 ez44
            refine lv_iinc (v := z44) (lv' := [(4, .int z44), (2, .int z43), (5, .int (1 : Int32)), (0, .ref q), (1, .ref q1), (3, .int x3)]) hx hb dX4_findWays_75 hl (k := 5) rfl (by rw [ez44]; rfl) (by decide) rfl (fun ls hl => ?_)
            refine lv_goto (tgt := 13) hx hb dX4_findWays_78 (by decide) ?_
            exact ih _ _ _ _ _ _ _ h _ _ _ hP hD hS (lv_sub hl [3, 4, 1, 5, 0] rfl)
set_option maxHeartbeats 4000000 in
set_option maxRecDepth 100000 in
theorem L_X4_findWays_4 {p : Program} {l : Launch} {e : Env} {s : State} {m : MethodId} {args : Array Value} {below : List Frame} {meth : Method} {c : Code} {D : va_G} {Y : ClassId × ClassId × ClassId} {A : Nat → Prop} {q1 q1_lengths q q_seenFolds q_seenSpans q_isWay q_tally q_lay q_lay_places : Nat} {g1_links g1_folded g1_stiff : Int32} {g1_lengths : Nat → Int32} {g_size : Int32} {g_seenFolds g_seenSpans : Nat → Int32} {Q : Int32 → Int32 → Int32 → Int32 → (Nat → Int32) → (Nat → Int32) → Prop} (C : Ctx p s m args meth c cX4_findWays 6 (some .int) wsX4_findWays RX4) (hK : va_K D vwCl (tyS Y) s) (hA : ∀ q, s.heap.size ≤ q → A q) : ∀ (n : Nat) (x2 x3 g_lay_links g_lay_low g_lay_high : Int32) (g_lay_places g_isWay : Nat → Int32), itr7 (B_X4_findWays_4 g1_links g1_lengths g_size g_seenFolds g_seenSpans Q) n x2 x3 g_lay_links g_lay_low g_lay_high g_lay_places g_isWay → ∀ (H : Heap) (locs : List Loc) (ls : Array Slot), va_P D vwCl (w_X4_findWays Y q1 q1_lengths q q_seenFolds q_seenSpans q_isWay q_tally q_lay q_lay_places g1_links g1_folded g1_stiff g1_lengths g_size g_seenFolds g_lay_links g_lay_low g_lay_high g_lay_places g_seenSpans g_isWay) H → va_D A (w_X4_findWays Y q1 q1_lengths q q_seenFolds q_seenSpans q_isWay q_tally q_lay q_lay_places g1_links g1_folded g1_stiff g1_lengths g_size g_seenFolds g_lay_links g_lay_low g_lay_high g_lay_places g_seenSpans g_isWay) → va_S A s.heap H locs → lv_has ls 6 [(0, .ref q), (1, .ref q1), (2, .int x2), (3, .int x3)] → W p l e rm_X4_findWays s m args below meth c H locs 0 0 (QI below args s D Y A (fun r (u : Int32 × Int32 × Int32 × (Nat → Int32) × (Nat → Int32)) => Q r u.1 u.2.1 u.2.2.1 u.2.2.2.1 u.2.2.2.2) (fun u : Int32 × Int32 × Int32 × (Nat → Int32) × (Nat → Int32) => (w_X4_findWays Y q1 q1_lengths q q_seenFolds q_seenSpans q_isWay q_tally q_lay q_lay_places g1_links g1_folded g1_stiff g1_lengths g_size g_seenFolds u.1 u.2.1 u.2.2.1 u.2.2.2.1 g_seenSpans u.2.2.2.2))) (F0 m 4 ls []) := by
  intro n
  induction n with
  | zero => intro x2 x3 g_lay_links g_lay_low g_lay_high g_lay_places g_isWay h; exact False.elim h
  | succ n ih =>
    intro x2 x3 g_lay_links g_lay_low g_lay_high g_lay_places g_isWay h H locs ls hP hD hS hl
    obtain ⟨⟨hx, hb, hml, hown, hts⟩, hr, hlocks, hN⟩ := id C
    have h : B_X4_findWays_4 g1_links g1_lengths g_size g_seenFolds g_seenSpans Q (itr7 (B_X4_findWays_4 g1_links g1_lengths g_size g_seenFolds g_seenSpans Q) n) x2 x3 g_lay_links g_lay_low g_lay_high g_lay_places g_isWay := h
    unfold B_X4_findWays_4 at h
    refine lv_iload_n hx hb dX4_findWays_4 rfl (lv_at hl 3 rfl) ?_
    refine lv_bipush (v := 9) hx hb dX4_findWays_5 (by decide) ?_
    refine lv_icmp_ge (tgt := 87) hx hb dX4_findWays_7 (by decide) (fun c45 => ?_) (fun c45 => ?_)
    · have h := h.1 c45
      refine lv_iload_n hx hb dX4_findWays_87 rfl (lv_at hl 2 rfl) ?_
      exact ret_i (g_lay_links, g_lay_low, g_lay_high, g_lay_places, g_isWay) hx hb hr hlocks hK hP hD hS h dX4_findWays_88
    · have h := h.2 c45
      refine lv_iconst (v := 1) hx hb dX4_findWays_10 (by decide) ?_
      refine lv_istore (lv' := [(4, .int (1 : Int32)), (0, .ref q), (1, .ref q1), (2, .int x2), (3, .int x3)]) hx hb dX4_findWays_11 hl (by decide) rfl (fun ls hl => ?_)
      obtain ⟨n, h⟩ := h
      exact L_X4_findWays_13 C hK hA ih n _ _ _ _ _ _ _ h _ _ _ hP hD hS (lv_sub hl [1, 2, 3, 4, 0] rfl)
set_option maxHeartbeats 4000000 in
set_option maxRecDepth 100000 in
theorem c_X4_findWays {l : Launch} {D : va_G} {Y : ClassId × ClassId × ClassId} {q1 q1_lengths q q_seenFolds q_seenSpans q_isWay q_tally q_lay q_lay_places : Nat} {g1_links g1_folded g1_stiff : Int32} {g1_lengths : Nat → Int32} {g_size : Int32} {g_seenFolds : Nat → Int32} {g_lay_links g_lay_low g_lay_high : Int32} {g_lay_places g_seenSpans g_isWay : Nat → Int32} {Q : Int32 → Int32 → Int32 → Int32 → (Nat → Int32) → (Nat → Int32) → Prop} (h : wp_X4_findWays g1_links g1_lengths g_size g_seenFolds g_lay_links g_lay_low g_lay_high g_lay_places g_seenSpans g_isWay Q) (sz : Nat) : MtI l yX4_findWays wsX4_findWays rm_X4_findWays [.ref q, .ref q1] D Y (w_X4_findWays Y q1 q1_lengths q q_seenFolds q_seenSpans q_isWay q_tally q_lay q_lay_places g1_links g1_folded g1_stiff g1_lengths g_size g_seenFolds g_lay_links g_lay_low g_lay_high g_lay_places g_seenSpans g_isWay) (fun r (u : Int32 × Int32 × Int32 × (Nat → Int32) × (Nat → Int32)) => Q r u.1 u.2.1 u.2.2.1 u.2.2.2.1 u.2.2.2.2) (fun u : Int32 × Int32 × Int32 × (Nat → Int32) × (Nat → Int32) => (w_X4_findWays Y q1 q1_lengths q q_seenFolds q_seenSpans q_isWay q_tally q_lay q_lay_places g1_links g1_folded g1_stiff g1_lengths g_size g_seenFolds u.1 u.2.1 u.2.2.1 u.2.2.2.1 g_seenSpans u.2.2.2.2)) sz := by
  refine ct_i (cc := cX4_findWays) (nL := 6) (ret := (some .int)) (by decide) rfl (Nat.le_of_ble_eq_true rfl) ?_ sz
  intro p e s m below meth c A ls C hK hA hP hD hS hl
  obtain ⟨⟨hx, hb, hml, hown, hts⟩, hr, hlocks, hN⟩ := id C
  have hown : s.vm.findClass RX4 = some m.cls := hown
  have hl : lv_has ls 6 [(0, .ref q), (1, .ref q1)] := hl
  unfold wp_X4_findWays at h
  refine lv_iconst (v := 0) hx hb dX4_findWays_0 (by decide) ?_
  refine lv_istore_n (lv' := [(2, .int (0 : Int32)), (0, .ref q), (1, .ref q1)]) hx hb dX4_findWays_1 rfl hl (by decide) rfl (fun ls hl => ?_)
  refine lv_iconst (v := 0) hx hb dX4_findWays_2 (by decide) ?_
  refine lv_istore_n (lv' := [(3, .int (0 : Int32)), (2, .int (0 : Int32)), (0, .ref q), (1, .ref q1)]) hx hb dX4_findWays_3 rfl hl (by decide) rfl (fun ls hl => ?_)
  obtain ⟨n, h⟩ := h
  exact L_X4_findWays_4 C hK hA  n _ _ _ _ _ _ _ h _ _ _ hP hD hS (lv_sub hl [2, 3, 1, 0] rfl)
