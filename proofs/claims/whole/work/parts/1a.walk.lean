abbrev rm_X5_joints : Room := { frames := 1, cells := 0, slots := 0, locals := 13 }
theorem in_X5_joints_X5 : ∀ w ∈ wsX50, w ∈ wsX5_joints := fun _ h => List.mem_cons_of_mem _ (List.mem_append_right _ h)
theorem k_X5_joints_f15 {s : State} {args : Array Value} (hts : ∀ w ∈ wsX5_joints, w.before args s = true) : (Cond.fieldLink RX5 15 "FoldRule$Strip" "links" "I").before args s = true := hts _ (by decide +kernel)
theorem k_X5_joints_m33 {s : State} {args : Array Value} (hts : ∀ w ∈ wsX5_joints, w.before args s = true) : (Cond.methodLink RX5 33 Lib.Math.max.name).before args s = true := hts _ (by decide +kernel)
theorem k_X5_joints_smax {s : State} {args : Array Value} (hts : ∀ w ∈ wsX5_joints, w.before args s = true) : (Cond.static Lib.Math.max.name).before args s = true := hts _ (by decide +kernel)
theorem k_X5_joints_imath {s : State} {args : Array Value} (hts : ∀ w ∈ wsX5_joints, w.before args s = true) : (Cond.initialized "java/lang/Math").before args s = true := hts _ (by decide +kernel)
theorem k_X5_joints_bmax {s : State} {args : Array Value} (hts : ∀ w ∈ wsX5_joints, w.before args s = true) : (Cond.code Lib.Math.max.name Lib.Math.max.code 2 (some .int)).before args s = true := hts _ (by decide +kernel)
set_option maxHeartbeats 4000000 in
set_option maxRecDepth 100000 in
theorem c_X5_joints {l : Launch} {D : va_G} {Y : ClassId × ClassId × ClassId} {q q_lengths : Nat} {g_links g_folded g_stiff : Int32} {Q : Int32 → Prop} (h : wp_X5_joints g_links Q) (sz : Nat) : MtI l yX5_joints wsX5_joints rm_X5_joints [.ref q] D Y (w_X5_joints Y q q_lengths g_links g_folded g_stiff) (fun r (_ : Unit) => Q r) (fun _ : Unit => (w_X5_joints Y q q_lengths g_links g_folded g_stiff)) sz := by
  refine ct_i (cc := cX5_joints) (nL := 1) (ret := (some .int)) (by decide) rfl (Nat.le_of_ble_eq_true rfl) ?_ sz
  intro p e s m below meth c A ls C hK hA hP hD hS hl
  obtain ⟨⟨hx, hb, hml, hown, hts⟩, hr, hlocks, hN⟩ := id C
  have hown : s.vm.findClass RX5 = some m.cls := hown
  have hl : lv_has ls 1 [(0, .ref q)] := hl
  unfold wp_X5_joints at h
  refine lv_aload_n hx hb dX5_joints_0 rfl (lv_at hl 0 rfl) ?_
  refine va_get (D := D) (ci := 5) (v := .int g_links) (C := RX5) (T := TX5) (N := 4) hx hb hts in_X5_joints_X5 hown hK hP 0 rfl rfl 1 (by decide) (k_X5_joints_f15 hts) (fun _ h9 => h9) rfl dX5_joints_1 ?_
  refine lv_iconst (v := 1) hx hb dX5_joints_4 (by decide) ?_
  refine lv_isub hx hb dX5_joints_5 ?_
  refine lv_iconst (v := 0) hx hb dX5_joints_6 (by decide) ?_
  refine va_mmax hx hb (hml.trans hl.1.symm) hown (k_X5_joints_m33 hts) (k_X5_joints_smax hts) (k_X5_joints_imath hts) (k_X5_joints_bmax hts) (Nat.le_of_ble_eq_true rfl) (Nat.le_of_ble_eq_true rfl) (Nat.le_of_ble_eq_true rfl) (Nat.le_of_ble_eq_true rfl) dX5_joints_7 ?_
  refine lv_topi (fun z2 ez2 => ?_)
  have h := h z2 ez2
  exact ret_i () hx hb hr hlocks hK hP hD hS h dX5_joints_10
abbrev rm_X5_foldLimit : Room := { frames := 2, cells := 0, slots := 0, locals := 33 }
set_option maxHeartbeats 4000000 in
set_option maxRecDepth 100000 in
theorem c_X5_foldLimit {l : Launch} {D : va_G} {Y : ClassId × ClassId × ClassId} {q q_lengths : Nat} {g_links g_folded g_stiff : Int32} {Q : Int32 → Prop} (h : wp_X5_foldLimit g_links Q) (sz : Nat) : MtI l yX5_foldLimit wsX5_foldLimit rm_X5_foldLimit [.ref q] D Y (w_X5_foldLimit Y q q_lengths g_links g_folded g_stiff) (fun r (_ : Unit) => Q r) (fun _ : Unit => (w_X5_foldLimit Y q q_lengths g_links g_folded g_stiff)) sz := by
  refine ct_i (cc := cX5_foldLimit) (nL := 1) (ret := (some .int)) (by decide) rfl (Nat.le_of_ble_eq_true rfl) ?_ sz
  intro p e s m below meth c A ls C hK hA hP hD hS hl
  obtain ⟨⟨hx, hb, hml, hown, hts⟩, hr, hlocks, hN⟩ := id C
  have hown : s.vm.findClass RX5 = some m.cls := hown
  have hl : lv_has ls 1 [(0, .ref q)] := hl
  unfold wp_X5_foldLimit at h
  refine lv_iconst (v := 1) hx hb dX5_foldLimit_0 (by decide) ?_
  refine lv_aload_n hx hb dX5_foldLimit_1 rfl (lv_at hl 0 rfl) ?_
  have hp : Pt (w_X5_foldLimit Y q q_lengths g_links g_folded g_stiff) (w_X5_joints Y q q_lengths g_links g_folded g_stiff) [0] := ⟨rfl, by decide +kernel⟩
  refine go_i hp hP hD hS hA (fun _ => rfl) (va_runV (As := []) (rest := [.int (1 : Int32)]) ⟨hx, hb, hml, hown, hts⟩ (c_X5_joints h _) (cwV 0 hts gX5_foldLimit_X5_joints rfl rfl rfl (by decide +kernel) ⟨Nat.le_of_ble_eq_true rfl, Nat.le_of_ble_eq_true rfl⟩) (pre_V (b := q) (q0 := 0) (ci := 5) (q := (RX5, TX5, 4)) hp hK hN hP hD rfl rfl) rfl rfl hl.1 rfl (lv_room (Nat.le_of_ble_eq_true rfl)) dX5_foldLimit_2 ⟨Nat.le_of_ble_eq_true rfl, Nat.le_of_ble_eq_true rfl⟩) (fun r2 u H locs h hP hD hS => ?_)
  try dsimp only at h
  have hP : va_P D vwCl (w_X5_foldLimit Y q q_lengths g_links g_folded g_stiff) H := hP
  have hD : va_D A (w_X5_foldLimit Y q q_lengths g_links g_folded g_stiff) := hD
  refine lv_ishl hx hb dX5_foldLimit_5 ?_
  exact ret_i () hx hb hr hlocks hK hP hD hS h dX5_foldLimit_6
abbrev rm_X5_isFold : Room := { frames := 3, cells := 0, slots := 0, locals := 53 }
theorem in_X5_isFold_X5 : ∀ w ∈ wsX50, w ∈ wsX5_isFold := fun _ h => List.mem_cons_of_mem _ (List.mem_append_right _ h)
theorem k_X5_isFold_f19 {s : State} {args : Array Value} (hts : ∀ w ∈ wsX5_isFold, w.before args s = true) : (Cond.fieldLink RX5 19 "FoldRule$Strip" "folded" "I").before args s = true := hts _ (by decide +kernel)
theorem k_X5_isFold_f22 {s : State} {args : Array Value} (hts : ∀ w ∈ wsX5_isFold, w.before args s = true) : (Cond.fieldLink RX5 22 "FoldRule$Strip" "stiff" "I").before args s = true := hts _ (by decide +kernel)
set_option maxHeartbeats 4000000 in
set_option maxRecDepth 100000 in
theorem c_X5_isFold {l : Launch} {D : va_G} {Y : ClassId × ClassId × ClassId} {q q_lengths : Nat} {g_links g_folded g_stiff x1 : Int32} {Q : Int32 → Prop} (h : wp_X5_isFold g_links g_folded g_stiff x1 Q) (sz : Nat) : MtI l yX5_isFold wsX5_isFold rm_X5_isFold [.ref q, .int x1] D Y (w_X5_isFold Y q q_lengths g_links g_folded g_stiff) (fun r (_ : Unit) => Q r) (fun _ : Unit => (w_X5_isFold Y q q_lengths g_links g_folded g_stiff)) sz := by
  refine ct_i (cc := cX5_isFold) (nL := 2) (ret := (some .boolean)) (by decide) rfl (Nat.le_of_ble_eq_true rfl) ?_ sz
  intro p e s m below meth c A ls C hK hA hP hD hS hl
  obtain ⟨⟨hx, hb, hml, hown, hts⟩, hr, hlocks, hN⟩ := id C
  have hown : s.vm.findClass RX5 = some m.cls := hown
  have hl : lv_has ls 2 [(0, .ref q), (1, .int x1)] := hl
  unfold wp_X5_isFold at h
  refine lv_iload_n hx hb dX5_isFold_0 rfl (lv_at hl 1 rfl) ?_
  refine lv_if_lt (tgt := 30) hx hb dX5_isFold_1 (by decide) (fun c2 => ?_) (fun c2 => ?_)
  · have h := h.1 c2
    refine lv_iconst (v := 0) hx hb dX5_isFold_30 (by decide) ?_
    exact ret_z () hx hb hr hlocks hK hP hD hS (Or.inl rfl) h dX5_isFold_31
  · have h := h.2 c2
    refine lv_iload_n hx hb dX5_isFold_4 rfl (lv_at hl 1 rfl) ?_
    refine lv_aload_n hx hb dX5_isFold_5 rfl (lv_at hl 0 rfl) ?_
    have hp : Pt (w_X5_isFold Y q q_lengths g_links g_folded g_stiff) (w_X5_foldLimit Y q q_lengths g_links g_folded g_stiff) [0] := ⟨rfl, by decide +kernel⟩
    refine go_i hp hP hD hS hA (fun _ => rfl) (va_runV (As := []) (rest := [.int x1]) ⟨hx, hb, hml, hown, hts⟩ (c_X5_foldLimit h _) (cwV 0 hts gX5_isFold_X5_foldLimit rfl rfl rfl (by decide +kernel) ⟨Nat.le_of_ble_eq_true rfl, Nat.le_of_ble_eq_true rfl⟩) (pre_V (b := q) (q0 := 0) (ci := 5) (q := (RX5, TX5, 4)) hp hK hN hP hD rfl rfl) rfl rfl hl.1 rfl (lv_room (Nat.le_of_ble_eq_true rfl)) dX5_isFold_6 ⟨Nat.le_of_ble_eq_true rfl, Nat.le_of_ble_eq_true rfl⟩) (fun r3 u H locs h hP hD hS => ?_)
    try dsimp only at h
    have hP : va_P D vwCl (w_X5_isFold Y q q_lengths g_links g_folded g_stiff) H := hP
    have hD : va_D A (w_X5_isFold Y q q_lengths g_links g_folded g_stiff) := hD
    refine lv_icmp_ge (tgt := 30) hx hb dX5_isFold_9 (by decide) (fun c4 => ?_) (fun c4 => ?_)
    · have h := h.1 c4
      refine lv_iconst (v := 0) hx hb dX5_isFold_30 (by decide) ?_
      exact ret_z () hx hb hr hlocks hK hP hD hS (Or.inl rfl) h dX5_isFold_31
    · have h := h.2 c4
      refine lv_iload_n hx hb dX5_isFold_12 rfl (lv_at hl 1 rfl) ?_
      refine lv_aload_n hx hb dX5_isFold_13 rfl (lv_at hl 0 rfl) ?_
      refine va_get (D := D) (ci := 5) (v := .int g_folded) (C := RX5) (T := TX5) (N := 4) hx hb hts in_X5_isFold_X5 hown hK hP 0 rfl rfl 2 (by decide) (k_X5_isFold_f19 hts) (fun _ h9 => h9) rfl dX5_isFold_14 ?_
      refine lv_ixor hx hb dX5_isFold_17 ?_
      refine lv_aload_n hx hb dX5_isFold_18 rfl (lv_at hl 0 rfl) ?_
      refine va_get (D := D) (ci := 5) (v := .int g_stiff) (C := RX5) (T := TX5) (N := 4) hx hb hts in_X5_isFold_X5 hown hK hP 0 rfl rfl 3 (by decide) (k_X5_isFold_f22 hts) (fun _ h9 => h9) rfl dX5_isFold_19 ?_
      refine lv_iand hx hb dX5_isFold_22 ?_
      refine lv_if_ne (tgt := 30) hx hb dX5_isFold_23 (by decide) (fun c5 => ?_) (fun c5 => ?_)
      · have h := h.1 c5
        refine lv_iconst (v := 0) hx hb dX5_isFold_30 (by decide) ?_
        exact ret_z () hx hb hr hlocks hK hP hD hS (Or.inl rfl) h dX5_isFold_31
      · have h := h.2 c5
        refine lv_iconst (v := 1) hx hb dX5_isFold_26 (by decide) ?_
        refine lv_goto (tgt := 31) hx hb dX5_isFold_27 (by decide) ?_
        exact ret_z () hx hb hr hlocks hK hP hD hS (Or.inr rfl) h dX5_isFold_31
abbrev rm_X7_hasBit : Room := { frames := 0, cells := 0, slots := 0, locals := 0 }
set_option maxHeartbeats 4000000 in
set_option maxRecDepth 100000 in
theorem c_X7_hasBit {l : Launch} {D : va_G} {Y : ClassId × ClassId × ClassId} {x0 x1 : Int32} {Q : Int32 → Prop} (h : wp_X7_hasBit x0 x1 Q) (sz : Nat) : MtI l yX7_hasBit wsX7_hasBit rm_X7_hasBit [.int x0, .int x1] D Y (w_X7_hasBit Y ) (fun r (_ : Unit) => Q r) (fun _ : Unit => (w_X7_hasBit Y )) sz := by
  refine ct_i (cc := cX7_hasBit) (nL := 2) (ret := (some .boolean)) (by decide) rfl (Nat.le_of_ble_eq_true rfl) ?_ sz
  intro p e s m below meth c A ls C hK hA hP hD hS hl
  obtain ⟨⟨hx, hb, hml, hown, hts⟩, hr, hlocks, hN⟩ := id C
  have hown : s.vm.findClass RX7 = some m.cls := hown
  have hl : lv_has ls 2 [(0, .int x0), (1, .int x1)] := hl
  unfold wp_X7_hasBit at h
  refine lv_iload_n hx hb dX7_hasBit_0 rfl (lv_at hl 0 rfl) ?_
  refine lv_iload_n hx hb dX7_hasBit_1 rfl (lv_at hl 1 rfl) ?_
  refine lv_ishr hx hb dX7_hasBit_2 ?_
  refine lv_iconst (v := 1) hx hb dX7_hasBit_3 (by decide) ?_
  refine lv_iand hx hb dX7_hasBit_4 ?_
  refine lv_iconst (v := 1) hx hb dX7_hasBit_5 (by decide) ?_
  refine lv_icmp_ne (tgt := 13) hx hb dX7_hasBit_6 (by decide) (fun c1 => ?_) (fun c1 => ?_)
  · have h := h.1 c1
    refine lv_iconst (v := 0) hx hb dX7_hasBit_13 (by decide) ?_
    exact ret_z () hx hb hr hlocks hK hP hD hS (Or.inl rfl) h dX7_hasBit_14
  · have h := h.2 c1
    refine lv_iconst (v := 1) hx hb dX7_hasBit_9 (by decide) ?_
    refine lv_goto (tgt := 14) hx hb dX7_hasBit_10 (by decide) ?_
    exact ret_z () hx hb hr hlocks hK hP hD hS (Or.inr rfl) h dX7_hasBit_14
abbrev rm_X2_layOutFiled : Room := { frames := 1, cells := 0, slots := 0, locals := 21 }
theorem in_X2_layOutFiled_X2 : ∀ w ∈ wsX20, w ∈ wsX2_layOutFiled := fun _ h => List.mem_cons_of_mem _ (List.mem_append_right _ h)
theorem in_X2_layOutFiled_X5 : ∀ w ∈ wsX50, w ∈ wsX2_layOutFiled := fun _ h => List.mem_cons_of_mem _ (List.mem_append_left _ (List.mem_append_right _ h))
theorem k_X2_layOutFiled_f31 {s : State} {args : Array Value} (hts : ∀ w ∈ wsX2_layOutFiled, w.before args s = true) : (Cond.fieldLink RX2 31 "FoldRule$Lay" "links" "I").before args s = true := hts _ (by decide +kernel)
theorem k_X2_layOutFiled_f9 {s : State} {args : Array Value} (hts : ∀ w ∈ wsX2_layOutFiled, w.before args s = true) : (Cond.fieldLink RX2 9 "FoldRule$Lay" "places" "[I").before args s = true := hts _ (by decide +kernel)
theorem k_X2_layOutFiled_f32 {s : State} {args : Array Value} (hts : ∀ w ∈ wsX2_layOutFiled, w.before args s = true) : (Cond.fieldLink RX2 32 "FoldRule$Lay" "low" "I").before args s = true := hts _ (by decide +kernel)
theorem k_X2_layOutFiled_m25 {s : State} {args : Array Value} (hts : ∀ w ∈ wsX2_layOutFiled, w.before args s = true) : (Cond.methodLink RX2 25 Lib.Math.min.name).before args s = true := hts _ (by decide +kernel)
theorem k_X2_layOutFiled_smin {s : State} {args : Array Value} (hts : ∀ w ∈ wsX2_layOutFiled, w.before args s = true) : (Cond.static Lib.Math.min.name).before args s = true := hts _ (by decide +kernel)
theorem k_X2_layOutFiled_imath {s : State} {args : Array Value} (hts : ∀ w ∈ wsX2_layOutFiled, w.before args s = true) : (Cond.initialized "java/lang/Math").before args s = true := hts _ (by decide +kernel)
theorem k_X2_layOutFiled_bmin {s : State} {args : Array Value} (hts : ∀ w ∈ wsX2_layOutFiled, w.before args s = true) : (Cond.code Lib.Math.min.name Lib.Math.min.code 2 (some .int)).before args s = true := hts _ (by decide +kernel)
theorem k_X2_layOutFiled_f35 {s : State} {args : Array Value} (hts : ∀ w ∈ wsX2_layOutFiled, w.before args s = true) : (Cond.fieldLink RX2 35 "FoldRule$Lay" "high" "I").before args s = true := hts _ (by decide +kernel)
theorem k_X2_layOutFiled_m41 {s : State} {args : Array Value} (hts : ∀ w ∈ wsX2_layOutFiled, w.before args s = true) : (Cond.methodLink RX2 41 Lib.Math.max.name).before args s = true := hts _ (by decide +kernel)
theorem k_X2_layOutFiled_smax {s : State} {args : Array Value} (hts : ∀ w ∈ wsX2_layOutFiled, w.before args s = true) : (Cond.static Lib.Math.max.name).before args s = true := hts _ (by decide +kernel)
theorem k_X2_layOutFiled_bmax {s : State} {args : Array Value} (hts : ∀ w ∈ wsX2_layOutFiled, w.before args s = true) : (Cond.code Lib.Math.max.name Lib.Math.max.code 2 (some .int)).before args s = true := hts _ (by decide +kernel)
theorem k_X2_layOutFiled_iX7 {s : State} {args : Array Value} (hts : ∀ w ∈ wsX2_layOutFiled, w.before args s = true) : (Cond.initialized RX7).before args s = true := hts _ (by decide +kernel)
theorem k_X2_layOutFiled_stX7_hasBit {s : State} {args : Array Value} (hts : ∀ w ∈ wsX2_layOutFiled, w.before args s = true) : (Cond.static yX7_hasBit).before args s = true := hts _ (by decide +kernel)
set_option maxHeartbeats 4000000 in
set_option maxRecDepth 100000 in
theorem L_X2_layOutFiled_32 {p : Program} {l : Launch} {e : Env} {s : State} {m : MethodId} {args : Array Value} {below : List Frame} {meth : Method} {c : Code} {D : va_G} {Y : ClassId × ClassId × ClassId} {A : Nat → Prop} {q1 q1_lengths q q_places : Nat} {g1_links g1_folded g1_stiff g_links : Int32} {g1_lengths : Nat → Int32} {x2 x3 x4 : Int32} {Q : Int32 → Int32 → Int32 → (Nat → Int32) → Prop} (C : Ctx p s m args meth c cX2_layOutFiled 9 none wsX2_layOutFiled RX2) (hK : va_K D vwCl (tyS Y) s) (hA : ∀ q, s.heap.size ≤ q → A q) : ∀ (n : Nat) (x5 x6 x7 g_low g_high : Int32) (g_places : Nat → Int32), itr6 (B_X2_layOutFiled_32 g_links g1_lengths x2 x3 x4 Q) n x5 x6 x7 g_low g_high g_places → ∀ (H : Heap) (locs : List Loc) (ls : Array Slot), va_P D vwCl (w_X2_layOutFiled Y q1 q1_lengths q q_places g1_links g1_folded g1_stiff g_links g_low g_high g1_lengths g_places) H → va_D A (w_X2_layOutFiled Y q1 q1_lengths q q_places g1_links g1_folded g1_stiff g_links g_low g_high g1_lengths g_places) → va_S A s.heap H locs → lv_has ls 9 [(0, .ref q), (1, .ref q1), (2, .int x2), (3, .int x3), (4, .int x4), (5, .int x5), (6, .int x6), (7, .int x7)] → W p l e rm_X2_layOutFiled s m args below meth c H locs 0 0 (QV below args s D Y A (fun (u : Int32 × Int32 × Int32 × (Nat → Int32)) => Q u.1 u.2.1 u.2.2.1 u.2.2.2) (fun u : Int32 × Int32 × Int32 × (Nat → Int32) => (w_X2_layOutFiled Y q1 q1_lengths q q_places g1_links g1_folded g1_stiff u.1 u.2.1 u.2.2.1 g1_lengths u.2.2.2))) (F0 m 32 ls []) := by
  intro n
  induction n with
  | zero => intro x5 x6 x7 g_low g_high g_places h; exact False.elim h
  | succ n ih =>
    intro x5 x6 x7 g_low g_high g_places h H locs ls hP hD hS hl
    obtain ⟨⟨hx, hb, hml, hown, hts⟩, hr, hlocks, hN⟩ := id C
    have h : B_X2_layOutFiled_32 g_links g1_lengths x2 x3 x4 Q (itr6 (B_X2_layOutFiled_32 g_links g1_lengths x2 x3 x4 Q) n) x5 x6 x7 g_low g_high g_places := h
    unfold B_X2_layOutFiled_32 at h
    refine lv_iload hx hb dX2_layOutFiled_32 (lv_at hl 7 rfl) ?_
    refine lv_aload_n hx hb dX2_layOutFiled_34 rfl (lv_at hl 0 rfl) ?_
    refine va_get (D := D) (ci := 2) (v := .int g_links) (C := RX2) (T := TX2) (N := 4) hx hb hts in_X2_layOutFiled_X2 hown hK hP 1 rfl rfl 1 (by decide) (k_X2_layOutFiled_f31 hts) (fun _ h9 => h9) rfl dX2_layOutFiled_35 ?_
    refine lv_icmp_ge (tgt := 141) hx hb dX2_layOutFiled_38 (by decide) (fun c18 => ?_) (fun c18 => ?_)
    · have h := h.1 c18
      exact ret_v (g_links, g_low, g_high, g_places) hx hb hr hlocks hK hP hD hS h dX2_layOutFiled_141
    · have h := h.2 c18
      refine lv_iload hx hb dX2_layOutFiled_41 (lv_at hl 7 rfl) ?_
      refine lv_iload_n hx hb dX2_layOutFiled_43 rfl (lv_at hl 3 rfl) ?_
      refine lv_icmp_ne (tgt := 60) hx hb dX2_layOutFiled_44 (by decide) (fun c19 => ?_) (fun c19 => ?_)
      · have h := h.1 c19
        refine lv_aload_n hx hb dX2_layOutFiled_60 rfl (lv_at hl 1 rfl) ?_
        refine va_getN (D := D) (ci := 5) (v := .ref q1_lengths) (C := RX5) (T := TX5) (N := 4) hx hb hts in_X2_layOutFiled_X5 hown hK hP 0 rfl rfl 0 (by decide) (va_Nw.use rfl (nwX2_38 hN)) (fun _ h9 => h9) rfl dX2_layOutFiled_61 ?_
        refine lv_iload hx hb dX2_layOutFiled_64 (lv_at hl 7 rfl) ?_
        obtain ⟨hin, h⟩ := h
        refine va_iald hx hb hK hP 2 0 rfl rfl hin dX2_layOutFiled_66 ?_
        refine lv_topi (fun z20 ez20 => ?_)
        have h := h z20 ez20
        refine lv_istore (lv' := [(8, .int z20), (0, .ref q), (1, .ref q1), (2, .int x2), (3, .int x3), (4, .int x4), (5, .int x5), (6, .int x6), (7, .int x7)]) hx hb dX2_layOutFiled_67 hl (by decide) rfl (fun ls hl => ?_)
        refine lv_iload hx hb dX2_layOutFiled_69 (lv_at hl 6 rfl) ?_
        refine lv_iload hx hb dX2_layOutFiled_71 (lv_at hl 7 rfl) ?_
        refine lv_iload hx hb dX2_layOutFiled_73 (lv_at hl 0 rfl) ?_
        refine lv_imul hx hb dX2_layOutFiled_75 ?_
        refine lv_iadd hx hb dX2_layOutFiled_76 ?_
        refine lv_topi (fun z21 ez21 => ?_)
        have h := h z21 ez21
        refine lv_istore (lv' := [(5, .int z21), (8, .int z20), (0, .ref q), (1, .ref q1), (2, .int x2), (3, .int x3), (4, .int x4), (6, .int x6), (7, .int x7)]) hx hb dX2_layOutFiled_77 hl (by decide) rfl (fun ls hl => ?_)
        refine lv_aload_n hx hb dX2_layOutFiled_79 rfl (lv_at hl 2 rfl) ?_
        refine va_get (D := D) (ci := 2) (v := .ref q_places) (C := RX2) (T := TX2) (N := 4) hx hb hts in_X2_layOutFiled_X2 hown hK hP 1 rfl rfl 0 (by decide) (k_X2_layOutFiled_f9 hts) (fun _ h9 => h9) rfl dX2_layOutFiled_80 ?_
        refine lv_iload hx hb dX2_layOutFiled_83 (lv_at hl 8 rfl) ?_
        refine lv_iconst (v := 1) hx hb dX2_layOutFiled_85 (by decide) ?_
        refine lv_iadd hx hb dX2_layOutFiled_86 ?_
        refine lv_iload hx hb dX2_layOutFiled_87 (lv_at hl 0 rfl) ?_
        obtain ⟨hin, h⟩ := h
        refine va_iast hx hb hK hP hD hS 3 0 rfl rfl hin dX2_layOutFiled_89 (fun H locs hP hD hS => ?_)
        have hP : va_P D vwCl (w_X2_layOutFiled Y q1 q1_lengths q q_places g1_links g1_folded g1_stiff g_links g_low g_high g1_lengths (upd g_places ((x7 + (1 : Int32))).toNatClampNeg z21)) H := hP
        have hD : va_D A (w_X2_layOutFiled Y q1 q1_lengths q q_places g1_links g1_folded g1_stiff g_links g_low g_high g1_lengths (upd g_places ((x7 + (1 : Int32))).toNatClampNeg z21)) := hD
        refine lv_aload_n hx hb dX2_layOutFiled_90 rfl (lv_at hl 2 rfl) ?_
        refine lv_aload_n hx hb dX2_layOutFiled_91 rfl (lv_at hl 2 rfl) ?_
        refine va_get (D := D) (ci := 2) (v := .int g_low) (C := RX2) (T := TX2) (N := 4) hx hb hts in_X2_layOutFiled_X2 hown hK hP 1 rfl rfl 2 (by decide) (k_X2_layOutFiled_f32 hts) (fun _ h9 => h9) rfl dX2_layOutFiled_92 ?_
        refine lv_iload hx hb dX2_layOutFiled_95 (lv_at hl 0 rfl) ?_
        refine va_mmin hx hb (hml.trans hl.1.symm) hown (k_X2_layOutFiled_m25 hts) (k_X2_layOutFiled_smin hts) (k_X2_layOutFiled_imath hts) (k_X2_layOutFiled_bmin hts) (Nat.le_of_ble_eq_true rfl) (Nat.le_of_ble_eq_true rfl) (Nat.le_of_ble_eq_true rfl) (Nat.le_of_ble_eq_true rfl) dX2_layOutFiled_97 ?_
        refine lv_topi (fun z22 ez22 => ?_)
        have h := h z22 ez22
        refine va_put (D := D) (ci := 2) (v := .int z22) (ty := .int) (C := RX2) (T := TX2) (N := 4) hx hb hts in_X2_layOutFiled_X2 tyX2 tyX2_ok nmX2 hown hK hP hD hS 1 rfl rfl 2 (by decide) (k_X2_layOutFiled_f32 hts) (fun _ h9 => h9) rfl (by decide +kernel) rfl rfl (Nat.le_of_ble_eq_true rfl) dX2_layOutFiled_100 (fun H locs hP hD hS => ?_)
        have hP : va_P D vwCl (w_X2_layOutFiled Y q1 q1_lengths q q_places g1_links g1_folded g1_stiff g_links z22 g_high g1_lengths (upd g_places ((x7 + (1 : Int32))).toNatClampNeg z21)) H := hP
        have hD : va_D A (w_X2_layOutFiled Y q1 q1_lengths q q_places g1_links g1_folded g1_stiff g_links z22 g_high g1_lengths (upd g_places ((x7 + (1 : Int32))).toNatClampNeg z21)) := hD
        refine lv_aload_n hx hb dX2_layOutFiled_103 rfl (lv_at hl 2 rfl) ?_
        refine lv_aload_n hx hb dX2_layOutFiled_104 rfl (lv_at hl 2 rfl) ?_
        refine va_get (D := D) (ci := 2) (v := .int g_high) (C := RX2) (T := TX2) (N := 4) hx hb hts in_X2_layOutFiled_X2 hown hK hP 1 rfl rfl 3 (by decide) (k_X2_layOutFiled_f35 hts) (fun _ h9 => h9) rfl dX2_layOutFiled_105 ?_
        refine lv_iload hx hb dX2_layOutFiled_108 (lv_at hl 0 rfl) ?_
        refine va_mmax hx hb (hml.trans hl.1.symm) hown (k_X2_layOutFiled_m41 hts) (k_X2_layOutFiled_smax hts) (k_X2_layOutFiled_imath hts) (k_X2_layOutFiled_bmax hts) (Nat.le_of_ble_eq_true rfl) (Nat.le_of_ble_eq_true rfl) (Nat.le_of_ble_eq_true rfl) (Nat.le_of_ble_eq_true rfl) dX2_layOutFiled_110 ?_
        refine lv_topi (fun z23 ez23 => ?_)
        have h := h z23 ez23
        refine va_put (D := D) (ci := 2) (v := .int z23) (ty := .int) (C := RX2) (T := TX2) (N := 4) hx hb hts in_X2_layOutFiled_X2 tyX2 tyX2_ok nmX2 hown hK hP hD hS 1 rfl rfl 3 (by decide) (k_X2_layOutFiled_f35 hts) (fun _ h9 => h9) rfl (by decide +kernel) rfl rfl (Nat.le_of_ble_eq_true rfl) dX2_layOutFiled_113 (fun H locs hP hD hS => ?_)
        have hP : va_P D vwCl (w_X2_layOutFiled Y q1 q1_lengths q q_places g1_links g1_folded g1_stiff g_links z22 z23 g1_lengths (upd g_places ((x7 + (1 : Int32))).toNatClampNeg z21)) H := hP
        have hD : va_D A (w_X2_layOutFiled Y q1 q1_lengths q q_places g1_links g1_folded g1_stiff g_links z22 z23 g1_lengths (upd g_places ((x7 + (1 : Int32))).toNatClampNeg z21)) := hD
        refine lv_iload_n hx hb dX2_layOutFiled_116 rfl (lv_at hl 4 rfl) ?_
        refine lv_iload hx hb dX2_layOutFiled_117 (lv_at hl 8 rfl) ?_
        have hp : Pt (w_X2_layOutFiled Y q1 q1_lengths q q_places g1_links g1_folded g1_stiff g_links z22 z23 g1_lengths (upd g_places ((x7 + (1 : Int32))).toNatClampNeg z21)) (w_X7_hasBit Y ) [] := ⟨rfl, by decide +kernel⟩
        refine go_i hp hP hD hS hA (fun _ => rfl) (va_runSN (As := [.int x2, .int x7]) (rest := []) ⟨hx, hb, hml, hown, hts⟩ (c_X7_hasBit h _) ⟨va_cnB 2 hts gX2_layOutFiled_X7_hasBit_n44 rfl rfl rfl (nwX2_44 hN) (k_X2_layOutFiled_iX7 hts) (by decide +kernel) ⟨Nat.le_of_ble_eq_true rfl, Nat.le_of_ble_eq_true rfl⟩, (k_X2_layOutFiled_stX7_hasBit hts), trivial⟩ (pre_S hp hK hN hP hD) rfl rfl hl.1 rfl (lv_room (Nat.le_of_ble_eq_true rfl)) dX2_layOutFiled_119 ⟨Nat.le_of_ble_eq_true rfl, Nat.le_of_ble_eq_true rfl⟩) (fun r24 u H locs h hP hD hS => ?_)
        try dsimp only at h
        have hP : va_P D vwCl (w_X2_layOutFiled Y q1 q1_lengths q q_places g1_links g1_folded g1_stiff g_links z22 z23 g1_lengths (upd g_places ((x7 + (1 : Int32))).toNatClampNeg z21)) H := hP
        have hD : va_D A (w_X2_layOutFiled Y q1 q1_lengths q q_places g1_links g1_folded g1_stiff g_links z22 z23 g1_lengths (upd g_places ((x7 + (1 : Int32))).toNatClampNeg z21)) := hD
        refine lv_if_eq (tgt := 131) hx hb dX2_layOutFiled_122 (by decide) (fun c25 => ?_) (fun c25 => ?_)
        · have h := h.1 c25
          refine lv_iload hx hb dX2_layOutFiled_131 (lv_at hl 7 rfl) ?_
          refine lv_istore (lv' := [(6, .int x6), (5, .int z21), (8, .int z20), (0, .ref q), (1, .ref q1), (2, .int x2), (3, .int x3), (4, .int x4), (7, .int x7)]) hx hb dX2_layOutFiled_133 hl (by decide) rfl (fun ls hl => ?_)
          obtain ⟨z26, ez26⟩ : ∃ y : Int32, y = (x7 + (1 : Int32)) := ⟨_, rfl⟩
          have h := h z26 ez26
          refine lv_iinc (v := z26) (lv' := [(7, .int z26), (6, .int x6), (5, .int z21), (8, .int z20), (0, .ref q), (1, .ref q1), (2, .int x2), (3, .int x3), (4, .int x4)]) hx hb dX2_layOutFiled_135 hl (k := 8) rfl (by rw [ez26]; rfl) (by decide) rfl (fun ls hl => ?_)
          refine lv_goto (tgt := 32) hx hb dX2_layOutFiled_138 (by decide) ?_
          exact ih _ _ _ _ _ _ h _ _ _ hP hD hS (lv_sub hl [4, 5, 6, 7, 8, 2, 1, 0] rfl)
        · have h := h.2 c25
          refine lv_iload hx hb dX2_layOutFiled_125 (lv_at hl 7 rfl) ?_
          refine lv_ineg hx hb dX2_layOutFiled_127 ?_
          refine lv_goto (tgt := 133) hx hb dX2_layOutFiled_128 (by decide) ?_
          refine lv_topi (fun z27 ez27 => ?_)
          have h := h z27 ez27
          refine lv_istore (lv' := [(6, .int z27), (5, .int z21), (8, .int z20), (0, .ref q), (1, .ref q1), (2, .int x2), (3, .int x3), (4, .int x4), (7, .int x7)]) hx hb dX2_layOutFiled_133 hl (by decide) rfl (fun ls hl => ?_)
          obtain ⟨z28, ez28⟩ : ∃ y : Int32, y = (x7 + (1 : Int32)) := ⟨_, rfl⟩
          have h := h z28 ez28
          refine lv_iinc (v := z28) (lv' := [(7, .int z28), (6, .int z27), (5, .int z21), (8, .int z20), (0, .ref q), (1, .ref q1), (2, .int x2), (3, .int x3), (4, .int x4)]) hx hb dX2_layOutFiled_135 hl (k := 8) rfl (by rw [ez28]; rfl) (by decide) rfl (fun ls hl => ?_)
          refine lv_goto (tgt := 32) hx hb dX2_layOutFiled_138 (by decide) ?_
          exact ih _ _ _ _ _ _ h _ _ _ hP hD hS (lv_sub hl [4, 5, 6, 7, 8, 2, 1, 0] rfl)
      · have h := h.2 c19
        refine lv_aload_n hx hb dX2_layOutFiled_47 rfl (lv_at hl 1 rfl) ?_
        refine va_getN (D := D) (ci := 5) (v := .ref q1_lengths) (C := RX5) (T := TX5) (N := 4) hx hb hts in_X2_layOutFiled_X5 hown hK hP 0 rfl rfl 0 (by decide) (va_Nw.use rfl (nwX2_38 hN)) (fun _ h9 => h9) rfl dX2_layOutFiled_48 ?_
        refine lv_iload hx hb dX2_layOutFiled_51 (lv_at hl 7 rfl) ?_
        obtain ⟨hin, h⟩ := h
        refine va_iald hx hb hK hP 2 0 rfl rfl hin dX2_layOutFiled_53 ?_
        refine lv_iload hx hb dX2_layOutFiled_54 (lv_at hl 4 rfl) ?_
        refine lv_isub hx hb dX2_layOutFiled_56 ?_
        refine lv_goto (tgt := 67) hx hb dX2_layOutFiled_57 (by decide) ?_
        refine lv_topi (fun z29 ez29 => ?_)
        have h := h z29 ez29
        refine lv_istore (lv' := [(8, .int z29), (0, .ref q), (1, .ref q1), (2, .int x2), (3, .int x3), (4, .int x4), (5, .int x5), (6, .int x6), (7, .int x7)]) hx hb dX2_layOutFiled_67 hl (by decide) rfl (fun ls hl => ?_)
        refine lv_iload hx hb dX2_layOutFiled_69 (lv_at hl 6 rfl) ?_
        refine lv_iload hx hb dX2_layOutFiled_71 (lv_at hl 7 rfl) ?_
        refine lv_iload hx hb dX2_layOutFiled_73 (lv_at hl 0 rfl) ?_
        refine lv_imul hx hb dX2_layOutFiled_75 ?_
        refine lv_iadd hx hb dX2_layOutFiled_76 ?_
        refine lv_topi (fun z30 ez30 => ?_)
        have h := h z30 ez30
        refine lv_istore (lv' := [(5, .int z30), (8, .int z29), (0, .ref q), (1, .ref q1), (2, .int x2), (3, .int x3), (4, .int x4), (6, .int x6), (7, .int x7)]) hx hb dX2_layOutFiled_77 hl (by decide) rfl (fun ls hl => ?_)
        refine lv_aload_n hx hb dX2_layOutFiled_79 rfl (lv_at hl 2 rfl) ?_
        refine va_get (D := D) (ci := 2) (v := .ref q_places) (C := RX2) (T := TX2) (N := 4) hx hb hts in_X2_layOutFiled_X2 hown hK hP 1 rfl rfl 0 (by decide) (k_X2_layOutFiled_f9 hts) (fun _ h9 => h9) rfl dX2_layOutFiled_80 ?_
        refine lv_iload hx hb dX2_layOutFiled_83 (lv_at hl 8 rfl) ?_
        refine lv_iconst (v := 1) hx hb dX2_layOutFiled_85 (by decide) ?_
        refine lv_iadd hx hb dX2_layOutFiled_86 ?_
        refine lv_iload hx hb dX2_layOutFiled_87 (lv_at hl 0 rfl) ?_
        obtain ⟨hin, h⟩ := h
        refine va_iast hx hb hK hP hD hS 3 0 rfl rfl hin dX2_layOutFiled_89 (fun H locs hP hD hS => ?_)
        have hP : va_P D vwCl (w_X2_layOutFiled Y q1 q1_lengths q q_places g1_links g1_folded g1_stiff g_links g_low g_high g1_lengths (upd g_places ((x7 + (1 : Int32))).toNatClampNeg z30)) H := hP
        have hD : va_D A (w_X2_layOutFiled Y q1 q1_lengths q q_places g1_links g1_folded g1_stiff g_links g_low g_high g1_lengths (upd g_places ((x7 + (1 : Int32))).toNatClampNeg z30)) := hD
        refine lv_aload_n hx hb dX2_layOutFiled_90 rfl (lv_at hl 2 rfl) ?_
        refine lv_aload_n hx hb dX2_layOutFiled_91 rfl (lv_at hl 2 rfl) ?_
        refine va_get (D := D) (ci := 2) (v := .int g_low) (C := RX2) (T := TX2) (N := 4) hx hb hts in_X2_layOutFiled_X2 hown hK hP 1 rfl rfl 2 (by decide) (k_X2_layOutFiled_f32 hts) (fun _ h9 => h9) rfl dX2_layOutFiled_92 ?_
        refine lv_iload hx hb dX2_layOutFiled_95 (lv_at hl 0 rfl) ?_
        refine va_mmin hx hb (hml.trans hl.1.symm) hown (k_X2_layOutFiled_m25 hts) (k_X2_layOutFiled_smin hts) (k_X2_layOutFiled_imath hts) (k_X2_layOutFiled_bmin hts) (Nat.le_of_ble_eq_true rfl) (Nat.le_of_ble_eq_true rfl) (Nat.le_of_ble_eq_true rfl) (Nat.le_of_ble_eq_true rfl) dX2_layOutFiled_97 ?_
        refine lv_topi (fun z31 ez31 => ?_)
        have h := h z31 ez31
        refine va_put (D := D) (ci := 2) (v := .int z31) (ty := .int) (C := RX2) (T := TX2) (N := 4) hx hb hts in_X2_layOutFiled_X2 tyX2 tyX2_ok nmX2 hown hK hP hD hS 1 rfl rfl 2 (by decide) (k_X2_layOutFiled_f32 hts) (fun _ h9 => h9) rfl (by decide +kernel) rfl rfl (Nat.le_of_ble_eq_true rfl) dX2_layOutFiled_100 (fun H locs hP hD hS => ?_)
        have hP : va_P D vwCl (w_X2_layOutFiled Y q1 q1_lengths q q_places g1_links g1_folded g1_stiff g_links z31 g_high g1_lengths (upd g_places ((x7 + (1 : Int32))).toNatClampNeg z30)) H := hP
        have hD : va_D A (w_X2_layOutFiled Y q1 q1_lengths q q_places g1_links g1_folded g1_stiff g_links z31 g_high g1_lengths (upd g_places ((x7 + (1 : Int32))).toNatClampNeg z30)) := hD
        refine lv_aload_n hx hb dX2_layOutFiled_103 rfl (lv_at hl 2 rfl) ?_
        refine lv_aload_n hx hb dX2_layOutFiled_104 rfl (lv_at hl 2 rfl) ?_
        refine va_get (D := D) (ci := 2) (v := .int g_high) (C := RX2) (T := TX2) (N := 4) hx hb hts in_X2_layOutFiled_X2 hown hK hP 1 rfl rfl 3 (by decide) (k_X2_layOutFiled_f35 hts) (fun _ h9 => h9) rfl dX2_layOutFiled_105 ?_
        refine lv_iload hx hb dX2_layOutFiled_108 (lv_at hl 0 rfl) ?_
        refine va_mmax hx hb (hml.trans hl.1.symm) hown (k_X2_layOutFiled_m41 hts) (k_X2_layOutFiled_smax hts) (k_X2_layOutFiled_imath hts) (k_X2_layOutFiled_bmax hts) (Nat.le_of_ble_eq_true rfl) (Nat.le_of_ble_eq_true rfl) (Nat.le_of_ble_eq_true rfl) (Nat.le_of_ble_eq_true rfl) dX2_layOutFiled_110 ?_
        refine lv_topi (fun z32 ez32 => ?_)
        have h := h z32 ez32
        refine va_put (D := D) (ci := 2) (v := .int z32) (ty := .int) (C := RX2) (T := TX2) (N := 4) hx hb hts in_X2_layOutFiled_X2 tyX2 tyX2_ok nmX2 hown hK hP hD hS 1 rfl rfl 3 (by decide) (k_X2_layOutFiled_f35 hts) (fun _ h9 => h9) rfl (by decide +kernel) rfl rfl (Nat.le_of_ble_eq_true rfl) dX2_layOutFiled_113 (fun H locs hP hD hS => ?_)
        have hP : va_P D vwCl (w_X2_layOutFiled Y q1 q1_lengths q q_places g1_links g1_folded g1_stiff g_links z31 z32 g1_lengths (upd g_places ((x7 + (1 : Int32))).toNatClampNeg z30)) H := hP
        have hD : va_D A (w_X2_layOutFiled Y q1 q1_lengths q q_places g1_links g1_folded g1_stiff g_links z31 z32 g1_lengths (upd g_places ((x7 + (1 : Int32))).toNatClampNeg z30)) := hD
        refine lv_iload_n hx hb dX2_layOutFiled_116 rfl (lv_at hl 4 rfl) ?_
        refine lv_iload hx hb dX2_layOutFiled_117 (lv_at hl 8 rfl) ?_
        have hp : Pt (w_X2_layOutFiled Y q1 q1_lengths q q_places g1_links g1_folded g1_stiff g_links z31 z32 g1_lengths (upd g_places ((x7 + (1 : Int32))).toNatClampNeg z30)) (w_X7_hasBit Y ) [] := ⟨rfl, by decide +kernel⟩
        refine go_i hp hP hD hS hA (fun _ => rfl) (va_runSN (As := [.int x2, .int x7]) (rest := []) ⟨hx, hb, hml, hown, hts⟩ (c_X7_hasBit h _) ⟨va_cnB 2 hts gX2_layOutFiled_X7_hasBit_n44 rfl rfl rfl (nwX2_44 hN) (k_X2_layOutFiled_iX7 hts) (by decide +kernel) ⟨Nat.le_of_ble_eq_true rfl, Nat.le_of_ble_eq_true rfl⟩, (k_X2_layOutFiled_stX7_hasBit hts), trivial⟩ (pre_S hp hK hN hP hD) rfl rfl hl.1 rfl (lv_room (Nat.le_of_ble_eq_true rfl)) dX2_layOutFiled_119 ⟨Nat.le_of_ble_eq_true rfl, Nat.le_of_ble_eq_true rfl⟩) (fun r33 u H locs h hP hD hS => ?_)
        try dsimp only at h
        have hP : va_P D vwCl (w_X2_layOutFiled Y q1 q1_lengths q q_places g1_links g1_folded g1_stiff g_links z31 z32 g1_lengths (upd g_places ((x7 + (1 : Int32))).toNatClampNeg z30)) H := hP
        have hD : va_D A (w_X2_layOutFiled Y q1 q1_lengths q q_places g1_links g1_folded g1_stiff g_links z31 z32 g1_lengths (upd g_places ((x7 + (1 : Int32))).toNatClampNeg z30)) := hD
        refine lv_if_eq (tgt := 131) hx hb dX2_layOutFiled_122 (by decide) (fun c34 => ?_) (fun c34 => ?_)
        · have h := h.1 c34
          refine lv_iload hx hb dX2_layOutFiled_131 (lv_at hl 7 rfl) ?_
          refine lv_istore (lv' := [(6, .int x6), (5, .int z30), (8, .int z29), (0, .ref q), (1, .ref q1), (2, .int x2), (3, .int x3), (4, .int x4), (7, .int x7)]) hx hb dX2_layOutFiled_133 hl (by decide) rfl (fun ls hl => ?_)
          obtain ⟨z35, ez35⟩ : ∃ y : Int32, y = (x7 + (1 : Int32)) := ⟨_, rfl⟩
          have h := h z35 ez35
          refine lv_iinc (v := z35) (lv' := [(7, .int z35), (6, .int x6), (5, .int z30), (8, .int z29), (0, .ref q), (1, .ref q1), (2, .int x2), (3, .int x3), (4, .int x4)]) hx hb dX2_layOutFiled_135 hl (k := 8) rfl (by rw [ez35]; rfl) (by decide) rfl (fun ls hl => ?_)
          refine lv_goto (tgt := 32) hx hb dX2_layOutFiled_138 (by decide) ?_
          exact ih _ _ _ _ _ _ h _ _ _ hP hD hS (lv_sub hl [4, 5, 6, 7, 8, 2, 1, 0] rfl)
        · have h := h.2 c34
          refine lv_iload hx hb dX2_layOutFiled_125 (lv_at hl 7 rfl) ?_
          refine lv_ineg hx hb dX2_layOutFiled_127 ?_
          refine lv_goto (tgt := 133) hx hb dX2_layOutFiled_128 (by decide) ?_
          refine lv_topi (fun z36 ez36 => ?_)
          have h := h z36 ez36
          refine lv_istore (lv' := [(6, .int z36), (5, .int z30), (8, .int z29), (0, .ref q), (1, .ref q1), (2, .int x2), (3, .int x3), (4, .int x4), (7, .int x7)]) hx hb dX2_layOutFiled_133 hl (by decide) rfl (fun ls hl => ?_)
          obtain ⟨z37, ez37⟩ : ∃ y : Int32, y = (x7 + (1 : Int32)) := ⟨_, rfl⟩
          have h := h z37 ez37
          refine lv_iinc (v := z37) (lv' := [(7, .int z37), (6, .int z36), (5, .int z30), (8, .int z29), (0, .ref q), (1, .ref q1), (2, .int x2), (3, .int x3), (4, .int x4)]) hx hb dX2_layOutFiled_135 hl (k := 8) rfl (by rw [ez37]; rfl) (by decide) rfl (fun ls hl => ?_)
          refine lv_goto (tgt := 32) hx hb dX2_layOutFiled_138 (by decide) ?_
          exact ih _ _ _ _ _ _ h _ _ _ hP hD hS (lv_sub hl [4, 5, 6, 7, 8, 2, 1, 0] rfl)
set_option maxHeartbeats 4000000 in
set_option maxRecDepth 100000 in
theorem c_X2_layOutFiled {l : Launch} {D : va_G} {Y : ClassId × ClassId × ClassId} {q1 q1_lengths q q_places : Nat} {g1_links g1_folded g1_stiff g_links g_low g_high : Int32} {g1_lengths g_places : Nat → Int32} {x2 x3 x4 : Int32} {Q : Int32 → Int32 → Int32 → (Nat → Int32) → Prop} (h : wp_X2_layOutFiled g1_links g_links g_low g_high g1_lengths g_places x2 x3 x4 Q) (sz : Nat) : MtV l yX2_layOutFiled wsX2_layOutFiled rm_X2_layOutFiled [.ref q, .ref q1, .int x2, .int x3, .int x4] D Y (w_X2_layOutFiled Y q1 q1_lengths q q_places g1_links g1_folded g1_stiff g_links g_low g_high g1_lengths g_places) (fun (u : Int32 × Int32 × Int32 × (Nat → Int32)) => Q u.1 u.2.1 u.2.2.1 u.2.2.2) (fun u : Int32 × Int32 × Int32 × (Nat → Int32) => (w_X2_layOutFiled Y q1 q1_lengths q q_places g1_links g1_folded g1_stiff u.1 u.2.1 u.2.2.1 g1_lengths u.2.2.2)) sz := by
  refine ct_v (cc := cX2_layOutFiled) (nL := 9) (ret := none) (by decide) rfl (Nat.le_of_ble_eq_true rfl) ?_ sz
  intro p e s m below meth c A ls C hK hA hP hD hS hl
  obtain ⟨⟨hx, hb, hml, hown, hts⟩, hr, hlocks, hN⟩ := id C
  have hown : s.vm.findClass RX2 = some m.cls := hown
  have hl : lv_has ls 9 [(0, .ref q), (1, .ref q1), (2, .int x2), (3, .int x3), (4, .int x4)] := hl
  unfold wp_X2_layOutFiled at h
  refine lv_aload_n hx hb dX2_layOutFiled_0 rfl (lv_at hl 0 rfl) ?_
  refine lv_aload_n hx hb dX2_layOutFiled_1 rfl (lv_at hl 1 rfl) ?_
  refine va_getN (D := D) (ci := 5) (v := .int g1_links) (C := RX5) (T := TX5) (N := 4) hx hb hts in_X2_layOutFiled_X5 hown hK hP 0 rfl rfl 1 (by decide) (va_Nw.use rfl (nwX2_19 hN)) (fun _ h9 => h9) rfl dX2_layOutFiled_2 ?_
  refine lv_bipush (v := 9) hx hb dX2_layOutFiled_5 (by decide) ?_
  refine va_mmin hx hb (hml.trans hl.1.symm) hown (k_X2_layOutFiled_m25 hts) (k_X2_layOutFiled_smin hts) (k_X2_layOutFiled_imath hts) (k_X2_layOutFiled_bmin hts) (Nat.le_of_ble_eq_true rfl) (Nat.le_of_ble_eq_true rfl) (Nat.le_of_ble_eq_true rfl) (Nat.le_of_ble_eq_true rfl) dX2_layOutFiled_7 ?_
  refine lv_topi (fun z38 ez38 => ?_)
  have h := h z38 ez38
  refine va_put (D := D) (ci := 2) (v := .int z38) (ty := .int) (C := RX2) (T := TX2) (N := 4) hx hb hts in_X2_layOutFiled_X2 tyX2 tyX2_ok nmX2 hown hK hP hD hS 1 rfl rfl 1 (by decide) (k_X2_layOutFiled_f31 hts) (fun _ h9 => h9) rfl (by decide +kernel) rfl rfl (Nat.le_of_ble_eq_true rfl) dX2_layOutFiled_10 (fun H locs hP hD hS => ?_)
  have hP : va_P D vwCl (w_X2_layOutFiled Y q1 q1_lengths q q_places g1_links g1_folded g1_stiff z38 g_low g_high g1_lengths g_places) H := hP
  have hD : va_D A (w_X2_layOutFiled Y q1 q1_lengths q q_places g1_links g1_folded g1_stiff z38 g_low g_high g1_lengths g_places) := hD
  refine lv_aload_n hx hb dX2_layOutFiled_13 rfl (lv_at hl 0 rfl) ?_
  refine lv_iconst (v := 0) hx hb dX2_layOutFiled_14 (by decide) ?_
  refine va_put (D := D) (ci := 2) (v := .int (0 : Int32)) (ty := .int) (C := RX2) (T := TX2) (N := 4) hx hb hts in_X2_layOutFiled_X2 tyX2 tyX2_ok nmX2 hown hK hP hD hS 1 rfl rfl 2 (by decide) (k_X2_layOutFiled_f32 hts) (fun _ h9 => h9) rfl (by decide +kernel) rfl rfl (Nat.le_of_ble_eq_true rfl) dX2_layOutFiled_15 (fun H locs hP hD hS => ?_)
  have hP : va_P D vwCl (w_X2_layOutFiled Y q1 q1_lengths q q_places g1_links g1_folded g1_stiff z38 (0 : Int32) g_high g1_lengths g_places) H := hP
  have hD : va_D A (w_X2_layOutFiled Y q1 q1_lengths q q_places g1_links g1_folded g1_stiff z38 (0 : Int32) g_high g1_lengths g_places) := hD
  refine lv_aload_n hx hb dX2_layOutFiled_18 rfl (lv_at hl 0 rfl) ?_
  refine lv_iconst (v := 0) hx hb dX2_layOutFiled_19 (by decide) ?_
  refine va_put (D := D) (ci := 2) (v := .int (0 : Int32)) (ty := .int) (C := RX2) (T := TX2) (N := 4) hx hb hts in_X2_layOutFiled_X2 tyX2 tyX2_ok nmX2 hown hK hP hD hS 1 rfl rfl 3 (by decide) (k_X2_layOutFiled_f35 hts) (fun _ h9 => h9) rfl (by decide +kernel) rfl rfl (Nat.le_of_ble_eq_true rfl) dX2_layOutFiled_20 (fun H locs hP hD hS => ?_)
  have hP : va_P D vwCl (w_X2_layOutFiled Y q1 q1_lengths q q_places g1_links g1_folded g1_stiff z38 (0 : Int32) (0 : Int32) g1_lengths g_places) H := hP
  have hD : va_D A (w_X2_layOutFiled Y q1 q1_lengths q q_places g1_links g1_folded g1_stiff z38 (0 : Int32) (0 : Int32) g1_lengths g_places) := hD
  refine lv_iconst (v := 0) hx hb dX2_layOutFiled_23 (by decide) ?_
  refine lv_istore (lv' := [(5, .int (0 : Int32)), (0, .ref q), (1, .ref q1), (2, .int x2), (3, .int x3), (4, .int x4)]) hx hb dX2_layOutFiled_24 hl (by decide) rfl (fun ls hl => ?_)
  refine lv_iconst (v := 1) hx hb dX2_layOutFiled_26 (by decide) ?_
  refine lv_istore (lv' := [(6, .int (1 : Int32)), (5, .int (0 : Int32)), (0, .ref q), (1, .ref q1), (2, .int x2), (3, .int x3), (4, .int x4)]) hx hb dX2_layOutFiled_27 hl (by decide) rfl (fun ls hl => ?_)
  refine lv_iconst (v := 0) hx hb dX2_layOutFiled_29 (by decide) ?_
  refine lv_istore (lv' := [(7, .int (0 : Int32)), (6, .int (1 : Int32)), (5, .int (0 : Int32)), (0, .ref q), (1, .ref q1), (2, .int x2), (3, .int x3), (4, .int x4)]) hx hb dX2_layOutFiled_30 hl (by decide) rfl (fun ls hl => ?_)
  obtain ⟨n, h⟩ := h
  exact L_X2_layOutFiled_32 C hK hA  n _ _ _ _ _ _ h _ _ _ hP hD hS (lv_sub hl [3, 4, 5, 6, 7, 2, 1, 0] rfl)
abbrev rm_X2_layOut : Room := { frames := 2, cells := 0, slots := 0, locals := 49 }
set_option maxHeartbeats 4000000 in
set_option maxRecDepth 100000 in
theorem c_X2_layOut {l : Launch} {D : va_G} {Y : ClassId × ClassId × ClassId} {q1 q1_lengths q q_places : Nat} {g1_links g1_folded g1_stiff g_links g_low g_high : Int32} {g1_lengths g_places : Nat → Int32} {x2 : Int32} {Q : Int32 → Int32 → Int32 → (Nat → Int32) → Prop} (h : wp_X2_layOut g1_links g_links g_low g_high g1_lengths g_places x2 Q) (sz : Nat) : MtV l yX2_layOut wsX2_layOut rm_X2_layOut [.ref q, .ref q1, .int x2] D Y (w_X2_layOut Y q1 q1_lengths q q_places g1_links g1_folded g1_stiff g_links g_low g_high g1_lengths g_places) (fun (u : Int32 × Int32 × Int32 × (Nat → Int32)) => Q u.1 u.2.1 u.2.2.1 u.2.2.2) (fun u : Int32 × Int32 × Int32 × (Nat → Int32) => (w_X2_layOut Y q1 q1_lengths q q_places g1_links g1_folded g1_stiff u.1 u.2.1 u.2.2.1 g1_lengths u.2.2.2)) sz := by
  refine ct_v (cc := cX2_layOut) (nL := 3) (ret := none) (by decide) rfl (Nat.le_of_ble_eq_true rfl) ?_ sz
  intro p e s m below meth c A ls C hK hA hP hD hS hl
  obtain ⟨⟨hx, hb, hml, hown, hts⟩, hr, hlocks, hN⟩ := id C
  have hown : s.vm.findClass RX2 = some m.cls := hown
  have hl : lv_has ls 3 [(0, .ref q), (1, .ref q1), (2, .int x2)] := hl
  unfold wp_X2_layOut at h
  refine lv_aload_n hx hb dX2_layOut_0 rfl (lv_at hl 0 rfl) ?_
  refine lv_aload_n hx hb dX2_layOut_1 rfl (lv_at hl 1 rfl) ?_
  refine lv_iload_n hx hb dX2_layOut_2 rfl (lv_at hl 2 rfl) ?_
  refine lv_bipush (v := (-9)) hx hb dX2_layOut_3 (by decide) ?_
  refine lv_iconst (v := 0) hx hb dX2_layOut_5 (by decide) ?_
  have hp : Pt (w_X2_layOut Y q1 q1_lengths q q_places g1_links g1_folded g1_stiff g_links g_low g_high g1_lengths g_places) (w_X2_layOutFiled Y q1 q1_lengths q q_places g1_links g1_folded g1_stiff g_links g_low g_high g1_lengths g_places) [0, 1, 2, 3] := ⟨rfl, by decide +kernel⟩
  refine go_v hp hP hD hS hA (fun _ => rfl) (va_runV (As := [.ref q1, .int x2, .int (-9 : Int32), .int (0 : Int32)]) (rest := []) ⟨hx, hb, hml, hown, hts⟩ (c_X2_layOutFiled h _) (cwV 4 hts gX2_layOut_X2_layOutFiled rfl rfl rfl (by decide +kernel) ⟨Nat.le_of_ble_eq_true rfl, Nat.le_of_ble_eq_true rfl⟩) (pre_V (b := q) (q0 := 1) (ci := 2) (q := (RX2, TX2, 4)) hp hK hN hP hD rfl rfl) rfl rfl hl.1 rfl (lv_room (Nat.le_of_ble_eq_true rfl)) dX2_layOut_6 ⟨Nat.le_of_ble_eq_true rfl, Nat.le_of_ble_eq_true rfl⟩) (fun u H locs h hP hD hS => ?_)
  obtain ⟨u6, u7, u8, u9⟩ := u
  try dsimp only at h
  have hP : va_P D vwCl (w_X2_layOut Y q1 q1_lengths q q_places g1_links g1_folded g1_stiff u6 u7 u8 g1_lengths u9) H := hP
  have hD : va_D A (w_X2_layOut Y q1 q1_lengths q q_places g1_links g1_folded g1_stiff u6 u7 u8 g1_lengths u9) := hD
  exact ret_v (u6, u7, u8, u9) hx hb hr hlocks hK hP hD hS h dX2_layOut_9
abbrev rm_X2_span : Room := { frames := 0, cells := 0, slots := 0, locals := 0 }
theorem in_X2_span_X2 : ∀ w ∈ wsX20, w ∈ wsX2_span := fun _ h => List.mem_cons_of_mem _ (List.mem_append_right _ h)
theorem k_X2_span_f35 {s : State} {args : Array Value} (hts : ∀ w ∈ wsX2_span, w.before args s = true) : (Cond.fieldLink RX2 35 "FoldRule$Lay" "high" "I").before args s = true := hts _ (by decide +kernel)
theorem k_X2_span_f32 {s : State} {args : Array Value} (hts : ∀ w ∈ wsX2_span, w.before args s = true) : (Cond.fieldLink RX2 32 "FoldRule$Lay" "low" "I").before args s = true := hts _ (by decide +kernel)
set_option maxHeartbeats 4000000 in
set_option maxRecDepth 100000 in
theorem c_X2_span {l : Launch} {D : va_G} {Y : ClassId × ClassId × ClassId} {q q_places : Nat} {g_links g_low g_high : Int32} {Q : Int32 → Prop} (h : wp_X2_span g_low g_high Q) (sz : Nat) : MtI l yX2_span wsX2_span rm_X2_span [.ref q] D Y (w_X2_span Y q q_places g_links g_low g_high) (fun r (_ : Unit) => Q r) (fun _ : Unit => (w_X2_span Y q q_places g_links g_low g_high)) sz := by
  refine ct_i (cc := cX2_span) (nL := 1) (ret := (some .int)) (by decide) rfl (Nat.le_of_ble_eq_true rfl) ?_ sz
  intro p e s m below meth c A ls C hK hA hP hD hS hl
  obtain ⟨⟨hx, hb, hml, hown, hts⟩, hr, hlocks, hN⟩ := id C
  have hown : s.vm.findClass RX2 = some m.cls := hown
  have hl : lv_has ls 1 [(0, .ref q)] := hl
  unfold wp_X2_span at h
  refine lv_aload_n hx hb dX2_span_0 rfl (lv_at hl 0 rfl) ?_
  refine va_get (D := D) (ci := 2) (v := .int g_high) (C := RX2) (T := TX2) (N := 4) hx hb hts in_X2_span_X2 hown hK hP 0 rfl rfl 3 (by decide) (k_X2_span_f35 hts) (fun _ h9 => h9) rfl dX2_span_1 ?_
  refine lv_aload_n hx hb dX2_span_4 rfl (lv_at hl 0 rfl) ?_
  refine va_get (D := D) (ci := 2) (v := .int g_low) (C := RX2) (T := TX2) (N := 4) hx hb hts in_X2_span_X2 hown hK hP 0 rfl rfl 2 (by decide) (k_X2_span_f32 hts) (fun _ h9 => h9) rfl dX2_span_5 ?_
  refine lv_isub hx hb dX2_span_8 ?_
  exact ret_i () hx hb hr hlocks hK hP hD hS h dX2_span_9
abbrev rm_X0_leastFold : Room := { frames := 4, cells := 0, slots := 0, locals := 74 }
theorem in_X0_leastFold_X0 : ∀ w ∈ wsX00, w ∈ wsX0_leastFold := fun _ h => List.mem_cons_of_mem _ (List.mem_append_left _ (List.mem_append_left _ (List.mem_append_right _ h)))
theorem k_X0_leastFold_f12 {s : State} {args : Array Value} (hts : ∀ w ∈ wsX0_leastFold, w.before args s = true) : (Cond.fieldLink RX0 12 "FoldRule$Folds" "lay" "LFoldRule$Lay;").before args s = true := hts _ (by decide +kernel)
set_option maxHeartbeats 4000000 in
set_option maxRecDepth 100000 in
theorem L_X0_leastFold_10 {p : Program} {l : Launch} {e : Env} {s : State} {m : MethodId} {args : Array Value} {below : List Frame} {meth : Method} {c : Code} {D : va_G} {Y : ClassId × ClassId × ClassId} {A : Nat → Prop} {q1 q1_lengths q q_lay q_measured q_lay_places : Nat} {g1_links g1_folded g1_stiff : Int32} {g1_lengths : Nat → Int32} {Q : Int32 → Int32 → Int32 → Int32 → (Nat → Int32) → Prop} (C : Ctx p s m args meth c cX0_leastFold 5 (some .int) wsX0_leastFold RX0) (hK : va_K D vwCl (tyS Y) s) (hA : ∀ q, s.heap.size ≤ q → A q) : ∀ (n : Nat) (x2 x3 x4 g_lay_links g_lay_low g_lay_high : Int32) (g_lay_places : Nat → Int32), itr7 (B_X0_leastFold_10 g1_links g1_folded g1_stiff g1_lengths Q) n x2 x3 x4 g_lay_links g_lay_low g_lay_high g_lay_places → ∀ (H : Heap) (locs : List Loc) (ls : Array Slot), va_P D vwCl (w_X0_leastFold Y q1 q1_lengths q q_lay q_measured q_lay_places g1_links g1_folded g1_stiff g_lay_links g_lay_low g_lay_high g1_lengths g_lay_places) H → va_D A (w_X0_leastFold Y q1 q1_lengths q q_lay q_measured q_lay_places g1_links g1_folded g1_stiff g_lay_links g_lay_low g_lay_high g1_lengths g_lay_places) → va_S A s.heap H locs → lv_has ls 5 [(0, .ref q), (1, .ref q1), (2, .int x2), (3, .int x3), (4, .int x4)] → W p l e rm_X0_leastFold s m args below meth c H locs 0 0 (QI below args s D Y A (fun r (u : Int32 × Int32 × Int32 × (Nat → Int32)) => Q r u.1 u.2.1 u.2.2.1 u.2.2.2) (fun u : Int32 × Int32 × Int32 × (Nat → Int32) => (w_X0_leastFold Y q1 q1_lengths q q_lay q_measured q_lay_places g1_links g1_folded g1_stiff u.1 u.2.1 u.2.2.1 g1_lengths u.2.2.2))) (F0 m 10 ls []) := by
  intro n
  induction n with
  | zero => intro x2 x3 x4 g_lay_links g_lay_low g_lay_high g_lay_places h; exact False.elim h
  | succ n ih =>
    intro x2 x3 x4 g_lay_links g_lay_low g_lay_high g_lay_places h H locs ls hP hD hS hl
    obtain ⟨⟨hx, hb, hml, hown, hts⟩, hr, hlocks, hN⟩ := id C
    have h : B_X0_leastFold_10 g1_links g1_folded g1_stiff g1_lengths Q (itr7 (B_X0_leastFold_10 g1_links g1_folded g1_stiff g1_lengths Q) n) x2 x3 x4 g_lay_links g_lay_low g_lay_high g_lay_places := h
    unfold B_X0_leastFold_10 at h
    refine lv_iload hx hb dX0_leastFold_10 (lv_at hl 4 rfl) ?_
    refine lv_aload_n hx hb dX0_leastFold_12 rfl (lv_at hl 1 rfl) ?_
    have hp : Pt (w_X0_leastFold Y q1 q1_lengths q q_lay q_measured q_lay_places g1_links g1_folded g1_stiff g_lay_links g_lay_low g_lay_high g1_lengths g_lay_places) (w_X5_foldLimit Y q1 q1_lengths g1_links g1_folded g1_stiff) [0] := ⟨rfl, by decide +kernel⟩
    refine go_i hp hP hD hS hA (fun _ => rfl) (va_runV (As := []) (rest := [.int x4]) ⟨hx, hb, hml, hown, hts⟩ (c_X5_foldLimit h _) (cwV 0 hts gX0_leastFold_X5_foldLimit rfl rfl rfl (by decide +kernel) ⟨Nat.le_of_ble_eq_true rfl, Nat.le_of_ble_eq_true rfl⟩) (pre_V (b := q1) (q0 := 0) (ci := 5) (q := (RX5, TX5, 4)) hp hK hN hP hD rfl rfl) rfl rfl hl.1 rfl (lv_room (Nat.le_of_ble_eq_true rfl)) dX0_leastFold_13 ⟨Nat.le_of_ble_eq_true rfl, Nat.le_of_ble_eq_true rfl⟩) (fun r12 u H locs h hP hD hS => ?_)
    try dsimp only at h
    have hP : va_P D vwCl (w_X0_leastFold Y q1 q1_lengths q q_lay q_measured q_lay_places g1_links g1_folded g1_stiff g_lay_links g_lay_low g_lay_high g1_lengths g_lay_places) H := hP
    have hD : va_D A (w_X0_leastFold Y q1 q1_lengths q q_lay q_measured q_lay_places g1_links g1_folded g1_stiff g_lay_links g_lay_low g_lay_high g1_lengths g_lay_places) := hD
    refine lv_icmp_ge (tgt := 66) hx hb dX0_leastFold_16 (by decide) (fun c13 => ?_) (fun c13 => ?_)
    · have h := h.1 c13
      refine lv_iload_n hx hb dX0_leastFold_66 rfl (lv_at hl 2 rfl) ?_
      exact ret_i (g_lay_links, g_lay_low, g_lay_high, g_lay_places) hx hb hr hlocks hK hP hD hS h dX0_leastFold_67
    · have h := h.2 c13
      refine lv_aload_n hx hb dX0_leastFold_19 rfl (lv_at hl 1 rfl) ?_
      refine lv_iload hx hb dX0_leastFold_20 (lv_at hl 4 rfl) ?_
      have hp : Pt (w_X0_leastFold Y q1 q1_lengths q q_lay q_measured q_lay_places g1_links g1_folded g1_stiff g_lay_links g_lay_low g_lay_high g1_lengths g_lay_places) (w_X5_isFold Y q1 q1_lengths g1_links g1_folded g1_stiff) [0] := ⟨rfl, by decide +kernel⟩
      refine go_i hp hP hD hS hA (fun _ => rfl) (va_runV (As := [.int x4]) (rest := []) ⟨hx, hb, hml, hown, hts⟩ (c_X5_isFold h _) (cwV 1 hts gX0_leastFold_X5_isFold rfl rfl rfl (by decide +kernel) ⟨Nat.le_of_ble_eq_true rfl, Nat.le_of_ble_eq_true rfl⟩) (pre_V (b := q1) (q0 := 0) (ci := 5) (q := (RX5, TX5, 4)) hp hK hN hP hD rfl rfl) rfl rfl hl.1 rfl (lv_room (Nat.le_of_ble_eq_true rfl)) dX0_leastFold_22 ⟨Nat.le_of_ble_eq_true rfl, Nat.le_of_ble_eq_true rfl⟩) (fun r14 u H locs h hP hD hS => ?_)
      try dsimp only at h
      have hP : va_P D vwCl (w_X0_leastFold Y q1 q1_lengths q q_lay q_measured q_lay_places g1_links g1_folded g1_stiff g_lay_links g_lay_low g_lay_high g1_lengths g_lay_places) H := hP
      have hD : va_D A (w_X0_leastFold Y q1 q1_lengths q q_lay q_measured q_lay_places g1_links g1_folded g1_stiff g_lay_links g_lay_low g_lay_high g1_lengths g_lay_places) := hD
      refine lv_if_eq (tgt := 60) hx hb dX0_leastFold_25 (by decide) (fun c15 => ?_) (fun c15 => ?_)
      · have h := h.1 c15
        obtain ⟨z16, ez16⟩ : ∃ y : Int32, y = (x4 + (1 : Int32)) := ⟨_, rfl⟩
        have h := h z16 ez16
        refine lv_iinc (v := z16) (lv' := [(4, .int z16), (0, .ref q), (1, .ref q1), (2, .int x2), (3, .int x3)]) hx hb dX0_leastFold_60 hl (k := 4) rfl (by rw [ez16]; rfl) (by decide) rfl (fun ls hl => ?_)
        refine lv_goto (tgt := 10) hx hb dX0_leastFold_63 (by decide) ?_
        exact ih _ _ _ _ _ _ _ h _ _ _ hP hD hS (lv_sub hl [1, 2, 3, 4, 0] rfl)
      · have h := h.2 c15
        refine lv_aload_n hx hb dX0_leastFold_28 rfl (lv_at hl 0 rfl) ?_
        refine va_get (D := D) (ci := 0) (v := .ref q_lay) (C := RX0) (T := TX0) (N := 2) hx hb hts in_X0_leastFold_X0 hown hK hP 1 rfl rfl 0 (by decide) (k_X0_leastFold_f12 hts) (fun _ h9 => h9) rfl dX0_leastFold_29 ?_
        refine lv_aload_n hx hb dX0_leastFold_32 rfl (lv_at hl 1 rfl) ?_
        refine lv_iload hx hb dX0_leastFold_33 (lv_at hl 4 rfl) ?_
        have hp : Pt (w_X0_leastFold Y q1 q1_lengths q q_lay q_measured q_lay_places g1_links g1_folded g1_stiff g_lay_links g_lay_low g_lay_high g1_lengths g_lay_places) (w_X2_layOut Y q1 q1_lengths q_lay q_lay_places g1_links g1_folded g1_stiff g_lay_links g_lay_low g_lay_high g1_lengths g_lay_places) [0, 2, 3, 4] := ⟨rfl, by decide +kernel⟩
        refine go_v hp hP hD hS hA (fun _ => rfl) (va_runV (As := [.ref q1, .int x4]) (rest := []) ⟨hx, hb, hml, hown, hts⟩ (c_X2_layOut h _) (cwV 2 hts gX0_leastFold_X2_layOut rfl rfl rfl (by decide +kernel) ⟨Nat.le_of_ble_eq_true rfl, Nat.le_of_ble_eq_true rfl⟩) (pre_V (b := q_lay) (q0 := 1) (ci := 2) (q := (RX2, TX2, 4)) hp hK hN hP hD rfl rfl) rfl rfl hl.1 rfl (lv_room (Nat.le_of_ble_eq_true rfl)) dX0_leastFold_35 ⟨Nat.le_of_ble_eq_true rfl, Nat.le_of_ble_eq_true rfl⟩) (fun u H locs h hP hD hS => ?_)
        obtain ⟨u18, u19, u20, u21⟩ := u
        try dsimp only at h
        have hP : va_P D vwCl (w_X0_leastFold Y q1 q1_lengths q q_lay q_measured q_lay_places g1_links g1_folded g1_stiff u18 u19 u20 g1_lengths u21) H := hP
        have hD : va_D A (w_X0_leastFold Y q1 q1_lengths q q_lay q_measured q_lay_places g1_links g1_folded g1_stiff u18 u19 u20 g1_lengths u21) := hD
        refine lv_aload_n hx hb dX0_leastFold_38 rfl (lv_at hl 0 rfl) ?_
        refine va_get (D := D) (ci := 0) (v := .ref q_lay) (C := RX0) (T := TX0) (N := 2) hx hb hts in_X0_leastFold_X0 hown hK hP 1 rfl rfl 0 (by decide) (k_X0_leastFold_f12 hts) (fun _ h9 => h9) rfl dX0_leastFold_39 ?_
        have hp : Pt (w_X0_leastFold Y q1 q1_lengths q q_lay q_measured q_lay_places g1_links g1_folded g1_stiff u18 u19 u20 g1_lengths u21) (w_X2_span Y q_lay q_lay_places u18 u19 u20) [2] := ⟨rfl, by decide +kernel⟩
        refine go_i hp hP hD hS hA (fun _ => rfl) (va_runV (As := []) (rest := []) ⟨hx, hb, hml, hown, hts⟩ (c_X2_span h _) (cwV 0 hts gX0_leastFold_X2_span rfl rfl rfl (by decide +kernel) ⟨Nat.le_of_ble_eq_true rfl, Nat.le_of_ble_eq_true rfl⟩) (pre_V (b := q_lay) (q0 := 0) (ci := 2) (q := (RX2, TX2, 4)) hp hK hN hP hD rfl rfl) rfl rfl hl.1 rfl (lv_room (Nat.le_of_ble_eq_true rfl)) dX0_leastFold_42 ⟨Nat.le_of_ble_eq_true rfl, Nat.le_of_ble_eq_true rfl⟩) (fun r22 u H locs h hP hD hS => ?_)
        try dsimp only at h
        have hP : va_P D vwCl (w_X0_leastFold Y q1 q1_lengths q q_lay q_measured q_lay_places g1_links g1_folded g1_stiff u18 u19 u20 g1_lengths u21) H := hP
        have hD : va_D A (w_X0_leastFold Y q1 q1_lengths q q_lay q_measured q_lay_places g1_links g1_folded g1_stiff u18 u19 u20 g1_lengths u21) := hD
        refine lv_iload_n hx hb dX0_leastFold_45 rfl (lv_at hl 3 rfl) ?_
        refine lv_icmp_ge (tgt := 60) hx hb dX0_leastFold_46 (by decide) (fun c23 => ?_) (fun c23 => ?_)
        · have h := h.1 c23
          obtain ⟨z24, ez24⟩ : ∃ y : Int32, y = (x4 + (1 : Int32)) := ⟨_, rfl⟩
          have h := h z24 ez24
          refine lv_iinc (v := z24) (lv' := [(4, .int z24), (0, .ref q), (1, .ref q1), (2, .int x2), (3, .int x3)]) hx hb dX0_leastFold_60 hl (k := 4) rfl (by rw [ez24]; rfl) (by decide) rfl (fun ls hl => ?_)
          refine lv_goto (tgt := 10) hx hb dX0_leastFold_63 (by decide) ?_
          exact ih _ _ _ _ _ _ _ h _ _ _ hP hD hS (lv_sub hl [1, 2, 3, 4, 0] rfl)
        · have h := h.2 c23
          refine lv_aload_n hx hb dX0_leastFold_49 rfl (lv_at hl 0 rfl) ?_
          refine va_get (D := D) (ci := 0) (v := .ref q_lay) (C := RX0) (T := TX0) (N := 2) hx hb hts in_X0_leastFold_X0 hown hK hP 1 rfl rfl 0 (by decide) (k_X0_leastFold_f12 hts) (fun _ h9 => h9) rfl dX0_leastFold_50 ?_
          have hp : Pt (w_X0_leastFold Y q1 q1_lengths q q_lay q_measured q_lay_places g1_links g1_folded g1_stiff u18 u19 u20 g1_lengths u21) (w_X2_span Y q_lay q_lay_places u18 u19 u20) [2] := ⟨rfl, by decide +kernel⟩
          refine go_i hp hP hD hS hA (fun _ => rfl) (va_runV (As := []) (rest := []) ⟨hx, hb, hml, hown, hts⟩ (c_X2_span h _) (cwV 0 hts gX0_leastFold_X2_span rfl rfl rfl (by decide +kernel) ⟨Nat.le_of_ble_eq_true rfl, Nat.le_of_ble_eq_true rfl⟩) (pre_V (b := q_lay) (q0 := 0) (ci := 2) (q := (RX2, TX2, 4)) hp hK hN hP hD rfl rfl) rfl rfl hl.1 rfl (lv_room (Nat.le_of_ble_eq_true rfl)) dX0_leastFold_53 ⟨Nat.le_of_ble_eq_true rfl, Nat.le_of_ble_eq_true rfl⟩) (fun r25 u H locs h hP hD hS => ?_)
          try dsimp only at h
          have hP : va_P D vwCl (w_X0_leastFold Y q1 q1_lengths q q_lay q_measured q_lay_places g1_links g1_folded g1_stiff u18 u19 u20 g1_lengths u21) H := hP
          have hD : va_D A (w_X0_leastFold Y q1 q1_lengths q q_lay q_measured q_lay_places g1_links g1_folded g1_stiff u18 u19 u20 g1_lengths u21) := hD
          refine lv_istore_n (lv' := [(3, .int r25), (0, .ref q), (1, .ref q1), (2, .int x2), (4, .int x4)]) hx hb dX0_leastFold_56 rfl hl (by decide) rfl (fun ls hl => ?_)
          refine lv_iload hx hb dX0_leastFold_57 (lv_at hl 4 rfl) ?_
          refine lv_istore_n (lv' := [(2, .int x4), (3, .int r25), (0, .ref q), (1, .ref q1), (4, .int x4)]) hx hb dX0_leastFold_59 rfl hl (by decide) rfl (fun ls hl => ?_)
          obtain ⟨z26, ez26⟩ : ∃ y : Int32, y = (x4 + (1 : Int32)) := ⟨_, rfl⟩
          have h := h z26 ez26
          refine lv_iinc (v := z26) (lv' := [(4, .int z26), (2, .int x4), (3, .int r25), (0, .ref q), (1, .ref q1)]) hx hb dX0_leastFold_60 hl (k := 4) rfl (by rw [ez26]; rfl) (by decide) rfl (fun ls hl => ?_)
          refine lv_goto (tgt := 10) hx hb dX0_leastFold_63 (by decide) ?_
          exact ih _ _ _ _ _ _ _ h _ _ _ hP hD hS (lv_sub hl [3, 4, 1, 2, 0] rfl)
set_option maxHeartbeats 4000000 in
set_option maxRecDepth 100000 in
theorem c_X0_leastFold {l : Launch} {D : va_G} {Y : ClassId × ClassId × ClassId} {q1 q1_lengths q q_lay q_measured q_lay_places : Nat} {g1_links g1_folded g1_stiff g_lay_links g_lay_low g_lay_high : Int32} {g1_lengths g_lay_places : Nat → Int32} {Q : Int32 → Int32 → Int32 → Int32 → (Nat → Int32) → Prop} (h : wp_X0_leastFold g1_links g1_folded g1_stiff g_lay_links g_lay_low g_lay_high g1_lengths g_lay_places Q) (sz : Nat) : MtI l yX0_leastFold wsX0_leastFold rm_X0_leastFold [.ref q, .ref q1] D Y (w_X0_leastFold Y q1 q1_lengths q q_lay q_measured q_lay_places g1_links g1_folded g1_stiff g_lay_links g_lay_low g_lay_high g1_lengths g_lay_places) (fun r (u : Int32 × Int32 × Int32 × (Nat → Int32)) => Q r u.1 u.2.1 u.2.2.1 u.2.2.2) (fun u : Int32 × Int32 × Int32 × (Nat → Int32) => (w_X0_leastFold Y q1 q1_lengths q q_lay q_measured q_lay_places g1_links g1_folded g1_stiff u.1 u.2.1 u.2.2.1 g1_lengths u.2.2.2)) sz := by
  refine ct_i (cc := cX0_leastFold) (nL := 5) (ret := (some .int)) (by decide) rfl (Nat.le_of_ble_eq_true rfl) ?_ sz
  intro p e s m below meth c A ls C hK hA hP hD hS hl
  obtain ⟨⟨hx, hb, hml, hown, hts⟩, hr, hlocks, hN⟩ := id C
  have hown : s.vm.findClass RX0 = some m.cls := hown
  have hl : lv_has ls 5 [(0, .ref q), (1, .ref q1)] := hl
  unfold wp_X0_leastFold at h
  refine lv_bipush (v := (-9)) hx hb dX0_leastFold_0 (by decide) ?_
  refine lv_istore_n (lv' := [(2, .int (-9 : Int32)), (0, .ref q), (1, .ref q1)]) hx hb dX0_leastFold_2 rfl hl (by decide) rfl (fun ls hl => ?_)
  refine lv_sipush (v := 181) hx hb dX0_leastFold_3 (by decide) ?_
  refine lv_istore_n (lv' := [(3, .int (181 : Int32)), (2, .int (-9 : Int32)), (0, .ref q), (1, .ref q1)]) hx hb dX0_leastFold_6 rfl hl (by decide) rfl (fun ls hl => ?_)
  refine lv_iconst (v := 0) hx hb dX0_leastFold_7 (by decide) ?_
  refine lv_istore (lv' := [(4, .int (0 : Int32)), (3, .int (181 : Int32)), (2, .int (-9 : Int32)), (0, .ref q), (1, .ref q1)]) hx hb dX0_leastFold_8 hl (by decide) rfl (fun ls hl => ?_)
  obtain ⟨n, h⟩ := h
  exact L_X0_leastFold_10 C hK hA  n _ _ _ _ _ _ _ h _ _ _ hP hD hS (lv_sub hl [3, 4, 2, 1, 0] rfl)
abbrev rm_X0_leastSpan : Room := { frames := 5, cells := 0, slots := 0, locals := 98 }
theorem in_X0_leastSpan_X0 : ∀ w ∈ wsX00, w ∈ wsX0_leastSpan := fun _ h => List.mem_cons_of_mem _ (List.mem_append_left _ (List.mem_append_left _ (List.mem_append_right _ h)))
theorem k_X0_leastSpan_f12 {s : State} {args : Array Value} (hts : ∀ w ∈ wsX0_leastSpan, w.before args s = true) : (Cond.fieldLink RX0 12 "FoldRule$Folds" "lay" "LFoldRule$Lay;").before args s = true := hts _ (by decide +kernel)
set_option maxHeartbeats 4000000 in
set_option maxRecDepth 100000 in
theorem c_X0_leastSpan {l : Launch} {D : va_G} {Y : ClassId × ClassId × ClassId} {q q_lay q_measured q1 q1_lengths q_lay_places : Nat} {g1_links g1_folded g1_stiff g_lay_links g_lay_low g_lay_high : Int32} {g1_lengths g_lay_places : Nat → Int32} {Q : Int32 → Int32 → Int32 → Int32 → (Nat → Int32) → Prop} (h : wp_X0_leastSpan g1_links g1_folded g1_stiff g_lay_links g_lay_low g_lay_high g1_lengths g_lay_places Q) (sz : Nat) : MtI l yX0_leastSpan wsX0_leastSpan rm_X0_leastSpan [.ref q, .ref q1] D Y (w_X0_leastSpan Y q q_lay q_measured q1 q1_lengths q_lay_places g1_links g1_folded g1_stiff g_lay_links g_lay_low g_lay_high g1_lengths g_lay_places) (fun r (u : Int32 × Int32 × Int32 × (Nat → Int32)) => Q r u.1 u.2.1 u.2.2.1 u.2.2.2) (fun u : Int32 × Int32 × Int32 × (Nat → Int32) => (w_X0_leastSpan Y q q_lay q_measured q1 q1_lengths q_lay_places g1_links g1_folded g1_stiff u.1 u.2.1 u.2.2.1 g1_lengths u.2.2.2)) sz := by
  refine ct_i (cc := cX0_leastSpan) (nL := 2) (ret := (some .int)) (by decide) rfl (Nat.le_of_ble_eq_true rfl) ?_ sz
  intro p e s m below meth c A ls C hK hA hP hD hS hl
  obtain ⟨⟨hx, hb, hml, hown, hts⟩, hr, hlocks, hN⟩ := id C
  have hown : s.vm.findClass RX0 = some m.cls := hown
  have hl : lv_has ls 2 [(0, .ref q), (1, .ref q1)] := hl
  unfold wp_X0_leastSpan at h
  refine lv_aload_n hx hb dX0_leastSpan_0 rfl (lv_at hl 0 rfl) ?_
  refine va_get (D := D) (ci := 0) (v := .ref q_lay) (C := RX0) (T := TX0) (N := 2) hx hb hts in_X0_leastSpan_X0 hown hK hP 0 rfl rfl 0 (by decide) (k_X0_leastSpan_f12 hts) (fun _ h9 => h9) rfl dX0_leastSpan_1 ?_
  refine lv_aload_n hx hb dX0_leastSpan_4 rfl (lv_at hl 1 rfl) ?_
  refine lv_aload_n hx hb dX0_leastSpan_5 rfl (lv_at hl 0 rfl) ?_
  refine lv_aload_n hx hb dX0_leastSpan_6 rfl (lv_at hl 1 rfl) ?_
  have hp : Pt (w_X0_leastSpan Y q q_lay q_measured q1 q1_lengths q_lay_places g1_links g1_folded g1_stiff g_lay_links g_lay_low g_lay_high g1_lengths g_lay_places) (w_X0_leastFold Y q1 q1_lengths q q_lay q_measured q_lay_places g1_links g1_folded g1_stiff g_lay_links g_lay_low g_lay_high g1_lengths g_lay_places) [1, 0, 2, 3, 4] := ⟨rfl, by decide +kernel⟩
  refine go_i hp hP hD hS hA (fun _ => rfl) (va_runV (As := [.ref q1]) (rest := [.ref q1, .ref q_lay]) ⟨hx, hb, hml, hown, hts⟩ (c_X0_leastFold h _) (cwV 1 hts gX0_leastSpan_X0_leastFold rfl rfl rfl (by decide +kernel) ⟨Nat.le_of_ble_eq_true rfl, Nat.le_of_ble_eq_true rfl⟩) (pre_V (b := q) (q0 := 1) (ci := 0) (q := (RX0, TX0, 2)) hp hK hN hP hD rfl rfl) rfl rfl hl.1 rfl (lv_room (Nat.le_of_ble_eq_true rfl)) dX0_leastSpan_7 ⟨Nat.le_of_ble_eq_true rfl, Nat.le_of_ble_eq_true rfl⟩) (fun r11 u H locs h hP hD hS => ?_)
  obtain ⟨u12, u13, u14, u15⟩ := u
  try dsimp only at h
  have hP : va_P D vwCl (w_X0_leastSpan Y q q_lay q_measured q1 q1_lengths q_lay_places g1_links g1_folded g1_stiff u12 u13 u14 g1_lengths u15) H := hP
  have hD : va_D A (w_X0_leastSpan Y q q_lay q_measured q1 q1_lengths q_lay_places g1_links g1_folded g1_stiff u12 u13 u14 g1_lengths u15) := hD
  have hp : Pt (w_X0_leastSpan Y q q_lay q_measured q1 q1_lengths q_lay_places g1_links g1_folded g1_stiff u12 u13 u14 g1_lengths u15) (w_X2_layOut Y q1 q1_lengths q_lay q_lay_places g1_links g1_folded g1_stiff u12 u13 u14 g1_lengths u15) [1, 2, 3, 4] := ⟨rfl, by decide +kernel⟩
  refine go_v hp hP hD hS hA (fun _ => rfl) (va_runV (As := [.ref q1, .int r11]) (rest := []) ⟨hx, hb, hml, hown, hts⟩ (c_X2_layOut h _) (cwV 2 hts gX0_leastSpan_X2_layOut rfl rfl rfl (by decide +kernel) ⟨Nat.le_of_ble_eq_true rfl, Nat.le_of_ble_eq_true rfl⟩) (pre_V (b := q_lay) (q0 := 1) (ci := 2) (q := (RX2, TX2, 4)) hp hK hN hP hD rfl rfl) rfl rfl hl.1 rfl (lv_room (Nat.le_of_ble_eq_true rfl)) dX0_leastSpan_10 ⟨Nat.le_of_ble_eq_true rfl, Nat.le_of_ble_eq_true rfl⟩) (fun u H locs h hP hD hS => ?_)
  obtain ⟨u17, u18, u19, u20⟩ := u
  try dsimp only at h
  have hP : va_P D vwCl (w_X0_leastSpan Y q q_lay q_measured q1 q1_lengths q_lay_places g1_links g1_folded g1_stiff u17 u18 u19 g1_lengths u20) H := hP
  have hD : va_D A (w_X0_leastSpan Y q q_lay q_measured q1 q1_lengths q_lay_places g1_links g1_folded g1_stiff u17 u18 u19 g1_lengths u20) := hD
  refine lv_aload_n hx hb dX0_leastSpan_13 rfl (lv_at hl 0 rfl) ?_
  refine va_get (D := D) (ci := 0) (v := .ref q_lay) (C := RX0) (T := TX0) (N := 2) hx hb hts in_X0_leastSpan_X0 hown hK hP 0 rfl rfl 0 (by decide) (k_X0_leastSpan_f12 hts) (fun _ h9 => h9) rfl dX0_leastSpan_14 ?_
  have hp : Pt (w_X0_leastSpan Y q q_lay q_measured q1 q1_lengths q_lay_places g1_links g1_folded g1_stiff u17 u18 u19 g1_lengths u20) (w_X2_span Y q_lay q_lay_places u17 u18 u19) [2] := ⟨rfl, by decide +kernel⟩
  refine go_i hp hP hD hS hA (fun _ => rfl) (va_runV (As := []) (rest := []) ⟨hx, hb, hml, hown, hts⟩ (c_X2_span h _) (cwV 0 hts gX0_leastSpan_X2_span rfl rfl rfl (by decide +kernel) ⟨Nat.le_of_ble_eq_true rfl, Nat.le_of_ble_eq_true rfl⟩) (pre_V (b := q_lay) (q0 := 0) (ci := 2) (q := (RX2, TX2, 4)) hp hK hN hP hD rfl rfl) rfl rfl hl.1 rfl (lv_room (Nat.le_of_ble_eq_true rfl)) dX0_leastSpan_17 ⟨Nat.le_of_ble_eq_true rfl, Nat.le_of_ble_eq_true rfl⟩) (fun r21 u H locs h hP hD hS => ?_)
  try dsimp only at h
  have hP : va_P D vwCl (w_X0_leastSpan Y q q_lay q_measured q1 q1_lengths q_lay_places g1_links g1_folded g1_stiff u17 u18 u19 g1_lengths u20) H := hP
  have hD : va_D A (w_X0_leastSpan Y q q_lay q_measured q1 q1_lengths q_lay_places g1_links g1_folded g1_stiff u17 u18 u19 g1_lengths u20) := hD
  exact ret_i (u17, u18, u19, u20) hx hb hr hlocks hK hP hD hS h dX0_leastSpan_20
abbrev rm_X2_placeOf : Room := { frames := 0, cells := 0, slots := 0, locals := 0 }
theorem in_X2_placeOf_X2 : ∀ w ∈ wsX20, w ∈ wsX2_placeOf := fun _ h => List.mem_cons_of_mem _ (List.mem_append_right _ h)
theorem k_X2_placeOf_f31 {s : State} {args : Array Value} (hts : ∀ w ∈ wsX2_placeOf, w.before args s = true) : (Cond.fieldLink RX2 31 "FoldRule$Lay" "links" "I").before args s = true := hts _ (by decide +kernel)
theorem k_X2_placeOf_f9 {s : State} {args : Array Value} (hts : ∀ w ∈ wsX2_placeOf, w.before args s = true) : (Cond.fieldLink RX2 9 "FoldRule$Lay" "places" "[I").before args s = true := hts _ (by decide +kernel)
set_option maxHeartbeats 4000000 in
set_option maxRecDepth 100000 in
theorem c_X2_placeOf {l : Launch} {D : va_G} {Y : ClassId × ClassId × ClassId} {q q_places : Nat} {g_links g_low g_high : Int32} {g_places : Nat → Int32} {x1 : Int32} {Q : Int32 → Prop} (h : wp_X2_placeOf g_links g_places x1 Q) (sz : Nat) : MtI l yX2_placeOf wsX2_placeOf rm_X2_placeOf [.ref q, .int x1] D Y (w_X2_placeOf Y q q_places g_links g_low g_high g_places) (fun r (_ : Unit) => Q r) (fun _ : Unit => (w_X2_placeOf Y q q_places g_links g_low g_high g_places)) sz := by
  refine ct_i (cc := cX2_placeOf) (nL := 2) (ret := (some .int)) (by decide) rfl (Nat.le_of_ble_eq_true rfl) ?_ sz
  intro p e s m below meth c A ls C hK hA hP hD hS hl
  obtain ⟨⟨hx, hb, hml, hown, hts⟩, hr, hlocks, hN⟩ := id C
  have hown : s.vm.findClass RX2 = some m.cls := hown
  have hl : lv_has ls 2 [(0, .ref q), (1, .int x1)] := hl
  unfold wp_X2_placeOf at h
  refine lv_iload_n hx hb dX2_placeOf_0 rfl (lv_at hl 1 rfl) ?_
  refine lv_if_lt (tgt := 21) hx hb dX2_placeOf_1 (by decide) (fun c1 => ?_) (fun c1 => ?_)
  · have h := h.1 c1
    refine lv_iconst (v := 0) hx hb dX2_placeOf_21 (by decide) ?_
    exact ret_i () hx hb hr hlocks hK hP hD hS h dX2_placeOf_22
  · have h := h.2 c1
    refine lv_iload_n hx hb dX2_placeOf_4 rfl (lv_at hl 1 rfl) ?_
    refine lv_aload_n hx hb dX2_placeOf_5 rfl (lv_at hl 0 rfl) ?_
    refine va_get (D := D) (ci := 2) (v := .int g_links) (C := RX2) (T := TX2) (N := 4) hx hb hts in_X2_placeOf_X2 hown hK hP 0 rfl rfl 1 (by decide) (k_X2_placeOf_f31 hts) (fun _ h9 => h9) rfl dX2_placeOf_6 ?_
    refine lv_icmp_gt (tgt := 21) hx hb dX2_placeOf_9 (by decide) (fun c2 => ?_) (fun c2 => ?_)
    · have h := h.1 c2
      refine lv_iconst (v := 0) hx hb dX2_placeOf_21 (by decide) ?_
      exact ret_i () hx hb hr hlocks hK hP hD hS h dX2_placeOf_22
    · have h := h.2 c2
      refine lv_aload_n hx hb dX2_placeOf_12 rfl (lv_at hl 0 rfl) ?_
      refine va_get (D := D) (ci := 2) (v := .ref q_places) (C := RX2) (T := TX2) (N := 4) hx hb hts in_X2_placeOf_X2 hown hK hP 0 rfl rfl 0 (by decide) (k_X2_placeOf_f9 hts) (fun _ h9 => h9) rfl dX2_placeOf_13 ?_
      refine lv_iload_n hx hb dX2_placeOf_16 rfl (lv_at hl 1 rfl) ?_
      obtain ⟨hin, h⟩ := h
      refine va_iald hx hb hK hP 1 0 rfl rfl hin dX2_placeOf_17 ?_
      refine lv_goto (tgt := 22) hx hb dX2_placeOf_18 (by decide) ?_
      exact ret_i () hx hb hr hlocks hK hP hD hS h dX2_placeOf_22
abbrev rm_X2_lastPlace : Room := { frames := 1, cells := 0, slots := 0, locals := 21 }
theorem in_X2_lastPlace_X2 : ∀ w ∈ wsX20, w ∈ wsX2_lastPlace := fun _ h => List.mem_cons_of_mem _ (List.mem_append_right _ h)
theorem k_X2_lastPlace_f31 {s : State} {args : Array Value} (hts : ∀ w ∈ wsX2_lastPlace, w.before args s = true) : (Cond.fieldLink RX2 31 "FoldRule$Lay" "links" "I").before args s = true := hts _ (by decide +kernel)
set_option maxHeartbeats 4000000 in
set_option maxRecDepth 100000 in
theorem c_X2_lastPlace {l : Launch} {D : va_G} {Y : ClassId × ClassId × ClassId} {q q_places : Nat} {g_links g_low g_high : Int32} {g_places : Nat → Int32} {Q : Int32 → Prop} (h : wp_X2_lastPlace g_links g_places Q) (sz : Nat) : MtI l yX2_lastPlace wsX2_lastPlace rm_X2_lastPlace [.ref q] D Y (w_X2_lastPlace Y q q_places g_links g_low g_high g_places) (fun r (_ : Unit) => Q r) (fun _ : Unit => (w_X2_lastPlace Y q q_places g_links g_low g_high g_places)) sz := by
  refine ct_i (cc := cX2_lastPlace) (nL := 1) (ret := (some .int)) (by decide) rfl (Nat.le_of_ble_eq_true rfl) ?_ sz
  intro p e s m below meth c A ls C hK hA hP hD hS hl
  obtain ⟨⟨hx, hb, hml, hown, hts⟩, hr, hlocks, hN⟩ := id C
  have hown : s.vm.findClass RX2 = some m.cls := hown
  have hl : lv_has ls 1 [(0, .ref q)] := hl
  unfold wp_X2_lastPlace at h
  refine lv_aload_n hx hb dX2_lastPlace_0 rfl (lv_at hl 0 rfl) ?_
  refine lv_aload_n hx hb dX2_lastPlace_1 rfl (lv_at hl 0 rfl) ?_
  refine va_get (D := D) (ci := 2) (v := .int g_links) (C := RX2) (T := TX2) (N := 4) hx hb hts in_X2_lastPlace_X2 hown hK hP 0 rfl rfl 1 (by decide) (k_X2_lastPlace_f31 hts) (fun _ h9 => h9) rfl dX2_lastPlace_2 ?_
  have hp : Pt (w_X2_lastPlace Y q q_places g_links g_low g_high g_places) (w_X2_placeOf Y q q_places g_links g_low g_high g_places) [0, 1] := ⟨rfl, by decide +kernel⟩
  refine go_i hp hP hD hS hA (fun _ => rfl) (va_runV (As := [.int g_links]) (rest := []) ⟨hx, hb, hml, hown, hts⟩ (c_X2_placeOf h _) (cwV 1 hts gX2_lastPlace_X2_placeOf rfl rfl rfl (by decide +kernel) ⟨Nat.le_of_ble_eq_true rfl, Nat.le_of_ble_eq_true rfl⟩) (pre_V (b := q) (q0 := 0) (ci := 2) (q := (RX2, TX2, 4)) hp hK hN hP hD rfl rfl) rfl rfl hl.1 rfl (lv_room (Nat.le_of_ble_eq_true rfl)) dX2_lastPlace_5 ⟨Nat.le_of_ble_eq_true rfl, Nat.le_of_ble_eq_true rfl⟩) (fun r2 u H locs h hP hD hS => ?_)
  try dsimp only at h
  have hP : va_P D vwCl (w_X2_lastPlace Y q q_places g_links g_low g_high g_places) H := hP
  have hD : va_D A (w_X2_lastPlace Y q q_places g_links g_low g_high g_places) := hD
  exact ret_i () hx hb hr hlocks hK hP hD hS h dX2_lastPlace_8
abbrev rm_X0_greatestEnd : Room := { frames := 4, cells := 0, slots := 0, locals := 74 }
theorem in_X0_greatestEnd_X0 : ∀ w ∈ wsX00, w ∈ wsX0_greatestEnd := fun _ h => List.mem_cons_of_mem _ (List.mem_append_left _ (List.mem_append_left _ (List.mem_append_right _ h)))
theorem k_X0_greatestEnd_f12 {s : State} {args : Array Value} (hts : ∀ w ∈ wsX0_greatestEnd, w.before args s = true) : (Cond.fieldLink RX0 12 "FoldRule$Folds" "lay" "LFoldRule$Lay;").before args s = true := hts _ (by decide +kernel)
theorem k_X0_greatestEnd_m46 {s : State} {args : Array Value} (hts : ∀ w ∈ wsX0_greatestEnd, w.before args s = true) : (Cond.methodLink RX0 46 Lib.Math.max.name).before args s = true := hts _ (by decide +kernel)
theorem k_X0_greatestEnd_smax {s : State} {args : Array Value} (hts : ∀ w ∈ wsX0_greatestEnd, w.before args s = true) : (Cond.static Lib.Math.max.name).before args s = true := hts _ (by decide +kernel)
theorem k_X0_greatestEnd_imath {s : State} {args : Array Value} (hts : ∀ w ∈ wsX0_greatestEnd, w.before args s = true) : (Cond.initialized "java/lang/Math").before args s = true := hts _ (by decide +kernel)
theorem k_X0_greatestEnd_bmax {s : State} {args : Array Value} (hts : ∀ w ∈ wsX0_greatestEnd, w.before args s = true) : (Cond.code Lib.Math.max.name Lib.Math.max.code 2 (some .int)).before args s = true := hts _ (by decide +kernel)
set_option maxHeartbeats 4000000 in
set_option maxRecDepth 100000 in
theorem L_X0_greatestEnd_6 {p : Program} {l : Launch} {e : Env} {s : State} {m : MethodId} {args : Array Value} {below : List Frame} {meth : Method} {c : Code} {D : va_G} {Y : ClassId × ClassId × ClassId} {A : Nat → Prop} {q1 q1_lengths q q_lay q_measured q_lay_places : Nat} {g1_links g1_folded g1_stiff : Int32} {g1_lengths : Nat → Int32} {Q : Int32 → Int32 → Int32 → Int32 → (Nat → Int32) → Prop} (C : Ctx p s m args meth c cX0_greatestEnd 4 (some .int) wsX0_greatestEnd RX0) (hK : va_K D vwCl (tyS Y) s) (hA : ∀ q, s.heap.size ≤ q → A q) : ∀ (n : Nat) (x2 x3 g_lay_links g_lay_low g_lay_high : Int32) (g_lay_places : Nat → Int32), itr6 (B_X0_greatestEnd_6 g1_links g1_folded g1_stiff g1_lengths Q) n x2 x3 g_lay_links g_lay_low g_lay_high g_lay_places → ∀ (H : Heap) (locs : List Loc) (ls : Array Slot), va_P D vwCl (w_X0_greatestEnd Y q1 q1_lengths q q_lay q_measured q_lay_places g1_links g1_folded g1_stiff g_lay_links g_lay_low g_lay_high g1_lengths g_lay_places) H → va_D A (w_X0_greatestEnd Y q1 q1_lengths q q_lay q_measured q_lay_places g1_links g1_folded g1_stiff g_lay_links g_lay_low g_lay_high g1_lengths g_lay_places) → va_S A s.heap H locs → lv_has ls 4 [(0, .ref q), (1, .ref q1), (2, .int x2), (3, .int x3)] → W p l e rm_X0_greatestEnd s m args below meth c H locs 0 0 (QI below args s D Y A (fun r (u : Int32 × Int32 × Int32 × (Nat → Int32)) => Q r u.1 u.2.1 u.2.2.1 u.2.2.2) (fun u : Int32 × Int32 × Int32 × (Nat → Int32) => (w_X0_greatestEnd Y q1 q1_lengths q q_lay q_measured q_lay_places g1_links g1_folded g1_stiff u.1 u.2.1 u.2.2.1 g1_lengths u.2.2.2))) (F0 m 6 ls []) := by
  intro n
  induction n with
  | zero => intro x2 x3 g_lay_links g_lay_low g_lay_high g_lay_places h; exact False.elim h
  | succ n ih =>
    intro x2 x3 g_lay_links g_lay_low g_lay_high g_lay_places h H locs ls hP hD hS hl
    obtain ⟨⟨hx, hb, hml, hown, hts⟩, hr, hlocks, hN⟩ := id C
    have h : B_X0_greatestEnd_6 g1_links g1_folded g1_stiff g1_lengths Q (itr6 (B_X0_greatestEnd_6 g1_links g1_folded g1_stiff g1_lengths Q) n) x2 x3 g_lay_links g_lay_low g_lay_high g_lay_places := h
    unfold B_X0_greatestEnd_6 at h
    refine lv_iload_n hx hb dX0_greatestEnd_6 rfl (lv_at hl 3 rfl) ?_
    refine lv_aload_n hx hb dX0_greatestEnd_7 rfl (lv_at hl 1 rfl) ?_
    have hp : Pt (w_X0_greatestEnd Y q1 q1_lengths q q_lay q_measured q_lay_places g1_links g1_folded g1_stiff g_lay_links g_lay_low g_lay_high g1_lengths g_lay_places) (w_X5_foldLimit Y q1 q1_lengths g1_links g1_folded g1_stiff) [0] := ⟨rfl, by decide +kernel⟩
    refine go_i hp hP hD hS hA (fun _ => rfl) (va_runV (As := []) (rest := [.int x3]) ⟨hx, hb, hml, hown, hts⟩ (c_X5_foldLimit h _) (cwV 0 hts gX0_greatestEnd_X5_foldLimit rfl rfl rfl (by decide +kernel) ⟨Nat.le_of_ble_eq_true rfl, Nat.le_of_ble_eq_true rfl⟩) (pre_V (b := q1) (q0 := 0) (ci := 5) (q := (RX5, TX5, 4)) hp hK hN hP hD rfl rfl) rfl rfl hl.1 rfl (lv_room (Nat.le_of_ble_eq_true rfl)) dX0_greatestEnd_8 ⟨Nat.le_of_ble_eq_true rfl, Nat.le_of_ble_eq_true rfl⟩) (fun r11 u H locs h hP hD hS => ?_)
    try dsimp only at h
    have hP : va_P D vwCl (w_X0_greatestEnd Y q1 q1_lengths q q_lay q_measured q_lay_places g1_links g1_folded g1_stiff g_lay_links g_lay_low g_lay_high g1_lengths g_lay_places) H := hP
    have hD : va_D A (w_X0_greatestEnd Y q1 q1_lengths q q_lay q_measured q_lay_places g1_links g1_folded g1_stiff g_lay_links g_lay_low g_lay_high g1_lengths g_lay_places) := hD
    refine lv_icmp_ge (tgt := 49) hx hb dX0_greatestEnd_11 (by decide) (fun c12 => ?_) (fun c12 => ?_)
    · have h := h.1 c12
      refine lv_iload_n hx hb dX0_greatestEnd_49 rfl (lv_at hl 2 rfl) ?_
      exact ret_i (g_lay_links, g_lay_low, g_lay_high, g_lay_places) hx hb hr hlocks hK hP hD hS h dX0_greatestEnd_50
    · have h := h.2 c12
      refine lv_aload_n hx hb dX0_greatestEnd_14 rfl (lv_at hl 1 rfl) ?_
      refine lv_iload_n hx hb dX0_greatestEnd_15 rfl (lv_at hl 3 rfl) ?_
      have hp : Pt (w_X0_greatestEnd Y q1 q1_lengths q q_lay q_measured q_lay_places g1_links g1_folded g1_stiff g_lay_links g_lay_low g_lay_high g1_lengths g_lay_places) (w_X5_isFold Y q1 q1_lengths g1_links g1_folded g1_stiff) [0] := ⟨rfl, by decide +kernel⟩
      refine go_i hp hP hD hS hA (fun _ => rfl) (va_runV (As := [.int x3]) (rest := []) ⟨hx, hb, hml, hown, hts⟩ (c_X5_isFold h _) (cwV 1 hts gX0_greatestEnd_X5_isFold rfl rfl rfl (by decide +kernel) ⟨Nat.le_of_ble_eq_true rfl, Nat.le_of_ble_eq_true rfl⟩) (pre_V (b := q1) (q0 := 0) (ci := 5) (q := (RX5, TX5, 4)) hp hK hN hP hD rfl rfl) rfl rfl hl.1 rfl (lv_room (Nat.le_of_ble_eq_true rfl)) dX0_greatestEnd_16 ⟨Nat.le_of_ble_eq_true rfl, Nat.le_of_ble_eq_true rfl⟩) (fun r13 u H locs h hP hD hS => ?_)
      try dsimp only at h
      have hP : va_P D vwCl (w_X0_greatestEnd Y q1 q1_lengths q q_lay q_measured q_lay_places g1_links g1_folded g1_stiff g_lay_links g_lay_low g_lay_high g1_lengths g_lay_places) H := hP
      have hD : va_D A (w_X0_greatestEnd Y q1 q1_lengths q q_lay q_measured q_lay_places g1_links g1_folded g1_stiff g_lay_links g_lay_low g_lay_high g1_lengths g_lay_places) := hD
      refine lv_if_eq (tgt := 43) hx hb dX0_greatestEnd_19 (by decide) (fun c14 => ?_) (fun c14 => ?_)
      · have h := h.1 c14
        obtain ⟨z15, ez15⟩ : ∃ y : Int32, y = (x3 + (1 : Int32)) := ⟨_, rfl⟩
        have h := h z15 ez15
        refine lv_iinc (v := z15) (lv' := [(3, .int z15), (0, .ref q), (1, .ref q1), (2, .int x2)]) hx hb dX0_greatestEnd_43 hl (k := 3) rfl (by rw [ez15]; rfl) (by decide) rfl (fun ls hl => ?_)
        refine lv_goto (tgt := 6) hx hb dX0_greatestEnd_46 (by decide) ?_
        exact ih _ _ _ _ _ _ h _ _ _ hP hD hS (lv_sub hl [1, 2, 3, 0] rfl)
      · have h := h.2 c14
        refine lv_aload_n hx hb dX0_greatestEnd_22 rfl (lv_at hl 0 rfl) ?_
        refine va_get (D := D) (ci := 0) (v := .ref q_lay) (C := RX0) (T := TX0) (N := 2) hx hb hts in_X0_greatestEnd_X0 hown hK hP 1 rfl rfl 0 (by decide) (k_X0_greatestEnd_f12 hts) (fun _ h9 => h9) rfl dX0_greatestEnd_23 ?_
        refine lv_aload_n hx hb dX0_greatestEnd_26 rfl (lv_at hl 1 rfl) ?_
        refine lv_iload_n hx hb dX0_greatestEnd_27 rfl (lv_at hl 3 rfl) ?_
        have hp : Pt (w_X0_greatestEnd Y q1 q1_lengths q q_lay q_measured q_lay_places g1_links g1_folded g1_stiff g_lay_links g_lay_low g_lay_high g1_lengths g_lay_places) (w_X2_layOut Y q1 q1_lengths q_lay q_lay_places g1_links g1_folded g1_stiff g_lay_links g_lay_low g_lay_high g1_lengths g_lay_places) [0, 2, 3, 4] := ⟨rfl, by decide +kernel⟩
        refine go_v hp hP hD hS hA (fun _ => rfl) (va_runV (As := [.ref q1, .int x3]) (rest := []) ⟨hx, hb, hml, hown, hts⟩ (c_X2_layOut h _) (cwV 2 hts gX0_greatestEnd_X2_layOut rfl rfl rfl (by decide +kernel) ⟨Nat.le_of_ble_eq_true rfl, Nat.le_of_ble_eq_true rfl⟩) (pre_V (b := q_lay) (q0 := 1) (ci := 2) (q := (RX2, TX2, 4)) hp hK hN hP hD rfl rfl) rfl rfl hl.1 rfl (lv_room (Nat.le_of_ble_eq_true rfl)) dX0_greatestEnd_28 ⟨Nat.le_of_ble_eq_true rfl, Nat.le_of_ble_eq_true rfl⟩) (fun u H locs h hP hD hS => ?_)
        obtain ⟨u17, u18, u19, u20⟩ := u
        try dsimp only at h
        have hP : va_P D vwCl (w_X0_greatestEnd Y q1 q1_lengths q q_lay q_measured q_lay_places g1_links g1_folded g1_stiff u17 u18 u19 g1_lengths u20) H := hP
        have hD : va_D A (w_X0_greatestEnd Y q1 q1_lengths q q_lay q_measured q_lay_places g1_links g1_folded g1_stiff u17 u18 u19 g1_lengths u20) := hD
        refine lv_iload_n hx hb dX0_greatestEnd_31 rfl (lv_at hl 2 rfl) ?_
        refine lv_aload_n hx hb dX0_greatestEnd_32 rfl (lv_at hl 0 rfl) ?_
        refine va_get (D := D) (ci := 0) (v := .ref q_lay) (C := RX0) (T := TX0) (N := 2) hx hb hts in_X0_greatestEnd_X0 hown hK hP 1 rfl rfl 0 (by decide) (k_X0_greatestEnd_f12 hts) (fun _ h9 => h9) rfl dX0_greatestEnd_33 ?_
        have hp : Pt (w_X0_greatestEnd Y q1 q1_lengths q q_lay q_measured q_lay_places g1_links g1_folded g1_stiff u17 u18 u19 g1_lengths u20) (w_X2_lastPlace Y q_lay q_lay_places u17 u18 u19 u20) [2, 4] := ⟨rfl, by decide +kernel⟩
        refine go_i hp hP hD hS hA (fun _ => rfl) (va_runV (As := []) (rest := [.int x2]) ⟨hx, hb, hml, hown, hts⟩ (c_X2_lastPlace h _) (cwV 0 hts gX0_greatestEnd_X2_lastPlace rfl rfl rfl (by decide +kernel) ⟨Nat.le_of_ble_eq_true rfl, Nat.le_of_ble_eq_true rfl⟩) (pre_V (b := q_lay) (q0 := 0) (ci := 2) (q := (RX2, TX2, 4)) hp hK hN hP hD rfl rfl) rfl rfl hl.1 rfl (lv_room (Nat.le_of_ble_eq_true rfl)) dX0_greatestEnd_36 ⟨Nat.le_of_ble_eq_true rfl, Nat.le_of_ble_eq_true rfl⟩) (fun r21 u H locs h hP hD hS => ?_)
        try dsimp only at h
        have hP : va_P D vwCl (w_X0_greatestEnd Y q1 q1_lengths q q_lay q_measured q_lay_places g1_links g1_folded g1_stiff u17 u18 u19 g1_lengths u20) H := hP
        have hD : va_D A (w_X0_greatestEnd Y q1 q1_lengths q q_lay q_measured q_lay_places g1_links g1_folded g1_stiff u17 u18 u19 g1_lengths u20) := hD
        refine va_mmax hx hb (hml.trans hl.1.symm) hown (k_X0_greatestEnd_m46 hts) (k_X0_greatestEnd_smax hts) (k_X0_greatestEnd_imath hts) (k_X0_greatestEnd_bmax hts) (Nat.le_of_ble_eq_true rfl) (Nat.le_of_ble_eq_true rfl) (Nat.le_of_ble_eq_true rfl) (Nat.le_of_ble_eq_true rfl) dX0_greatestEnd_39 ?_
        refine lv_topi (fun z22 ez22 => ?_)
        have h := h z22 ez22
        refine lv_istore_n (lv' := [(2, .int z22), (0, .ref q), (1, .ref q1), (3, .int x3)]) hx hb dX0_greatestEnd_42 rfl hl (by decide) rfl (fun ls hl => ?_)
        obtain ⟨z23, ez23⟩ : ∃ y : Int32, y = (x3 + (1 : Int32)) := ⟨_, rfl⟩
        have h := h z23 ez23
        refine lv_iinc (v := z23) (lv' := [(3, .int z23), (2, .int z22), (0, .ref q), (1, .ref q1)]) hx hb dX0_greatestEnd_43 hl (k := 3) rfl (by rw [ez23]; rfl) (by decide) rfl (fun ls hl => ?_)
        refine lv_goto (tgt := 6) hx hb dX0_greatestEnd_46 (by decide) ?_
        exact ih _ _ _ _ _ _ h _ _ _ hP hD hS (lv_sub hl [2, 3, 1, 0] rfl)
set_option maxHeartbeats 4000000 in
set_option maxRecDepth 100000 in
theorem c_X0_greatestEnd {l : Launch} {D : va_G} {Y : ClassId × ClassId × ClassId} {q1 q1_lengths q q_lay q_measured q_lay_places : Nat} {g1_links g1_folded g1_stiff g_lay_links g_lay_low g_lay_high : Int32} {g1_lengths g_lay_places : Nat → Int32} {Q : Int32 → Int32 → Int32 → Int32 → (Nat → Int32) → Prop} (h : wp_X0_greatestEnd g1_links g1_folded g1_stiff g_lay_links g_lay_low g_lay_high g1_lengths g_lay_places Q) (sz : Nat) : MtI l yX0_greatestEnd wsX0_greatestEnd rm_X0_greatestEnd [.ref q, .ref q1] D Y (w_X0_greatestEnd Y q1 q1_lengths q q_lay q_measured q_lay_places g1_links g1_folded g1_stiff g_lay_links g_lay_low g_lay_high g1_lengths g_lay_places) (fun r (u : Int32 × Int32 × Int32 × (Nat → Int32)) => Q r u.1 u.2.1 u.2.2.1 u.2.2.2) (fun u : Int32 × Int32 × Int32 × (Nat → Int32) => (w_X0_greatestEnd Y q1 q1_lengths q q_lay q_measured q_lay_places g1_links g1_folded g1_stiff u.1 u.2.1 u.2.2.1 g1_lengths u.2.2.2)) sz := by
  refine ct_i (cc := cX0_greatestEnd) (nL := 4) (ret := (some .int)) (by decide) rfl (Nat.le_of_ble_eq_true rfl) ?_ sz
  intro p e s m below meth c A ls C hK hA hP hD hS hl
  obtain ⟨⟨hx, hb, hml, hown, hts⟩, hr, hlocks, hN⟩ := id C
  have hown : s.vm.findClass RX0 = some m.cls := hown
  have hl : lv_has ls 4 [(0, .ref q), (1, .ref q1)] := hl
  unfold wp_X0_greatestEnd at h
  refine lv_sipush (v := (-180)) hx hb dX0_greatestEnd_0 (by decide) ?_
  refine lv_istore_n (lv' := [(2, .int (-180 : Int32)), (0, .ref q), (1, .ref q1)]) hx hb dX0_greatestEnd_3 rfl hl (by decide) rfl (fun ls hl => ?_)
  refine lv_iconst (v := 0) hx hb dX0_greatestEnd_4 (by decide) ?_
  refine lv_istore_n (lv' := [(3, .int (0 : Int32)), (2, .int (-180 : Int32)), (0, .ref q), (1, .ref q1)]) hx hb dX0_greatestEnd_5 rfl hl (by decide) rfl (fun ls hl => ?_)
  obtain ⟨n, h⟩ := h
  exact L_X0_greatestEnd_6 C hK hA  n _ _ _ _ _ _ h _ _ _ hP hD hS (lv_sub hl [2, 3, 1, 0] rfl)
abbrev rm_X0_goesInto : Room := { frames := 3, cells := 0, slots := 0, locals := 71 }
theorem in_X0_goesInto_X0 : ∀ w ∈ wsX00, w ∈ wsX0_goesInto := fun _ h => List.mem_cons_of_mem _ (List.mem_append_left _ (List.mem_append_left _ (List.mem_append_right _ h)))
theorem k_X0_goesInto_f12 {s : State} {args : Array Value} (hts : ∀ w ∈ wsX0_goesInto, w.before args s = true) : (Cond.fieldLink RX0 12 "FoldRule$Folds" "lay" "LFoldRule$Lay;").before args s = true := hts _ (by decide +kernel)
set_option maxHeartbeats 4000000 in
set_option maxRecDepth 100000 in
theorem c_X0_goesInto {l : Launch} {D : va_G} {Y : ClassId × ClassId × ClassId} {q q_lay q_measured q1 q1_lengths q_lay_places : Nat} {g1_links g1_folded g1_stiff g_lay_links g_lay_low g_lay_high : Int32} {g1_lengths g_lay_places : Nat → Int32} {x2 x3 : Int32} {Q : Int32 → Int32 → Int32 → Int32 → (Nat → Int32) → Prop} (h : wp_X0_goesInto g1_links g_lay_links g_lay_low g_lay_high g1_lengths g_lay_places x2 x3 Q) (sz : Nat) : MtI l yX0_goesInto wsX0_goesInto rm_X0_goesInto [.ref q, .ref q1, .int x2, .int x3] D Y (w_X0_goesInto Y q q_lay q_measured q1 q1_lengths q_lay_places g1_links g1_folded g1_stiff g_lay_links g_lay_low g_lay_high g1_lengths g_lay_places) (fun r (u : Int32 × Int32 × Int32 × (Nat → Int32)) => Q r u.1 u.2.1 u.2.2.1 u.2.2.2) (fun u : Int32 × Int32 × Int32 × (Nat → Int32) => (w_X0_goesInto Y q q_lay q_measured q1 q1_lengths q_lay_places g1_links g1_folded g1_stiff u.1 u.2.1 u.2.2.1 g1_lengths u.2.2.2)) sz := by
  refine ct_i (cc := cX0_goesInto) (nL := 4) (ret := (some .boolean)) (by decide) rfl (Nat.le_of_ble_eq_true rfl) ?_ sz
  intro p e s m below meth c A ls C hK hA hP hD hS hl
  obtain ⟨⟨hx, hb, hml, hown, hts⟩, hr, hlocks, hN⟩ := id C
  have hown : s.vm.findClass RX0 = some m.cls := hown
  have hl : lv_has ls 4 [(0, .ref q), (1, .ref q1), (2, .int x2), (3, .int x3)] := hl
  unfold wp_X0_goesInto at h
  refine lv_aload_n hx hb dX0_goesInto_0 rfl (lv_at hl 0 rfl) ?_
  refine va_get (D := D) (ci := 0) (v := .ref q_lay) (C := RX0) (T := TX0) (N := 2) hx hb hts in_X0_goesInto_X0 hown hK hP 0 rfl rfl 0 (by decide) (k_X0_goesInto_f12 hts) (fun _ h9 => h9) rfl dX0_goesInto_1 ?_
  refine lv_aload_n hx hb dX0_goesInto_4 rfl (lv_at hl 1 rfl) ?_
  refine lv_iload_n hx hb dX0_goesInto_5 rfl (lv_at hl 2 rfl) ?_
  have hp : Pt (w_X0_goesInto Y q q_lay q_measured q1 q1_lengths q_lay_places g1_links g1_folded g1_stiff g_lay_links g_lay_low g_lay_high g1_lengths g_lay_places) (w_X2_layOut Y q1 q1_lengths q_lay q_lay_places g1_links g1_folded g1_stiff g_lay_links g_lay_low g_lay_high g1_lengths g_lay_places) [1, 2, 3, 4] := ⟨rfl, by decide +kernel⟩
  refine go_v hp hP hD hS hA (fun _ => rfl) (va_runV (As := [.ref q1, .int x2]) (rest := []) ⟨hx, hb, hml, hown, hts⟩ (c_X2_layOut h _) (cwV 2 hts gX0_goesInto_X2_layOut rfl rfl rfl (by decide +kernel) ⟨Nat.le_of_ble_eq_true rfl, Nat.le_of_ble_eq_true rfl⟩) (pre_V (b := q_lay) (q0 := 1) (ci := 2) (q := (RX2, TX2, 4)) hp hK hN hP hD rfl rfl) rfl rfl hl.1 rfl (lv_room (Nat.le_of_ble_eq_true rfl)) dX0_goesInto_6 ⟨Nat.le_of_ble_eq_true rfl, Nat.le_of_ble_eq_true rfl⟩) (fun u H locs h hP hD hS => ?_)
  obtain ⟨u7, u8, u9, u10⟩ := u
  try dsimp only at h
  have hP : va_P D vwCl (w_X0_goesInto Y q q_lay q_measured q1 q1_lengths q_lay_places g1_links g1_folded g1_stiff u7 u8 u9 g1_lengths u10) H := hP
  have hD : va_D A (w_X0_goesInto Y q q_lay q_measured q1 q1_lengths q_lay_places g1_links g1_folded g1_stiff u7 u8 u9 g1_lengths u10) := hD
  refine lv_aload_n hx hb dX0_goesInto_9 rfl (lv_at hl 0 rfl) ?_
  refine va_get (D := D) (ci := 0) (v := .ref q_lay) (C := RX0) (T := TX0) (N := 2) hx hb hts in_X0_goesInto_X0 hown hK hP 0 rfl rfl 0 (by decide) (k_X0_goesInto_f12 hts) (fun _ h9 => h9) rfl dX0_goesInto_10 ?_
  have hp : Pt (w_X0_goesInto Y q q_lay q_measured q1 q1_lengths q_lay_places g1_links g1_folded g1_stiff u7 u8 u9 g1_lengths u10) (w_X2_span Y q_lay q_lay_places u7 u8 u9) [2] := ⟨rfl, by decide +kernel⟩
  refine go_i hp hP hD hS hA (fun _ => rfl) (va_runV (As := []) (rest := []) ⟨hx, hb, hml, hown, hts⟩ (c_X2_span h _) (cwV 0 hts gX0_goesInto_X2_span rfl rfl rfl (by decide +kernel) ⟨Nat.le_of_ble_eq_true rfl, Nat.le_of_ble_eq_true rfl⟩) (pre_V (b := q_lay) (q0 := 0) (ci := 2) (q := (RX2, TX2, 4)) hp hK hN hP hD rfl rfl) rfl rfl hl.1 rfl (lv_room (Nat.le_of_ble_eq_true rfl)) dX0_goesInto_13 ⟨Nat.le_of_ble_eq_true rfl, Nat.le_of_ble_eq_true rfl⟩) (fun r11 u H locs h hP hD hS => ?_)
  try dsimp only at h
  have hP : va_P D vwCl (w_X0_goesInto Y q q_lay q_measured q1 q1_lengths q_lay_places g1_links g1_folded g1_stiff u7 u8 u9 g1_lengths u10) H := hP
  have hD : va_D A (w_X0_goesInto Y q q_lay q_measured q1 q1_lengths q_lay_places g1_links g1_folded g1_stiff u7 u8 u9 g1_lengths u10) := hD
  refine lv_iload_n hx hb dX0_goesInto_16 rfl (lv_at hl 3 rfl) ?_
  refine lv_icmp_gt (tgt := 24) hx hb dX0_goesInto_17 (by decide) (fun c12 => ?_) (fun c12 => ?_)
  · have h := h.1 c12
    refine lv_iconst (v := 0) hx hb dX0_goesInto_24 (by decide) ?_
    exact ret_z (u7, u8, u9, u10) hx hb hr hlocks hK hP hD hS (Or.inl rfl) h dX0_goesInto_25
  · have h := h.2 c12
    refine lv_iconst (v := 1) hx hb dX0_goesInto_20 (by decide) ?_
    refine lv_goto (tgt := 25) hx hb dX0_goesInto_21 (by decide) ?_
    exact ret_z (u7, u8, u9, u10) hx hb hr hlocks hK hP hD hS (Or.inr rfl) h dX0_goesInto_25
abbrev rm_X0_endsAt : Room := { frames := 3, cells := 0, slots := 0, locals := 71 }
theorem in_X0_endsAt_X0 : ∀ w ∈ wsX00, w ∈ wsX0_endsAt := fun _ h => List.mem_cons_of_mem _ (List.mem_append_left _ (List.mem_append_left _ (List.mem_append_right _ h)))
theorem k_X0_endsAt_f12 {s : State} {args : Array Value} (hts : ∀ w ∈ wsX0_endsAt, w.before args s = true) : (Cond.fieldLink RX0 12 "FoldRule$Folds" "lay" "LFoldRule$Lay;").before args s = true := hts _ (by decide +kernel)
set_option maxHeartbeats 4000000 in
set_option maxRecDepth 100000 in
theorem c_X0_endsAt {l : Launch} {D : va_G} {Y : ClassId × ClassId × ClassId} {q q_lay q_measured q1 q1_lengths q_lay_places : Nat} {g1_links g1_folded g1_stiff g_lay_links g_lay_low g_lay_high : Int32} {g1_lengths g_lay_places : Nat → Int32} {x2 x3 : Int32} {Q : Int32 → Int32 → Int32 → Int32 → (Nat → Int32) → Prop} (h : wp_X0_endsAt g1_links g_lay_links g_lay_low g_lay_high g1_lengths g_lay_places x2 x3 Q) (sz : Nat) : MtI l yX0_endsAt wsX0_endsAt rm_X0_endsAt [.ref q, .ref q1, .int x2, .int x3] D Y (w_X0_endsAt Y q q_lay q_measured q1 q1_lengths q_lay_places g1_links g1_folded g1_stiff g_lay_links g_lay_low g_lay_high g1_lengths g_lay_places) (fun r (u : Int32 × Int32 × Int32 × (Nat → Int32)) => Q r u.1 u.2.1 u.2.2.1 u.2.2.2) (fun u : Int32 × Int32 × Int32 × (Nat → Int32) => (w_X0_endsAt Y q q_lay q_measured q1 q1_lengths q_lay_places g1_links g1_folded g1_stiff u.1 u.2.1 u.2.2.1 g1_lengths u.2.2.2)) sz := by
  refine ct_i (cc := cX0_endsAt) (nL := 4) (ret := (some .boolean)) (by decide) rfl (Nat.le_of_ble_eq_true rfl) ?_ sz
  intro p e s m below meth c A ls C hK hA hP hD hS hl
  obtain ⟨⟨hx, hb, hml, hown, hts⟩, hr, hlocks, hN⟩ := id C
  have hown : s.vm.findClass RX0 = some m.cls := hown
  have hl : lv_has ls 4 [(0, .ref q), (1, .ref q1), (2, .int x2), (3, .int x3)] := hl
  unfold wp_X0_endsAt at h
  refine lv_aload_n hx hb dX0_endsAt_0 rfl (lv_at hl 0 rfl) ?_
  refine va_get (D := D) (ci := 0) (v := .ref q_lay) (C := RX0) (T := TX0) (N := 2) hx hb hts in_X0_endsAt_X0 hown hK hP 0 rfl rfl 0 (by decide) (k_X0_endsAt_f12 hts) (fun _ h9 => h9) rfl dX0_endsAt_1 ?_
  refine lv_aload_n hx hb dX0_endsAt_4 rfl (lv_at hl 1 rfl) ?_
  refine lv_iload_n hx hb dX0_endsAt_5 rfl (lv_at hl 2 rfl) ?_
  have hp : Pt (w_X0_endsAt Y q q_lay q_measured q1 q1_lengths q_lay_places g1_links g1_folded g1_stiff g_lay_links g_lay_low g_lay_high g1_lengths g_lay_places) (w_X2_layOut Y q1 q1_lengths q_lay q_lay_places g1_links g1_folded g1_stiff g_lay_links g_lay_low g_lay_high g1_lengths g_lay_places) [1, 2, 3, 4] := ⟨rfl, by decide +kernel⟩
  refine go_v hp hP hD hS hA (fun _ => rfl) (va_runV (As := [.ref q1, .int x2]) (rest := []) ⟨hx, hb, hml, hown, hts⟩ (c_X2_layOut h _) (cwV 2 hts gX0_endsAt_X2_layOut rfl rfl rfl (by decide +kernel) ⟨Nat.le_of_ble_eq_true rfl, Nat.le_of_ble_eq_true rfl⟩) (pre_V (b := q_lay) (q0 := 1) (ci := 2) (q := (RX2, TX2, 4)) hp hK hN hP hD rfl rfl) rfl rfl hl.1 rfl (lv_room (Nat.le_of_ble_eq_true rfl)) dX0_endsAt_6 ⟨Nat.le_of_ble_eq_true rfl, Nat.le_of_ble_eq_true rfl⟩) (fun u H locs h hP hD hS => ?_)
  obtain ⟨u7, u8, u9, u10⟩ := u
  try dsimp only at h
  have hP : va_P D vwCl (w_X0_endsAt Y q q_lay q_measured q1 q1_lengths q_lay_places g1_links g1_folded g1_stiff u7 u8 u9 g1_lengths u10) H := hP
  have hD : va_D A (w_X0_endsAt Y q q_lay q_measured q1 q1_lengths q_lay_places g1_links g1_folded g1_stiff u7 u8 u9 g1_lengths u10) := hD
  refine lv_aload_n hx hb dX0_endsAt_9 rfl (lv_at hl 0 rfl) ?_
  refine va_get (D := D) (ci := 0) (v := .ref q_lay) (C := RX0) (T := TX0) (N := 2) hx hb hts in_X0_endsAt_X0 hown hK hP 0 rfl rfl 0 (by decide) (k_X0_endsAt_f12 hts) (fun _ h9 => h9) rfl dX0_endsAt_10 ?_
  have hp : Pt (w_X0_endsAt Y q q_lay q_measured q1 q1_lengths q_lay_places g1_links g1_folded g1_stiff u7 u8 u9 g1_lengths u10) (w_X2_lastPlace Y q_lay q_lay_places u7 u8 u9 u10) [2, 4] := ⟨rfl, by decide +kernel⟩
  refine go_i hp hP hD hS hA (fun _ => rfl) (va_runV (As := []) (rest := []) ⟨hx, hb, hml, hown, hts⟩ (c_X2_lastPlace h _) (cwV 0 hts gX0_endsAt_X2_lastPlace rfl rfl rfl (by decide +kernel) ⟨Nat.le_of_ble_eq_true rfl, Nat.le_of_ble_eq_true rfl⟩) (pre_V (b := q_lay) (q0 := 0) (ci := 2) (q := (RX2, TX2, 4)) hp hK hN hP hD rfl rfl) rfl rfl hl.1 rfl (lv_room (Nat.le_of_ble_eq_true rfl)) dX0_endsAt_13 ⟨Nat.le_of_ble_eq_true rfl, Nat.le_of_ble_eq_true rfl⟩) (fun r11 u H locs h hP hD hS => ?_)
  try dsimp only at h
  have hP : va_P D vwCl (w_X0_endsAt Y q q_lay q_measured q1 q1_lengths q_lay_places g1_links g1_folded g1_stiff u7 u8 u9 g1_lengths u10) H := hP
  have hD : va_D A (w_X0_endsAt Y q q_lay q_measured q1 q1_lengths q_lay_places g1_links g1_folded g1_stiff u7 u8 u9 g1_lengths u10) := hD
  refine lv_iload_n hx hb dX0_endsAt_16 rfl (lv_at hl 3 rfl) ?_
  refine lv_icmp_ne (tgt := 24) hx hb dX0_endsAt_17 (by decide) (fun c12 => ?_) (fun c12 => ?_)
  · have h := h.1 c12
    refine lv_iconst (v := 0) hx hb dX0_endsAt_24 (by decide) ?_
    exact ret_z (u7, u8, u9, u10) hx hb hr hlocks hK hP hD hS (Or.inl rfl) h dX0_endsAt_25
  · have h := h.2 c12
    refine lv_iconst (v := 1) hx hb dX0_endsAt_20 (by decide) ?_
    refine lv_goto (tgt := 25) hx hb dX0_endsAt_21 (by decide) ?_
    exact ret_z (u7, u8, u9, u10) hx hb hr hlocks hK hP hD hS (Or.inr rfl) h dX0_endsAt_25
abbrev rm_X0_howManyGoInto : Room := { frames := 4, cells := 0, slots := 0, locals := 94 }
set_option maxHeartbeats 4000000 in
set_option maxRecDepth 100000 in
theorem L_X0_howManyGoInto_5 {p : Program} {l : Launch} {e : Env} {s : State} {m : MethodId} {args : Array Value} {below : List Frame} {meth : Method} {c : Code} {D : va_G} {Y : ClassId × ClassId × ClassId} {A : Nat → Prop} {q1 q1_lengths q q_lay q_measured q_lay_places : Nat} {g1_links g1_folded g1_stiff : Int32} {g1_lengths : Nat → Int32} {x2 : Int32} {Q : Int32 → Int32 → Int32 → Int32 → (Nat → Int32) → Prop} (C : Ctx p s m args meth c cX0_howManyGoInto 5 (some .int) wsX0_howManyGoInto RX0) (hK : va_K D vwCl (tyS Y) s) (hA : ∀ q, s.heap.size ≤ q → A q) : ∀ (n : Nat) (x3 x4 g_lay_links g_lay_low g_lay_high : Int32) (g_lay_places : Nat → Int32), itr6 (B_X0_howManyGoInto_5 g1_links g1_folded g1_stiff g1_lengths x2 Q) n x3 x4 g_lay_links g_lay_low g_lay_high g_lay_places → ∀ (H : Heap) (locs : List Loc) (ls : Array Slot), va_P D vwCl (w_X0_howManyGoInto Y q1 q1_lengths q q_lay q_measured q_lay_places g1_links g1_folded g1_stiff g_lay_links g_lay_low g_lay_high g1_lengths g_lay_places) H → va_D A (w_X0_howManyGoInto Y q1 q1_lengths q q_lay q_measured q_lay_places g1_links g1_folded g1_stiff g_lay_links g_lay_low g_lay_high g1_lengths g_lay_places) → va_S A s.heap H locs → lv_has ls 5 [(0, .ref q), (1, .ref q1), (2, .int x2), (3, .int x3), (4, .int x4)] → W p l e rm_X0_howManyGoInto s m args below meth c H locs 0 0 (QI below args s D Y A (fun r (u : Int32 × Int32 × Int32 × (Nat → Int32)) => Q r u.1 u.2.1 u.2.2.1 u.2.2.2) (fun u : Int32 × Int32 × Int32 × (Nat → Int32) => (w_X0_howManyGoInto Y q1 q1_lengths q q_lay q_measured q_lay_places g1_links g1_folded g1_stiff u.1 u.2.1 u.2.2.1 g1_lengths u.2.2.2))) (F0 m 5 ls []) := by
  intro n
  induction n with
  | zero => intro x3 x4 g_lay_links g_lay_low g_lay_high g_lay_places h; exact False.elim h
  | succ n ih =>
    intro x3 x4 g_lay_links g_lay_low g_lay_high g_lay_places h H locs ls hP hD hS hl
    obtain ⟨⟨hx, hb, hml, hown, hts⟩, hr, hlocks, hN⟩ := id C
    have h : B_X0_howManyGoInto_5 g1_links g1_folded g1_stiff g1_lengths x2 Q (itr6 (B_X0_howManyGoInto_5 g1_links g1_folded g1_stiff g1_lengths x2 Q) n) x3 x4 g_lay_links g_lay_low g_lay_high g_lay_places := h
    unfold B_X0_howManyGoInto_5 at h
    refine lv_iload hx hb dX0_howManyGoInto_5 (lv_at hl 4 rfl) ?_
    refine lv_aload_n hx hb dX0_howManyGoInto_7 rfl (lv_at hl 1 rfl) ?_
    have hp : Pt (w_X0_howManyGoInto Y q1 q1_lengths q q_lay q_measured q_lay_places g1_links g1_folded g1_stiff g_lay_links g_lay_low g_lay_high g1_lengths g_lay_places) (w_X5_foldLimit Y q1 q1_lengths g1_links g1_folded g1_stiff) [0] := ⟨rfl, by decide +kernel⟩
    refine go_i hp hP hD hS hA (fun _ => rfl) (va_runV (As := []) (rest := [.int x4]) ⟨hx, hb, hml, hown, hts⟩ (c_X5_foldLimit h _) (cwV 0 hts gX0_howManyGoInto_X5_foldLimit rfl rfl rfl (by decide +kernel) ⟨Nat.le_of_ble_eq_true rfl, Nat.le_of_ble_eq_true rfl⟩) (pre_V (b := q1) (q0 := 0) (ci := 5) (q := (RX5, TX5, 4)) hp hK hN hP hD rfl rfl) rfl rfl hl.1 rfl (lv_room (Nat.le_of_ble_eq_true rfl)) dX0_howManyGoInto_8 ⟨Nat.le_of_ble_eq_true rfl, Nat.le_of_ble_eq_true rfl⟩) (fun r12 u H locs h hP hD hS => ?_)
    try dsimp only at h
    have hP : va_P D vwCl (w_X0_howManyGoInto Y q1 q1_lengths q q_lay q_measured q_lay_places g1_links g1_folded g1_stiff g_lay_links g_lay_low g_lay_high g1_lengths g_lay_places) H := hP
    have hD : va_D A (w_X0_howManyGoInto Y q1 q1_lengths q q_lay q_measured q_lay_places g1_links g1_folded g1_stiff g_lay_links g_lay_low g_lay_high g1_lengths g_lay_places) := hD
    refine lv_icmp_ge (tgt := 43) hx hb dX0_howManyGoInto_11 (by decide) (fun c13 => ?_) (fun c13 => ?_)
    · have h := h.1 c13
      refine lv_iload_n hx hb dX0_howManyGoInto_43 rfl (lv_at hl 3 rfl) ?_
      exact ret_i (g_lay_links, g_lay_low, g_lay_high, g_lay_places) hx hb hr hlocks hK hP hD hS h dX0_howManyGoInto_44
    · have h := h.2 c13
      refine lv_aload_n hx hb dX0_howManyGoInto_14 rfl (lv_at hl 1 rfl) ?_
      refine lv_iload hx hb dX0_howManyGoInto_15 (lv_at hl 4 rfl) ?_
      have hp : Pt (w_X0_howManyGoInto Y q1 q1_lengths q q_lay q_measured q_lay_places g1_links g1_folded g1_stiff g_lay_links g_lay_low g_lay_high g1_lengths g_lay_places) (w_X5_isFold Y q1 q1_lengths g1_links g1_folded g1_stiff) [0] := ⟨rfl, by decide +kernel⟩
      refine go_i hp hP hD hS hA (fun _ => rfl) (va_runV (As := [.int x4]) (rest := []) ⟨hx, hb, hml, hown, hts⟩ (c_X5_isFold h _) (cwV 1 hts gX0_howManyGoInto_X5_isFold rfl rfl rfl (by decide +kernel) ⟨Nat.le_of_ble_eq_true rfl, Nat.le_of_ble_eq_true rfl⟩) (pre_V (b := q1) (q0 := 0) (ci := 5) (q := (RX5, TX5, 4)) hp hK hN hP hD rfl rfl) rfl rfl hl.1 rfl (lv_room (Nat.le_of_ble_eq_true rfl)) dX0_howManyGoInto_17 ⟨Nat.le_of_ble_eq_true rfl, Nat.le_of_ble_eq_true rfl⟩) (fun r14 u H locs h hP hD hS => ?_)
      try dsimp only at h
      have hP : va_P D vwCl (w_X0_howManyGoInto Y q1 q1_lengths q q_lay q_measured q_lay_places g1_links g1_folded g1_stiff g_lay_links g_lay_low g_lay_high g1_lengths g_lay_places) H := hP
      have hD : va_D A (w_X0_howManyGoInto Y q1 q1_lengths q q_lay q_measured q_lay_places g1_links g1_folded g1_stiff g_lay_links g_lay_low g_lay_high g1_lengths g_lay_places) := hD
      refine lv_if_eq (tgt := 37) hx hb dX0_howManyGoInto_20 (by decide) (fun c15 => ?_) (fun c15 => ?_)
      · have h := h.1 c15
        obtain ⟨z16, ez16⟩ : ∃ y : Int32, y = (x4 + (1 : Int32)) := ⟨_, rfl⟩
        have h := h z16 ez16
        refine lv_iinc (v := z16) (lv' := [(4, .int z16), (0, .ref q), (1, .ref q1), (2, .int x2), (3, .int x3)]) hx hb dX0_howManyGoInto_37 hl (k := 4) rfl (by rw [ez16]; rfl) (by decide) rfl (fun ls hl => ?_)
        refine lv_goto (tgt := 5) hx hb dX0_howManyGoInto_40 (by decide) ?_
        exact ih _ _ _ _ _ _ h _ _ _ hP hD hS (lv_sub hl [1, 2, 3, 4, 0] rfl)
      · have h := h.2 c15
        refine lv_aload_n hx hb dX0_howManyGoInto_23 rfl (lv_at hl 0 rfl) ?_
        refine lv_aload_n hx hb dX0_howManyGoInto_24 rfl (lv_at hl 1 rfl) ?_
        refine lv_iload hx hb dX0_howManyGoInto_25 (lv_at hl 4 rfl) ?_
        refine lv_iload_n hx hb dX0_howManyGoInto_27 rfl (lv_at hl 2 rfl) ?_
        have hp : Pt (w_X0_howManyGoInto Y q1 q1_lengths q q_lay q_measured q_lay_places g1_links g1_folded g1_stiff g_lay_links g_lay_low g_lay_high g1_lengths g_lay_places) (w_X0_goesInto Y q q_lay q_measured q1 q1_lengths q_lay_places g1_links g1_folded g1_stiff g_lay_links g_lay_low g_lay_high g1_lengths g_lay_places) [1, 0, 2, 3, 4] := ⟨rfl, by decide +kernel⟩
        refine go_i hp hP hD hS hA (fun _ => rfl) (va_runV (As := [.ref q1, .int x4, .int x2]) (rest := []) ⟨hx, hb, hml, hown, hts⟩ (c_X0_goesInto h _) (cwV 3 hts gX0_howManyGoInto_X0_goesInto rfl rfl rfl (by decide +kernel) ⟨Nat.le_of_ble_eq_true rfl, Nat.le_of_ble_eq_true rfl⟩) (pre_V (b := q) (q0 := 0) (ci := 0) (q := (RX0, TX0, 2)) hp hK hN hP hD rfl rfl) rfl rfl hl.1 rfl (lv_room (Nat.le_of_ble_eq_true rfl)) dX0_howManyGoInto_28 ⟨Nat.le_of_ble_eq_true rfl, Nat.le_of_ble_eq_true rfl⟩) (fun r17 u H locs h hP hD hS => ?_)
        obtain ⟨u18, u19, u20, u21⟩ := u
        try dsimp only at h
        have hP : va_P D vwCl (w_X0_howManyGoInto Y q1 q1_lengths q q_lay q_measured q_lay_places g1_links g1_folded g1_stiff u18 u19 u20 g1_lengths u21) H := hP
        have hD : va_D A (w_X0_howManyGoInto Y q1 q1_lengths q q_lay q_measured q_lay_places g1_links g1_folded g1_stiff u18 u19 u20 g1_lengths u21) := hD
        refine lv_if_eq (tgt := 37) hx hb dX0_howManyGoInto_31 (by decide) (fun c22 => ?_) (fun c22 => ?_)
        · have h := h.1 c22
          obtain ⟨z23, ez23⟩ : ∃ y : Int32, y = (x4 + (1 : Int32)) := ⟨_, rfl⟩
          have h := h z23 ez23
          refine lv_iinc (v := z23) (lv' := [(4, .int z23), (0, .ref q), (1, .ref q1), (2, .int x2), (3, .int x3)]) hx hb dX0_howManyGoInto_37 hl (k := 4) rfl (by rw [ez23]; rfl) (by decide) rfl (fun ls hl => ?_)
          refine lv_goto (tgt := 5) hx hb dX0_howManyGoInto_40 (by decide) ?_
          exact ih _ _ _ _ _ _ h _ _ _ hP hD hS (lv_sub hl [1, 2, 3, 4, 0] rfl)
        · have h := h.2 c22
          obtain ⟨z24, ez24⟩ : ∃ y : Int32, y = (x3 + (1 : Int32)) := ⟨_, rfl⟩
          have h := h z24 ez24
          refine lv_iinc (v := z24) (lv' := [(3, .int z24), (0, .ref q), (1, .ref q1), (2, .int x2), (4, .int x4)]) hx hb dX0_howManyGoInto_34 hl (k := 3) rfl (by rw [ez24]; rfl) (by decide) rfl (fun ls hl => ?_)
          obtain ⟨z25, ez25⟩ : ∃ y : Int32, y = (x4 + (1 : Int32)) := ⟨_, rfl⟩
          have h := h z25 ez25
          refine lv_iinc (v := z25) (lv' := [(4, .int z25), (3, .int z24), (0, .ref q), (1, .ref q1), (2, .int x2)]) hx hb dX0_howManyGoInto_37 hl (k := 4) rfl (by rw [ez25]; rfl) (by decide) rfl (fun ls hl => ?_)
          refine lv_goto (tgt := 5) hx hb dX0_howManyGoInto_40 (by decide) ?_
          exact ih _ _ _ _ _ _ h _ _ _ hP hD hS (lv_sub hl [2, 3, 4, 1, 0] rfl)
set_option maxHeartbeats 4000000 in
set_option maxRecDepth 100000 in
theorem c_X0_howManyGoInto {l : Launch} {D : va_G} {Y : ClassId × ClassId × ClassId} {q1 q1_lengths q q_lay q_measured q_lay_places : Nat} {g1_links g1_folded g1_stiff g_lay_links g_lay_low g_lay_high : Int32} {g1_lengths g_lay_places : Nat → Int32} {x2 : Int32} {Q : Int32 → Int32 → Int32 → Int32 → (Nat → Int32) → Prop} (h : wp_X0_howManyGoInto g1_links g1_folded g1_stiff g_lay_links g_lay_low g_lay_high g1_lengths g_lay_places x2 Q) (sz : Nat) : MtI l yX0_howManyGoInto wsX0_howManyGoInto rm_X0_howManyGoInto [.ref q, .ref q1, .int x2] D Y (w_X0_howManyGoInto Y q1 q1_lengths q q_lay q_measured q_lay_places g1_links g1_folded g1_stiff g_lay_links g_lay_low g_lay_high g1_lengths g_lay_places) (fun r (u : Int32 × Int32 × Int32 × (Nat → Int32)) => Q r u.1 u.2.1 u.2.2.1 u.2.2.2) (fun u : Int32 × Int32 × Int32 × (Nat → Int32) => (w_X0_howManyGoInto Y q1 q1_lengths q q_lay q_measured q_lay_places g1_links g1_folded g1_stiff u.1 u.2.1 u.2.2.1 g1_lengths u.2.2.2)) sz := by
  refine ct_i (cc := cX0_howManyGoInto) (nL := 5) (ret := (some .int)) (by decide) rfl (Nat.le_of_ble_eq_true rfl) ?_ sz
  intro p e s m below meth c A ls C hK hA hP hD hS hl
  obtain ⟨⟨hx, hb, hml, hown, hts⟩, hr, hlocks, hN⟩ := id C
  have hown : s.vm.findClass RX0 = some m.cls := hown
  have hl : lv_has ls 5 [(0, .ref q), (1, .ref q1), (2, .int x2)] := hl
  unfold wp_X0_howManyGoInto at h
  refine lv_iconst (v := 0) hx hb dX0_howManyGoInto_0 (by decide) ?_
  refine lv_istore_n (lv' := [(3, .int (0 : Int32)), (0, .ref q), (1, .ref q1), (2, .int x2)]) hx hb dX0_howManyGoInto_1 rfl hl (by decide) rfl (fun ls hl => ?_)
  refine lv_iconst (v := 0) hx hb dX0_howManyGoInto_2 (by decide) ?_
  refine lv_istore (lv' := [(4, .int (0 : Int32)), (3, .int (0 : Int32)), (0, .ref q), (1, .ref q1), (2, .int x2)]) hx hb dX0_howManyGoInto_3 hl (by decide) rfl (fun ls hl => ?_)
  obtain ⟨n, h⟩ := h
  exact L_X0_howManyGoInto_5 C hK hA  n _ _ _ _ _ _ h _ _ _ hP hD hS (lv_sub hl [2, 3, 4, 1, 0] rfl)
abbrev rm_J6_bitCount_0f7a4 : Room := { frames := 0, cells := 0, slots := 0, locals := 0 }
theorem k_J6_bitCount_0f7a4_c265 {s : State} {args : Array Value} (hts : ∀ w ∈ wsJ6_bitCount_0f7a4, w.before args s = true) : (Cond.constant RJ6 265 (1431655765)).before args s = true := hts _ (by decide +kernel)
theorem k_J6_bitCount_0f7a4_c266 {s : State} {args : Array Value} (hts : ∀ w ∈ wsJ6_bitCount_0f7a4, w.before args s = true) : (Cond.constant RJ6 266 (858993459)).before args s = true := hts _ (by decide +kernel)
theorem k_J6_bitCount_0f7a4_c267 {s : State} {args : Array Value} (hts : ∀ w ∈ wsJ6_bitCount_0f7a4, w.before args s = true) : (Cond.constant RJ6 267 (252645135)).before args s = true := hts _ (by decide +kernel)
set_option maxHeartbeats 4000000 in
set_option maxRecDepth 100000 in
theorem c_J6_bitCount_0f7a4 {l : Launch} {D : va_G} {Y : ClassId × ClassId × ClassId} {x0 : Int32} {Q : Int32 → Prop} (h : wp_J6_bitCount_0f7a4 x0 Q) (sz : Nat) : MtI l yJ6_bitCount_0f7a4 wsJ6_bitCount_0f7a4 rm_J6_bitCount_0f7a4 [.int x0] D Y (w_J6_bitCount_0f7a4 Y ) (fun r (_ : Unit) => Q r) (fun _ : Unit => (w_J6_bitCount_0f7a4 Y )) sz := by
  refine ct_i (cc := cJ6_bitCount_0f7a4) (nL := 1) (ret := (some .int)) (by decide) rfl (Nat.le_of_ble_eq_true rfl) ?_ sz
  intro p e s m below meth c A ls C hK hA hP hD hS hl
  obtain ⟨⟨hx, hb, hml, hown, hts⟩, hr, hlocks, hN⟩ := id C
  have hown : s.vm.findClass RJ6 = some m.cls := hown
  have hl : lv_has ls 1 [(0, .int x0)] := hl
  unfold wp_J6_bitCount_0f7a4 at h
  refine lv_iload_n hx hb dJ6_bitCount_0f7a4_0 rfl (lv_at hl 0 rfl) ?_
  refine lv_iload_n hx hb dJ6_bitCount_0f7a4_1 rfl (lv_at hl 0 rfl) ?_
  refine lv_iconst (v := 1) hx hb dJ6_bitCount_0f7a4_2 (by decide) ?_
  refine lv_iushr hx hb dJ6_bitCount_0f7a4_3 rfl ?_
  refine lv_ldcw hx hb hown (k_J6_bitCount_0f7a4_c265 hts) dJ6_bitCount_0f7a4_4 ?_
  refine lv_iand hx hb dJ6_bitCount_0f7a4_7 ?_
  refine lv_isub hx hb dJ6_bitCount_0f7a4_8 ?_
  refine lv_topi (fun z6 ez6 => ?_)
  have h := h z6 ez6
  refine lv_istore_n (lv' := [(0, .int z6)]) hx hb dJ6_bitCount_0f7a4_9 rfl hl (by decide) rfl (fun ls hl => ?_)
  refine lv_iload_n hx hb dJ6_bitCount_0f7a4_10 rfl (lv_at hl 0 rfl) ?_
  refine lv_ldcw hx hb hown (k_J6_bitCount_0f7a4_c266 hts) dJ6_bitCount_0f7a4_11 ?_
  refine lv_iand hx hb dJ6_bitCount_0f7a4_14 ?_
  refine lv_iload_n hx hb dJ6_bitCount_0f7a4_15 rfl (lv_at hl 0 rfl) ?_
  refine lv_iconst (v := 2) hx hb dJ6_bitCount_0f7a4_16 (by decide) ?_
  refine lv_iushr hx hb dJ6_bitCount_0f7a4_17 rfl ?_
  refine lv_ldcw hx hb hown (k_J6_bitCount_0f7a4_c266 hts) dJ6_bitCount_0f7a4_18 ?_
  refine lv_iand hx hb dJ6_bitCount_0f7a4_21 ?_
  refine lv_iadd hx hb dJ6_bitCount_0f7a4_22 ?_
  refine lv_topi (fun z7 ez7 => ?_)
  have h := h z7 ez7
  refine lv_istore_n (lv' := [(0, .int z7)]) hx hb dJ6_bitCount_0f7a4_23 rfl hl (by decide) rfl (fun ls hl => ?_)
  refine lv_iload_n hx hb dJ6_bitCount_0f7a4_24 rfl (lv_at hl 0 rfl) ?_
  refine lv_iload_n hx hb dJ6_bitCount_0f7a4_25 rfl (lv_at hl 0 rfl) ?_
  refine lv_iconst (v := 4) hx hb dJ6_bitCount_0f7a4_26 (by decide) ?_
  refine lv_iushr hx hb dJ6_bitCount_0f7a4_27 rfl ?_
  refine lv_iadd hx hb dJ6_bitCount_0f7a4_28 ?_
  refine lv_ldcw hx hb hown (k_J6_bitCount_0f7a4_c267 hts) dJ6_bitCount_0f7a4_29 ?_
  refine lv_iand hx hb dJ6_bitCount_0f7a4_32 ?_
  refine lv_topi (fun z8 ez8 => ?_)
  have h := h z8 ez8
  refine lv_istore_n (lv' := [(0, .int z8)]) hx hb dJ6_bitCount_0f7a4_33 rfl hl (by decide) rfl (fun ls hl => ?_)
  refine lv_iload_n hx hb dJ6_bitCount_0f7a4_34 rfl (lv_at hl 0 rfl) ?_
  refine lv_iload_n hx hb dJ6_bitCount_0f7a4_35 rfl (lv_at hl 0 rfl) ?_
  refine lv_bipush (v := 8) hx hb dJ6_bitCount_0f7a4_36 (by decide) ?_
  refine lv_iushr hx hb dJ6_bitCount_0f7a4_38 rfl ?_
  refine lv_iadd hx hb dJ6_bitCount_0f7a4_39 ?_
  refine lv_topi (fun z9 ez9 => ?_)
  have h := h z9 ez9
  refine lv_istore_n (lv' := [(0, .int z9)]) hx hb dJ6_bitCount_0f7a4_40 rfl hl (by decide) rfl (fun ls hl => ?_)
  refine lv_iload_n hx hb dJ6_bitCount_0f7a4_41 rfl (lv_at hl 0 rfl) ?_
  refine lv_iload_n hx hb dJ6_bitCount_0f7a4_42 rfl (lv_at hl 0 rfl) ?_
  refine lv_bipush (v := 16) hx hb dJ6_bitCount_0f7a4_43 (by decide) ?_
  refine lv_iushr hx hb dJ6_bitCount_0f7a4_45 rfl ?_
  refine lv_iadd hx hb dJ6_bitCount_0f7a4_46 ?_
  refine lv_topi (fun z10 ez10 => ?_)
  have h := h z10 ez10
  refine lv_istore_n (lv' := [(0, .int z10)]) hx hb dJ6_bitCount_0f7a4_47 rfl hl (by decide) rfl (fun ls hl => ?_)
  refine lv_iload_n hx hb dJ6_bitCount_0f7a4_48 rfl (lv_at hl 0 rfl) ?_
  refine lv_bipush (v := 63) hx hb dJ6_bitCount_0f7a4_49 (by decide) ?_
  refine lv_iand hx hb dJ6_bitCount_0f7a4_51 ?_
  exact ret_i () hx hb hr hlocks hK hP hD hS h dJ6_bitCount_0f7a4_52
abbrev rm_X0_nearestFold : Room := { frames := 4, cells := 0, slots := 0, locals := 94 }
theorem in_X0_nearestFold_X5 : ∀ w ∈ wsX50, w ∈ wsX0_nearestFold := fun _ h => List.mem_cons_of_mem _ (List.mem_append_left _ (List.mem_append_left _ (List.mem_append_right _ h)))
set_option maxHeartbeats 4000000 in
set_option maxRecDepth 100000 in
theorem L_X0_nearestFold_11 {p : Program} {l : Launch} {e : Env} {s : State} {m : MethodId} {args : Array Value} {below : List Frame} {meth : Method} {c : Code} {D : va_G} {Y : ClassId × ClassId × ClassId} {A : Nat → Prop} {q1 q1_lengths q q_lay q_measured q_lay_places : Nat} {g1_links g1_folded g1_stiff : Int32} {g1_lengths : Nat → Int32} {x2 x3 : Int32} {Q : Int32 → Int32 → Int32 → Int32 → (Nat → Int32) → Prop} (C : Ctx p s m args meth c cX0_nearestFold 8 (some .int) wsX0_nearestFold RX0) (hK : va_K D vwCl (tyS Y) s) (hA : ∀ q, s.heap.size ≤ q → A q) : ∀ (n : Nat) (x4 x5 x6 g_lay_links g_lay_low g_lay_high : Int32) (g_lay_places : Nat → Int32), itr7 (B_X0_nearestFold_11 g1_links g1_folded g1_stiff g1_lengths x2 x3 Q) n x4 x5 x6 g_lay_links g_lay_low g_lay_high g_lay_places → ∀ (H : Heap) (locs : List Loc) (ls : Array Slot), va_P D vwCl (w_X0_nearestFold Y q1 q1_lengths q q_lay q_measured q_lay_places g1_links g1_folded g1_stiff g_lay_links g_lay_low g_lay_high g1_lengths g_lay_places) H → va_D A (w_X0_nearestFold Y q1 q1_lengths q q_lay q_measured q_lay_places g1_links g1_folded g1_stiff g_lay_links g_lay_low g_lay_high g1_lengths g_lay_places) → va_S A s.heap H locs → lv_has ls 8 [(0, .ref q), (1, .ref q1), (2, .int x2), (3, .int x3), (4, .int x4), (5, .int x5), (6, .int x6)] → W p l e rm_X0_nearestFold s m args below meth c H locs 0 0 (QI below args s D Y A (fun r (u : Int32 × Int32 × Int32 × (Nat → Int32)) => Q r u.1 u.2.1 u.2.2.1 u.2.2.2) (fun u : Int32 × Int32 × Int32 × (Nat → Int32) => (w_X0_nearestFold Y q1 q1_lengths q q_lay q_measured q_lay_places g1_links g1_folded g1_stiff u.1 u.2.1 u.2.2.1 g1_lengths u.2.2.2))) (F0 m 11 ls []) := by
  intro n
  induction n with
  | zero => intro x4 x5 x6 g_lay_links g_lay_low g_lay_high g_lay_places h; exact False.elim h
  | succ n ih =>
    intro x4 x5 x6 g_lay_links g_lay_low g_lay_high g_lay_places h H locs ls hP hD hS hl
    obtain ⟨⟨hx, hb, hml, hown, hts⟩, hr, hlocks, hN⟩ := id C
    have h : B_X0_nearestFold_11 g1_links g1_folded g1_stiff g1_lengths x2 x3 Q (itr7 (B_X0_nearestFold_11 g1_links g1_folded g1_stiff g1_lengths x2 x3 Q) n) x4 x5 x6 g_lay_links g_lay_low g_lay_high g_lay_places := h
    unfold B_X0_nearestFold_11 at h
    refine lv_iload hx hb dX0_nearestFold_11 (lv_at hl 6 rfl) ?_
    refine lv_aload_n hx hb dX0_nearestFold_13 rfl (lv_at hl 1 rfl) ?_
    have hp : Pt (w_X0_nearestFold Y q1 q1_lengths q q_lay q_measured q_lay_places g1_links g1_folded g1_stiff g_lay_links g_lay_low g_lay_high g1_lengths g_lay_places) (w_X5_foldLimit Y q1 q1_lengths g1_links g1_folded g1_stiff) [0] := ⟨rfl, by decide +kernel⟩
    refine go_i hp hP hD hS hA (fun _ => rfl) (va_runV (As := []) (rest := [.int x6]) ⟨hx, hb, hml, hown, hts⟩ (c_X5_foldLimit h _) (cwV 0 hts gX0_nearestFold_X5_foldLimit rfl rfl rfl (by decide +kernel) ⟨Nat.le_of_ble_eq_true rfl, Nat.le_of_ble_eq_true rfl⟩) (pre_V (b := q1) (q0 := 0) (ci := 5) (q := (RX5, TX5, 4)) hp hK hN hP hD rfl rfl) rfl rfl hl.1 rfl (lv_room (Nat.le_of_ble_eq_true rfl)) dX0_nearestFold_14 ⟨Nat.le_of_ble_eq_true rfl, Nat.le_of_ble_eq_true rfl⟩) (fun r20 u H locs h hP hD hS => ?_)
    try dsimp only at h
    have hP : va_P D vwCl (w_X0_nearestFold Y q1 q1_lengths q q_lay q_measured q_lay_places g1_links g1_folded g1_stiff g_lay_links g_lay_low g_lay_high g1_lengths g_lay_places) H := hP
    have hD : va_D A (w_X0_nearestFold Y q1 q1_lengths q q_lay q_measured q_lay_places g1_links g1_folded g1_stiff g_lay_links g_lay_low g_lay_high g1_lengths g_lay_places) := hD
    refine lv_icmp_ge (tgt := 91) hx hb dX0_nearestFold_17 (by decide) (fun c21 => ?_) (fun c21 => ?_)
    · have h := h.1 c21
      refine lv_iload hx hb dX0_nearestFold_91 (lv_at hl 4 rfl) ?_
      exact ret_i (g_lay_links, g_lay_low, g_lay_high, g_lay_places) hx hb hr hlocks hK hP hD hS h dX0_nearestFold_93
    · have h := h.2 c21
      refine lv_iload hx hb dX0_nearestFold_20 (lv_at hl 6 rfl) ?_
      refine lv_aload_n hx hb dX0_nearestFold_22 rfl (lv_at hl 1 rfl) ?_
      refine va_getN (D := D) (ci := 5) (v := .int g1_folded) (C := RX5) (T := TX5) (N := 4) hx hb hts in_X0_nearestFold_X5 hown hK hP 0 rfl rfl 2 (by decide) (va_Nw.use rfl (nwX0_56 hN)) (fun _ h9 => h9) rfl dX0_nearestFold_23 ?_
      refine lv_ixor hx hb dX0_nearestFold_26 ?_
      have hp : Pt (w_X0_nearestFold Y q1 q1_lengths q q_lay q_measured q_lay_places g1_links g1_folded g1_stiff g_lay_links g_lay_low g_lay_high g1_lengths g_lay_places) (w_J6_bitCount_0f7a4 Y ) [] := ⟨rfl, by decide +kernel⟩
      refine go_i hp hP hD hS hA (fun _ => rfl) (va_runS (As := [.int (x6 ^^^ g1_folded)]) (rest := []) ⟨hx, hb, hml, hown, hts⟩ (c_J6_bitCount_0f7a4 h _) (va_cwS 1 hts gX0_nearestFold_J6_bitCount_0f7a4 rfl rfl rfl (by decide +kernel) ⟨Nat.le_of_ble_eq_true rfl, Nat.le_of_ble_eq_true rfl⟩) (pre_S hp hK hN hP hD) rfl rfl hl.1 rfl (lv_room (Nat.le_of_ble_eq_true rfl)) dX0_nearestFold_27 ⟨Nat.le_of_ble_eq_true rfl, Nat.le_of_ble_eq_true rfl⟩) (fun r22 u H locs h hP hD hS => ?_)
      try dsimp only at h
      have hP : va_P D vwCl (w_X0_nearestFold Y q1 q1_lengths q q_lay q_measured q_lay_places g1_links g1_folded g1_stiff g_lay_links g_lay_low g_lay_high g1_lengths g_lay_places) H := hP
      have hD : va_D A (w_X0_nearestFold Y q1 q1_lengths q q_lay q_measured q_lay_places g1_links g1_folded g1_stiff g_lay_links g_lay_low g_lay_high g1_lengths g_lay_places) := hD
      refine lv_istore (lv' := [(7, .int r22), (0, .ref q), (1, .ref q1), (2, .int x2), (3, .int x3), (4, .int x4), (5, .int x5), (6, .int x6)]) hx hb dX0_nearestFold_30 hl (by decide) rfl (fun ls hl => ?_)
      refine lv_iload hx hb dX0_nearestFold_32 (lv_at hl 0 rfl) ?_
      refine lv_iload hx hb dX0_nearestFold_34 (lv_at hl 6 rfl) ?_
      refine lv_icmp_ge (tgt := 85) hx hb dX0_nearestFold_36 (by decide) (fun c23 => ?_) (fun c23 => ?_)
      · have h := h.1 c23
        obtain ⟨z24, ez24⟩ : ∃ y : Int32, y = (x6 + (1 : Int32)) := ⟨_, rfl⟩
        have h := h z24 ez24
        refine lv_iinc (v := z24) (lv' := [(6, .int z24), (7, .int r22), (0, .ref q), (1, .ref q1), (2, .int x2), (3, .int x3), (4, .int x4), (5, .int x5)]) hx hb dX0_nearestFold_85 hl (k := 7) rfl (by rw [ez24]; rfl) (by decide) rfl (fun ls hl => ?_)
        refine lv_goto (tgt := 11) hx hb dX0_nearestFold_88 (by decide) ?_
        exact ih _ _ _ _ _ _ _ h _ _ _ hP hD hS (lv_sub hl [2, 3, 4, 5, 6, 7, 0] rfl)
      · have h := h.2 c23
        refine lv_aload_n hx hb dX0_nearestFold_39 rfl (lv_at hl 2 rfl) ?_
        refine lv_iload hx hb dX0_nearestFold_40 (lv_at hl 7 rfl) ?_
        have hp : Pt (w_X0_nearestFold Y q1 q1_lengths q q_lay q_measured q_lay_places g1_links g1_folded g1_stiff g_lay_links g_lay_low g_lay_high g1_lengths g_lay_places) (w_X5_isFold Y q1 q1_lengths g1_links g1_folded g1_stiff) [0] := ⟨rfl, by decide +kernel⟩
        refine go_i hp hP hD hS hA (fun _ => rfl) (va_runV (As := [.int x6]) (rest := []) ⟨hx, hb, hml, hown, hts⟩ (c_X5_isFold h _) (cwV 1 hts gX0_nearestFold_X5_isFold rfl rfl rfl (by decide +kernel) ⟨Nat.le_of_ble_eq_true rfl, Nat.le_of_ble_eq_true rfl⟩) (pre_V (b := q1) (q0 := 0) (ci := 5) (q := (RX5, TX5, 4)) hp hK hN hP hD rfl rfl) rfl rfl hl.1 rfl (lv_room (Nat.le_of_ble_eq_true rfl)) dX0_nearestFold_42 ⟨Nat.le_of_ble_eq_true rfl, Nat.le_of_ble_eq_true rfl⟩) (fun r25 u H locs h hP hD hS => ?_)
        try dsimp only at h
        have hP : va_P D vwCl (w_X0_nearestFold Y q1 q1_lengths q q_lay q_measured q_lay_places g1_links g1_folded g1_stiff g_lay_links g_lay_low g_lay_high g1_lengths g_lay_places) H := hP
        have hD : va_D A (w_X0_nearestFold Y q1 q1_lengths q q_lay q_measured q_lay_places g1_links g1_folded g1_stiff g_lay_links g_lay_low g_lay_high g1_lengths g_lay_places) := hD
        refine lv_if_eq (tgt := 85) hx hb dX0_nearestFold_45 (by decide) (fun c26 => ?_) (fun c26 => ?_)
        · have h := h.1 c26
          obtain ⟨z27, ez27⟩ : ∃ y : Int32, y = (x6 + (1 : Int32)) := ⟨_, rfl⟩
          have h := h z27 ez27
          refine lv_iinc (v := z27) (lv' := [(6, .int z27), (7, .int r22), (0, .ref q), (1, .ref q1), (2, .int x2), (3, .int x3), (4, .int x4), (5, .int x5)]) hx hb dX0_nearestFold_85 hl (k := 7) rfl (by rw [ez27]; rfl) (by decide) rfl (fun ls hl => ?_)
          refine lv_goto (tgt := 11) hx hb dX0_nearestFold_88 (by decide) ?_
          exact ih _ _ _ _ _ _ _ h _ _ _ hP hD hS (lv_sub hl [2, 3, 4, 5, 6, 7, 0] rfl)
        · have h := h.2 c26
          refine lv_iload_n hx hb dX0_nearestFold_48 rfl (lv_at hl 4 rfl) ?_
          refine lv_if_eq (tgt := 66) hx hb dX0_nearestFold_49 (by decide) (fun c28 => ?_) (fun c28 => ?_)
          · have h := h.1 c28
            refine lv_aload_n hx hb dX0_nearestFold_66 rfl (lv_at hl 1 rfl) ?_
            refine lv_aload_n hx hb dX0_nearestFold_67 rfl (lv_at hl 2 rfl) ?_
            refine lv_iload hx hb dX0_nearestFold_68 (lv_at hl 7 rfl) ?_
            refine lv_iload_n hx hb dX0_nearestFold_70 rfl (lv_at hl 3 rfl) ?_
            have hp : Pt (w_X0_nearestFold Y q1 q1_lengths q q_lay q_measured q_lay_places g1_links g1_folded g1_stiff g_lay_links g_lay_low g_lay_high g1_lengths g_lay_places) (w_X0_goesInto Y q q_lay q_measured q1 q1_lengths q_lay_places g1_links g1_folded g1_stiff g_lay_links g_lay_low g_lay_high g1_lengths g_lay_places) [1, 0, 2, 3, 4] := ⟨rfl, by decide +kernel⟩
            refine go_i hp hP hD hS hA (fun _ => rfl) (va_runV (As := [.ref q1, .int x6, .int x2]) (rest := []) ⟨hx, hb, hml, hown, hts⟩ (c_X0_goesInto h _) (cwV 3 hts gX0_nearestFold_X0_goesInto rfl rfl rfl (by decide +kernel) ⟨Nat.le_of_ble_eq_true rfl, Nat.le_of_ble_eq_true rfl⟩) (pre_V (b := q) (q0 := 0) (ci := 0) (q := (RX0, TX0, 2)) hp hK hN hP hD rfl rfl) rfl rfl hl.1 rfl (lv_room (Nat.le_of_ble_eq_true rfl)) dX0_nearestFold_71 ⟨Nat.le_of_ble_eq_true rfl, Nat.le_of_ble_eq_true rfl⟩) (fun r29 u H locs h hP hD hS => ?_)
            obtain ⟨u30, u31, u32, u33⟩ := u
            try dsimp only at h
            have hP : va_P D vwCl (w_X0_nearestFold Y q1 q1_lengths q q_lay q_measured q_lay_places g1_links g1_folded g1_stiff u30 u31 u32 g1_lengths u33) H := hP
            have hD : va_D A (w_X0_nearestFold Y q1 q1_lengths q q_lay q_measured q_lay_places g1_links g1_folded g1_stiff u30 u31 u32 g1_lengths u33) := hD
            refine lv_if_eq (tgt := 85) hx hb dX0_nearestFold_74 (by decide) (fun c34 => ?_) (fun c34 => ?_)
            · have h := h.1 c34
              obtain ⟨z35, ez35⟩ : ∃ y : Int32, y = (x6 + (1 : Int32)) := ⟨_, rfl⟩
              have h := h z35 ez35
              refine lv_iinc (v := z35) (lv' := [(6, .int z35), (7, .int r22), (0, .ref q), (1, .ref q1), (2, .int x2), (3, .int x3), (4, .int x4), (5, .int x5)]) hx hb dX0_nearestFold_85 hl (k := 7) rfl (by rw [ez35]; rfl) (by decide) rfl (fun ls hl => ?_)
              refine lv_goto (tgt := 11) hx hb dX0_nearestFold_88 (by decide) ?_
              exact ih _ _ _ _ _ _ _ h _ _ _ hP hD hS (lv_sub hl [2, 3, 4, 5, 6, 7, 0] rfl)
            · have h := h.2 c34
              refine lv_iload hx hb dX0_nearestFold_77 (lv_at hl 0 rfl) ?_
              refine lv_istore (lv' := [(5, .int r22), (7, .int r22), (0, .ref q), (1, .ref q1), (2, .int x2), (3, .int x3), (4, .int x4), (6, .int x6)]) hx hb dX0_nearestFold_79 hl (by decide) rfl (fun ls hl => ?_)
              refine lv_iload hx hb dX0_nearestFold_81 (lv_at hl 7 rfl) ?_
              refine lv_istore (lv' := [(4, .int x6), (5, .int r22), (7, .int r22), (0, .ref q), (1, .ref q1), (2, .int x2), (3, .int x3), (6, .int x6)]) hx hb dX0_nearestFold_83 hl (by decide) rfl (fun ls hl => ?_)
              obtain ⟨z36, ez36⟩ : ∃ y : Int32, y = (x6 + (1 : Int32)) := ⟨_, rfl⟩
              have h := h z36 ez36
              refine lv_iinc (v := z36) (lv' := [(6, .int z36), (4, .int x6), (5, .int r22), (7, .int r22), (0, .ref q), (1, .ref q1), (2, .int x2), (3, .int x3)]) hx hb dX0_nearestFold_85 hl (k := 7) rfl (by rw [ez36]; rfl) (by decide) rfl (fun ls hl => ?_)
              refine lv_goto (tgt := 11) hx hb dX0_nearestFold_88 (by decide) ?_
              exact ih _ _ _ _ _ _ _ h _ _ _ hP hD hS (lv_sub hl [4, 5, 6, 7, 1, 2, 0] rfl)
          · have h := h.2 c28
            refine lv_aload_n hx hb dX0_nearestFold_52 rfl (lv_at hl 1 rfl) ?_
            refine lv_aload_n hx hb dX0_nearestFold_53 rfl (lv_at hl 2 rfl) ?_
            refine lv_iload hx hb dX0_nearestFold_54 (lv_at hl 7 rfl) ?_
            refine lv_iload_n hx hb dX0_nearestFold_56 rfl (lv_at hl 3 rfl) ?_
            have hp : Pt (w_X0_nearestFold Y q1 q1_lengths q q_lay q_measured q_lay_places g1_links g1_folded g1_stiff g_lay_links g_lay_low g_lay_high g1_lengths g_lay_places) (w_X0_endsAt Y q q_lay q_measured q1 q1_lengths q_lay_places g1_links g1_folded g1_stiff g_lay_links g_lay_low g_lay_high g1_lengths g_lay_places) [1, 0, 2, 3, 4] := ⟨rfl, by decide +kernel⟩
            refine go_i hp hP hD hS hA (fun _ => rfl) (va_runV (As := [.ref q1, .int x6, .int x2]) (rest := []) ⟨hx, hb, hml, hown, hts⟩ (c_X0_endsAt h _) (cwV 3 hts gX0_nearestFold_X0_endsAt rfl rfl rfl (by decide +kernel) ⟨Nat.le_of_ble_eq_true rfl, Nat.le_of_ble_eq_true rfl⟩) (pre_V (b := q) (q0 := 0) (ci := 0) (q := (RX0, TX0, 2)) hp hK hN hP hD rfl rfl) rfl rfl hl.1 rfl (lv_room (Nat.le_of_ble_eq_true rfl)) dX0_nearestFold_57 ⟨Nat.le_of_ble_eq_true rfl, Nat.le_of_ble_eq_true rfl⟩) (fun r37 u H locs h hP hD hS => ?_)
            obtain ⟨u38, u39, u40, u41⟩ := u
            try dsimp only at h
            have hP : va_P D vwCl (w_X0_nearestFold Y q1 q1_lengths q q_lay q_measured q_lay_places g1_links g1_folded g1_stiff u38 u39 u40 g1_lengths u41) H := hP
            have hD : va_D A (w_X0_nearestFold Y q1 q1_lengths q q_lay q_measured q_lay_places g1_links g1_folded g1_stiff u38 u39 u40 g1_lengths u41) := hD
            refine lv_if_eq (tgt := 85) hx hb dX0_nearestFold_60 (by decide) (fun c42 => ?_) (fun c42 => ?_)
            · have h := h.1 c42
              obtain ⟨z43, ez43⟩ : ∃ y : Int32, y = (x6 + (1 : Int32)) := ⟨_, rfl⟩
              have h := h z43 ez43
              refine lv_iinc (v := z43) (lv' := [(6, .int z43), (7, .int r22), (0, .ref q), (1, .ref q1), (2, .int x2), (3, .int x3), (4, .int x4), (5, .int x5)]) hx hb dX0_nearestFold_85 hl (k := 7) rfl (by rw [ez43]; rfl) (by decide) rfl (fun ls hl => ?_)
              refine lv_goto (tgt := 11) hx hb dX0_nearestFold_88 (by decide) ?_
              exact ih _ _ _ _ _ _ _ h _ _ _ hP hD hS (lv_sub hl [2, 3, 4, 5, 6, 7, 0] rfl)
            · have h := h.2 c42
              refine lv_goto (tgt := 77) hx hb dX0_nearestFold_63 (by decide) ?_
              refine lv_iload hx hb dX0_nearestFold_77 (lv_at hl 0 rfl) ?_
              refine lv_istore (lv' := [(5, .int r22), (7, .int r22), (0, .ref q), (1, .ref q1), (2, .int x2), (3, .int x3), (4, .int x4), (6, .int x6)]) hx hb dX0_nearestFold_79 hl (by decide) rfl (fun ls hl => ?_)
              refine lv_iload hx hb dX0_nearestFold_81 (lv_at hl 7 rfl) ?_
              refine lv_istore (lv' := [(4, .int x6), (5, .int r22), (7, .int r22), (0, .ref q), (1, .ref q1), (2, .int x2), (3, .int x3), (6, .int x6)]) hx hb dX0_nearestFold_83 hl (by decide) rfl (fun ls hl => ?_)
              obtain ⟨z44, ez44⟩ : ∃ y : Int32, y = (x6 + (1 : Int32)) := ⟨_, rfl⟩
              have h := h z44 ez44
              refine lv_iinc (v := z44) (lv' := [(6, .int z44), (4, .int x6), (5, .int r22), (7, .int r22), (0, .ref q), (1, .ref q1), (2, .int x2), (3, .int x3)]) hx hb dX0_nearestFold_85 hl (k := 7) rfl (by rw [ez44]; rfl) (by decide) rfl (fun ls hl => ?_)
              refine lv_goto (tgt := 11) hx hb dX0_nearestFold_88 (by decide) ?_
              exact ih _ _ _ _ _ _ _ h _ _ _ hP hD hS (lv_sub hl [4, 5, 6, 7, 1, 2, 0] rfl)
set_option maxHeartbeats 4000000 in
set_option maxRecDepth 100000 in
theorem c_X0_nearestFold {l : Launch} {D : va_G} {Y : ClassId × ClassId × ClassId} {q1 q1_lengths q q_lay q_measured q_lay_places : Nat} {g1_links g1_folded g1_stiff g_lay_links g_lay_low g_lay_high : Int32} {g1_lengths g_lay_places : Nat → Int32} {x2 x3 : Int32} {Q : Int32 → Int32 → Int32 → Int32 → (Nat → Int32) → Prop} (h : wp_X0_nearestFold g1_links g1_folded g1_stiff g_lay_links g_lay_low g_lay_high g1_lengths g_lay_places x2 x3 Q) (sz : Nat) : MtI l yX0_nearestFold wsX0_nearestFold rm_X0_nearestFold [.ref q, .ref q1, .int x2, .int x3] D Y (w_X0_nearestFold Y q1 q1_lengths q q_lay q_measured q_lay_places g1_links g1_folded g1_stiff g_lay_links g_lay_low g_lay_high g1_lengths g_lay_places) (fun r (u : Int32 × Int32 × Int32 × (Nat → Int32)) => Q r u.1 u.2.1 u.2.2.1 u.2.2.2) (fun u : Int32 × Int32 × Int32 × (Nat → Int32) => (w_X0_nearestFold Y q1 q1_lengths q q_lay q_measured q_lay_places g1_links g1_folded g1_stiff u.1 u.2.1 u.2.2.1 g1_lengths u.2.2.2)) sz := by
  refine ct_i (cc := cX0_nearestFold) (nL := 8) (ret := (some .int)) (by decide) rfl (Nat.le_of_ble_eq_true rfl) ?_ sz
  intro p e s m below meth c A ls C hK hA hP hD hS hl
  obtain ⟨⟨hx, hb, hml, hown, hts⟩, hr, hlocks, hN⟩ := id C
  have hown : s.vm.findClass RX0 = some m.cls := hown
  have hl : lv_has ls 8 [(0, .ref q), (1, .ref q1), (2, .int x2), (3, .int x3)] := hl
  unfold wp_X0_nearestFold at h
  refine lv_bipush (v := (-9)) hx hb dX0_nearestFold_0 (by decide) ?_
  refine lv_istore (lv' := [(4, .int (-9 : Int32)), (0, .ref q), (1, .ref q1), (2, .int x2), (3, .int x3)]) hx hb dX0_nearestFold_2 hl (by decide) rfl (fun ls hl => ?_)
  refine lv_bipush (v := 9) hx hb dX0_nearestFold_4 (by decide) ?_
  refine lv_istore (lv' := [(5, .int (9 : Int32)), (4, .int (-9 : Int32)), (0, .ref q), (1, .ref q1), (2, .int x2), (3, .int x3)]) hx hb dX0_nearestFold_6 hl (by decide) rfl (fun ls hl => ?_)
  refine lv_iconst (v := 0) hx hb dX0_nearestFold_8 (by decide) ?_
  refine lv_istore (lv' := [(6, .int (0 : Int32)), (5, .int (9 : Int32)), (4, .int (-9 : Int32)), (0, .ref q), (1, .ref q1), (2, .int x2), (3, .int x3)]) hx hb dX0_nearestFold_9 hl (by decide) rfl (fun ls hl => ?_)
  obtain ⟨n, h⟩ := h
  exact L_X0_nearestFold_11 C hK hA  n _ _ _ _ _ _ _ h _ _ _ hP hD hS (lv_sub hl [3, 4, 5, 6, 2, 1, 0] rfl)
abbrev rm_X0_measureMarks : Room := { frames := 1, cells := 0, slots := 0, locals := 21 }
theorem in_X0_measureMarks_X0 : ∀ w ∈ wsX00, w ∈ wsX0_measureMarks := fun _ h => List.mem_cons_of_mem _ (List.mem_append_left _ (List.mem_append_right _ h))
theorem in_X0_measureMarks_X2 : ∀ w ∈ wsX20, w ∈ wsX0_measureMarks := fun _ h => List.mem_cons_of_mem _ (List.mem_append_right _ h)
theorem k_X0_measureMarks_f12 {s : State} {args : Array Value} (hts : ∀ w ∈ wsX0_measureMarks, w.before args s = true) : (Cond.fieldLink RX0 12 "FoldRule$Folds" "lay" "LFoldRule$Lay;").before args s = true := hts _ (by decide +kernel)
theorem k_X0_measureMarks_m82 {s : State} {args : Array Value} (hts : ∀ w ∈ wsX0_measureMarks, w.before args s = true) : (Cond.methodLink RX0 82 Lib.Math.abs.name).before args s = true := hts _ (by decide +kernel)
theorem k_X0_measureMarks_sabs {s : State} {args : Array Value} (hts : ∀ w ∈ wsX0_measureMarks, w.before args s = true) : (Cond.static Lib.Math.abs.name).before args s = true := hts _ (by decide +kernel)
theorem k_X0_measureMarks_imath {s : State} {args : Array Value} (hts : ∀ w ∈ wsX0_measureMarks, w.before args s = true) : (Cond.initialized "java/lang/Math").before args s = true := hts _ (by decide +kernel)
theorem k_X0_measureMarks_babs {s : State} {args : Array Value} (hts : ∀ w ∈ wsX0_measureMarks, w.before args s = true) : (Cond.code Lib.Math.abs.name Lib.Math.abs.code 1 (some .int)).before args s = true := hts _ (by decide +kernel)
theorem k_X0_measureMarks_f18 {s : State} {args : Array Value} (hts : ∀ w ∈ wsX0_measureMarks, w.before args s = true) : (Cond.fieldLink RX0 18 "FoldRule$Folds" "measured" "[Z").before args s = true := hts _ (by decide +kernel)
set_option maxHeartbeats 4000000 in
set_option maxRecDepth 100000 in
theorem L_X0_measureMarks_15 {p : Program} {l : Launch} {e : Env} {s : State} {m : MethodId} {args : Array Value} {below : List Frame} {meth : Method} {c : Code} {D : va_G} {Y : ClassId × ClassId × ClassId} {A : Nat → Prop} {q q_lay q_measured q_lay_places : Nat} {g_lay_links g_lay_low g_lay_high : Int32} {g_lay_places : Nat → Int32} {x1 : Int32} {Q : (Nat → Int32) → Prop} {K2 : Int32 → (Nat → Int32) → Prop} (C : Ctx p s m args meth c cX0_measureMarks 4 none wsX0_measureMarks RX0) (hK : va_K D vwCl (tyS Y) s) (hA : ∀ q, s.heap.size ≤ q → A q) (hk2 : ∀ (x1 : Int32) (g_measured : Nat → Int32), K2 x1 g_measured → ∀ (H : Heap) (locs : List Loc) (ls : Array Slot), va_P D vwCl (w_X0_measureMarks Y q q_lay q_measured q_lay_places g_lay_links g_lay_low g_lay_high g_lay_places g_measured) H → va_D A (w_X0_measureMarks Y q q_lay q_measured q_lay_places g_lay_links g_lay_low g_lay_high g_lay_places g_measured) → va_S A s.heap H locs → lv_has ls 4 [(0, .ref q), (1, .int x1)] → W p l e rm_X0_measureMarks s m args below meth c H locs 0 0 (QV below args s D Y A (fun (u : (Nat → Int32)) => Q u) (fun u : (Nat → Int32) => (w_X0_measureMarks Y q q_lay q_measured q_lay_places g_lay_links g_lay_low g_lay_high g_lay_places u))) (F0 m 2 ls [])) : ∀ (n : Nat) (x2 : Int32) (g_measured : Nat → Int32), itr2 (B_X0_measureMarks_15 g_lay_links g_lay_places x1 K2) n x2 g_measured → ∀ (H : Heap) (locs : List Loc) (ls : Array Slot), va_P D vwCl (w_X0_measureMarks Y q q_lay q_measured q_lay_places g_lay_links g_lay_low g_lay_high g_lay_places g_measured) H → va_D A (w_X0_measureMarks Y q q_lay q_measured q_lay_places g_lay_links g_lay_low g_lay_high g_lay_places g_measured) → va_S A s.heap H locs → lv_has ls 4 [(0, .ref q), (1, .int x1), (2, .int x2)] → W p l e rm_X0_measureMarks s m args below meth c H locs 0 0 (QV below args s D Y A (fun (u : (Nat → Int32)) => Q u) (fun u : (Nat → Int32) => (w_X0_measureMarks Y q q_lay q_measured q_lay_places g_lay_links g_lay_low g_lay_high g_lay_places u))) (F0 m 15 ls []) := by
  intro n
  induction n with
  | zero => intro x2 g_measured h; exact False.elim h
  | succ n ih =>
    intro x2 g_measured h H locs ls hP hD hS hl
    obtain ⟨⟨hx, hb, hml, hown, hts⟩, hr, hlocks, hN⟩ := id C
    have h : B_X0_measureMarks_15 g_lay_links g_lay_places x1 K2 (itr2 (B_X0_measureMarks_15 g_lay_links g_lay_places x1 K2) n) x2 g_measured := h
    unfold B_X0_measureMarks_15 at h
    refine lv_iload_n hx hb dX0_measureMarks_15 rfl (lv_at hl 2 rfl) ?_
    refine lv_iload_n hx hb dX0_measureMarks_16 rfl (lv_at hl 1 rfl) ?_
    refine lv_icmp_ge (tgt := 61) hx hb dX0_measureMarks_17 (by decide) (fun c7 => ?_) (fun c7 => ?_)
    · have h := h.1 c7
      obtain ⟨z8, ez8⟩ : ∃ y : Int32, y = (x1 + (1 : Int32)) := ⟨_, rfl⟩
      have h := h z8 ez8
      refine lv_iinc (v := z8) (lv' := [(1, .int z8), (0, .ref q), (2, .int x2)]) hx hb dX0_measureMarks_61 hl (k := 1) rfl (by rw [ez8]; rfl) (by decide) rfl (fun ls hl => ?_)
      refine lv_goto (tgt := 2) hx hb dX0_measureMarks_64 (by decide) ?_
      exact hk2 _ _ h _ _ _ hP hD hS (lv_sub hl [1, 0] rfl)
    · have h := h.2 c7
      refine lv_aload_n hx hb dX0_measureMarks_20 rfl (lv_at hl 0 rfl) ?_
      refine va_get (D := D) (ci := 0) (v := .ref q_lay) (C := RX0) (T := TX0) (N := 2) hx hb hts in_X0_measureMarks_X0 hown hK hP 0 rfl rfl 0 (by decide) (k_X0_measureMarks_f12 hts) (fun _ h9 => h9) rfl dX0_measureMarks_21 ?_
      refine lv_iload_n hx hb dX0_measureMarks_24 rfl (lv_at hl 1 rfl) ?_
      have hp : Pt (w_X0_measureMarks Y q q_lay q_measured q_lay_places g_lay_links g_lay_low g_lay_high g_lay_places g_measured) (w_X2_placeOf Y q_lay q_lay_places g_lay_links g_lay_low g_lay_high g_lay_places) [1, 2] := ⟨rfl, by decide +kernel⟩
      refine go_i hp hP hD hS hA (fun _ => rfl) (va_runV (As := [.int x1]) (rest := []) ⟨hx, hb, hml, hown, hts⟩ (c_X2_placeOf h _) (cwV 1 hts gX0_measureMarks_X2_placeOf rfl rfl rfl (by decide +kernel) ⟨Nat.le_of_ble_eq_true rfl, Nat.le_of_ble_eq_true rfl⟩) (pre_V (b := q_lay) (q0 := 0) (ci := 2) (q := (RX2, TX2, 4)) hp hK hN hP hD rfl rfl) rfl rfl hl.1 rfl (lv_room (Nat.le_of_ble_eq_true rfl)) dX0_measureMarks_25 ⟨Nat.le_of_ble_eq_true rfl, Nat.le_of_ble_eq_true rfl⟩) (fun r9 u H locs h hP hD hS => ?_)
      try dsimp only at h
      have hP : va_P D vwCl (w_X0_measureMarks Y q q_lay q_measured q_lay_places g_lay_links g_lay_low g_lay_high g_lay_places g_measured) H := hP
      have hD : va_D A (w_X0_measureMarks Y q q_lay q_measured q_lay_places g_lay_links g_lay_low g_lay_high g_lay_places g_measured) := hD
      refine lv_aload_n hx hb dX0_measureMarks_28 rfl (lv_at hl 0 rfl) ?_
      refine va_get (D := D) (ci := 0) (v := .ref q_lay) (C := RX0) (T := TX0) (N := 2) hx hb hts in_X0_measureMarks_X0 hown hK hP 0 rfl rfl 0 (by decide) (k_X0_measureMarks_f12 hts) (fun _ h9 => h9) rfl dX0_measureMarks_29 ?_
      refine lv_iload_n hx hb dX0_measureMarks_32 rfl (lv_at hl 2 rfl) ?_
      have hp : Pt (w_X0_measureMarks Y q q_lay q_measured q_lay_places g_lay_links g_lay_low g_lay_high g_lay_places g_measured) (w_X2_placeOf Y q_lay q_lay_places g_lay_links g_lay_low g_lay_high g_lay_places) [1, 2] := ⟨rfl, by decide +kernel⟩
      refine go_i hp hP hD hS hA (fun _ => rfl) (va_runV (As := [.int x2]) (rest := [.int r9]) ⟨hx, hb, hml, hown, hts⟩ (c_X2_placeOf h _) (cwV 1 hts gX0_measureMarks_X2_placeOf rfl rfl rfl (by decide +kernel) ⟨Nat.le_of_ble_eq_true rfl, Nat.le_of_ble_eq_true rfl⟩) (pre_V (b := q_lay) (q0 := 0) (ci := 2) (q := (RX2, TX2, 4)) hp hK hN hP hD rfl rfl) rfl rfl hl.1 rfl (lv_room (Nat.le_of_ble_eq_true rfl)) dX0_measureMarks_33 ⟨Nat.le_of_ble_eq_true rfl, Nat.le_of_ble_eq_true rfl⟩) (fun r10 u H locs h hP hD hS => ?_)
      try dsimp only at h
      have hP : va_P D vwCl (w_X0_measureMarks Y q q_lay q_measured q_lay_places g_lay_links g_lay_low g_lay_high g_lay_places g_measured) H := hP
      have hD : va_D A (w_X0_measureMarks Y q q_lay q_measured q_lay_places g_lay_links g_lay_low g_lay_high g_lay_places g_measured) := hD
      refine lv_isub hx hb dX0_measureMarks_36 ?_
      refine va_mabs hx hb (hml.trans hl.1.symm) hown (k_X0_measureMarks_m82 hts) (k_X0_measureMarks_sabs hts) (k_X0_measureMarks_imath hts) (k_X0_measureMarks_babs hts) (Nat.le_of_ble_eq_true rfl) (Nat.le_of_ble_eq_true rfl) (Nat.le_of_ble_eq_true rfl) (Nat.le_of_ble_eq_true rfl) dX0_measureMarks_37 ?_
      refine lv_topi (fun z11 ez11 => ?_)
      have h := h z11 ez11
      refine lv_istore_n (lv' := [(3, .int z11), (0, .ref q), (1, .int x1), (2, .int x2)]) hx hb dX0_measureMarks_40 rfl hl (by decide) rfl (fun ls hl => ?_)
      refine lv_iload_n hx hb dX0_measureMarks_41 rfl (lv_at hl 0 rfl) ?_
      refine lv_sipush (v := 180) hx hb dX0_measureMarks_42 (by decide) ?_
      refine lv_icmp_gt (tgt := 55) hx hb dX0_measureMarks_45 (by decide) (fun c12 => ?_) (fun c12 => ?_)
      · have h := h.1 c12
        obtain ⟨z13, ez13⟩ : ∃ y : Int32, y = (x2 + (1 : Int32)) := ⟨_, rfl⟩
        have h := h z13 ez13
        refine lv_iinc (v := z13) (lv' := [(2, .int z13), (3, .int z11), (0, .ref q), (1, .int x1)]) hx hb dX0_measureMarks_55 hl (k := 3) rfl (by rw [ez13]; rfl) (by decide) rfl (fun ls hl => ?_)
        refine lv_goto (tgt := 15) hx hb dX0_measureMarks_58 (by decide) ?_
        exact ih _ _ h _ _ _ hP hD hS (lv_sub hl [2, 3, 0] rfl)
      · have h := h.2 c12
        refine lv_aload_n hx hb dX0_measureMarks_48 rfl (lv_at hl 1 rfl) ?_
        refine va_get (D := D) (ci := 0) (v := .ref q_measured) (C := RX0) (T := TX0) (N := 2) hx hb hts in_X0_measureMarks_X0 hown hK hP 0 rfl rfl 1 (by decide) (k_X0_measureMarks_f18 hts) (fun _ h9 => h9) rfl dX0_measureMarks_49 ?_
        refine lv_iload_n hx hb dX0_measureMarks_52 rfl (lv_at hl 0 rfl) ?_
        refine lv_iconst (v := 1) hx hb dX0_measureMarks_53 (by decide) ?_
        obtain ⟨hin, h⟩ := h
        refine va_zast hx hb hK hP hD hS 3 1 rfl rfl hin dX0_measureMarks_54 (fun H locs hP hD hS => ?_)
        have hP : va_P D vwCl (w_X0_measureMarks Y q q_lay q_measured q_lay_places g_lay_links g_lay_low g_lay_high g_lay_places (upd g_measured (z11).toNatClampNeg (vp_nar .boolean (1 : Int32)))) H := hP
        have hD : va_D A (w_X0_measureMarks Y q q_lay q_measured q_lay_places g_lay_links g_lay_low g_lay_high g_lay_places (upd g_measured (z11).toNatClampNeg (vp_nar .boolean (1 : Int32)))) := hD
        obtain ⟨z14, ez14⟩ : ∃ y : Int32, y = (x2 + (1 : Int32)) := ⟨_, rfl⟩
        have h := h z14 ez14
        refine lv_iinc (v := z14) (lv' := [(2, .int z14), (3, .int z11), (0, .ref q), (1, .int x1)]) hx hb dX0_measureMarks_55 hl (k := 3) rfl (by rw [ez14]; rfl) (by decide) rfl (fun ls hl => ?_)
        refine lv_goto (tgt := 15) hx hb dX0_measureMarks_58 (by decide) ?_
        exact ih _ _ h _ _ _ hP hD hS (lv_sub hl [2, 3, 0] rfl)
set_option maxHeartbeats 4000000 in
set_option maxRecDepth 100000 in
theorem L_X0_measureMarks_2 {p : Program} {l : Launch} {e : Env} {s : State} {m : MethodId} {args : Array Value} {below : List Frame} {meth : Method} {c : Code} {D : va_G} {Y : ClassId × ClassId × ClassId} {A : Nat → Prop} {q q_lay q_measured q_lay_places : Nat} {g_lay_links g_lay_low g_lay_high : Int32} {g_lay_places : Nat → Int32} {Q : (Nat → Int32) → Prop} (C : Ctx p s m args meth c cX0_measureMarks 4 none wsX0_measureMarks RX0) (hK : va_K D vwCl (tyS Y) s) (hA : ∀ q, s.heap.size ≤ q → A q) : ∀ (n : Nat) (x1 : Int32) (g_measured : Nat → Int32), itr2 (B_X0_measureMarks_2 g_lay_links g_lay_places Q) n x1 g_measured → ∀ (H : Heap) (locs : List Loc) (ls : Array Slot), va_P D vwCl (w_X0_measureMarks Y q q_lay q_measured q_lay_places g_lay_links g_lay_low g_lay_high g_lay_places g_measured) H → va_D A (w_X0_measureMarks Y q q_lay q_measured q_lay_places g_lay_links g_lay_low g_lay_high g_lay_places g_measured) → va_S A s.heap H locs → lv_has ls 4 [(0, .ref q), (1, .int x1)] → W p l e rm_X0_measureMarks s m args below meth c H locs 0 0 (QV below args s D Y A (fun (u : (Nat → Int32)) => Q u) (fun u : (Nat → Int32) => (w_X0_measureMarks Y q q_lay q_measured q_lay_places g_lay_links g_lay_low g_lay_high g_lay_places u))) (F0 m 2 ls []) := by
  intro n
  induction n with
  | zero => intro x1 g_measured h; exact False.elim h
  | succ n ih =>
    intro x1 g_measured h H locs ls hP hD hS hl
    obtain ⟨⟨hx, hb, hml, hown, hts⟩, hr, hlocks, hN⟩ := id C
    have h : B_X0_measureMarks_2 g_lay_links g_lay_places Q (itr2 (B_X0_measureMarks_2 g_lay_links g_lay_places Q) n) x1 g_measured := h
    unfold B_X0_measureMarks_2 at h
    refine lv_iload_n hx hb dX0_measureMarks_2 rfl (lv_at hl 1 rfl) ?_
    refine lv_aload_n hx hb dX0_measureMarks_3 rfl (lv_at hl 0 rfl) ?_
    refine va_get (D := D) (ci := 0) (v := .ref q_lay) (C := RX0) (T := TX0) (N := 2) hx hb hts in_X0_measureMarks_X0 hown hK hP 0 rfl rfl 0 (by decide) (k_X0_measureMarks_f12 hts) (fun _ h9 => h9) rfl dX0_measureMarks_4 ?_
    refine va_getN (D := D) (ci := 2) (v := .int g_lay_links) (C := RX2) (T := TX2) (N := 4) hx hb hts in_X0_measureMarks_X2 hown hK hP 1 rfl rfl 1 (by decide) (va_Nw.use rfl (nwX0_76 hN)) (fun _ h9 => h9) rfl dX0_measureMarks_7 ?_
    refine lv_icmp_gt (tgt := 67) hx hb dX0_measureMarks_10 (by decide) (fun c15 => ?_) (fun c15 => ?_)
    · have h := h.1 c15
      exact ret_v (g_measured) hx hb hr hlocks hK hP hD hS h dX0_measureMarks_67
    · have h := h.2 c15
      refine lv_iconst (v := 0) hx hb dX0_measureMarks_13 (by decide) ?_
      refine lv_istore_n (lv' := [(2, .int (0 : Int32)), (0, .ref q), (1, .int x1)]) hx hb dX0_measureMarks_14 rfl hl (by decide) rfl (fun ls hl => ?_)
      obtain ⟨n, h⟩ := h
      exact L_X0_measureMarks_15 C hK hA ih n _ _ h _ _ _ hP hD hS (lv_sub hl [1, 2, 0] rfl)
set_option maxHeartbeats 4000000 in
set_option maxRecDepth 100000 in
theorem c_X0_measureMarks {l : Launch} {D : va_G} {Y : ClassId × ClassId × ClassId} {q q_lay q_measured q_lay_places : Nat} {g_lay_links g_lay_low g_lay_high : Int32} {g_lay_places g_measured : Nat → Int32} {Q : (Nat → Int32) → Prop} (h : wp_X0_measureMarks g_lay_links g_lay_places g_measured Q) (sz : Nat) : MtV l yX0_measureMarks wsX0_measureMarks rm_X0_measureMarks [.ref q] D Y (w_X0_measureMarks Y q q_lay q_measured q_lay_places g_lay_links g_lay_low g_lay_high g_lay_places g_measured) (fun (u : (Nat → Int32)) => Q u) (fun u : (Nat → Int32) => (w_X0_measureMarks Y q q_lay q_measured q_lay_places g_lay_links g_lay_low g_lay_high g_lay_places u)) sz := by
  refine ct_v (cc := cX0_measureMarks) (nL := 4) (ret := none) (by decide) rfl (Nat.le_of_ble_eq_true rfl) ?_ sz
  intro p e s m below meth c A ls C hK hA hP hD hS hl
  obtain ⟨⟨hx, hb, hml, hown, hts⟩, hr, hlocks, hN⟩ := id C
  have hown : s.vm.findClass RX0 = some m.cls := hown
  have hl : lv_has ls 4 [(0, .ref q)] := hl
  unfold wp_X0_measureMarks at h
  refine lv_iconst (v := 0) hx hb dX0_measureMarks_0 (by decide) ?_
  refine lv_istore_n (lv' := [(1, .int (0 : Int32)), (0, .ref q)]) hx hb dX0_measureMarks_1 rfl hl (by decide) rfl (fun ls hl => ?_)
  obtain ⟨n, h⟩ := h
  exact L_X0_measureMarks_2 C hK hA  n _ _ h _ _ _ hP hD hS (lv_sub hl [1, 0] rfl)
