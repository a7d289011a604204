abbrev rm_X5_joints : Room := { frames := 1, cells := 0, slots := 0, locals := 13 }
theorem in_X5_joints_X5 : ∀ w ∈ wsX50, w ∈ wsX5_joints := fun _ h => List.mem_cons_of_mem _ (List.mem_append_right _ h)
theorem k_X5_joints_f15 {s : State} {args : Array Value} (hts : ∀ w ∈ wsX5_joints, w.before args s = true) : (Cond.fieldLink RX5 15 "FoldRule$Strip" "links" "I").before args s = true := hts _ (by decide +kernel)
theorem k_X5_joints_m33 {s : State} {args : Array Value} (hts : ∀ w ∈ wsX5_joints, w.before args s = true) : (Cond.methodLink RX5 33 Lib.Math.max.name).before args s = true := hts _ (by decide +kernel)
theorem k_X5_joints_smax {s : State} {args : Array Value} (hts : ∀ w ∈ wsX5_joints, w.before args s = true) : (Cond.static Lib.Math.max.name).before args s = true := hts _ (by decide +kernel)
theorem k_X5_joints_imath {s : State} {args : Array Value} (hts : ∀ w ∈ wsX5_joints, w.before args s = true) : (Cond.initialized "java/lang/Math").before args s = true := hts _ (by decide +kernel)
theorem k_X5_joints_bmax {s : State} {args : Array Value} (hts : ∀ w ∈ wsX5_joints, w.before args s = true) : (Cond.code Lib.Math.max.name Lib.Math.max.code 2 (some .int)).before args s = true := hts _ (by decide +kernel)
set_option maxHeartbeats 4000000 in
set_option maxRecDepth 100000 in
theorem c_X5_joints {l : Launch} {D : va_G} {Y : ClassId × ClassId × ClassId} {q q_lengths : Nat} {g_links g_folded g_stiff : Int32} {Q : Int32 → Prop} (h : wp_X5_joints g_links Q) (sz : Nat) : MtI l yX5_joints wsX5_joints rm_X5_joints [.ref q] D Y (w_X5_joints Y q q_lengths g_links g_folded g_stiff) (fun r (_ : Unit) => Q r) (fun _ : Unit => (w_X5_joints Y q q_lengths g_links g_folded g_stiff)) sz := by
  refine ct_i (cc := cX5_joints) (nL := 1) (ret := (some .int)) (by decide) rfl (Nat.le_of_ble_eq_true rfl) ?_ sz
  intro p e s m below meth c A ls C hK hA hP hD hS hl
  obtain ⟨⟨hx, hb, hml, hown, hts⟩, hr, hlocks, hN⟩ := id C
  have hown : s.vm.findClass RX5 = some m.cls := hown
  have hl : lv_has ls 1 [(0, .ref q)] := hl
  unfold wp_X5_joints at h
  refine lv_aload_n hx hb dX5_joints_0 rfl (lv_at hl 0 rfl) ?_
  refine va_get (D := D) (ci := 5) (v := .int g_links) (C := RX5) (T := TX5) (N := 4) hx hb hts in_X5_joints_X5 hown hK hP 0 rfl rfl 1 (by decide) (k_X5_joints_f15 hts) (fun _ h9 => h9) rfl dX5_joints_1 ?_
  refine lv_iconst (v := 1) hx hb dX5_joints_4 (by decide) ?_
  refine lv_isub hx hb dX5_joints_5 ?_
  refine lv_iconst (v := 0) hx hb dX5_joints_6 (by decide) ?_
  refine va_mmax hx hb (hml.trans hl.1.symm) hown (k_X5_joints_m33 hts) (k_X5_joints_smax hts) (k_X5_joints_imath hts) (k_X5_joints_bmax hts) (Nat.le_of_ble_eq_true rfl) (Nat.le_of_ble_eq_true rfl) (Nat.le_of_ble_eq_true rfl) (Nat.le_of_ble_eq_true rfl) dX5_joints_7 ?_
  refine lv_topi (fun z2 ez2 => ?_)
  have h := h z2 ez2
  exact ret_i () hx hb hr hlocks hK hP hD hS h dX5_joints_10
abbrev rm_X5_foldLimit : Room := { frames := 2, cells := 0, slots := 0, locals := 33 }
set_option maxHeartbeats 4000000 in
set_option maxRecDepth 100000 in
theorem c_X5_foldLimit {l : Launch} {D : va_G} {Y : ClassId × ClassId × ClassId} {q q_lengths : Nat} {g_links g_folded g_stiff : Int32} {Q : Int32 → Prop} (h : wp_X5_foldLimit g_links Q) (sz : Nat) : MtI l yX5_foldLimit wsX5_foldLimit rm_X5_foldLimit [.ref q] D Y (w_X5_foldLimit Y q q_lengths g_links g_folded g_stiff) (fun r (_ : Unit) => Q r) (fun _ : Unit => (w_X5_foldLimit Y q q_lengths g_links g_folded g_stiff)) sz := by
  refine ct_i (cc := cX5_foldLimit) (nL := 1) (ret := (some .int)) (by decide) rfl (Nat.le_of_ble_eq_true rfl) ?_ sz
  intro p e s m below meth c A ls C hK hA hP hD hS hl
  obtain ⟨⟨hx, hb, hml, hown, hts⟩, hr, hlocks, hN⟩ := id C
  have hown : s.vm.findClass RX5 = some m.cls := hown
  have hl : lv_has ls 1 [(0, .ref q)] := hl
  unfold wp_X5_foldLimit at h
  refine lv_iconst (v := 1) hx hb dX5_foldLimit_0 (by decide) ?_
  refine lv_aload_n hx hb dX5_foldLimit_1 rfl (lv_at hl 0 rfl) ?_
  have hp : Parts (w_X5_foldLimit Y q q_lengths g_links g_folded g_stiff) (w_X5_joints Y q q_lengths g_links g_folded g_stiff) (pick (w_X5_foldLimit Y q q_lengths g_links g_folded g_stiff) []) [0] [] := ⟨rfl, rfl, rfl, rfl, by decide⟩
  refine go_i (ps := [0]) (wn := (fun _ : Unit => (w_X5_foldLimit Y q q_lengths g_links g_folded g_stiff))) hp hP hD hS hA rfl (fun _ => rfl) (va_runV (As := []) (rest := [.int (1 : Int32)]) ⟨hx, hb, hml, hown, hts⟩ (c_X5_joints h _) (cwV 0 hts gX5_foldLimit_X5_joints rfl rfl rfl (by decide +kernel) ⟨Nat.le_of_ble_eq_true rfl, Nat.le_of_ble_eq_true rfl⟩) (pre_V (wc := (w_X5_joints Y q q_lengths g_links g_folded g_stiff)) (b := q) (q0 := 0) (ci := 5) (q := (RX5, TX5, 4)) hK hN (P_sub hP [0] rfl) (hD.sub [0] rfl rfl) rfl rfl) rfl rfl hl.1 rfl (lv_room (Nat.le_of_ble_eq_true rfl)) dX5_foldLimit_2 ⟨Nat.le_of_ble_eq_true rfl, Nat.le_of_ble_eq_true rfl⟩) (fun r2 u H locs h hP hD hS => ?_)
  try dsimp only at h
  have hP : va_P D vwCl (w_X5_foldLimit Y q q_lengths g_links g_folded g_stiff) H := hP
  have hD : va_D A (w_X5_foldLimit Y q q_lengths g_links g_folded g_stiff) := hD
  refine lv_ishl hx hb dX5_foldLimit_5 ?_
  exact ret_i () hx hb hr hlocks hK hP hD hS h dX5_foldLimit_6
abbrev rm_X5_isFold : Room := { frames := 3, cells := 0, slots := 0, locals := 53 }
theorem in_X5_isFold_X5 : ∀ w ∈ wsX50, w ∈ wsX5_isFold := fun _ h => List.mem_cons_of_mem _ (List.mem_append_right _ h)
theorem k_X5_isFold_f19 {s : State} {args : Array Value} (hts : ∀ w ∈ wsX5_isFold, w.before args s = true) : (Cond.fieldLink RX5 19 "FoldRule$Strip" "folded" "I").before args s = true := hts _ (by decide +kernel)
theorem k_X5_isFold_f22 {s : State} {args : Array Value} (hts : ∀ w ∈ wsX5_isFold, w.before args s = true) : (Cond.fieldLink RX5 22 "FoldRule$Strip" "stiff" "I").before args s = true := hts _ (by decide +kernel)
set_option maxHeartbeats 4000000 in
set_option maxRecDepth 100000 in
theorem c_X5_isFold {l : Launch} {D : va_G} {Y : ClassId × ClassId × ClassId} {q q_lengths : Nat} {g_links g_folded g_stiff x1 : Int32} {Q : Int32 → Prop} (h : wp_X5_isFold g_links g_folded g_stiff x1 Q) (sz : Nat) : MtI l yX5_isFold wsX5_isFold rm_X5_isFold [.ref q, .int x1] D Y (w_X5_isFold Y q q_lengths g_links g_folded g_stiff) (fun r (_ : Unit) => Q r) (fun _ : Unit => (w_X5_isFold Y q q_lengths g_links g_folded g_stiff)) sz := by
  refine ct_i (cc := cX5_isFold) (nL := 2) (ret := (some .boolean)) (by decide) rfl (Nat.le_of_ble_eq_true rfl) ?_ sz
  intro p e s m below meth c A ls C hK hA hP hD hS hl
  obtain ⟨⟨hx, hb, hml, hown, hts⟩, hr, hlocks, hN⟩ := id C
  have hown : s.vm.findClass RX5 = some m.cls := hown
  have hl : lv_has ls 2 [(0, .ref q), (1, .int x1)] := hl
  unfold wp_X5_isFold at h
  refine lv_iload_n hx hb dX5_isFold_0 rfl (lv_at hl 1 rfl) ?_
  refine lv_if_lt (tgt := 30) hx hb dX5_isFold_1 (by decide) (fun c2 => ?_) (fun c2 => ?_)
  · have h := h.1 c2
    refine lv_iconst (v := 0) hx hb dX5_isFold_30 (by decide) ?_
    exact ret_z () hx hb hr hlocks hK hP hD hS (Or.inl rfl) h dX5_isFold_31
  · have h := h.2 c2
    refine lv_iload_n hx hb dX5_isFold_4 rfl (lv_at hl 1 rfl) ?_
    refine lv_aload_n hx hb dX5_isFold_5 rfl (lv_at hl 0 rfl) ?_
    have hp : Parts (w_X5_isFold Y q q_lengths g_links g_folded g_stiff) (w_X5_foldLimit Y q q_lengths g_links g_folded g_stiff) (pick (w_X5_isFold Y q q_lengths g_links g_folded g_stiff) []) [0] [] := ⟨rfl, rfl, rfl, rfl, by decide⟩
    refine go_i (ps := [0]) (wn := (fun _ : Unit => (w_X5_isFold Y q q_lengths g_links g_folded g_stiff))) hp hP hD hS hA rfl (fun _ => rfl) (va_runV (As := []) (rest := [.int x1]) ⟨hx, hb, hml, hown, hts⟩ (c_X5_foldLimit h _) (cwV 0 hts gX5_isFold_X5_foldLimit rfl rfl rfl (by decide +kernel) ⟨Nat.le_of_ble_eq_true rfl, Nat.le_of_ble_eq_true rfl⟩) (pre_V (wc := (w_X5_foldLimit Y q q_lengths g_links g_folded g_stiff)) (b := q) (q0 := 0) (ci := 5) (q := (RX5, TX5, 4)) hK hN (P_sub hP [0] rfl) (hD.sub [0] rfl rfl) rfl rfl) rfl rfl hl.1 rfl (lv_room (Nat.le_of_ble_eq_true rfl)) dX5_isFold_6 ⟨Nat.le_of_ble_eq_true rfl, Nat.le_of_ble_eq_true rfl⟩) (fun r3 u H locs h hP hD hS => ?_)
    try dsimp only at h
    have hP : va_P D vwCl (w_X5_isFold Y q q_lengths g_links g_folded g_stiff) H := hP
    have hD : va_D A (w_X5_isFold Y q q_lengths g_links g_folded g_stiff) := hD
    refine lv_icmp_ge (tgt := 30) hx hb dX5_isFold_9 (by decide) (fun c4 => ?_) (fun c4 => ?_)
    · have h := h.1 c4
      refine lv_iconst (v := 0) hx hb dX5_isFold_30 (by decide) ?_
      exact ret_z () hx hb hr hlocks hK hP hD hS (Or.inl rfl) h dX5_isFold_31
    · have h := h.2 c4
      refine lv_iload_n hx hb dX5_isFold_12 rfl (lv_at hl 1 rfl) ?_
      refine lv_aload_n hx hb dX5_isFold_13 rfl (lv_at hl 0 rfl) ?_
      refine va_get (D := D) (ci := 5) (v := .int g_folded) (C := RX5) (T := TX5) (N := 4) hx hb hts in_X5_isFold_X5 hown hK hP 0 rfl rfl 2 (by decide) (k_X5_isFold_f19 hts) (fun _ h9 => h9) rfl dX5_isFold_14 ?_
      refine lv_ixor hx hb dX5_isFold_17 ?_
      refine lv_aload_n hx hb dX5_isFold_18 rfl (lv_at hl 0 rfl) ?_
      refine va_get (D := D) (ci := 5) (v := .int g_stiff) (C := RX5) (T := TX5) (N := 4) hx hb hts in_X5_isFold_X5 hown hK hP 0 rfl rfl 3 (by decide) (k_X5_isFold_f22 hts) (fun _ h9 => h9) rfl dX5_isFold_19 ?_
      refine lv_iand hx hb dX5_isFold_22 ?_
      refine lv_if_ne (tgt := 30) hx hb dX5_isFold_23 (by decide) (fun c5 => ?_) (fun c5 => ?_)
      · have h := h.1 c5
        refine lv_iconst (v := 0) hx hb dX5_isFold_30 (by decide) ?_
        exact ret_z () hx hb hr hlocks hK hP hD hS (Or.inl rfl) h dX5_isFold_31
      · have h := h.2 c5
        refine lv_iconst (v := 1) hx hb dX5_isFold_26 (by decide) ?_
        refine lv_goto (tgt := 31) hx hb dX5_isFold_27 (by decide) ?_
        exact ret_z () hx hb hr hlocks hK hP hD hS (Or.inr rfl) h dX5_isFold_31
abbrev rm_X7_hasBit : Room := { frames := 0, cells := 0, slots := 0, locals := 0 }
set_option maxHeartbeats 4000000 in
set_option maxRecDepth 100000 in
theorem c_X7_hasBit {l : Launch} {D : va_G} {Y : ClassId × ClassId × ClassId} {x0 x1 : Int32} {Q : Int32 → Prop} (h : wp_X7_hasBit x0 x1 Q) (sz : Nat) : MtI l yX7_hasBit wsX7_hasBit rm_X7_hasBit [.int x0, .int x1] D Y (w_X7_hasBit Y ) (fun r (_ : Unit) => Q r) (fun _ : Unit => (w_X7_hasBit Y )) sz := by
  refine ct_i (cc := cX7_hasBit) (nL := 2) (ret := (some .boolean)) (by decide) rfl (Nat.le_of_ble_eq_true rfl) ?_ sz
  intro p e s m below meth c A ls C hK hA hP hD hS hl
  obtain ⟨⟨hx, hb, hml, hown, hts⟩, hr, hlocks, hN⟩ := id C
  have hown : s.vm.findClass RX7 = some m.cls := hown
  have hl : lv_has ls 2 [(0, .int x0), (1, .int x1)] := hl
  unfold wp_X7_hasBit at h
  refine lv_iload_n hx hb dX7_hasBit_0 rfl (lv_at hl 0 rfl) ?_
  refine lv_iload_n hx hb dX7_hasBit_1 rfl (lv_at hl 1 rfl) ?_
  refine lv_ishr hx hb dX7_hasBit_2 ?_
  refine lv_iconst (v := 1) hx hb dX7_hasBit_3 (by decide) ?_
  refine lv_iand hx hb dX7_hasBit_4 ?_
  refine lv_iconst (v := 1) hx hb dX7_hasBit_5 (by decide) ?_
  refine lv_icmp_ne (tgt := 13) hx hb dX7_hasBit_6 (by decide) (fun c1 => ?_) (fun c1 => ?_)
  · have h := h.1 c1
    refine lv_iconst (v := 0) hx hb dX7_hasBit_13 (by decide) ?_
    exact ret_z () hx hb hr hlocks hK hP hD hS (Or.inl rfl) h dX7_hasBit_14
  · have h := h.2 c1
    refine lv_iconst (v := 1) hx hb dX7_hasBit_9 (by decide) ?_
    refine lv_goto (tgt := 14) hx hb dX7_hasBit_10 (by decide) ?_
    exact ret_z () hx hb hr hlocks hK hP hD hS (Or.inr rfl) h dX7_hasBit_14
abbrev rm_X2_layOutFiled : Room := { frames := 1, cells := 0, slots := 0, locals := 21 }
theorem in_X2_layOutFiled_X2 : ∀ w ∈ wsX20, w ∈ wsX2_layOutFiled := fun _ h => List.mem_cons_of_mem _ (List.mem_append_right _ h)
theorem in_X2_layOutFiled_X5 : ∀ w ∈ wsX50, w ∈ wsX2_layOutFiled := fun _ h => List.mem_cons_of_mem _ (List.mem_append_left _ (List.mem_append_right _ h))
theorem k_X2_layOutFiled_f31 {s : State} {args : Array Value} (hts : ∀ w ∈ wsX2_layOutFiled, w.before args s = true) : (Cond.fieldLink RX2 31 "FoldRule$Lay" "links" "I").before args s = true := hts _ (by decide +kernel)
theorem k_X2_layOutFiled_f9 {s : State} {args : Array Value} (hts : ∀ w ∈ wsX2_layOutFiled, w.before args s = true) : (Cond.fieldLink RX2 9 "FoldRule$Lay" "places" "[I").before args s = true := hts _ (by decide +kernel)
theorem k_X2_layOutFiled_f32 {s : State} {args : Array Value} (hts : ∀ w ∈ wsX2_layOutFiled, w.before args s = true) : (Cond.fieldLink RX2 32 "FoldRule$Lay" "low" "I").before args s = true := hts _ (by decide +kernel)
theorem k_X2_layOutFiled_m25 {s : State} {args : Array Value} (hts : ∀ w ∈ wsX2_layOutFiled, w.before args s = true) : (Cond.methodLink RX2 25 Lib.Math.min.name).before args s = true := hts _ (by decide +kernel)
theorem k_X2_layOutFiled_smin {s : State} {args : Array Value} (hts : ∀ w ∈ wsX2_layOutFiled, w.before args s = true) : (Cond.static Lib.Math.min.name).before args s = true := hts _ (by decide +kernel)
theorem k_X2_layOutFiled_imath {s : State} {args : Array Value} (hts : ∀ w ∈ wsX2_layOutFiled, w.before args s = true) : (Cond.initialized "java/lang/Math").before args s = true := hts _ (by decide +kernel)
theorem k_X2_layOutFiled_bmin {s : State} {args : Array Value} (hts : ∀ w ∈ wsX2_layOutFiled, w.before args s = true) : (Cond.code Lib.Math.min.name Lib.Math.min.code 2 (some .int)).before args s = true := hts _ (by decide +kernel)
theorem k_X2_layOutFiled_f35 {s : State} {args : Array Value} (hts : ∀ w ∈ wsX2_layOutFiled, w.before args s = true) : (Cond.fieldLink RX2 35 "FoldRule$Lay" "high" "I").before args s = true := hts _ (by decide +kernel)
theorem k_X2_layOutFiled_m41 {s : State} {args : Array Value} (hts : ∀ w ∈ wsX2_layOutFiled, w.before args s = true) : (Cond.methodLink RX2 41 Lib.Math.max.name).before args s = true := hts _ (by decide +kernel)
theorem k_X2_layOutFiled_smax {s : State} {args : Array Value} (hts : ∀ w ∈ wsX2_layOutFiled, w.before args s = true) : (Cond.static Lib.Math.max.name).before args s = true := hts _ (by decide +kernel)
theorem k_X2_layOutFiled_bmax {s : State} {args : Array Value} (hts : ∀ w ∈ wsX2_layOutFiled, w.before args s = true) : (Cond.code Lib.Math.max.name Lib.Math.max.code 2 (some .int)).before args s = true := hts _ (by decide +kernel)
theorem k_X2_layOutFiled_iX7 {s : State} {args : Array Value} (hts : ∀ w ∈ wsX2_layOutFiled, w.before args s = true) : (Cond.initialized RX7).before args s = true := hts _ (by decide +kernel)
theorem k_X2_layOutFiled_stX7_hasBit {s : State} {args : Array Value} (hts : ∀ w ∈ wsX2_layOutFiled, w.before args s = true) : (Cond.static yX7_hasBit).before args s = true := hts _ (by decide +kernel)
set_option maxHeartbeats 4000000 in
set_option maxRecDepth 100000 in
theorem L_X2_layOutFiled_32 {p : Program} {l : Launch} {e : Env} {s : State} {m : MethodId} {args : Array Value} {below : List Frame} {meth : Method} {c : Code} {D : va_G} {Y : ClassId × ClassId × ClassId} {A : Nat → Prop} {q1 q1_lengths q q_places : Nat} {g1_links g1_folded g1_stiff g_links : Int32} {g1_lengths : Nat → Int32} {x2 x3 x4 : Int32} {Q : Int32 → Int32 → Int32 → (Nat → Int32) → Prop} (C : Ctx p s m args meth c cX2_layOutFiled 9 none wsX2_layOutFiled RX2) (hK : va_K D vwCl (tyS Y) s) (hA : ∀ q, s.heap.size ≤ q → A q) : ∀ (n : Nat) (x5 x6 x7 g_low g_high : Int32) (g_places : Nat → Int32), itr6 (B_X2_layOutFiled_32 g_links g1_lengths x2 x3 x4 Q) n x5 x6 x7 g_low g_high g_places → ∀ (H : Heap) (locs : List Loc) (ls : Array Slot), va_P D vwCl (w_X2_layOutFiled Y q1 q1_lengths q q_places g1_links g1_folded g1_stiff g_links g_low g_high g1_lengths g_places) H → va_D A (w_X2_layOutFiled Y q1 q1_lengths q q_places g1_links g1_folded g1_stiff g_links g_low g_high g1_lengths g_places) → va_S A s.heap H locs → lv_has ls 9 [(0, .ref q), (1, .ref q1), (2, .int x2), (3, .int x3), (4, .int x4), (5, .int x5), (6, .int x6), (7, .int x7)] → W p l e rm_X2_layOutFiled s m args below meth c H locs 0 0 (QV below args s D Y A (fun (u : Int32 × Int32 × Int32 × (Nat → Int32)) => Q u.1 u.2.1 u.2.2.1 u.2.2.2) (fun u : Int32 × Int32 × Int32 × (Nat → Int32) => (w_X2_layOutFiled Y q1 q1_lengths q q_places g1_links g1_folded g1_stiff u.1 u.2.1 u.2.2.1 g1_lengths u.2.2.2))) (F0 m 32 ls []) := by
  intro n
  induction n with
  | zero => intro x5 x6 x7 g_low g_high g_places h; exact False.elim h
  | succ n ih =>
    intro x5 x6 x7 g_low g_high g_places h H locs ls hP hD hS hl
    obtain ⟨⟨hx, hb, hml, hown, hts⟩, hr, hlocks, hN⟩ := id C
    have h : B_X2_layOutFiled_32 g_links g1_lengths x2 x3 x4 Q (itr6 (B_X2_layOutFiled_32 g_links g1_lengths x2 x3 x4 Q) n) x5 x6 x7 g_low g_high g_places := h
    unfold B_X2_layOutFiled_32 at h
    refine lv_iload hx hb dX2_layOutFiled_32 (lv_at hl 7 rfl) ?_
    refine lv_aload_n hx hb dX2_layOutFiled_34 rfl (lv_at hl 0 rfl) ?_
    refine va_get (D := D) (ci := 2) (v := .int g_links) (C := RX2) (T := TX2) (N := 4) hx hb hts in_X2_layOutFiled_X2 hown hK hP 1 rfl rfl 1 (by decide) (k_X2_layOutFiled_f31 hts) (fun _ h9 => h9) rfl dX2_layOutFiled_35 ?_
    refine lv_icmp_ge (tgt := 141) hx hb dX2_layOutFiled_38 (by decide) (fun c18 => ?_) (fun c18 => ?_)
    · have h := h.1 c18
      exact ret_v (g_links, g_low, g_high, g_places) hx hb hr hlocks hK hP hD hS h dX2_layOutFiled_141
    · have h := h.2 c18
      refine lv_iload hx hb dX2_layOutFiled_41 (lv_at hl 7 rfl) ?_
      refine lv_iload_n hx hb dX2_layOutFiled_43 rfl (lv_at hl 3 rfl) ?_
      refine lv_icmp_ne (tgt := 60) hx hb dX2_layOutFiled_44 (by decide) (fun c19 => ?_) (fun c19 => ?_)
      · have h := h.1 c19
        refine lv_aload_n hx hb dX2_layOutFiled_60 rfl (lv_at hl 1 rfl) ?_
        refine va_getN (D := D) (ci := 5) (v := .ref q1_lengths) (C := RX5) (T := TX5) (N := 4) hx hb hts in_X2_layOutFiled_X5 hown hK hP 0 rfl rfl 0 (by decide) (va_Nw.use rfl (nwX2_38 hN)) (fun _ h9 => h9) rfl dX2_layOutFiled_61 ?_
        refine lv_iload hx hb dX2_layOutFiled_64 (lv_at hl 7 rfl) ?_
        obtain ⟨hin, h⟩ := h
        refine va_iald hx hb hK hP 2 0 rfl rfl hin dX2_layOutFiled_66 ?_
        refine lv_topi (fun z20 ez20 => ?_)
        have h := h z20 ez20
        refine lv_istore (lv' := [(8, .int z20), (0, .ref q), (1, .ref q1), (2, .int x2), (3, .int x3), (4, .int x4), (5, .int x5), (6, .int x6), (7, .int x7)]) hx hb dX2_layOutFiled_67 hl (by decide) rfl (fun ls hl => ?_)
        refine lv_iload hx hb dX2_layOutFiled_69 (lv_at hl 6 rfl) ?_
        refine lv_iload hx hb dX2_layOutFiled_71 (lv_at hl 7 rfl) ?_
        refine lv_iload hx hb dX2_layOutFiled_73 (lv_at hl 0 rfl) ?_
        refine lv_imul hx hb dX2_layOutFiled_75 ?_
        refine lv_iadd hx hb dX2_layOutFiled_76 ?_
        refine lv_topi (fun z21 ez21 => ?_)
        have h := h z21 ez21
        refine lv_istore (lv' := [(5, .int z21), (8, .int z20), (0, .ref q), (1, .ref q1), (2, .int x2), (3, .int x3), (4, .int x4), (6, .int x6), (7, .int x7)]) hx hb dX2_layOutFiled_77 hl (by decide) rfl (fun ls hl => ?_)
        refine lv_aload_n hx hb dX2_layOutFiled_79 rfl (lv_at hl 2 rfl) ?_
        refine va_get (D := D) (ci := 2) (v := .ref q_places) (C := RX2) (T := TX2) (N := 4) hx hb hts in_X2_layOutFiled_X2 hown hK hP 1 rfl rfl 0 (by decide) (k_X2_layOutFiled_f9 hts) (fun _ h9 => h9) rfl dX2_layOutFiled_80 ?_
        refine lv_iload hx hb dX2_layOutFiled_83 (lv_at hl 8 rfl) ?_
        refine lv_iconst (v := 1) hx hb dX2_layOutFiled_85 (by decide) ?_
        refine lv_iadd hx hb dX2_layOutFiled_86 ?_
        refine lv_iload hx hb dX2_layOutFiled_87 (lv_at hl 0 rfl) ?_
        obtain ⟨hin, h⟩ := h
        refine va_iast hx hb hK hP hD hS 3 0 rfl rfl hin dX2_layOutFiled_89 (fun H locs hP hD hS => ?_)
        have hP : va_P D vwCl (w_X2_layOutFiled Y q1 q1_lengths q q_places g1_links g1_folded g1_stiff g_links g_low g_high g1_lengths (upd g_places ((x7 + (1 : Int32))).toNatClampNeg z21)) H := hP
        have hD : va_D A (w_X2_layOutFiled Y q1 q1_lengths q q_places g1_links g1_folded g1_stiff g_links g_low g_high g1_lengths (upd g_places ((x7 + (1 : Int32))).toNatClampNeg z21)) := hD
        refine lv_aload_n hx hb dX2_layOutFiled_90 rfl (lv_at hl 2 rfl) ?_
        refine lv_aload_n hx hb dX2_layOutFiled_91 rfl (lv_at hl 2 rfl) ?_
        refine va_get (D := D) (ci := 2) (v := .int g_low) (C := RX2) (T := TX2) (N := 4) hx hb hts in_X2_layOutFiled_X2 hown hK hP 1 rfl rfl 2 (by decide) (k_X2_layOutFiled_f32 hts) (fun _ h9 => h9) rfl dX2_layOutFiled_92 ?_
        refine lv_iload hx hb dX2_layOutFiled_95 (lv_at hl 0 rfl) ?_
        refine va_mmin hx hb (hml.trans hl.1.symm) hown (k_X2_layOutFiled_m25 hts) (k_X2_layOutFiled_smin hts) (k_X2_layOutFiled_imath hts) (k_X2_layOutFiled_bmin hts) (Nat.le_of_ble_eq_true rfl) (Nat.le_of_ble_eq_true rfl) (Nat.le_of_ble_eq_true rfl) (Nat.le_of_ble_eq_true rfl) dX2_layOutFiled_97 ?_
        refine lv_topi (fun z22 ez22 => ?_)
        have h := h z22 ez22
        refine va_put (D := D) (ci := 2) (v := .int z22) (ty := .int) (C := RX2) (T := TX2) (N := 4) hx hb hts in_X2_layOutFiled_X2 tyX2 tyX2_ok nmX2 hown hK hP hD hS 1 rfl rfl 2 (by decide) (k_X2_layOutFiled_f32 hts) (fun _ h9 => h9) rfl (by decide +kernel) rfl rfl (Nat.le_of_ble_eq_true rfl) dX2_layOutFiled_100 (fun H locs hP hD hS => ?_)
        have hP : va_P D vwCl (w_X2_layOutFiled Y q1 q1_lengths q q_places g1_links g1_folded g1_stiff g_links z22 g_high g1_lengths (upd g_places ((x7 + (1 : Int32))).toNatClampNeg z21)) H := hP
        have hD : va_D A (w_X2_layOutFiled Y q1 q1_lengths q q_places g1_links g1_folded g1_stiff g_links z22 g_high g1_lengths (upd g_places ((x7 + (1 : Int32))).toNatClampNeg z21)) := hD
        refine lv_aload_n hx hb dX2_layOutFiled_103 rfl (lv_at hl 2 rfl) ?_
        refine lv_aload_n hx hb dX2_layOutFiled_104 rfl (lv_at hl 2 rfl) ?_
        refine va_get (D := D) (ci := 2) (v := .int g_high) (C := RX2) (T := TX2) (N := 4) hx hb hts in_X2_layOutFiled_X2 hown hK hP 1 rfl rfl 3 (by decide) (k_X2_layOutFiled_f35 hts) (fun _ h9 => h9) rfl dX2_layOutFiled_105 ?_
        refine lv_iload hx hb dX2_layOutFiled_108 (lv_at hl 0 rfl) ?_
        refine va_mmax hx hb (hml.trans hl.1.symm) hown (k_X2_layOutFiled_m41 hts) (k_X2_layOutFiled_smax hts) (k_X2_layOutFiled_imath hts) (k_X2_layOutFiled_bmax hts) (Nat.le_of_ble_eq_true rfl) (Nat.le_of_ble_eq_true rfl) (Nat.le_of_ble_eq_true rfl) (Nat.le_of_ble_eq_true rfl) dX2_layOutFiled_110 ?_
        refine lv_topi (fun z23 ez23 => ?_)
        have h := h z23 ez23
        refine va_put (D := D) (ci := 2) (v := .int z23) (ty := .int) (C := RX2) (T := TX2) (N := 4) hx hb hts in_X2_layOutFiled_X2 tyX2 tyX2_ok nmX2 hown hK hP hD hS 1 rfl rfl 3 (by decide) (k_X2_layOutFiled_f35 hts) (fun _ h9 => h9) rfl (by decide +kernel) rfl rfl (Nat.le_of_ble_eq_true rfl) dX2_layOutFiled_113 (fun H locs hP hD hS => ?_)
        have hP : va_P D vwCl (w_X2_layOutFiled Y q1 q1_lengths q q_places g1_links g1_folded g1_stiff g_links z22 z23 g1_lengths (upd g_places ((x7 + (1 : Int32))).toNatClampNeg z21)) H := hP
        have hD : va_D A (w_X2_layOutFiled Y q1 q1_lengths q q_places g1_links g1_folded g1_stiff g_links z22 z23 g1_lengths (upd g_places ((x7 + (1 : Int32))).toNatClampNeg z21)) := hD
        refine lv_iload_n hx hb dX2_layOutFiled_116 rfl (lv_at hl 4 rfl) ?_
        refine lv_iload hx hb dX2_layOutFiled_117 (lv_at hl 8 rfl) ?_
        have hp : Parts (w_X2_layOutFiled Y q1 q1_lengths q q_places g1_links g1_folded g1_stiff g_links z22 z23 g1_lengths (upd g_places ((x7 + (1 : Int32))).toNatClampNeg z21)) (w_X7_hasBit Y ) (pick (w_X2_layOutFiled Y q1 q1_lengths q q_places g1_links g1_folded g1_stiff g_links z22 z23 g1_lengths (upd g_places ((x7 + (1 : Int32))).toNatClampNeg z21)) [0, 1, 2, 3]) [] [0, 1, 2, 3] := ⟨rfl, rfl, rfl, rfl, by decide⟩
        refine go_i (ps := [0, 1, 2, 3]) (wn := (fun _ : Unit => (w_X2_layOutFiled Y q1 q1_lengths q q_places g1_links g1_folded g1_stiff g_links z22 z23 g1_lengths (upd g_places ((x7 + (1 : Int32))).toNatClampNeg z21)))) hp hP hD hS hA rfl (fun _ => rfl) (va_runSN (As := [.int x2, .int x7]) (rest := []) ⟨hx, hb, hml, hown, hts⟩ (c_X7_hasBit h _) ⟨va_cnB 2 hts gX2_layOutFiled_X7_hasBit_n44 rfl rfl rfl (nwX2_44 hN) (k_X2_layOutFiled_iX7 hts) (by decide +kernel) ⟨Nat.le_of_ble_eq_true rfl, Nat.le_of_ble_eq_true rfl⟩, (k_X2_layOutFiled_stX7_hasBit hts), trivial⟩ (pre_S (wc := (w_X7_hasBit Y )) hK hN (P_sub hP [] rfl) (hD.sub [] rfl rfl)) rfl rfl hl.1 rfl (lv_room (Nat.le_of_ble_eq_true rfl)) dX2_layOutFiled_119 ⟨Nat.le_of_ble_eq_true rfl, Nat.le_of_ble_eq_true rfl⟩) (fun r24 u H locs h hP hD hS => ?_)
        try dsimp only at h
        have hP : va_P D vwCl (w_X2_layOutFiled Y q1 q1_lengths q q_places g1_links g1_folded g1_stiff g_links z22 z23 g1_lengths (upd g_places ((x7 + (1 : Int32))).toNatClampNeg z21)) H := hP
        have hD : va_D A (w_X2_layOutFiled Y q1 q1_lengths q q_places g1_links g1_folded g1_stiff g_links z22 z23 g1_lengths (upd g_places ((x7 + (1 : Int32))).toNatClampNeg z21)) := hD
        refine lv_if_eq (tgt := 131) hx hb dX2_layOutFiled_122 (by decide) (fun c25 => ?_) (fun c25 => ?_)
        · have h := h.1 c25
          refine lv_iload hx hb dX2_layOutFiled_131 (lv_at hl 7 rfl) ?_
          refine lv_istore (lv' := [(6, .int x6), (5, .int z21), (8, .int z20), (0, .ref q), (1, .ref q1), (2, .int x2), (3, .int x3), (4, .int x4), (7, .int x7)]) hx hb dX2_layOutFiled_133 hl (by decide) rfl (fun ls hl => ?_)
          obtain ⟨z26, ez26⟩ : ∃ y : Int32, y = (x7 + (1 : Int32)) := ⟨_, rfl⟩
          have h := h z26 ez26
          refine lv_iinc (v := z26) (lv' := [(7, .int z26), (6, .int x6), (5, .int z21), (8, .int z20), (0, .ref q), (1, .ref q1), (2, .int x2), (3, .int x3), (4, .int x4)]) hx hb dX2_layOutFiled_135 hl (k := 8) rfl (by rw [ez26]; rfl) (by decide) rfl (fun ls hl => ?_)
          refine lv_goto (tgt := 32) hx hb dX2_layOutFiled_138 (by decide) ?_
          exact ih _ _ _ _ _ _ h _ _ _ hP hD hS (lv_sub hl [4, 5, 6, 7, 8, 2, 1, 0] rfl)
        · have h := h.2 c25
          refine lv_iload hx hb dX2_layOutFiled_125 (lv_at hl 7 rfl) ?_
          refine lv_ineg hx hb dX2_layOutFiled_127 ?_
          refine lv_goto (tgt := 133) hx hb dX2_layOutFiled_128 (by decide) ?_
          refine lv_topi (fun z27 ez27 => ?_)
          have h := h z27 ez27
          refine lv_istore (lv' := [(6, .int z27), (5, .int z21), (8, .int z20), (0, .ref q), (1, .ref q1), (2, .int x2), (3, .int x3), (4, .int x4), (7, .int x7)]) hx hb dX2_layOutFiled_133 hl (by decide) rfl (fun ls hl => ?_)
          obtain ⟨z28, ez28⟩ : ∃ y : Int32, y = (x7 + (1 : Int32)) := ⟨_, rfl⟩
          have h := h z28 ez28
          refine lv_iinc (v := z28) (lv' := [(7, .int z28), (6, .int z27), (5, .int z21), (8, .int z20), (0, .ref q), (1, .ref q1), (2, .int x2), (3, .int x3), (4, .int x4)]) hx hb dX2_layOutFiled_135 hl (k := 8) rfl (by rw [ez28]; rfl) (by decide) rfl (fun ls hl => ?_)
          refine lv_goto (tgt := 32) hx hb dX2_layOutFiled_138 (by decide) ?_
          exact ih _ _ _ _ _ _ h _ _ _ hP hD hS (lv_sub hl [4, 5, 6, 7, 8, 2, 1, 0] rfl)
      · have h := h.2 c19
        refine lv_aload_n hx hb dX2_layOutFiled_47 rfl (lv_at hl 1 rfl) ?_
        refine va_getN (D := D) (ci := 5) (v := .ref q1_lengths) (C := RX5) (T := TX5) (N := 4) hx hb hts in_X2_layOutFiled_X5 hown hK hP 0 rfl rfl 0 (by decide) (va_Nw.use rfl (nwX2_38 hN)) (fun _ h9 => h9) rfl dX2_layOutFiled_48 ?_
        refine lv_iload hx hb dX2_layOutFiled_51 (lv_at hl 7 rfl) ?_
        obtain ⟨hin, h⟩ := h
        refine va_iald hx hb hK hP 2 0 rfl rfl hin dX2_layOutFiled_53 ?_
        refine lv_iload hx hb dX2_layOutFiled_54 (lv_at hl 4 rfl) ?_
        refine lv_isub hx hb dX2_layOutFiled_56 ?_
        refine lv_goto (tgt := 67) hx hb dX2_layOutFiled_57 (by decide) ?_
        refine lv_topi (fun z29 ez29 => ?_)
        have h := h z29 ez29
        refine lv_istore (lv' := [(8, .int z29), (0, .ref q), (1, .ref q1), (2, .int x2), (3, .int x3), (4, .int x4), (5, .int x5), (6, .int x6), (7, .int x7)]) hx hb dX2_layOutFiled_67 hl (by decide) rfl (fun ls hl => ?_)
        refine lv_iload hx hb dX2_layOutFiled_69 (lv_at hl 6 rfl) ?_
        refine lv_iload hx hb dX2_layOutFiled_71 (lv_at hl 7 rfl) ?_
        refine lv_iload hx hb dX2_layOutFiled_73 (lv_at hl 0 rfl) ?_
        refine lv_imul hx hb dX2_layOutFiled_75 ?_
        refine lv_iadd hx hb dX2_layOutFiled_76 ?_
        refine lv_topi (fun z30 ez30 => ?_)
        have h := h z30 ez30
        refine lv_istore (lv' := [(5, .int z30), (8, .int z29), (0, .ref q), (1, .ref q1), (2, .int x2), (3, .int x3), (4, .int x4), (6, .int x6), (7, .int x7)]) hx hb dX2_layOutFiled_77 hl (by decide) rfl (fun ls hl => ?_)
        refine lv_aload_n hx hb dX2_layOutFiled_79 rfl (lv_at hl 2 rfl) ?_
        refine va_get (D := D) (ci := 2) (v := .ref q_places) (C := RX2) (T := TX2) (N := 4) hx hb hts in_X2_layOutFiled_X2 hown hK hP 1 rfl rfl 0 (by decide) (k_X2_layOutFiled_f9 hts) (fun _ h9 => h9) rfl dX2_layOutFiled_80 ?_
        refine lv_iload hx hb dX2_layOutFiled_83 (lv_at hl 8 rfl) ?_
        refine lv_iconst (v := 1) hx hb dX2_layOutFiled_85 (by decide) ?_
        refine lv_iadd hx hb dX2_layOutFiled_86 ?_
        refine lv_iload hx hb dX2_layOutFiled_87 (lv_at hl 0 rfl) ?_
        obtain ⟨hin, h⟩ := h
        refine va_iast hx hb hK hP hD hS 3 0 rfl rfl hin dX2_layOutFiled_89 (fun H locs hP hD hS => ?_)
        have hP : va_P D vwCl (w_X2_layOutFiled Y q1 q1_lengths q q_places g1_links g1_folded g1_stiff g_links g_low g_high g1_lengths (upd g_places ((x7 + (1 : Int32))).toNatClampNeg z30)) H := hP
        have hD : va_D A (w_X2_layOutFiled Y q1 q1_lengths q q_places g1_links g1_folded g1_stiff g_links g_low g_high g1_lengths (upd g_places ((x7 + (1 : Int32))).toNatClampNeg z30)) := hD
        refine lv_aload_n hx hb dX2_layOutFiled_90 rfl (lv_at hl 2 rfl) ?_
        refine lv_aload_n hx hb dX2_layOutFiled_91 rfl (lv_at hl 2 rfl) ?_
        refine va_get (D := D) (ci := 2) (v := .int g_low) (C := RX2) (T := TX2) (N := 4) hx hb hts in_X2_layOutFiled_X2 hown hK hP 1 rfl rfl 2 (by decide) (k_X2_layOutFiled_f32 hts) (fun _ h9 => h9) rfl dX2_layOutFiled_92 ?_
        refine lv_iload hx hb dX2_layOutFiled_95 (lv_at hl 0 rfl) ?_
        refine va_mmin hx hb (hml.trans hl.1.symm) hown (k_X2_layOutFiled_m25 hts) (k_X2_layOutFiled_smin hts) (k_X2_layOutFiled_imath hts) (k_X2_layOutFiled_bmin hts) (Nat.le_of_ble_eq_true rfl) (Nat.le_of_ble_eq_true rfl) (Nat.le_of_ble_eq_true rfl) (Nat.le_of_ble_eq_true rfl) dX2_layOutFiled_97 ?_
        refine lv_topi (fun z31 ez31 => ?_)
        have h := h z31 ez31
        refine va_put (D := D) (ci := 2) (v := .int z31) (ty := .int) (C := RX2) (T := TX2) (N := 4) hx hb hts in_X2_layOutFiled_X2 tyX2 tyX2_ok nmX2 hown hK hP hD hS 1 rfl rfl 2 (by decide) (k_X2_layOutFiled_f32 hts) (fun _ h9 => h9) rfl (by decide +kernel) rfl rfl (Nat.le_of_ble_eq_true rfl) dX2_layOutFiled_100 (fun H locs hP hD hS => ?_)
        have hP : va_P D vwCl (w_X2_layOutFiled Y q1 q1_lengths q q_places g1_links g1_folded g1_stiff g_links z31 g_high g1_lengths (upd g_places ((x7 + (1 : Int32))).toNatClampNeg z30)) H := hP
        have hD : va_D A (w_X2_layOutFiled Y q1 q1_lengths q q_places g1_links g1_folded g1_stiff g_links z31 g_high g1_lengths (upd g_places ((x7 + (1 : Int32))).toNatClampNeg z30)) := hD
        refine lv_aload_n hx hb dX2_layOutFiled_103 rfl (lv_at hl 2 rfl) ?_
        refine lv_aload_n hx hb dX2_layOutFiled_104 rfl (lv_at hl 2 rfl) ?_
        refine va_get (D := D) (ci := 2) (v := .int g_high) (C := RX2) (T := TX2) (N := 4) hx hb hts in_X2_layOutFiled_X2 hown hK hP 1 rfl rfl 3 (by decide) (k_X2_layOutFiled_f35 hts) (fun _ h9 => h9) rfl dX2_layOutFiled_105 ?_
        refine lv_iload hx hb dX2_layOutFiled_108 (lv_at hl 0 rfl) ?_
        refine va_mmax hx hb (hml.trans hl.1.symm) hown (k_X2_layOutFiled_m41 hts) (k_X2_layOutFiled_smax hts) (k_X2_layOutFiled_imath hts) (k_X2_layOutFiled_bmax hts) (Nat.le_of_ble_eq_true rfl) (Nat.le_of_ble_eq_true rfl) (Nat.le_of_ble_eq_true rfl) (Nat.le_of_ble_eq_true rfl) dX2_layOutFiled_110 ?_
        refine lv_topi (fun z32 ez32 => ?_)
        have h := h z32 ez32
        refine va_put (D := D) (ci := 2) (v := .int z32) (ty := .int) (C := RX2) (T := TX2) (N := 4) hx hb hts in_X2_layOutFiled_X2 tyX2 tyX2_ok nmX2 hown hK hP hD hS 1 rfl rfl 3 (by decide) (k_X2_layOutFiled_f35 hts) (fun _ h9 => h9) rfl (by decide +kernel) rfl rfl (Nat.le_of_ble_eq_true rfl) dX2_layOutFiled_113 (fun H locs hP hD hS => ?_)
        have hP : va_P D vwCl (w_X2_layOutFiled Y q1 q1_lengths q q_places g1_links g1_folded g1_stiff g_links z31 z32 g1_lengths (upd g_places ((x7 + (1 : Int32))).toNatClampNeg z30)) H := hP
        have hD : va_D A (w_X2_layOutFiled Y q1 q1_lengths q q_places g1_links g1_folded g1_stiff g_links z31 z32 g1_lengths (upd g_places ((x7 + (1 : Int32))).toNatClampNeg z30)) := hD
        refine lv_iload_n hx hb dX2_layOutFiled_116 rfl (lv_at hl 4 rfl) ?_
        refine lv_iload hx hb dX2_layOutFiled_117 (lv_at hl 8 rfl) ?_
        have hp : Parts (w_X2_layOutFiled Y q1 q1_lengths q q_places g1_links g1_folded g1_stiff g_links z31 z32 g1_lengths (upd g_places ((x7 + (1 : Int32))).toNatClampNeg z30)) (w_X7_hasBit Y ) (pick (w_X2_layOutFiled Y q1 q1_lengths q q_places g1_links g1_folded g1_stiff g_links z31 z32 g1_lengths (upd g_places ((x7 + (1 : Int32))).toNatClampNeg z30)) [0, 1, 2, 3]) [] [0, 1, 2, 3] := ⟨rfl, rfl, rfl, rfl, by decide⟩
        refine go_i (ps := [0, 1, 2, 3]) (wn := (fun _ : Unit => (w_X2_layOutFiled Y q1 q1_lengths q q_places g1_links g1_folded g1_stiff g_links z31 z32 g1_lengths (upd g_places ((x7 + (1 : Int32))).toNatClampNeg z30)))) hp hP hD hS hA rfl (fun _ => rfl) (va_runSN (As := [.int x2, .int x7]) (rest := []) ⟨hx, hb, hml, hown, hts⟩ (c_X7_hasBit h _) ⟨va_cnB 2 hts gX2_layOutFiled_X7_hasBit_n44 rfl rfl rfl (nwX2_44 hN) (k_X2_layOutFiled_iX7 hts) (by decide +kernel) ⟨Nat.le_of_ble_eq_true rfl, Nat.le_of_ble_eq_true rfl⟩, (k_X2_layOutFiled_stX7_hasBit hts), trivial⟩ (pre_S (wc := (w_X7_hasBit Y )) hK hN (P_sub hP [] rfl) (hD.sub [] rfl rfl)) rfl rfl hl.1 rfl (lv_room (Nat.le_of_ble_eq_true rfl)) dX2_layOutFiled_119 ⟨Nat.le_of_ble_eq_true rfl, Nat.le_of_ble_eq_true rfl⟩) (fun r33 u H locs h hP hD hS => ?_)
        try dsimp only at h
        have hP : va_P D vwCl (w_X2_layOutFiled Y q1 q1_lengths q q_places g1_links g1_folded g1_stiff g_links z31 z32 g1_lengths (upd g_places ((x7 + (1 : Int32))).toNatClampNeg z30)) H := hP
        have hD : va_D A (w_X2_layOutFiled Y q1 q1_lengths q q_places g1_links g1_folded g1_stiff g_links z31 z32 g1_lengths (upd g_places ((x7 + (1 : Int32))).toNatClampNeg z30)) := hD
        refine lv_if_eq (tgt := 131) hx hb dX2_layOutFiled_122 (by decide) (fun c34 => ?_) (fun c34 => ?_)
        · have h := h.1 c34
          refine lv_iload hx hb dX2_layOutFiled_131 (lv_at hl 7 rfl) ?_
          refine lv_istore (lv' := [(6, .int x6), (5, .int z30), (8, .int z29), (0, .ref q), (1, .ref q1), (2, .int x2), (3, .int x3), (4, .int x4), (7, .int x7)]) hx hb dX2_layOutFiled_133 hl (by decide) rfl (fun ls hl => ?_)
          obtain ⟨z35, ez35⟩ : ∃ y : Int32, y = (x7 + (1 : Int32)) := ⟨_, rfl⟩
          have h := h z35 ez35
          refine lv_iinc (v := z35) (lv' := [(7, .int z35), (6, .int x6), (5, .int z30), (8, .int z29), (0, .ref q), (1, .ref q1), (2, .int x2), (3, .int x3), (4, .int x4)]) hx hb dX2_layOutFiled_135 hl (k := 8) rfl (by rw [ez35]; rfl) (by decide) rfl (fun ls hl => ?_)
          refine lv_goto (tgt := 32) hx hb dX2_layOutFiled_138 (by decide) ?_
          exact ih _ _ _ _ _ _ h _ _ _ hP hD hS (lv_sub hl [4, 5, 6, 7, 8, 2, 1, 0] rfl)
        · have h := h.2 c34
          refine lv_iload hx hb dX2_layOutFiled_125 (lv_at hl 7 rfl) ?_
          refine lv_ineg hx hb dX2_layOutFiled_127 ?_
          refine lv_goto (tgt := 133) hx hb dX2_layOutFiled_128 (by decide) ?_
          refine lv_topi (fun z36 ez36 => ?_)
          have h := h z36 ez36
          refine lv_istore (lv' := [(6, .int z36), (5, .int z30), (8, .int z29), (0, .ref q), (1, .ref q1), (2, .int x2), (3, .int x3), (4, .int x4), (7, .int x7)]) hx hb dX2_layOutFiled_133 hl (by decide) rfl (fun ls hl => ?_)
          obtain ⟨z37, ez37⟩ : ∃ y : Int32, y = (x7 + (1 : Int32)) := ⟨_, rfl⟩
          have h := h z37 ez37
          refine lv_iinc (v := z37) (lv' := [(7, .int z37), (6, .int z36), (5, .int z30), (8, .int z29), (0, .ref q), (1, .ref q1), (2, .int x2), (3, .int x3), (4, .int x4)]) hx hb dX2_layOutFiled_135 hl (k := 8) rfl (by rw [ez37]; rfl) (by decide) rfl (fun ls hl => ?_)
          refine lv_goto (tgt := 32) hx hb dX2_layOutFiled_138 (by decide) ?_
          exact ih _ _ _ _ _ _ h _ _ _ hP hD hS (lv_sub hl [4, 5, 6, 7, 8, 2, 1, 0] rfl)
set_option maxHeartbeats 4000000 in
set_option maxRecDepth 100000 in
theorem c_X2_layOutFiled {l : Launch} {D : va_G} {Y : ClassId × ClassId × ClassId} {q1 q1_lengths q q_places : Nat} {g1_links g1_folded g1_stiff g_links g_low g_high : Int32} {g1_lengths g_places : Nat → Int32} {x2 x3 x4 : Int32} {Q : Int32 → Int32 → Int32 → (Nat → Int32) → Prop} (h : wp_X2_layOutFiled g1_links g_links g_low g_high g1_lengths g_places x2 x3 x4 Q) (sz : Nat) : MtV l yX2_layOutFiled wsX2_layOutFiled rm_X2_layOutFiled [.ref q, .ref q1, .int x2, .int x3, .int x4] D Y (w_X2_layOutFiled Y q1 q1_lengths q q_places g1_links g1_folded g1_stiff g_links g_low g_high g1_lengths g_places) (fun (u : Int32 × Int32 × Int32 × (Nat → Int32)) => Q u.1 u.2.1 u.2.2.1 u.2.2.2) (fun u : Int32 × Int32 × Int32 × (Nat → Int32) => (w_X2_layOutFiled Y q1 q1_lengths q q_places g1_links g1_folded g1_stiff u.1 u.2.1 u.2.2.1 g1_lengths u.2.2.2)) sz := by
  refine ct_v (cc := cX2_layOutFiled) (nL := 9) (ret := none) (by decide) rfl (Nat.le_of_ble_eq_true rfl) ?_ sz
  intro p e s m below meth c A ls C hK hA hP hD hS hl
  obtain ⟨⟨hx, hb, hml, hown, hts⟩, hr, hlocks, hN⟩ := id C
  have hown : s.vm.findClass RX2 = some m.cls := hown
  have hl : lv_has ls 9 [(0, .ref q), (1, .ref q1), (2, .int x2), (3, .int x3), (4, .int x4)] := hl
  unfold wp_X2_layOutFiled at h
  refine lv_aload_n hx hb dX2_layOutFiled_0 rfl (lv_at hl 0 rfl) ?_
  refine lv_aload_n hx hb dX2_layOutFiled_1 rfl (lv_at hl 1 rfl) ?_
  refine va_getN (D := D) (ci := 5) (v := .int g1_links) (C := RX5) (T := TX5) (N := 4) hx hb hts in_X2_layOutFiled_X5 hown hK hP 0 rfl rfl 1 (by decide) (va_Nw.use rfl (nwX2_19 hN)) (fun _ h9 => h9) rfl dX2_layOutFiled_2 ?_
  refine lv_bipush (v := 9) hx hb dX2_layOutFiled_5 (by decide) ?_
  refine va_mmin hx hb (hml.trans hl.1.symm) hown (k_X2_layOutFiled_m25 hts) (k_X2_layOutFiled_smin hts) (k_X2_layOutFiled_imath hts) (k_X2_layOutFiled_bmin hts) (Nat.le_of_ble_eq_true rfl) (Nat.le_of_ble_eq_true rfl) (Nat.le_of_ble_eq_true rfl) (Nat.le_of_ble_eq_true rfl) dX2_layOutFiled_7 ?_
  refine lv_topi (fun z38 ez38 => ?_)
  have h := h z38 ez38
  refine va_put (D := D) (ci := 2) (v := .int z38) (ty := .int) (C := RX2) (T := TX2) (N := 4) hx hb hts in_X2_layOutFiled_X2 tyX2 tyX2_ok nmX2 hown hK hP hD hS 1 rfl rfl 1 (by decide) (k_X2_layOutFiled_f31 hts) (fun _ h9 => h9) rfl (by decide +kernel) rfl rfl (Nat.le_of_ble_eq_true rfl) dX2_layOutFiled_10 (fun H locs hP hD hS => ?_)
  have hP : va_P D vwCl (w_X2_layOutFiled Y q1 q1_lengths q q_places g1_links g1_folded g1_stiff z38 g_low g_high g1_lengths g_places) H := hP
  have hD : va_D A (w_X2_layOutFiled Y q1 q1_lengths q q_places g1_links g1_folded g1_stiff z38 g_low g_high g1_lengths g_places) := hD
  refine lv_aload_n hx hb dX2_layOutFiled_13 rfl (lv_at hl 0 rfl) ?_
  refine lv_iconst (v := 0) hx hb dX2_layOutFiled_14 (by decide) ?_
  refine va_put (D := D) (ci := 2) (v := .int (0 : Int32)) (ty := .int) (C := RX2) (T := TX2) (N := 4) hx hb hts in_X2_layOutFiled_X2 tyX2 tyX2_ok nmX2 hown hK hP hD hS 1 rfl rfl 2 (by decide) (k_X2_layOutFiled_f32 hts) (fun _ h9 => h9) rfl (by decide +kernel) rfl rfl (Nat.le_of_ble_eq_true rfl) dX2_layOutFiled_15 (fun H locs hP hD hS => ?_)
  have hP : va_P D vwCl (w_X2_layOutFiled Y q1 q1_lengths q q_places g1_links g1_folded g1_stiff z38 (0 : Int32) g_high g1_lengths g_places) H := hP
  have hD : va_D A (w_X2_layOutFiled Y q1 q1_lengths q q_places g1_links g1_folded g1_stiff z38 (0 : Int32) g_high g1_lengths g_places) := hD
  refine lv_aload_n hx hb dX2_layOutFiled_18 rfl (lv_at hl 0 rfl) ?_
  refine lv_iconst (v := 0) hx hb dX2_layOutFiled_19 (by decide) ?_
  refine va_put (D := D) (ci := 2) (v := .int (0 : Int32)) (ty := .int) (C := RX2) (T := TX2) (N := 4) hx hb hts in_X2_layOutFiled_X2 tyX2 tyX2_ok nmX2 hown hK hP hD hS 1 rfl rfl 3 (by decide) (k_X2_layOutFiled_f35 hts) (fun _ h9 => h9) rfl (by decide +kernel) rfl rfl (Nat.le_of_ble_eq_true rfl) dX2_layOutFiled_20 (fun H locs hP hD hS => ?_)
  have hP : va_P D vwCl (w_X2_layOutFiled Y q1 q1_lengths q q_places g1_links g1_folded g1_stiff z38 (0 : Int32) (0 : Int32) g1_lengths g_places) H := hP
  have hD : va_D A (w_X2_layOutFiled Y q1 q1_lengths q q_places g1_links g1_folded g1_stiff z38 (0 : Int32) (0 : Int32) g1_lengths g_places) := hD
  refine lv_iconst (v := 0) hx hb dX2_layOutFiled_23 (by decide) ?_
  refine lv_istore (lv' := [(5, .int (0 : Int32)), (0, .ref q), (1, .ref q1), (2, .int x2), (3, .int x3), (4, .int x4)]) hx hb dX2_layOutFiled_24 hl (by decide) rfl (fun ls hl => ?_)
  refine lv_iconst (v := 1) hx hb dX2_layOutFiled_26 (by decide) ?_
  refine lv_istore (lv' := [(6, .int (1 : Int32)), (5, .int (0 : Int32)), (0, .ref q), (1, .ref q1), (2, .int x2), (3, .int x3), (4, .int x4)]) hx hb dX2_layOutFiled_27 hl (by decide) rfl (fun ls hl => ?_)
  refine lv_iconst (v := 0) hx hb dX2_layOutFiled_29 (by decide) ?_
  refine lv_istore (lv' := [(7, .int (0 : Int32)), (6, .int (1 : Int32)), (5, .int (0 : Int32)), (0, .ref q), (1, .ref q1), (2, .int x2), (3, .int x3), (4, .int x4)]) hx hb dX2_layOutFiled_30 hl (by decide) rfl (fun ls hl => ?_)
  obtain ⟨n, h⟩ := h
  exact L_X2_layOutFiled_32 C hK hA  n _ _ _ _ _ _ h _ _ _ hP hD hS (lv_sub hl [3, 4, 5, 6, 7, 2, 1, 0] rfl)
abbrev rm_J6_bitCount_0f7a4 : Room := { frames := 0, cells := 0, slots := 0, locals := 0 }
theorem k_J6_bitCount_0f7a4_c265 {s : State} {args : Array Value} (hts : ∀ w ∈ wsJ6_bitCount_0f7a4, w.before args s = true) : (Cond.constant RJ6 265 (1431655765)).before args s = true := hts _ (by decide +kernel)
theorem k_J6_bitCount_0f7a4_c266 {s : State} {args : Array Value} (hts : ∀ w ∈ wsJ6_bitCount_0f7a4, w.before args s = true) : (Cond.constant RJ6 266 (858993459)).before args s = true := hts _ (by decide +kernel)
theorem k_J6_bitCount_0f7a4_c267 {s : State} {args : Array Value} (hts : ∀ w ∈ wsJ6_bitCount_0f7a4, w.before args s = true) : (Cond.constant RJ6 267 (252645135)).before args s = true := hts _ (by decide +kernel)
set_option maxHeartbeats 4000000 in
set_option maxRecDepth 100000 in
theorem c_J6_bitCount_0f7a4 {l : Launch} {D : va_G} {Y : ClassId × ClassId × ClassId} {x0 : Int32} {Q : Int32 → Prop} (h : wp_J6_bitCount_0f7a4 x0 Q) (sz : Nat) : MtI l yJ6_bitCount_0f7a4 wsJ6_bitCount_0f7a4 rm_J6_bitCount_0f7a4 [.int x0] D Y (w_J6_bitCount_0f7a4 Y ) (fun r (_ : Unit) => Q r) (fun _ : Unit => (w_J6_bitCount_0f7a4 Y )) sz := by
  refine ct_i (cc := cJ6_bitCount_0f7a4) (nL := 1) (ret := (some .int)) (by decide) rfl (Nat.le_of_ble_eq_true rfl) ?_ sz
  intro p e s m below meth c A ls C hK hA hP hD hS hl
  obtain ⟨⟨hx, hb, hml, hown, hts⟩, hr, hlocks, hN⟩ := id C
  have hown : s.vm.findClass RJ6 = some m.cls := hown
  have hl : lv_has ls 1 [(0, .int x0)] := hl
  unfold wp_J6_bitCount_0f7a4 at h
  refine lv_iload_n hx hb dJ6_bitCount_0f7a4_0 rfl (lv_at hl 0 rfl) ?_
  refine lv_iload_n hx hb dJ6_bitCount_0f7a4_1 rfl (lv_at hl 0 rfl) ?_
  refine lv_iconst (v := 1) hx hb dJ6_bitCount_0f7a4_2 (by decide) ?_
  refine lv_iushr hx hb dJ6_bitCount_0f7a4_3 rfl ?_
  refine lv_ldcw hx hb hown (k_J6_bitCount_0f7a4_c265 hts) dJ6_bitCount_0f7a4_4 ?_
  refine lv_iand hx hb dJ6_bitCount_0f7a4_7 ?_
  refine lv_isub hx hb dJ6_bitCount_0f7a4_8 ?_
  refine lv_topi (fun z6 ez6 => ?_)
  have h := h z6 ez6
  refine lv_istore_n (lv' := [(0, .int z6)]) hx hb dJ6_bitCount_0f7a4_9 rfl hl (by decide) rfl (fun ls hl => ?_)
  refine lv_iload_n hx hb dJ6_bitCount_0f7a4_10 rfl (lv_at hl 0 rfl) ?_
  refine lv_ldcw hx hb hown (k_J6_bitCount_0f7a4_c266 hts) dJ6_bitCount_0f7a4_11 ?_
  refine lv_iand hx hb dJ6_bitCount_0f7a4_14 ?_
  refine lv_iload_n hx hb dJ6_bitCount_0f7a4_15 rfl (lv_at hl 0 rfl) ?_
  refine lv_iconst (v := 2) hx hb dJ6_bitCount_0f7a4_16 (by decide) ?_
  refine lv_iushr hx hb dJ6_bitCount_0f7a4_17 rfl ?_
  refine lv_ldcw hx hb hown (k_J6_bitCount_0f7a4_c266 hts) dJ6_bitCount_0f7a4_18 ?_
  refine lv_iand hx hb dJ6_bitCount_0f7a4_21 ?_
  refine lv_iadd hx hb dJ6_bitCount_0f7a4_22 ?_
  refine lv_topi (fun z7 ez7 => ?_)
  have h := h z7 ez7
  refine lv_istore_n (lv' := [(0, .int z7)]) hx hb dJ6_bitCount_0f7a4_23 rfl hl (by decide) rfl (fun ls hl => ?_)
  refine lv_iload_n hx hb dJ6_bitCount_0f7a4_24 rfl (lv_at hl 0 rfl) ?_
  refine lv_iload_n hx hb dJ6_bitCount_0f7a4_25 rfl (lv_at hl 0 rfl) ?_
  refine lv_iconst (v := 4) hx hb dJ6_bitCount_0f7a4_26 (by decide) ?_
  refine lv_iushr hx hb dJ6_bitCount_0f7a4_27 rfl ?_
  refine lv_iadd hx hb dJ6_bitCount_0f7a4_28 ?_
  refine lv_ldcw hx hb hown (k_J6_bitCount_0f7a4_c267 hts) dJ6_bitCount_0f7a4_29 ?_
  refine lv_iand hx hb dJ6_bitCount_0f7a4_32 ?_
  refine lv_topi (fun z8 ez8 => ?_)
  have h := h z8 ez8
  refine lv_istore_n (lv' := [(0, .int z8)]) hx hb dJ6_bitCount_0f7a4_33 rfl hl (by decide) rfl (fun ls hl => ?_)
  refine lv_iload_n hx hb dJ6_bitCount_0f7a4_34 rfl (lv_at hl 0 rfl) ?_
  refine lv_iload_n hx hb dJ6_bitCount_0f7a4_35 rfl (lv_at hl 0 rfl) ?_
  refine lv_bipush (v := 8) hx hb dJ6_bitCount_0f7a4_36 (by decide) ?_
  refine lv_iushr hx hb dJ6_bitCount_0f7a4_38 rfl ?_
  refine lv_iadd hx hb dJ6_bitCount_0f7a4_39 ?_
  refine lv_topi (fun z9 ez9 => ?_)
  have h := h z9 ez9
  refine lv_istore_n (lv' := [(0, .int z9)]) hx hb dJ6_bitCount_0f7a4_40 rfl hl (by decide) rfl (fun ls hl => ?_)
  refine lv_iload_n hx hb dJ6_bitCount_0f7a4_41 rfl (lv_at hl 0 rfl) ?_
  refine lv_iload_n hx hb dJ6_bitCount_0f7a4_42 rfl (lv_at hl 0 rfl) ?_
  refine lv_bipush (v := 16) hx hb dJ6_bitCount_0f7a4_43 (by decide) ?_
  refine lv_iushr hx hb dJ6_bitCount_0f7a4_45 rfl ?_
  refine lv_iadd hx hb dJ6_bitCount_0f7a4_46 ?_
  refine lv_topi (fun z10 ez10 => ?_)
  have h := h z10 ez10
  refine lv_istore_n (lv' := [(0, .int z10)]) hx hb dJ6_bitCount_0f7a4_47 rfl hl (by decide) rfl (fun ls hl => ?_)
  refine lv_iload_n hx hb dJ6_bitCount_0f7a4_48 rfl (lv_at hl 0 rfl) ?_
  refine lv_bipush (v := 63) hx hb dJ6_bitCount_0f7a4_49 (by decide) ?_
  refine lv_iand hx hb dJ6_bitCount_0f7a4_51 ?_
  exact ret_i () hx hb hr hlocks hK hP hD hS h dJ6_bitCount_0f7a4_52
abbrev rm_X5_copyFrom : Room := { frames := 0, cells := 0, slots := 0, locals := 0 }
theorem in_X5_copyFrom_X5 : ∀ w ∈ wsX50, w ∈ wsX5_copyFrom := fun _ h => List.mem_cons_of_mem _ (List.mem_append_right _ h)
theorem k_X5_copyFrom_f15 {s : State} {args : Array Value} (hts : ∀ w ∈ wsX5_copyFrom, w.before args s = true) : (Cond.fieldLink RX5 15 "FoldRule$Strip" "links" "I").before args s = true := hts _ (by decide +kernel)
theorem k_X5_copyFrom_f19 {s : State} {args : Array Value} (hts : ∀ w ∈ wsX5_copyFrom, w.before args s = true) : (Cond.fieldLink RX5 19 "FoldRule$Strip" "folded" "I").before args s = true := hts _ (by decide +kernel)
theorem k_X5_copyFrom_f22 {s : State} {args : Array Value} (hts : ∀ w ∈ wsX5_copyFrom, w.before args s = true) : (Cond.fieldLink RX5 22 "FoldRule$Strip" "stiff" "I").before args s = true := hts _ (by decide +kernel)
theorem k_X5_copyFrom_f9 {s : State} {args : Array Value} (hts : ∀ w ∈ wsX5_copyFrom, w.before args s = true) : (Cond.fieldLink RX5 9 "FoldRule$Strip" "lengths" "[I").before args s = true := hts _ (by decide +kernel)
set_option maxHeartbeats 4000000 in
set_option maxRecDepth 100000 in
theorem L_X5_copyFrom_2 {p : Program} {l : Launch} {e : Env} {s : State} {m : MethodId} {args : Array Value} {below : List Frame} {meth : Method} {c : Code} {D : va_G} {Y : ClassId × ClassId × ClassId} {A : Nat → Prop} {q q_lengths q1 q1_lengths : Nat} {g_links g_folded g_stiff g1_links g1_folded g1_stiff : Int32} {g1_lengths : Nat → Int32} {Q : Int32 → Int32 → Int32 → (Nat → Int32) → Prop} (C : Ctx p s m args meth c cX5_copyFrom 3 none wsX5_copyFrom RX5) (hK : va_K D vwCl (tyS Y) s) (hA : ∀ q, s.heap.size ≤ q → A q) : ∀ (n : Nat) (x2 : Int32) (g_lengths : Nat → Int32), itr2 (B_X5_copyFrom_2 g1_links g1_folded g1_stiff g1_lengths Q) n x2 g_lengths → ∀ (H : Heap) (locs : List Loc) (ls : Array Slot), va_P D vwCl (w_X5_copyFrom Y q q_lengths q1 q1_lengths g_links g_folded g_stiff g1_links g1_folded g1_stiff g1_lengths g_lengths) H → va_D A (w_X5_copyFrom Y q q_lengths q1 q1_lengths g_links g_folded g_stiff g1_links g1_folded g1_stiff g1_lengths g_lengths) → va_S A s.heap H locs → lv_has ls 3 [(0, .ref q), (1, .ref q1), (2, .int x2)] → W p l e rm_X5_copyFrom s m args below meth c H locs 0 0 (QV below args s D Y A (fun (u : Int32 × Int32 × Int32 × (Nat → Int32)) => Q u.1 u.2.1 u.2.2.1 u.2.2.2) (fun u : Int32 × Int32 × Int32 × (Nat → Int32) => (w_X5_copyFrom Y q q_lengths q1 q1_lengths u.1 u.2.1 u.2.2.1 g1_links g1_folded g1_stiff g1_lengths u.2.2.2))) (F0 m 2 ls []) := by
  intro n
  induction n with
  | zero => intro x2 g_lengths h; exact False.elim h
  | succ n ih =>
    intro x2 g_lengths h H locs ls hP hD hS hl
    obtain ⟨⟨hx, hb, hml, hown, hts⟩, hr, hlocks, hN⟩ := id C
    have h : B_X5_copyFrom_2 g1_links g1_folded g1_stiff g1_lengths Q (itr2 (B_X5_copyFrom_2 g1_links g1_folded g1_stiff g1_lengths Q) n) x2 g_lengths := h
    unfold B_X5_copyFrom_2 at h
    refine lv_iload_n hx hb dX5_copyFrom_2 rfl (lv_at hl 2 rfl) ?_
    refine lv_bipush (v := 9) hx hb dX5_copyFrom_3 (by decide) ?_
    refine lv_icmp_ge (tgt := 26) hx hb dX5_copyFrom_5 (by decide) (fun c3 => ?_) (fun c3 => ?_)
    · have h := h.1 c3
      refine lv_aload_n hx hb dX5_copyFrom_26 rfl (lv_at hl 0 rfl) ?_
      refine lv_aload_n hx hb dX5_copyFrom_27 rfl (lv_at hl 1 rfl) ?_
      refine va_get (D := D) (ci := 5) (v := .int g1_links) (C := RX5) (T := TX5) (N := 4) hx hb hts in_X5_copyFrom_X5 hown hK hP 1 rfl rfl 1 (by decide) (k_X5_copyFrom_f15 hts) (fun _ h9 => h9) rfl dX5_copyFrom_28 ?_
      refine va_put (D := D) (ci := 5) (v := .int g1_links) (ty := .int) (C := RX5) (T := TX5) (N := 4) hx hb hts in_X5_copyFrom_X5 tyX5 tyX5_ok nmX5 hown hK hP hD hS 0 rfl rfl 1 (by decide) (k_X5_copyFrom_f15 hts) (fun _ h9 => h9) rfl (by decide +kernel) rfl rfl (Nat.le_of_ble_eq_true rfl) dX5_copyFrom_31 (fun H locs hP hD hS => ?_)
      have hP : va_P D vwCl (w_X5_copyFrom Y q q_lengths q1 q1_lengths g1_links g_folded g_stiff g1_links g1_folded g1_stiff g1_lengths g_lengths) H := hP
      have hD : va_D A (w_X5_copyFrom Y q q_lengths q1 q1_lengths g1_links g_folded g_stiff g1_links g1_folded g1_stiff g1_lengths g_lengths) := hD
      refine lv_aload_n hx hb dX5_copyFrom_34 rfl (lv_at hl 0 rfl) ?_
      refine lv_aload_n hx hb dX5_copyFrom_35 rfl (lv_at hl 1 rfl) ?_
      refine va_get (D := D) (ci := 5) (v := .int g1_folded) (C := RX5) (T := TX5) (N := 4) hx hb hts in_X5_copyFrom_X5 hown hK hP 1 rfl rfl 2 (by decide) (k_X5_copyFrom_f19 hts) (fun _ h9 => h9) rfl dX5_copyFrom_36 ?_
      refine va_put (D := D) (ci := 5) (v := .int g1_folded) (ty := .int) (C := RX5) (T := TX5) (N := 4) hx hb hts in_X5_copyFrom_X5 tyX5 tyX5_ok nmX5 hown hK hP hD hS 0 rfl rfl 2 (by decide) (k_X5_copyFrom_f19 hts) (fun _ h9 => h9) rfl (by decide +kernel) rfl rfl (Nat.le_of_ble_eq_true rfl) dX5_copyFrom_39 (fun H locs hP hD hS => ?_)
      have hP : va_P D vwCl (w_X5_copyFrom Y q q_lengths q1 q1_lengths g1_links g1_folded g_stiff g1_links g1_folded g1_stiff g1_lengths g_lengths) H := hP
      have hD : va_D A (w_X5_copyFrom Y q q_lengths q1 q1_lengths g1_links g1_folded g_stiff g1_links g1_folded g1_stiff g1_lengths g_lengths) := hD
      refine lv_aload_n hx hb dX5_copyFrom_42 rfl (lv_at hl 0 rfl) ?_
      refine lv_aload_n hx hb dX5_copyFrom_43 rfl (lv_at hl 1 rfl) ?_
      refine va_get (D := D) (ci := 5) (v := .int g1_stiff) (C := RX5) (T := TX5) (N := 4) hx hb hts in_X5_copyFrom_X5 hown hK hP 1 rfl rfl 3 (by decide) (k_X5_copyFrom_f22 hts) (fun _ h9 => h9) rfl dX5_copyFrom_44 ?_
      refine va_put (D := D) (ci := 5) (v := .int g1_stiff) (ty := .int) (C := RX5) (T := TX5) (N := 4) hx hb hts in_X5_copyFrom_X5 tyX5 tyX5_ok nmX5 hown hK hP hD hS 0 rfl rfl 3 (by decide) (k_X5_copyFrom_f22 hts) (fun _ h9 => h9) rfl (by decide +kernel) rfl rfl (Nat.le_of_ble_eq_true rfl) dX5_copyFrom_47 (fun H locs hP hD hS => ?_)
      have hP : va_P D vwCl (w_X5_copyFrom Y q q_lengths q1 q1_lengths g1_links g1_folded g1_stiff g1_links g1_folded g1_stiff g1_lengths g_lengths) H := hP
      have hD : va_D A (w_X5_copyFrom Y q q_lengths q1 q1_lengths g1_links g1_folded g1_stiff g1_links g1_folded g1_stiff g1_lengths g_lengths) := hD
      exact ret_v (g1_links, g1_folded, g1_stiff, g_lengths) hx hb hr hlocks hK hP hD hS h dX5_copyFrom_50
    · have h := h.2 c3
      refine lv_aload_n hx hb dX5_copyFrom_8 rfl (lv_at hl 0 rfl) ?_
      refine va_get (D := D) (ci := 5) (v := .ref q_lengths) (C := RX5) (T := TX5) (N := 4) hx hb hts in_X5_copyFrom_X5 hown hK hP 0 rfl rfl 0 (by decide) (k_X5_copyFrom_f9 hts) (fun _ h9 => h9) rfl dX5_copyFrom_9 ?_
      refine lv_iload_n hx hb dX5_copyFrom_12 rfl (lv_at hl 2 rfl) ?_
      refine lv_aload_n hx hb dX5_copyFrom_13 rfl (lv_at hl 1 rfl) ?_
      refine va_get (D := D) (ci := 5) (v := .ref q1_lengths) (C := RX5) (T := TX5) (N := 4) hx hb hts in_X5_copyFrom_X5 hown hK hP 1 rfl rfl 0 (by decide) (k_X5_copyFrom_f9 hts) (fun _ h9 => h9) rfl dX5_copyFrom_14 ?_
      refine lv_iload_n hx hb dX5_copyFrom_17 rfl (lv_at hl 2 rfl) ?_
      obtain ⟨hin, h⟩ := h
      refine va_iald hx hb hK hP 2 0 rfl rfl hin dX5_copyFrom_18 ?_
      refine lv_topi (fun z4 ez4 => ?_)
      have h := h z4 ez4
      obtain ⟨hin, h⟩ := h
      refine va_iast hx hb hK hP hD hS 3 0 rfl rfl hin dX5_copyFrom_19 (fun H locs hP hD hS => ?_)
      have hP : va_P D vwCl (w_X5_copyFrom Y q q_lengths q1 q1_lengths g_links g_folded g_stiff g1_links g1_folded g1_stiff g1_lengths (upd g_lengths (x2).toNatClampNeg z4)) H := hP
      have hD : va_D A (w_X5_copyFrom Y q q_lengths q1 q1_lengths g_links g_folded g_stiff g1_links g1_folded g1_stiff g1_lengths (upd g_lengths (x2).toNatClampNeg z4)) := hD
      obtain ⟨z5, ez5⟩ : ∃ y : Int32, y = (x2 + (1 : Int32)) := ⟨_, rfl⟩
      have h := h z5 ez5
      refine lv_iinc (v := z5) (lv' := [(2, .int z5), (0, .ref q), (1, .ref q1)]) hx hb dX5_copyFrom_20 hl (k := 2) rfl (by rw [ez5]; rfl) (by decide) rfl (fun ls hl => ?_)
      refine lv_goto (tgt := 2) hx hb dX5_copyFrom_23 (by decide) ?_
      exact ih _ _ h _ _ _ hP hD hS (lv_sub hl [1, 2, 0] rfl)
set_option maxHeartbeats 4000000 in
set_option maxRecDepth 100000 in
theorem c_X5_copyFrom {l : Launch} {D : va_G} {Y : ClassId × ClassId × ClassId} {q q_lengths q1 q1_lengths : Nat} {g_links g_folded g_stiff g1_links g1_folded g1_stiff : Int32} {g1_lengths g_lengths : Nat → Int32} {Q : Int32 → Int32 → Int32 → (Nat → Int32) → Prop} (h : wp_X5_copyFrom g_links g_folded g_stiff g1_links g1_folded g1_stiff g1_lengths g_lengths Q) (sz : Nat) : MtV l yX5_copyFrom wsX5_copyFrom rm_X5_copyFrom [.ref q, .ref q1] D Y (w_X5_copyFrom Y q q_lengths q1 q1_lengths g_links g_folded g_stiff g1_links g1_folded g1_stiff g1_lengths g_lengths) (fun (u : Int32 × Int32 × Int32 × (Nat → Int32)) => Q u.1 u.2.1 u.2.2.1 u.2.2.2) (fun u : Int32 × Int32 × Int32 × (Nat → Int32) => (w_X5_copyFrom Y q q_lengths q1 q1_lengths u.1 u.2.1 u.2.2.1 g1_links g1_folded g1_stiff g1_lengths u.2.2.2)) sz := by
  refine ct_v (cc := cX5_copyFrom) (nL := 3) (ret := none) (by decide) rfl (Nat.le_of_ble_eq_true rfl) ?_ sz
  intro p e s m below meth c A ls C hK hA hP hD hS hl
  obtain ⟨⟨hx, hb, hml, hown, hts⟩, hr, hlocks, hN⟩ := id C
  have hown : s.vm.findClass RX5 = some m.cls := hown
  have hl : lv_has ls 3 [(0, .ref q), (1, .ref q1)] := hl
  unfold wp_X5_copyFrom at h
  refine lv_iconst (v := 0) hx hb dX5_copyFrom_0 (by decide) ?_
  refine lv_istore_n (lv' := [(2, .int (0 : Int32)), (0, .ref q), (1, .ref q1)]) hx hb dX5_copyFrom_1 rfl hl (by decide) rfl (fun ls hl => ?_)
  obtain ⟨n, h⟩ := h
  exact L_X5_copyFrom_2 C hK hA  n _ _ h _ _ _ hP hD hS (lv_sub hl [1, 2, 0] rfl)
abbrev rm_X1_remember : Room := { frames := 1, cells := 0, slots := 0, locals := 22 }
theorem in_X1_remember_X1 : ∀ w ∈ wsX10, w ∈ wsX1_remember := fun _ h => List.mem_cons_of_mem _ (List.mem_append_left _ (List.mem_append_right _ h))
theorem k_X1_remember_f11 {s : State} {args : Array Value} (hts : ∀ w ∈ wsX1_remember, w.before args s = true) : (Cond.fieldLink RX1 11 "FoldRule$History" "steps" "[LFoldRule$Strip;").before args s = true := hts _ (by decide +kernel)
theorem k_X1_remember_f22 {s : State} {args : Array Value} (hts : ∀ w ∈ wsX1_remember, w.before args s = true) : (Cond.fieldLink RX1 22 "FoldRule$History" "slot" "I").before args s = true := hts _ (by decide +kernel)
theorem k_X1_remember_f18 {s : State} {args : Array Value} (hts : ∀ w ∈ wsX1_remember, w.before args s = true) : (Cond.fieldLink RX1 18 "FoldRule$History" "size" "I").before args s = true := hts _ (by decide +kernel)
theorem k_X1_remember_m29 {s : State} {args : Array Value} (hts : ∀ w ∈ wsX1_remember, w.before args s = true) : (Cond.methodLink RX1 29 Lib.Math.min.name).before args s = true := hts _ (by decide +kernel)
theorem k_X1_remember_smin {s : State} {args : Array Value} (hts : ∀ w ∈ wsX1_remember, w.before args s = true) : (Cond.static Lib.Math.min.name).before args s = true := hts _ (by decide +kernel)
theorem k_X1_remember_imath {s : State} {args : Array Value} (hts : ∀ w ∈ wsX1_remember, w.before args s = true) : (Cond.initialized "java/lang/Math").before args s = true := hts _ (by decide +kernel)
theorem k_X1_remember_bmin {s : State} {args : Array Value} (hts : ∀ w ∈ wsX1_remember, w.before args s = true) : (Cond.code Lib.Math.min.name Lib.Math.min.code 2 (some .int)).before args s = true := hts _ (by decide +kernel)
set_option maxHeartbeats 4000000 in
set_option maxRecDepth 100000 in
theorem c_X1_remember {l : Launch} {D : va_G} {Y : ClassId × ClassId × ClassId} {q q_steps : Nat} {q_steps_E q_steps_E_lengths : Nat → Nat} {q1 q1_lengths : Nat} {g_slot g_size : Int32} {g_steps_E_links g_steps_E_folded g_steps_E_stiff : Nat → Int32} {g1_links g1_folded g1_stiff : Int32} {g1_lengths : Nat → Int32} {g_steps_E_lengths : Nat → Nat → Int32} {Q : Int32 → Int32 → (Nat → Int32) → (Nat → Int32) → (Nat → Int32) → (Nat → Nat → Int32) → Prop} (h : wp_X1_remember g_slot g_size g_steps_E_links g_steps_E_folded g_steps_E_stiff g1_links g1_folded g1_stiff g1_lengths g_steps_E_lengths Q) (sz : Nat) : MtV l yX1_remember wsX1_remember rm_X1_remember [.ref q, .ref q1] D Y (w_X1_remember Y q q_steps q_steps_E q_steps_E_lengths q1 q1_lengths g_slot g_size g_steps_E_links g_steps_E_folded g_steps_E_stiff g1_links g1_folded g1_stiff g1_lengths g_steps_E_lengths) (fun (u : Int32 × Int32 × (Nat → Int32) × (Nat → Int32) × (Nat → Int32) × (Nat → Nat → Int32)) => Q u.1 u.2.1 u.2.2.1 u.2.2.2.1 u.2.2.2.2.1 u.2.2.2.2.2) (fun u : Int32 × Int32 × (Nat → Int32) × (Nat → Int32) × (Nat → Int32) × (Nat → Nat → Int32) => (w_X1_remember Y q q_steps q_steps_E q_steps_E_lengths q1 q1_lengths u.1 u.2.1 u.2.2.1 u.2.2.2.1 u.2.2.2.2.1 g1_links g1_folded g1_stiff g1_lengths u.2.2.2.2.2)) sz := by
  refine ct_v (cc := cX1_remember) (nL := 2) (ret := none) (by decide) rfl (Nat.le_of_ble_eq_true rfl) ?_ sz
  intro p e s m below meth c A ls C hK hA hP hD hS hl
  obtain ⟨⟨hx, hb, hml, hown, hts⟩, hr, hlocks, hN⟩ := id C
  have hown : s.vm.findClass RX1 = some m.cls := hown
  have hl : lv_has ls 2 [(0, .ref q), (1, .ref q1)] := hl
  unfold wp_X1_remember at h
  refine lv_aload_n hx hb dX1_remember_0 rfl (lv_at hl 0 rfl) ?_
  refine va_get (D := D) (ci := 1) (v := .ref q_steps) (C := RX1) (T := TX1) (N := 3) hx hb hts in_X1_remember_X1 hown hK hP 0 rfl rfl 0 (by decide) (k_X1_remember_f11 hts) (fun _ h9 => h9) rfl dX1_remember_1 ?_
  refine lv_aload_n hx hb dX1_remember_4 rfl (lv_at hl 0 rfl) ?_
  refine va_get (D := D) (ci := 1) (v := .int g_slot) (C := RX1) (T := TX1) (N := 3) hx hb hts in_X1_remember_X1 hown hK hP 0 rfl rfl 1 (by decide) (k_X1_remember_f22 hts) (fun _ h9 => h9) rfl dX1_remember_5 ?_
  obtain ⟨hin, h⟩ := h
  refine va_aldq (n := 10) (f := fun j => some (q_steps_E j)) (C := "FoldRule$Strip") hx hb hK hP 1 2 rfl rfl hin dX1_remember_8 ?_
  obtain ⟨k8, ek8⟩ : ∃ k : Nat, k = (g_slot).toNatClampNeg := ⟨_, rfl⟩
  have h := h k8 ek8
  have lk8 : k8 < 10 := by rw [ek8]; exact Nat.not_le.mp (fun q => hin (Or.inr q))
  rcases (show k8 = 0 ∨ k8 = 1 ∨ k8 = 2 ∨ k8 = 3 ∨ k8 = 4 ∨ k8 = 5 ∨ k8 = 6 ∨ k8 = 7 ∨ k8 = 8 ∨ k8 = 9 by omega) with rfl | rfl | rfl | rfl | rfl | rfl | rfl | rfl | rfl | rfl
  · refine W.eq (g2 := F0 m 9 ls [.ref (q_steps_E 0)]) (by rw [← ek8]; rfl) ?_
    refine lv_aload_n hx hb dX1_remember_9 rfl (lv_at hl 1 rfl) ?_
    have hp : Parts (w_X1_remember Y q q_steps q_steps_E q_steps_E_lengths q1 q1_lengths g_slot g_size g_steps_E_links g_steps_E_folded g_steps_E_stiff g1_links g1_folded g1_stiff g1_lengths g_steps_E_lengths) (w_X5_copyFrom Y (q_steps_E 0) (q_steps_E_lengths 0) q1 q1_lengths (g_steps_E_links 0) (g_steps_E_folded 0) (g_steps_E_stiff 0) g1_links g1_folded g1_stiff g1_lengths (g_steps_E_lengths 0)) (pick (w_X1_remember Y q q_steps q_steps_E q_steps_E_lengths q1 q1_lengths g_slot g_size g_steps_E_links g_steps_E_folded g_steps_E_stiff g1_links g1_folded g1_stiff g1_lengths g_steps_E_lengths) [0, 1, 3, 4, 5, 6, 7, 8, 9, 10, 11, 15, 16, 17, 18, 19, 20, 21, 22, 23]) [2, 12, 13, 14] [0, 1, 3, 4, 5, 6, 7, 8, 9, 10, 11, 15, 16, 17, 18, 19, 20, 21, 22, 23] := ⟨rfl, rfl, rfl, rfl, by decide⟩
    refine go_v (ps := [0, 1, 20, 2, 3, 4, 5, 6, 7, 8, 9, 10, 21, 22, 23, 11, 12, 13, 14, 15, 16, 17, 18, 19]) (wn := (fun u : Int32 × Int32 × Int32 × (Nat → Int32) => (w_X1_remember Y q q_steps q_steps_E q_steps_E_lengths q1 q1_lengths g_slot g_size (va_up g_steps_E_links 0 u.1) (va_up g_steps_E_folded 0 u.2.1) (va_up g_steps_E_stiff 0 u.2.2.1) g1_links g1_folded g1_stiff g1_lengths (va_up g_steps_E_lengths 0 u.2.2.2)))) hp hP hD hS hA rfl (fun _ => rfl) (va_runV (As := [.ref q1]) (rest := []) ⟨hx, hb, hml, hown, hts⟩ (c_X5_copyFrom h _) (cwV 1 hts gX1_remember_X5_copyFrom rfl rfl rfl (by decide +kernel) ⟨Nat.le_of_ble_eq_true rfl, Nat.le_of_ble_eq_true rfl⟩) (pre_V (wc := (w_X5_copyFrom Y (q_steps_E 0) (q_steps_E_lengths 0) q1 q1_lengths (g_steps_E_links 0) (g_steps_E_folded 0) (g_steps_E_stiff 0) g1_links g1_folded g1_stiff g1_lengths (g_steps_E_lengths 0))) (b := (q_steps_E 0)) (q0 := 0) (ci := 5) (q := (RX5, TX5, 4)) hK hN (P_sub hP [2, 12, 13, 14] rfl) (hD.sub [2, 12, 13, 14] rfl rfl) rfl rfl) rfl rfl hl.1 rfl (lv_room (Nat.le_of_ble_eq_true rfl)) dX1_remember_10 ⟨Nat.le_of_ble_eq_true rfl, Nat.le_of_ble_eq_true rfl⟩) (fun u H locs h hP hD hS => ?_)
    obtain ⟨u10, u11, u12, u13⟩ := u
    try dsimp only at h
    have hP : va_P D vwCl (w_X1_remember Y q q_steps q_steps_E q_steps_E_lengths q1 q1_lengths g_slot g_size (va_up g_steps_E_links 0 u10) (va_up g_steps_E_folded 0 u11) (va_up g_steps_E_stiff 0 u12) g1_links g1_folded g1_stiff g1_lengths (va_up g_steps_E_lengths 0 u13)) H := hP
    have hD : va_D A (w_X1_remember Y q q_steps q_steps_E q_steps_E_lengths q1 q1_lengths g_slot g_size (va_up g_steps_E_links 0 u10) (va_up g_steps_E_folded 0 u11) (va_up g_steps_E_stiff 0 u12) g1_links g1_folded g1_stiff g1_lengths (va_up g_steps_E_lengths 0 u13)) := hD
    refine lv_aload_n hx hb dX1_remember_13 rfl (lv_at hl 0 rfl) ?_
    refine lv_aload_n hx hb dX1_remember_14 rfl (lv_at hl 0 rfl) ?_
    refine va_get (D := D) (ci := 1) (v := .int g_slot) (C := RX1) (T := TX1) (N := 3) hx hb hts in_X1_remember_X1 hown hK hP 0 rfl rfl 1 (by decide) (k_X1_remember_f22 hts) (fun _ h9 => h9) rfl dX1_remember_15 ?_
    refine lv_iconst (v := 1) hx hb dX1_remember_18 (by decide) ?_
    refine lv_iadd hx hb dX1_remember_19 ?_
    refine lv_bipush (v := 10) hx hb dX1_remember_20 (by decide) ?_
    obtain ⟨hne, h⟩ := h
    refine lv_irem hx hb dX1_remember_22 hne ?_
    refine lv_topi (fun z14 ez14 => ?_)
    have h := h z14 ez14
    refine va_put (D := D) (ci := 1) (v := .int z14) (ty := .int) (C := RX1) (T := TX1) (N := 3) hx hb hts in_X1_remember_X1 tyX1 tyX1_ok nmX1 hown hK hP hD hS 0 rfl rfl 1 (by decide) (k_X1_remember_f22 hts) (fun _ h9 => h9) rfl (by decide +kernel) rfl rfl (Nat.le_of_ble_eq_true rfl) dX1_remember_23 (fun H locs hP hD hS => ?_)
    have hP : va_P D vwCl (w_X1_remember Y q q_steps q_steps_E q_steps_E_lengths q1 q1_lengths z14 g_size (va_up g_steps_E_links 0 u10) (va_up g_steps_E_folded 0 u11) (va_up g_steps_E_stiff 0 u12) g1_links g1_folded g1_stiff g1_lengths (va_up g_steps_E_lengths 0 u13)) H := hP
    have hD : va_D A (w_X1_remember Y q q_steps q_steps_E q_steps_E_lengths q1 q1_lengths z14 g_size (va_up g_steps_E_links 0 u10) (va_up g_steps_E_folded 0 u11) (va_up g_steps_E_stiff 0 u12) g1_links g1_folded g1_stiff g1_lengths (va_up g_steps_E_lengths 0 u13)) := hD
    refine lv_aload_n hx hb dX1_remember_26 rfl (lv_at hl 0 rfl) ?_
    refine lv_aload_n hx hb dX1_remember_27 rfl (lv_at hl 0 rfl) ?_
    refine va_get (D := D) (ci := 1) (v := .int g_size) (C := RX1) (T := TX1) (N := 3) hx hb hts in_X1_remember_X1 hown hK hP 0 rfl rfl 2 (by decide) (k_X1_remember_f18 hts) (fun _ h9 => h9) rfl dX1_remember_28 ?_
    refine lv_iconst (v := 1) hx hb dX1_remember_31 (by decide) ?_
    refine lv_iadd hx hb dX1_remember_32 ?_
    refine lv_bipush (v := 10) hx hb dX1_remember_33 (by decide) ?_
    refine va_mmin hx hb (hml.trans hl.1.symm) hown (k_X1_remember_m29 hts) (k_X1_remember_smin hts) (k_X1_remember_imath hts) (k_X1_remember_bmin hts) (Nat.le_of_ble_eq_true rfl) (Nat.le_of_ble_eq_true rfl) (Nat.le_of_ble_eq_true rfl) (Nat.le_of_ble_eq_true rfl) dX1_remember_35 ?_
    refine lv_topi (fun z15 ez15 => ?_)
    have h := h z15 ez15
    refine va_put (D := D) (ci := 1) (v := .int z15) (ty := .int) (C := RX1) (T := TX1) (N := 3) hx hb hts in_X1_remember_X1 tyX1 tyX1_ok nmX1 hown hK hP hD hS 0 rfl rfl 2 (by decide) (k_X1_remember_f18 hts) (fun _ h9 => h9) rfl (by decide +kernel) rfl rfl (Nat.le_of_ble_eq_true rfl) dX1_remember_38 (fun H locs hP hD hS => ?_)
    have hP : va_P D vwCl (w_X1_remember Y q q_steps q_steps_E q_steps_E_lengths q1 q1_lengths z14 z15 (va_up g_steps_E_links 0 u10) (va_up g_steps_E_folded 0 u11) (va_up g_steps_E_stiff 0 u12) g1_links g1_folded g1_stiff g1_lengths (va_up g_steps_E_lengths 0 u13)) H := hP
    have hD : va_D A (w_X1_remember Y q q_steps q_steps_E q_steps_E_lengths q1 q1_lengths z14 z15 (va_up g_steps_E_links 0 u10) (va_up g_steps_E_folded 0 u11) (va_up g_steps_E_stiff 0 u12) g1_links g1_folded g1_stiff g1_lengths (va_up g_steps_E_lengths 0 u13)) := hD
    exact ret_v (z14, z15, (va_up g_steps_E_links 0 u10), (va_up g_steps_E_folded 0 u11), (va_up g_steps_E_stiff 0 u12), (va_up g_steps_E_lengths 0 u13)) hx hb hr hlocks hK hP hD hS h dX1_remember_41
  · refine W.eq (g2 := F0 m 9 ls [.ref (q_steps_E 1)]) (by rw [← ek8]; rfl) ?_
    refine lv_aload_n hx hb dX1_remember_9 rfl (lv_at hl 1 rfl) ?_
    have hp : Parts (w_X1_remember Y q q_steps q_steps_E q_steps_E_lengths q1 q1_lengths g_slot g_size g_steps_E_links g_steps_E_folded g_steps_E_stiff g1_links g1_folded g1_stiff g1_lengths g_steps_E_lengths) (w_X5_copyFrom Y (q_steps_E 1) (q_steps_E_lengths 1) q1 q1_lengths (g_steps_E_links 1) (g_steps_E_folded 1) (g_steps_E_stiff 1) g1_links g1_folded g1_stiff g1_lengths (g_steps_E_lengths 1)) (pick (w_X1_remember Y q q_steps q_steps_E q_steps_E_lengths q1 q1_lengths g_slot g_size g_steps_E_links g_steps_E_folded g_steps_E_stiff g1_links g1_folded g1_stiff g1_lengths g_steps_E_lengths) [0, 1, 2, 4, 5, 6, 7, 8, 9, 10, 11, 14, 16, 17, 18, 19, 20, 21, 22, 23]) [3, 12, 13, 15] [0, 1, 2, 4, 5, 6, 7, 8, 9, 10, 11, 14, 16, 17, 18, 19, 20, 21, 22, 23] := ⟨rfl, rfl, rfl, rfl, by decide⟩
    refine go_v (ps := [0, 1, 2, 20, 3, 4, 5, 6, 7, 8, 9, 10, 21, 22, 11, 23, 12, 13, 14, 15, 16, 17, 18, 19]) (wn := (fun u : Int32 × Int32 × Int32 × (Nat → Int32) => (w_X1_remember Y q q_steps q_steps_E q_steps_E_lengths q1 q1_lengths g_slot g_size (va_up g_steps_E_links 1 u.1) (va_up g_steps_E_folded 1 u.2.1) (va_up g_steps_E_stiff 1 u.2.2.1) g1_links g1_folded g1_stiff g1_lengths (va_up g_steps_E_lengths 1 u.2.2.2)))) hp hP hD hS hA rfl (fun _ => rfl) (va_runV (As := [.ref q1]) (rest := []) ⟨hx, hb, hml, hown, hts⟩ (c_X5_copyFrom h _) (cwV 1 hts gX1_remember_X5_copyFrom rfl rfl rfl (by decide +kernel) ⟨Nat.le_of_ble_eq_true rfl, Nat.le_of_ble_eq_true rfl⟩) (pre_V (wc := (w_X5_copyFrom Y (q_steps_E 1) (q_steps_E_lengths 1) q1 q1_lengths (g_steps_E_links 1) (g_steps_E_folded 1) (g_steps_E_stiff 1) g1_links g1_folded g1_stiff g1_lengths (g_steps_E_lengths 1))) (b := (q_steps_E 1)) (q0 := 0) (ci := 5) (q := (RX5, TX5, 4)) hK hN (P_sub hP [3, 12, 13, 15] rfl) (hD.sub [3, 12, 13, 15] rfl rfl) rfl rfl) rfl rfl hl.1 rfl (lv_room (Nat.le_of_ble_eq_true rfl)) dX1_remember_10 ⟨Nat.le_of_ble_eq_true rfl, Nat.le_of_ble_eq_true rfl⟩) (fun u H locs h hP hD hS => ?_)
    obtain ⟨u17, u18, u19, u20⟩ := u
    try dsimp only at h
    have hP : va_P D vwCl (w_X1_remember Y q q_steps q_steps_E q_steps_E_lengths q1 q1_lengths g_slot g_size (va_up g_steps_E_links 1 u17) (va_up g_steps_E_folded 1 u18) (va_up g_steps_E_stiff 1 u19) g1_links g1_folded g1_stiff g1_lengths (va_up g_steps_E_lengths 1 u20)) H := hP
    have hD : va_D A (w_X1_remember Y q q_steps q_steps_E q_steps_E_lengths q1 q1_lengths g_slot g_size (va_up g_steps_E_links 1 u17) (va_up g_steps_E_folded 1 u18) (va_up g_steps_E_stiff 1 u19) g1_links g1_folded g1_stiff g1_lengths (va_up g_steps_E_lengths 1 u20)) := hD
    refine lv_aload_n hx hb dX1_remember_13 rfl (lv_at hl 0 rfl) ?_
    refine lv_aload_n hx hb dX1_remember_14 rfl (lv_at hl 0 rfl) ?_
    refine va_get (D := D) (ci := 1) (v := .int g_slot) (C := RX1) (T := TX1) (N := 3) hx hb hts in_X1_remember_X1 hown hK hP 0 rfl rfl 1 (by decide) (k_X1_remember_f22 hts) (fun _ h9 => h9) rfl dX1_remember_15 ?_
    refine lv_iconst (v := 1) hx hb dX1_remember_18 (by decide) ?_
    refine lv_iadd hx hb dX1_remember_19 ?_
    refine lv_bipush (v := 10) hx hb dX1_remember_20 (by decide) ?_
    obtain ⟨hne, h⟩ := h
    refine lv_irem hx hb dX1_remember_22 hne ?_
    refine lv_topi (fun z21 ez21 => ?_)
    have h := h z21 ez21
    refine va_put (D := D) (ci := 1) (v := .int z21) (ty := .int) (C := RX1) (T := TX1) (N := 3) hx hb hts in_X1_remember_X1 tyX1 tyX1_ok nmX1 hown hK hP hD hS 0 rfl rfl 1 (by decide) (k_X1_remember_f22 hts) (fun _ h9 => h9) rfl (by decide +kernel) rfl rfl (Nat.le_of_ble_eq_true rfl) dX1_remember_23 (fun H locs hP hD hS => ?_)
    have hP : va_P D vwCl (w_X1_remember Y q q_steps q_steps_E q_steps_E_lengths q1 q1_lengths z21 g_size (va_up g_steps_E_links 1 u17) (va_up g_steps_E_folded 1 u18) (va_up g_steps_E_stiff 1 u19) g1_links g1_folded g1_stiff g1_lengths (va_up g_steps_E_lengths 1 u20)) H := hP
    have hD : va_D A (w_X1_remember Y q q_steps q_steps_E q_steps_E_lengths q1 q1_lengths z21 g_size (va_up g_steps_E_links 1 u17) (va_up g_steps_E_folded 1 u18) (va_up g_steps_E_stiff 1 u19) g1_links g1_folded g1_stiff g1_lengths (va_up g_steps_E_lengths 1 u20)) := hD
    refine lv_aload_n hx hb dX1_remember_26 rfl (lv_at hl 0 rfl) ?_
    refine lv_aload_n hx hb dX1_remember_27 rfl (lv_at hl 0 rfl) ?_
    refine va_get (D := D) (ci := 1) (v := .int g_size) (C := RX1) (T := TX1) (N := 3) hx hb hts in_X1_remember_X1 hown hK hP 0 rfl rfl 2 (by decide) (k_X1_remember_f18 hts) (fun _ h9 => h9) rfl dX1_remember_28 ?_
    refine lv_iconst (v := 1) hx hb dX1_remember_31 (by decide) ?_
    refine lv_iadd hx hb dX1_remember_32 ?_
    refine lv_bipush (v := 10) hx hb dX1_remember_33 (by decide) ?_
    refine va_mmin hx hb (hml.trans hl.1.symm) hown (k_X1_remember_m29 hts) (k_X1_remember_smin hts) (k_X1_remember_imath hts) (k_X1_remember_bmin hts) (Nat.le_of_ble_eq_true rfl) (Nat.le_of_ble_eq_true rfl) (Nat.le_of_ble_eq_true rfl) (Nat.le_of_ble_eq_true rfl) dX1_remember_35 ?_
    refine lv_topi (fun z22 ez22 => ?_)
    have h := h z22 ez22
    refine va_put (D := D) (ci := 1) (v := .int z22) (ty := .int) (C := RX1) (T := TX1) (N := 3) hx hb hts in_X1_remember_X1 tyX1 tyX1_ok nmX1 hown hK hP hD hS 0 rfl rfl 2 (by decide) (k_X1_remember_f18 hts) (fun _ h9 => h9) rfl (by decide +kernel) rfl rfl (Nat.le_of_ble_eq_true rfl) dX1_remember_38 (fun H locs hP hD hS => ?_)
    have hP : va_P D vwCl (w_X1_remember Y q q_steps q_steps_E q_steps_E_lengths q1 q1_lengths z21 z22 (va_up g_steps_E_links 1 u17) (va_up g_steps_E_folded 1 u18) (va_up g_steps_E_stiff 1 u19) g1_links g1_folded g1_stiff g1_lengths (va_up g_steps_E_lengths 1 u20)) H := hP
    have hD : va_D A (w_X1_remember Y q q_steps q_steps_E q_steps_E_lengths q1 q1_lengths z21 z22 (va_up g_steps_E_links 1 u17) (va_up g_steps_E_folded 1 u18) (va_up g_steps_E_stiff 1 u19) g1_links g1_folded g1_stiff g1_lengths (va_up g_steps_E_lengths 1 u20)) := hD
    exact ret_v (z21, z22, (va_up g_steps_E_links 1 u17), (va_up g_steps_E_folded 1 u18), (va_up g_steps_E_stiff 1 u19), (va_up g_steps_E_lengths 1 u20)) hx hb hr hlocks hK hP hD hS h dX1_remember_41
  · refine W.eq (g2 := F0 m 9 ls [.ref (q_steps_E 2)]) (by rw [← ek8]; rfl) ?_
    refine lv_aload_n hx hb dX1_remember_9 rfl (lv_at hl 1 rfl) ?_
    have hp : Parts (w_X1_remember Y q q_steps q_steps_E q_steps_E_lengths q1 q1_lengths g_slot g_size g_steps_E_links g_steps_E_folded g_steps_E_stiff g1_links g1_folded g1_stiff g1_lengths g_steps_E_lengths) (w_X5_copyFrom Y (q_steps_E 2) (q_steps_E_lengths 2) q1 q1_lengths (g_steps_E_links 2) (g_steps_E_folded 2) (g_steps_E_stiff 2) g1_links g1_folded g1_stiff g1_lengths (g_steps_E_lengths 2)) (pick (w_X1_remember Y q q_steps q_steps_E q_steps_E_lengths q1 q1_lengths g_slot g_size g_steps_E_links g_steps_E_folded g_steps_E_stiff g1_links g1_folded g1_stiff g1_lengths g_steps_E_lengths) [0, 1, 2, 3, 5, 6, 7, 8, 9, 10, 11, 14, 15, 17, 18, 19, 20, 21, 22, 23]) [4, 12, 13, 16] [0, 1, 2, 3, 5, 6, 7, 8, 9, 10, 11, 14, 15, 17, 18, 19, 20, 21, 22, 23] := ⟨rfl, rfl, rfl, rfl, by decide⟩
    refine go_v (ps := [0, 1, 2, 3, 20, 4, 5, 6, 7, 8, 9, 10, 21, 22, 11, 12, 23, 13, 14, 15, 16, 17, 18, 19]) (wn := (fun u : Int32 × Int32 × Int32 × (Nat → Int32) => (w_X1_remember Y q q_steps q_steps_E q_steps_E_lengths q1 q1_lengths g_slot g_size (va_up g_steps_E_links 2 u.1) (va_up g_steps_E_folded 2 u.2.1) (va_up g_steps_E_stiff 2 u.2.2.1) g1_links g1_folded g1_stiff g1_lengths (va_up g_steps_E_lengths 2 u.2.2.2)))) hp hP hD hS hA rfl (fun _ => rfl) (va_runV (As := [.ref q1]) (rest := []) ⟨hx, hb, hml, hown, hts⟩ (c_X5_copyFrom h _) (cwV 1 hts gX1_remember_X5_copyFrom rfl rfl rfl (by decide +kernel) ⟨Nat.le_of_ble_eq_true rfl, Nat.le_of_ble_eq_true rfl⟩) (pre_V (wc := (w_X5_copyFrom Y (q_steps_E 2) (q_steps_E_lengths 2) q1 q1_lengths (g_steps_E_links 2) (g_steps_E_folded 2) (g_steps_E_stiff 2) g1_links g1_folded g1_stiff g1_lengths (g_steps_E_lengths 2))) (b := (q_steps_E 2)) (q0 := 0) (ci := 5) (q := (RX5, TX5, 4)) hK hN (P_sub hP [4, 12, 13, 16] rfl) (hD.sub [4, 12, 13, 16] rfl rfl) rfl rfl) rfl rfl hl.1 rfl (lv_room (Nat.le_of_ble_eq_true rfl)) dX1_remember_10 ⟨Nat.le_of_ble_eq_true rfl, Nat.le_of_ble_eq_true rfl⟩) (fun u H locs h hP hD hS => ?_)
    obtain ⟨u24, u25, u26, u27⟩ := u
    try dsimp only at h
    have hP : va_P D vwCl (w_X1_remember Y q q_steps q_steps_E q_steps_E_lengths q1 q1_lengths g_slot g_size (va_up g_steps_E_links 2 u24) (va_up g_steps_E_folded 2 u25) (va_up g_steps_E_stiff 2 u26) g1_links g1_folded g1_stiff g1_lengths (va_up g_steps_E_lengths 2 u27)) H := hP
    have hD : va_D A (w_X1_remember Y q q_steps q_steps_E q_steps_E_lengths q1 q1_lengths g_slot g_size (va_up g_steps_E_links 2 u24) (va_up g_steps_E_folded 2 u25) (va_up g_steps_E_stiff 2 u26) g1_links g1_folded g1_stiff g1_lengths (va_up g_steps_E_lengths 2 u27)) := hD
    refine lv_aload_n hx hb dX1_remember_13 rfl (lv_at hl 0 rfl) ?_
    refine lv_aload_n hx hb dX1_remember_14 rfl (lv_at hl 0 rfl) ?_
    refine va_get (D := D) (ci := 1) (v := .int g_slot) (C := RX1) (T := TX1) (N := 3) hx hb hts in_X1_remember_X1 hown hK hP 0 rfl rfl 1 (by decide) (k_X1_remember_f22 hts) (fun _ h9 => h9) rfl dX1_remember_15 ?_
    refine lv_iconst (v := 1) hx hb dX1_remember_18 (by decide) ?_
    refine lv_iadd hx hb dX1_remember_19 ?_
    refine lv_bipush (v := 10) hx hb dX1_remember_20 (by decide) ?_
    obtain ⟨hne, h⟩ := h
    refine lv_irem hx hb dX1_remember_22 hne ?_
    refine lv_topi (fun z28 ez28 => ?_)
    have h := h z28 ez28
    refine va_put (D := D) (ci := 1) (v := .int z28) (ty := .int) (C := RX1) (T := TX1) (N := 3) hx hb hts in_X1_remember_X1 tyX1 tyX1_ok nmX1 hown hK hP hD hS 0 rfl rfl 1 (by decide) (k_X1_remember_f22 hts) (fun _ h9 => h9) rfl (by decide +kernel) rfl rfl (Nat.le_of_ble_eq_true rfl) dX1_remember_23 (fun H locs hP hD hS => ?_)
    have hP : va_P D vwCl (w_X1_remember Y q q_steps q_steps_E q_steps_E_lengths q1 q1_lengths z28 g_size (va_up g_steps_E_links 2 u24) (va_up g_steps_E_folded 2 u25) (va_up g_steps_E_stiff 2 u26) g1_links g1_folded g1_stiff g1_lengths (va_up g_steps_E_lengths 2 u27)) H := hP
    have hD : va_D A (w_X1_remember Y q q_steps q_steps_E q_steps_E_lengths q1 q1_lengths z28 g_size (va_up g_steps_E_links 2 u24) (va_up g_steps_E_folded 2 u25) (va_up g_steps_E_stiff 2 u26) g1_links g1_folded g1_stiff g1_lengths (va_up g_steps_E_lengths 2 u27)) := hD
    refine lv_aload_n hx hb dX1_remember_26 rfl (lv_at hl 0 rfl) ?_
    refine lv_aload_n hx hb dX1_remember_27 rfl (lv_at hl 0 rfl) ?_
    refine va_get (D := D) (ci := 1) (v := .int g_size) (C := RX1) (T := TX1) (N := 3) hx hb hts in_X1_remember_X1 hown hK hP 0 rfl rfl 2 (by decide) (k_X1_remember_f18 hts) (fun _ h9 => h9) rfl dX1_remember_28 ?_
    refine lv_iconst (v := 1) hx hb dX1_remember_31 (by decide) ?_
    refine lv_iadd hx hb dX1_remember_32 ?_
    refine lv_bipush (v := 10) hx hb dX1_remember_33 (by decide) ?_
    refine va_mmin hx hb (hml.trans hl.1.symm) hown (k_X1_remember_m29 hts) (k_X1_remember_smin hts) (k_X1_remember_imath hts) (k_X1_remember_bmin hts) (Nat.le_of_ble_eq_true rfl) (Nat.le_of_ble_eq_true rfl) (Nat.le_of_ble_eq_true rfl) (Nat.le_of_ble_eq_true rfl) dX1_remember_35 ?_
    refine lv_topi (fun z29 ez29 => ?_)
    have h := h z29 ez29
    refine va_put (D := D) (ci := 1) (v := .int z29) (ty := .int) (C := RX1) (T := TX1) (N := 3) hx hb hts in_X1_remember_X1 tyX1 tyX1_ok nmX1 hown hK hP hD hS 0 rfl rfl 2 (by decide) (k_X1_remember_f18 hts) (fun _ h9 => h9) rfl (by decide +kernel) rfl rfl (Nat.le_of_ble_eq_true rfl) dX1_remember_38 (fun H locs hP hD hS => ?_)
    have hP : va_P D vwCl (w_X1_remember Y q q_steps q_steps_E q_steps_E_lengths q1 q1_lengths z28 z29 (va_up g_steps_E_links 2 u24) (va_up g_steps_E_folded 2 u25) (va_up g_steps_E_stiff 2 u26) g1_links g1_folded g1_stiff g1_lengths (va_up g_steps_E_lengths 2 u27)) H := hP
    have hD : va_D A (w_X1_remember Y q q_steps q_steps_E q_steps_E_lengths q1 q1_lengths z28 z29 (va_up g_steps_E_links 2 u24) (va_up g_steps_E_folded 2 u25) (va_up g_steps_E_stiff 2 u26) g1_links g1_folded g1_stiff g1_lengths (va_up g_steps_E_lengths 2 u27)) := hD
    exact ret_v (z28, z29, (va_up g_steps_E_links 2 u24), (va_up g_steps_E_folded 2 u25), (va_up g_steps_E_stiff 2 u26), (va_up g_steps_E_lengths 2 u27)) hx hb hr hlocks hK hP hD hS h dX1_remember_41
  · refine W.eq (g2 := F0 m 9 ls [.ref (q_steps_E 3)]) (by rw [← ek8]; rfl) ?_
    refine lv_aload_n hx hb dX1_remember_9 rfl (lv_at hl 1 rfl) ?_
    have hp : Parts (w_X1_remember Y q q_steps q_steps_E q_steps_E_lengths q1 q1_lengths g_slot g_size g_steps_E_links g_steps_E_folded g_steps_E_stiff g1_links g1_folded g1_stiff g1_lengths g_steps_E_lengths) (w_X5_copyFrom Y (q_steps_E 3) (q_steps_E_lengths 3) q1 q1_lengths (g_steps_E_links 3) (g_steps_E_folded 3) (g_steps_E_stiff 3) g1_links g1_folded g1_stiff g1_lengths (g_steps_E_lengths 3)) (pick (w_X1_remember Y q q_steps q_steps_E q_steps_E_lengths q1 q1_lengths g_slot g_size g_steps_E_links g_steps_E_folded g_steps_E_stiff g1_links g1_folded g1_stiff g1_lengths g_steps_E_lengths) [0, 1, 2, 3, 4, 6, 7, 8, 9, 10, 11, 14, 15, 16, 18, 19, 20, 21, 22, 23]) [5, 12, 13, 17] [0, 1, 2, 3, 4, 6, 7, 8, 9, 10, 11, 14, 15, 16, 18, 19, 20, 21, 22, 23] := ⟨rfl, rfl, rfl, rfl, by decide⟩
    refine go_v (ps := [0, 1, 2, 3, 4, 20, 5, 6, 7, 8, 9, 10, 21, 22, 11, 12, 13, 23, 14, 15, 16, 17, 18, 19]) (wn := (fun u : Int32 × Int32 × Int32 × (Nat → Int32) => (w_X1_remember Y q q_steps q_steps_E q_steps_E_lengths q1 q1_lengths g_slot g_size (va_up g_steps_E_links 3 u.1) (va_up g_steps_E_folded 3 u.2.1) (va_up g_steps_E_stiff 3 u.2.2.1) g1_links g1_folded g1_stiff g1_lengths (va_up g_steps_E_lengths 3 u.2.2.2)))) hp hP hD hS hA rfl (fun _ => rfl) (va_runV (As := [.ref q1]) (rest := []) ⟨hx, hb, hml, hown, hts⟩ (c_X5_copyFrom h _) (cwV 1 hts gX1_remember_X5_copyFrom rfl rfl rfl (by decide +kernel) ⟨Nat.le_of_ble_eq_true rfl, Nat.le_of_ble_eq_true rfl⟩) (pre_V (wc := (w_X5_copyFrom Y (q_steps_E 3) (q_steps_E_lengths 3) q1 q1_lengths (g_steps_E_links 3) (g_steps_E_folded 3) (g_steps_E_stiff 3) g1_links g1_folded g1_stiff g1_lengths (g_steps_E_lengths 3))) (b := (q_steps_E 3)) (q0 := 0) (ci := 5) (q := (RX5, TX5, 4)) hK hN (P_sub hP [5, 12, 13, 17] rfl) (hD.sub [5, 12, 13, 17] rfl rfl) rfl rfl) rfl rfl hl.1 rfl (lv_room (Nat.le_of_ble_eq_true rfl)) dX1_remember_10 ⟨Nat.le_of_ble_eq_true rfl, Nat.le_of_ble_eq_true rfl⟩) (fun u H locs h hP hD hS => ?_)
    obtain ⟨u31, u32, u33, u34⟩ := u
    try dsimp only at h
    have hP : va_P D vwCl (w_X1_remember Y q q_steps q_steps_E q_steps_E_lengths q1 q1_lengths g_slot g_size (va_up g_steps_E_links 3 u31) (va_up g_steps_E_folded 3 u32) (va_up g_steps_E_stiff 3 u33) g1_links g1_folded g1_stiff g1_lengths (va_up g_steps_E_lengths 3 u34)) H := hP
    have hD : va_D A (w_X1_remember Y q q_steps q_steps_E q_steps_E_lengths q1 q1_lengths g_slot g_size (va_up g_steps_E_links 3 u31) (va_up g_steps_E_folded 3 u32) (va_up g_steps_E_stiff 3 u33) g1_links g1_folded g1_stiff g1_lengths (va_up g_steps_E_lengths 3 u34)) := hD
    refine lv_aload_n hx hb dX1_remember_13 rfl (lv_at hl 0 rfl) ?_
    refine lv_aload_n hx hb dX1_remember_14 rfl (lv_at hl 0 rfl) ?_
    refine va_get (D := D) (ci := 1) (v := .int g_slot) (C := RX1) (T := TX1) (N := 3) hx hb hts in_X1_remember_X1 hown hK hP 0 rfl rfl 1 (by decide) (k_X1_remember_f22 hts) (fun _ h9 => h9) rfl dX1_remember_15 ?_
    refine lv_iconst (v := 1) hx hb dX1_remember_18 (by decide) ?_
    refine lv_iadd hx hb dX1_remember_19 ?_
    refine lv_bipush (v := 10) hx hb dX1_remember_20 (by decide) ?_
    obtain ⟨hne, h⟩ := h
    refine lv_irem hx hb dX1_remember_22 hne ?_
    refine lv_topi (fun z35 ez35 => ?_)
    have h := h z35 ez35
    refine va_put (D := D) (ci := 1) (v := .int z35) (ty := .int) (C := RX1) (T := TX1) (N := 3) hx hb hts in_X1_remember_X1 tyX1 tyX1_ok nmX1 hown hK hP hD hS 0 rfl rfl 1 (by decide) (k_X1_remember_f22 hts) (fun _ h9 => h9) rfl (by decide +kernel) rfl rfl (Nat.le_of_ble_eq_true rfl) dX1_remember_23 (fun H locs hP hD hS => ?_)
    have hP : va_P D vwCl (w_X1_remember Y q q_steps q_steps_E q_steps_E_lengths q1 q1_lengths z35 g_size (va_up g_steps_E_links 3 u31) (va_up g_steps_E_folded 3 u32) (va_up g_steps_E_stiff 3 u33) g1_links g1_folded g1_stiff g1_lengths (va_up g_steps_E_lengths 3 u34)) H := hP
    have hD : va_D A (w_X1_remember Y q q_steps q_steps_E q_steps_E_lengths q1 q1_lengths z35 g_size (va_up g_steps_E_links 3 u31) (va_up g_steps_E_folded 3 u32) (va_up g_steps_E_stiff 3 u33) g1_links g1_folded g1_stiff g1_lengths (va_up g_steps_E_lengths 3 u34)) := hD
    refine lv_aload_n hx hb dX1_remember_26 rfl (lv_at hl 0 rfl) ?_
    refine lv_aload_n hx hb dX1_remember_27 rfl (lv_at hl 0 rfl) ?_
    refine va_get (D := D) (ci := 1) (v := .int g_size) (C := RX1) (T := TX1) (N := 3) hx hb hts in_X1_remember_X1 hown hK hP 0 rfl rfl 2 (by decide) (k_X1_remember_f18 hts) (fun _ h9 => h9) rfl dX1_remember_28 ?_
    refine lv_iconst (v := 1) hx hb dX1_remember_31 (by decide) ?_
    refine lv_iadd hx hb dX1_remember_32 ?_
    refine lv_bipush (v := 10) hx hb dX1_remember_33 (by decide) ?_
    refine va_mmin hx hb (hml.trans hl.1.symm) hown (k_X1_remember_m29 hts) (k_X1_remember_smin hts) (k_X1_remember_imath hts) (k_X1_remember_bmin hts) (Nat.le_of_ble_eq_true rfl) (Nat.le_of_ble_eq_true rfl) (Nat.le_of_ble_eq_true rfl) (Nat.le_of_ble_eq_true rfl) dX1_remember_35 ?_
    refine lv_topi (fun z36 ez36 => ?_)
    have h := h z36 ez36
    refine va_put (D := D) (ci := 1) (v := .int z36) (ty := .int) (C := RX1) (T := TX1) (N := 3) hx hb hts in_X1_remember_X1 tyX1 tyX1_ok nmX1 hown hK hP hD hS 0 rfl rfl 2 (by decide) (k_X1_remember_f18 hts) (fun _ h9 => h9) rfl (by decide +kernel) rfl rfl (Nat.le_of_ble_eq_true rfl) dX1_remember_38 (fun H locs hP hD hS => ?_)
    have hP : va_P D vwCl (w_X1_remember Y q q_steps q_steps_E q_steps_E_lengths q1 q1_lengths z35 z36 (va_up g_steps_E_links 3 u31) (va_up g_steps_E_folded 3 u32) (va_up g_steps_E_stiff 3 u33) g1_links g1_folded g1_stiff g1_lengths (va_up g_steps_E_lengths 3 u34)) H := hP
    have hD : va_D A (w_X1_remember Y q q_steps q_steps_E q_steps_E_lengths q1 q1_lengths z35 z36 (va_up g_steps_E_links 3 u31) (va_up g_steps_E_folded 3 u32) (va_up g_steps_E_stiff 3 u33) g1_links g1_folded g1_stiff g1_lengths (va_up g_steps_E_lengths 3 u34)) := hD
    exact ret_v (z35, z36, (va_up g_steps_E_links 3 u31), (va_up g_steps_E_folded 3 u32), (va_up g_steps_E_stiff 3 u33), (va_up g_steps_E_lengths 3 u34)) hx hb hr hlocks hK hP hD hS h dX1_remember_41
  · refine W.eq (g2 := F0 m 9 ls [.ref (q_steps_E 4)]) (by rw [← ek8]; rfl) ?_
    refine lv_aload_n hx hb dX1_remember_9 rfl (lv_at hl 1 rfl) ?_
    have hp : Parts (w_X1_remember Y q q_steps q_steps_E q_steps_E_lengths q1 q1_lengths g_slot g_size g_steps_E_links g_steps_E_folded g_steps_E_stiff g1_links g1_folded g1_stiff g1_lengths g_steps_E_lengths) (w_X5_copyFrom Y (q_steps_E 4) (q_steps_E_lengths 4) q1 q1_lengths (g_steps_E_links 4) (g_steps_E_folded 4) (g_steps_E_stiff 4) g1_links g1_folded g1_stiff g1_lengths (g_steps_E_lengths 4)) (pick (w_X1_remember Y q q_steps q_steps_E q_steps_E_lengths q1 q1_lengths g_slot g_size g_steps_E_links g_steps_E_folded g_steps_E_stiff g1_links g1_folded g1_stiff g1_lengths g_steps_E_lengths) [0, 1, 2, 3, 4, 5, 7, 8, 9, 10, 11, 14, 15, 16, 17, 19, 20, 21, 22, 23]) [6, 12, 13, 18] [0, 1, 2, 3, 4, 5, 7, 8, 9, 10, 11, 14, 15, 16, 17, 19, 20, 21, 22, 23] := ⟨rfl, rfl, rfl, rfl, by decide⟩
    refine go_v (ps := [0, 1, 2, 3, 4, 5, 20, 6, 7, 8, 9, 10, 21, 22, 11, 12, 13, 14, 23, 15, 16, 17, 18, 19]) (wn := (fun u : Int32 × Int32 × Int32 × (Nat → Int32) => (w_X1_remember Y q q_steps q_steps_E q_steps_E_lengths q1 q1_lengths g_slot g_size (va_up g_steps_E_links 4 u.1) (va_up g_steps_E_folded 4 u.2.1) (va_up g_steps_E_stiff 4 u.2.2.1) g1_links g1_folded g1_stiff g1_lengths (va_up g_steps_E_lengths 4 u.2.2.2)))) hp hP hD hS hA rfl (fun _ => rfl) (va_runV (As := [.ref q1]) (rest := []) ⟨hx, hb, hml, hown, hts⟩ (c_X5_copyFrom h _) (cwV 1 hts gX1_remember_X5_copyFrom rfl rfl rfl (by decide +kernel) ⟨Nat.le_of_ble_eq_true rfl, Nat.le_of_ble_eq_true rfl⟩) (pre_V (wc := (w_X5_copyFrom Y (q_steps_E 4) (q_steps_E_lengths 4) q1 q1_lengths (g_steps_E_links 4) (g_steps_E_folded 4) (g_steps_E_stiff 4) g1_links g1_folded g1_stiff g1_lengths (g_steps_E_lengths 4))) (b := (q_steps_E 4)) (q0 := 0) (ci := 5) (q := (RX5, TX5, 4)) hK hN (P_sub hP [6, 12, 13, 18] rfl) (hD.sub [6, 12, 13, 18] rfl rfl) rfl rfl) rfl rfl hl.1 rfl (lv_room (Nat.le_of_ble_eq_true rfl)) dX1_remember_10 ⟨Nat.le_of_ble_eq_true rfl, Nat.le_of_ble_eq_true rfl⟩) (fun u H locs h hP hD hS => ?_)
    obtain ⟨u38, u39, u40, u41⟩ := u
    try dsimp only at h
    have hP : va_P D vwCl (w_X1_remember Y q q_steps q_steps_E q_steps_E_lengths q1 q1_lengths g_slot g_size (va_up g_steps_E_links 4 u38) (va_up g_steps_E_folded 4 u39) (va_up g_steps_E_stiff 4 u40) g1_links g1_folded g1_stiff g1_lengths (va_up g_steps_E_lengths 4 u41)) H := hP
    have hD : va_D A (w_X1_remember Y q q_steps q_steps_E q_steps_E_lengths q1 q1_lengths g_slot g_size (va_up g_steps_E_links 4 u38) (va_up g_steps_E_folded 4 u39) (va_up g_steps_E_stiff 4 u40) g1_links g1_folded g1_stiff g1_lengths (va_up g_steps_E_lengths 4 u41)) := hD
    refine lv_aload_n hx hb dX1_remember_13 rfl (lv_at hl 0 rfl) ?_
    refine lv_aload_n hx hb dX1_remember_14 rfl (lv_at hl 0 rfl) ?_
    refine va_get (D := D) (ci := 1) (v := .int g_slot) (C := RX1) (T := TX1) (N := 3) hx hb hts in_X1_remember_X1 hown hK hP 0 rfl rfl 1 (by decide) (k_X1_remember_f22 hts) (fun _ h9 => h9) rfl dX1_remember_15 ?_
    refine lv_iconst (v := 1) hx hb dX1_remember_18 (by decide) ?_
    refine lv_iadd hx hb dX1_remember_19 ?_
    refine lv_bipush (v := 10) hx hb dX1_remember_20 (by decide) ?_
    obtain ⟨hne, h⟩ := h
    refine lv_irem hx hb dX1_remember_22 hne ?_
    refine lv_topi (fun z42 ez42 => ?_)
    have h := h z42 ez42
    refine va_put (D := D) (ci := 1) (v := .int z42) (ty := .int) (C := RX1) (T := TX1) (N := 3) hx hb hts in_X1_remember_X1 tyX1 tyX1_ok nmX1 hown hK hP hD hS 0 rfl rfl 1 (by decide) (k_X1_remember_f22 hts) (fun _ h9 => h9) rfl (by decide +kernel) rfl rfl (Nat.le_of_ble_eq_true rfl) dX1_remember_23 (fun H locs hP hD hS => ?_)
    have hP : va_P D vwCl (w_X1_remember Y q q_steps q_steps_E q_steps_E_lengths q1 q1_lengths z42 g_size (va_up g_steps_E_links 4 u38) (va_up g_steps_E_folded 4 u39) (va_up g_steps_E_stiff 4 u40) g1_links g1_folded g1_stiff g1_lengths (va_up g_steps_E_lengths 4 u41)) H := hP
    have hD : va_D A (w_X1_remember Y q q_steps q_steps_E q_steps_E_lengths q1 q1_lengths z42 g_size (va_up g_steps_E_links 4 u38) (va_up g_steps_E_folded 4 u39) (va_up g_steps_E_stiff 4 u40) g1_links g1_folded g1_stiff g1_lengths (va_up g_steps_E_lengths 4 u41)) := hD
    refine lv_aload_n hx hb dX1_remember_26 rfl (lv_at hl 0 rfl) ?_
    refine lv_aload_n hx hb dX1_remember_27 rfl (lv_at hl 0 rfl) ?_
    refine va_get (D := D) (ci := 1) (v := .int g_size) (C := RX1) (T := TX1) (N := 3) hx hb hts in_X1_remember_X1 hown hK hP 0 rfl rfl 2 (by decide) (k_X1_remember_f18 hts) (fun _ h9 => h9) rfl dX1_remember_28 ?_
    refine lv_iconst (v := 1) hx hb dX1_remember_31 (by decide) ?_
    refine lv_iadd hx hb dX1_remember_32 ?_
    refine lv_bipush (v := 10) hx hb dX1_remember_33 (by decide) ?_
    refine va_mmin hx hb (hml.trans hl.1.symm) hown (k_X1_remember_m29 hts) (k_X1_remember_smin hts) (k_X1_remember_imath hts) (k_X1_remember_bmin hts) (Nat.le_of_ble_eq_true rfl) (Nat.le_of_ble_eq_true rfl) (Nat.le_of_ble_eq_true rfl) (Nat.le_of_ble_eq_true rfl) dX1_remember_35 ?_
    refine lv_topi (fun z43 ez43 => ?_)
    have h := h z43 ez43
    refine va_put (D := D) (ci := 1) (v := .int z43) (ty := .int) (C := RX1) (T := TX1) (N := 3) hx hb hts in_X1_remember_X1 tyX1 tyX1_ok nmX1 hown hK hP hD hS 0 rfl rfl 2 (by decide) (k_X1_remember_f18 hts) (fun _ h9 => h9) rfl (by decide +kernel) rfl rfl (Nat.le_of_ble_eq_true rfl) dX1_remember_38 (fun H locs hP hD hS => ?_)
    have hP : va_P D vwCl (w_X1_remember Y q q_steps q_steps_E q_steps_E_lengths q1 q1_lengths z42 z43 (va_up g_steps_E_links 4 u38) (va_up g_steps_E_folded 4 u39) (va_up g_steps_E_stiff 4 u40) g1_links g1_folded g1_stiff g1_lengths (va_up g_steps_E_lengths 4 u41)) H := hP
    have hD : va_D A (w_X1_remember Y q q_steps q_steps_E q_steps_E_lengths q1 q1_lengths z42 z43 (va_up g_steps_E_links 4 u38) (va_up g_steps_E_folded 4 u39) (va_up g_steps_E_stiff 4 u40) g1_links g1_folded g1_stiff g1_lengths (va_up g_steps_E_lengths 4 u41)) := hD
    exact ret_v (z42, z43, (va_up g_steps_E_links 4 u38), (va_up g_steps_E_folded 4 u39), (va_up g_steps_E_stiff 4 u40), (va_up g_steps_E_lengths 4 u41)) hx hb hr hlocks hK hP hD hS h dX1_remember_41
  · refine W.eq (g2 := F0 m 9 ls [.ref (q_steps_E 5)]) (by rw [← ek8]; rfl) ?_
    refine lv_aload_n hx hb dX1_remember_9 rfl (lv_at hl 1 rfl) ?_
    have hp : Parts (w_X1_remember Y q q_steps q_steps_E q_steps_E_lengths q1 q1_lengths g_slot g_size g_steps_E_links g_steps_E_folded g_steps_E_stiff g1_links g1_folded g1_stiff g1_lengths g_steps_E_lengths) (w_X5_copyFrom Y (q_steps_E 5) (q_steps_E_lengths 5) q1 q1_lengths (g_steps_E_links 5) (g_steps_E_folded 5) (g_steps_E_stiff 5) g1_links g1_folded g1_stiff g1_lengths (g_steps_E_lengths 5)) (pick (w_X1_remember Y q q_steps q_steps_E q_steps_E_lengths q1 q1_lengths g_slot g_size g_steps_E_links g_steps_E_folded g_steps_E_stiff g1_links g1_folded g1_stiff g1_lengths g_steps_E_lengths) [0, 1, 2, 3, 4, 5, 6, 8, 9, 10, 11, 14, 15, 16, 17, 18, 20, 21, 22, 23]) [7, 12, 13, 19] [0, 1, 2, 3, 4, 5, 6, 8, 9, 10, 11, 14, 15, 16, 17, 18, 20, 21, 22, 23] := ⟨rfl, rfl, rfl, rfl, by decide⟩
    refine go_v (ps := [0, 1, 2, 3, 4, 5, 6, 20, 7, 8, 9, 10, 21, 22, 11, 12, 13, 14, 15, 23, 16, 17, 18, 19]) (wn := (fun u : Int32 × Int32 × Int32 × (Nat → Int32) => (w_X1_remember Y q q_steps q_steps_E q_steps_E_lengths q1 q1_lengths g_slot g_size (va_up g_steps_E_links 5 u.1) (va_up g_steps_E_folded 5 u.2.1) (va_up g_steps_E_stiff 5 u.2.2.1) g1_links g1_folded g1_stiff g1_lengths (va_up g_steps_E_lengths 5 u.2.2.2)))) hp hP hD hS hA rfl (fun _ => rfl) (va_runV (As := [.ref q1]) (rest := []) ⟨hx, hb, hml, hown, hts⟩ (c_X5_copyFrom h _) (cwV 1 hts gX1_remember_X5_copyFrom rfl rfl rfl (by decide +kernel) ⟨Nat.le_of_ble_eq_true rfl, Nat.le_of_ble_eq_true rfl⟩) (pre_V (wc := (w_X5_copyFrom Y (q_steps_E 5) (q_steps_E_lengths 5) q1 q1_lengths (g_steps_E_links 5) (g_steps_E_folded 5) (g_steps_E_stiff 5) g1_links g1_folded g1_stiff g1_lengths (g_steps_E_lengths 5))) (b := (q_steps_E 5)) (q0 := 0) (ci := 5) (q := (RX5, TX5, 4)) hK hN (P_sub hP [7, 12, 13, 19] rfl) (hD.sub [7, 12, 13, 19] rfl rfl) rfl rfl) rfl rfl hl.1 rfl (lv_room (Nat.le_of_ble_eq_true rfl)) dX1_remember_10 ⟨Nat.le_of_ble_eq_true rfl, Nat.le_of_ble_eq_true rfl⟩) (fun u H locs h hP hD hS => ?_)
    obtain ⟨u45, u46, u47, u48⟩ := u
    try dsimp only at h
    have hP : va_P D vwCl (w_X1_remember Y q q_steps q_steps_E q_steps_E_lengths q1 q1_lengths g_slot g_size (va_up g_steps_E_links 5 u45) (va_up g_steps_E_folded 5 u46) (va_up g_steps_E_stiff 5 u47) g1_links g1_folded g1_stiff g1_lengths (va_up g_steps_E_lengths 5 u48)) H := hP
    have hD : va_D A (w_X1_remember Y q q_steps q_steps_E q_steps_E_lengths q1 q1_lengths g_slot g_size (va_up g_steps_E_links 5 u45) (va_up g_steps_E_folded 5 u46) (va_up g_steps_E_stiff 5 u47) g1_links g1_folded g1_stiff g1_lengths (va_up g_steps_E_lengths 5 u48)) := hD
    refine lv_aload_n hx hb dX1_remember_13 rfl (lv_at hl 0 rfl) ?_
    refine lv_aload_n hx hb dX1_remember_14 rfl (lv_at hl 0 rfl) ?_
    refine va_get (D := D) (ci := 1) (v := .int g_slot) (C := RX1) (T := TX1) (N := 3) hx hb hts in_X1_remember_X1 hown hK hP 0 rfl rfl 1 (by decide) (k_X1_remember_f22 hts) (fun _ h9 => h9) rfl dX1_remember_15 ?_
    refine lv_iconst (v := 1) hx hb dX1_remember_18 (by decide) ?_
    refine lv_iadd hx hb dX1_remember_19 ?_
    refine lv_bipush (v := 10) hx hb dX1_remember_20 (by decide) ?_
    obtain ⟨hne, h⟩ := h
    refine lv_irem hx hb dX1_remember_22 hne ?_
    refine lv_topi (fun z49 ez49 => ?_)
    have h := h z49 ez49
    refine va_put (D := D) (ci := 1) (v := .int z49) (ty := .int) (C := RX1) (T := TX1) (N := 3) hx hb hts in_X1_remember_X1 tyX1 tyX1_ok nmX1 hown hK hP hD hS 0 rfl rfl 1 (by decide) (k_X1_remember_f22 hts) (fun _ h9 => h9) rfl (by decide +kernel) rfl rfl (Nat.le_of_ble_eq_true rfl) dX1_remember_23 (fun H locs hP hD hS => ?_)
    have hP : va_P D vwCl (w_X1_remember Y q q_steps q_steps_E q_steps_E_lengths q1 q1_lengths z49 g_size (va_up g_steps_E_links 5 u45) (va_up g_steps_E_folded 5 u46) (va_up g_steps_E_stiff 5 u47) g1_links g1_folded g1_stiff g1_lengths (va_up g_steps_E_lengths 5 u48)) H := hP
    have hD : va_D A (w_X1_remember Y q q_steps q_steps_E q_steps_E_lengths q1 q1_lengths z49 g_size (va_up g_steps_E_links 5 u45) (va_up g_steps_E_folded 5 u46) (va_up g_steps_E_stiff 5 u47) g1_links g1_folded g1_stiff g1_lengths (va_up g_steps_E_lengths 5 u48)) := hD
    refine lv_aload_n hx hb dX1_remember_26 rfl (lv_at hl 0 rfl) ?_
    refine lv_aload_n hx hb dX1_remember_27 rfl (lv_at hl 0 rfl) ?_
    refine va_get (D := D) (ci := 1) (v := .int g_size) (C := RX1) (T := TX1) (N := 3) hx hb hts in_X1_remember_X1 hown hK hP 0 rfl rfl 2 (by decide) (k_X1_remember_f18 hts) (fun _ h9 => h9) rfl dX1_remember_28 ?_
    refine lv_iconst (v := 1) hx hb dX1_remember_31 (by decide) ?_
    refine lv_iadd hx hb dX1_remember_32 ?_
    refine lv_bipush (v := 10) hx hb dX1_remember_33 (by decide) ?_
    refine va_mmin hx hb (hml.trans hl.1.symm) hown (k_X1_remember_m29 hts) (k_X1_remember_smin hts) (k_X1_remember_imath hts) (k_X1_remember_bmin hts) (Nat.le_of_ble_eq_true rfl) (Nat.le_of_ble_eq_true rfl) (Nat.le_of_ble_eq_true rfl) (Nat.le_of_ble_eq_true rfl) dX1_remember_35 ?_
    refine lv_topi (fun z50 ez50 => ?_)
    have h := h z50 ez50
    refine va_put (D := D) (ci := 1) (v := .int z50) (ty := .int) (C := RX1) (T := TX1) (N := 3) hx hb hts in_X1_remember_X1 tyX1 tyX1_ok nmX1 hown hK hP hD hS 0 rfl rfl 2 (by decide) (k_X1_remember_f18 hts) (fun _ h9 => h9) rfl (by decide +kernel) rfl rfl (Nat.le_of_ble_eq_true rfl) dX1_remember_38 (fun H locs hP hD hS => ?_)
    have hP : va_P D vwCl (w_X1_remember Y q q_steps q_steps_E q_steps_E_lengths q1 q1_lengths z49 z50 (va_up g_steps_E_links 5 u45) (va_up g_steps_E_folded 5 u46) (va_up g_steps_E_stiff 5 u47) g1_links g1_folded g1_stiff g1_lengths (va_up g_steps_E_lengths 5 u48)) H := hP
    have hD : va_D A (w_X1_remember Y q q_steps q_steps_E q_steps_E_lengths q1 q1_lengths z49 z50 (va_up g_steps_E_links 5 u45) (va_up g_steps_E_folded 5 u46) (va_up g_steps_E_stiff 5 u47) g1_links g1_folded g1_stiff g1_lengths (va_up g_steps_E_lengths 5 u48)) := hD
    exact ret_v (z49, z50, (va_up g_steps_E_links 5 u45), (va_up g_steps_E_folded 5 u46), (va_up g_steps_E_stiff 5 u47), (va_up g_steps_E_lengths 5 u48)) hx hb hr hlocks hK hP hD hS h dX1_remember_41
  · refine W.eq (g2 := F0 m 9 ls [.ref (q_steps_E 6)]) (by rw [← ek8]; rfl) ?_
    refine lv_aload_n hx hb dX1_remember_9 rfl (lv_at hl 1 rfl) ?_
    have hp : Parts (w_X1_remember Y q q_steps q_steps_E q_steps_E_lengths q1 q1_lengths g_slot g_size g_steps_E_links g_steps_E_folded g_steps_E_stiff g1_links g1_folded g1_stiff g1_lengths g_steps_E_lengths) (w_X5_copyFrom Y (q_steps_E 6) (q_steps_E_lengths 6) q1 q1_lengths (g_steps_E_links 6) (g_steps_E_folded 6) (g_steps_E_stiff 6) g1_links g1_folded g1_stiff g1_lengths (g_steps_E_lengths 6)) (pick (w_X1_remember Y q q_steps q_steps_E q_steps_E_lengths q1 q1_lengths g_slot g_size g_steps_E_links g_steps_E_folded g_steps_E_stiff g1_links g1_folded g1_stiff g1_lengths g_steps_E_lengths) [0, 1, 2, 3, 4, 5, 6, 7, 9, 10, 11, 14, 15, 16, 17, 18, 19, 21, 22, 23]) [8, 12, 13, 20] [0, 1, 2, 3, 4, 5, 6, 7, 9, 10, 11, 14, 15, 16, 17, 18, 19, 21, 22, 23] := ⟨rfl, rfl, rfl, rfl, by decide⟩
    refine go_v (ps := [0, 1, 2, 3, 4, 5, 6, 7, 20, 8, 9, 10, 21, 22, 11, 12, 13, 14, 15, 16, 23, 17, 18, 19]) (wn := (fun u : Int32 × Int32 × Int32 × (Nat → Int32) => (w_X1_remember Y q q_steps q_steps_E q_steps_E_lengths q1 q1_lengths g_slot g_size (va_up g_steps_E_links 6 u.1) (va_up g_steps_E_folded 6 u.2.1) (va_up g_steps_E_stiff 6 u.2.2.1) g1_links g1_folded g1_stiff g1_lengths (va_up g_steps_E_lengths 6 u.2.2.2)))) hp hP hD hS hA rfl (fun _ => rfl) (va_runV (As := [.ref q1]) (rest := []) ⟨hx, hb, hml, hown, hts⟩ (c_X5_copyFrom h _) (cwV 1 hts gX1_remember_X5_copyFrom rfl rfl rfl (by decide +kernel) ⟨Nat.le_of_ble_eq_true rfl, Nat.le_of_ble_eq_true rfl⟩) (pre_V (wc := (w_X5_copyFrom Y (q_steps_E 6) (q_steps_E_lengths 6) q1 q1_lengths (g_steps_E_links 6) (g_steps_E_folded 6) (g_steps_E_stiff 6) g1_links g1_folded g1_stiff g1_lengths (g_steps_E_lengths 6))) (b := (q_steps_E 6)) (q0 := 0) (ci := 5) (q := (RX5, TX5, 4)) hK hN (P_sub hP [8, 12, 13, 20] rfl) (hD.sub [8, 12, 13, 20] rfl rfl) rfl rfl) rfl rfl hl.1 rfl (lv_room (Nat.le_of_ble_eq_true rfl)) dX1_remember_10 ⟨Nat.le_of_ble_eq_true rfl, Nat.le_of_ble_eq_true rfl⟩) (fun u H locs h hP hD hS => ?_)
    obtain ⟨u52, u53, u54, u55⟩ := u
    try dsimp only at h
    have hP : va_P D vwCl (w_X1_remember Y q q_steps q_steps_E q_steps_E_lengths q1 q1_lengths g_slot g_size (va_up g_steps_E_links 6 u52) (va_up g_steps_E_folded 6 u53) (va_up g_steps_E_stiff 6 u54) g1_links g1_folded g1_stiff g1_lengths (va_up g_steps_E_lengths 6 u55)) H := hP
    have hD : va_D A (w_X1_remember Y q q_steps q_steps_E q_steps_E_lengths q1 q1_lengths g_slot g_size (va_up g_steps_E_links 6 u52) (va_up g_steps_E_folded 6 u53) (va_up g_steps_E_stiff 6 u54) g1_links g1_folded g1_stiff g1_lengths (va_up g_steps_E_lengths 6 u55)) := hD
    refine lv_aload_n hx hb dX1_remember_13 rfl (lv_at hl 0 rfl) ?_
    refine lv_aload_n hx hb dX1_remember_14 rfl (lv_at hl 0 rfl) ?_
    refine va_get (D := D) (ci := 1) (v := .int g_slot) (C := RX1) (T := TX1) (N := 3) hx hb hts in_X1_remember_X1 hown hK hP 0 rfl rfl 1 (by decide) (k_X1_remember_f22 hts) (fun _ h9 => h9) rfl dX1_remember_15 ?_
    refine lv_iconst (v := 1) hx hb dX1_remember_18 (by decide) ?_
    refine lv_iadd hx hb dX1_remember_19 ?_
    refine lv_bipush (v := 10) hx hb dX1_remember_20 (by decide) ?_
    obtain ⟨hne, h⟩ := h
    refine lv_irem hx hb dX1_remember_22 hne ?_
    refine lv_topi (fun z56 ez56 => ?_)
    have h := h z56 ez56
    refine va_put (D := D) (ci := 1) (v := .int z56) (ty := .int) (C := RX1) (T := TX1) (N := 3) hx hb hts in_X1_remember_X1 tyX1 tyX1_ok nmX1 hown hK hP hD hS 0 rfl rfl 1 (by decide) (k_X1_remember_f22 hts) (fun _ h9 => h9) rfl (by decide +kernel) rfl rfl (Nat.le_of_ble_eq_true rfl) dX1_remember_23 (fun H locs hP hD hS => ?_)
    have hP : va_P D vwCl (w_X1_remember Y q q_steps q_steps_E q_steps_E_lengths q1 q1_lengths z56 g_size (va_up g_steps_E_links 6 u52) (va_up g_steps_E_folded 6 u53) (va_up g_steps_E_stiff 6 u54) g1_links g1_folded g1_stiff g1_lengths (va_up g_steps_E_lengths 6 u55)) H := hP
    have hD : va_D A (w_X1_remember Y q q_steps q_steps_E q_steps_E_lengths q1 q1_lengths z56 g_size (va_up g_steps_E_links 6 u52) (va_up g_steps_E_folded 6 u53) (va_up g_steps_E_stiff 6 u54) g1_links g1_folded g1_stiff g1_lengths (va_up g_steps_E_lengths 6 u55)) := hD
    refine lv_aload_n hx hb dX1_remember_26 rfl (lv_at hl 0 rfl) ?_
    refine lv_aload_n hx hb dX1_remember_27 rfl (lv_at hl 0 rfl) ?_
    refine va_get (D := D) (ci := 1) (v := .int g_size) (C := RX1) (T := TX1) (N := 3) hx hb hts in_X1_remember_X1 hown hK hP 0 rfl rfl 2 (by decide) (k_X1_remember_f18 hts) (fun _ h9 => h9) rfl dX1_remember_28 ?_
    refine lv_iconst (v := 1) hx hb dX1_remember_31 (by decide) ?_
    refine lv_iadd hx hb dX1_remember_32 ?_
    refine lv_bipush (v := 10) hx hb dX1_remember_33 (by decide) ?_
    refine va_mmin hx hb (hml.trans hl.1.symm) hown (k_X1_remember_m29 hts) (k_X1_remember_smin hts) (k_X1_remember_imath hts) (k_X1_remember_bmin hts) (Nat.le_of_ble_eq_true rfl) (Nat.le_of_ble_eq_true rfl) (Nat.le_of_ble_eq_true rfl) (Nat.le_of_ble_eq_true rfl) dX1_remember_35 ?_
    refine lv_topi (fun z57 ez57 => ?_)
    have h := h z57 ez57
    refine va_put (D := D) (ci := 1) (v := .int z57) (ty := .int) (C := RX1) (T := TX1) (N := 3) hx hb hts in_X1_remember_X1 tyX1 tyX1_ok nmX1 hown hK hP hD hS 0 rfl rfl 2 (by decide) (k_X1_remember_f18 hts) (fun _ h9 => h9) rfl (by decide +kernel) rfl rfl (Nat.le_of_ble_eq_true rfl) dX1_remember_38 (fun H locs hP hD hS => ?_)
    have hP : va_P D vwCl (w_X1_remember Y q q_steps q_steps_E q_steps_E_lengths q1 q1_lengths z56 z57 (va_up g_steps_E_links 6 u52) (va_up g_steps_E_folded 6 u53) (va_up g_steps_E_stiff 6 u54) g1_links g1_folded g1_stiff g1_lengths (va_up g_steps_E_lengths 6 u55)) H := hP
    have hD : va_D A (w_X1_remember Y q q_steps q_steps_E q_steps_E_lengths q1 q1_lengths z56 z57 (va_up g_steps_E_links 6 u52) (va_up g_steps_E_folded 6 u53) (va_up g_steps_E_stiff 6 u54) g1_links g1_folded g1_stiff g1_lengths (va_up g_steps_E_lengths 6 u55)) := hD
    exact ret_v (z56, z57, (va_up g_steps_E_links 6 u52), (va_up g_steps_E_folded 6 u53), (va_up g_steps_E_stiff 6 u54), (va_up g_steps_E_lengths 6 u55)) hx hb hr hlocks hK hP hD hS h dX1_remember_41
  · refine W.eq (g2 := F0 m 9 ls [.ref (q_steps_E 7)]) (by rw [← ek8]; rfl) ?_
    refine lv_aload_n hx hb dX1_remember_9 rfl (lv_at hl 1 rfl) ?_
    have hp : Parts (w_X1_remember Y q q_steps q_steps_E q_steps_E_lengths q1 q1_lengths g_slot g_size g_steps_E_links g_steps_E_folded g_steps_E_stiff g1_links g1_folded g1_stiff g1_lengths g_steps_E_lengths) (w_X5_copyFrom Y (q_steps_E 7) (q_steps_E_lengths 7) q1 q1_lengths (g_steps_E_links 7) (g_steps_E_folded 7) (g_steps_E_stiff 7) g1_links g1_folded g1_stiff g1_lengths (g_steps_E_lengths 7)) (pick (w_X1_remember Y q q_steps q_steps_E q_steps_E_lengths q1 q1_lengths g_slot g_size g_steps_E_links g_steps_E_folded g_steps_E_stiff g1_links g1_folded g1_stiff g1_lengths g_steps_E_lengths) [0, 1, 2, 3, 4, 5, 6, 7, 8, 10, 11, 14, 15, 16, 17, 18, 19, 20, 22, 23]) [9, 12, 13, 21] [0, 1, 2, 3, 4, 5, 6, 7, 8, 10, 11, 14, 15, 16, 17, 18, 19, 20, 22, 23] := ⟨rfl, rfl, rfl, rfl, by decide⟩
    refine go_v (ps := [0, 1, 2, 3, 4, 5, 6, 7, 8, 20, 9, 10, 21, 22, 11, 12, 13, 14, 15, 16, 17, 23, 18, 19]) (wn := (fun u : Int32 × Int32 × Int32 × (Nat → Int32) => (w_X1_remember Y q q_steps q_steps_E q_steps_E_lengths q1 q1_lengths g_slot g_size (va_up g_steps_E_links 7 u.1) (va_up g_steps_E_folded 7 u.2.1) (va_up g_steps_E_stiff 7 u.2.2.1) g1_links g1_folded g1_stiff g1_lengths (va_up g_steps_E_lengths 7 u.2.2.2)))) hp hP hD hS hA rfl (fun _ => rfl) (va_runV (As := [.ref q1]) (rest := []) ⟨hx, hb, hml, hown, hts⟩ (c_X5_copyFrom h _) (cwV 1 hts gX1_remember_X5_copyFrom rfl rfl rfl (by decide +kernel) ⟨Nat.le_of_ble_eq_true rfl, Nat.le_of_ble_eq_true rfl⟩) (pre_V (wc := (w_X5_copyFrom Y (q_steps_E 7) (q_steps_E_lengths 7) q1 q1_lengths (g_steps_E_links 7) (g_steps_E_folded 7) (g_steps_E_stiff 7) g1_links g1_folded g1_stiff g1_lengths (g_steps_E_lengths 7))) (b := (q_steps_E 7)) (q0 := 0) (ci := 5) (q := (RX5, TX5, 4)) hK hN (P_sub hP [9, 12, 13, 21] rfl) (hD.sub [9, 12, 13, 21] rfl rfl) rfl rfl) rfl rfl hl.1 rfl (lv_room (Nat.le_of_ble_eq_true rfl)) dX1_remember_10 ⟨Nat.le_of_ble_eq_true rfl, Nat.le_of_ble_eq_true rfl⟩) (fun u H locs h hP hD hS => ?_)
    obtain ⟨u59, u60, u61, u62⟩ := u
    try dsimp only at h
    have hP : va_P D vwCl (w_X1_remember Y q q_steps q_steps_E q_steps_E_lengths q1 q1_lengths g_slot g_size (va_up g_steps_E_links 7 u59) (va_up g_steps_E_folded 7 u60) (va_up g_steps_E_stiff 7 u61) g1_links g1_folded g1_stiff g1_lengths (va_up g_steps_E_lengths 7 u62)) H := hP
    have hD : va_D A (w_X1_remember Y q q_steps q_steps_E q_steps_E_lengths q1 q1_lengths g_slot g_size (va_up g_steps_E_links 7 u59) (va_up g_steps_E_folded 7 u60) (va_up g_steps_E_stiff 7 u61) g1_links g1_folded g1_stiff g1_lengths (va_up g_steps_E_lengths 7 u62)) := hD
    refine lv_aload_n hx hb dX1_remember_13 rfl (lv_at hl 0 rfl) ?_
    refine lv_aload_n hx hb dX1_remember_14 rfl (lv_at hl 0 rfl) ?_
    refine va_get (D := D) (ci := 1) (v := .int g_slot) (C := RX1) (T := TX1) (N := 3) hx hb hts in_X1_remember_X1 hown hK hP 0 rfl rfl 1 (by decide) (k_X1_remember_f22 hts) (fun _ h9 => h9) rfl dX1_remember_15 ?_
    refine lv_iconst (v := 1) hx hb dX1_remember_18 (by decide) ?_
    refine lv_iadd hx hb dX1_remember_19 ?_
    refine lv_bipush (v := 10) hx hb dX1_remember_20 (by decide) ?_
    obtain ⟨hne, h⟩ := h
    refine lv_irem hx hb dX1_remember_22 hne ?_
    refine lv_topi (fun z63 ez63 => ?_)
    have h := h z63 ez63
    refine va_put (D := D) (ci := 1) (v := .int z63) (ty := .int) (C := RX1) (T := TX1) (N := 3) hx hb hts in_X1_remember_X1 tyX1 tyX1_ok nmX1 hown hK hP hD hS 0 rfl rfl 1 (by decide) (k_X1_remember_f22 hts) (fun _ h9 => h9) rfl (by decide +kernel) rfl rfl (Nat.le_of_ble_eq_true rfl) dX1_remember_23 (fun H locs hP hD hS => ?_)
    have hP : va_P D vwCl (w_X1_remember Y q q_steps q_steps_E q_steps_E_lengths q1 q1_lengths z63 g_size (va_up g_steps_E_links 7 u59) (va_up g_steps_E_folded 7 u60) (va_up g_steps_E_stiff 7 u61) g1_links g1_folded g1_stiff g1_lengths (va_up g_steps_E_lengths 7 u62)) H := hP
    have hD : va_D A (w_X1_remember Y q q_steps q_steps_E q_steps_E_lengths q1 q1_lengths z63 g_size (va_up g_steps_E_links 7 u59) (va_up g_steps_E_folded 7 u60) (va_up g_steps_E_stiff 7 u61) g1_links g1_folded g1_stiff g1_lengths (va_up g_steps_E_lengths 7 u62)) := hD
    refine lv_aload_n hx hb dX1_remember_26 rfl (lv_at hl 0 rfl) ?_
    refine lv_aload_n hx hb dX1_remember_27 rfl (lv_at hl 0 rfl) ?_
    refine va_get (D := D) (ci := 1) (v := .int g_size) (C := RX1) (T := TX1) (N := 3) hx hb hts in_X1_remember_X1 hown hK hP 0 rfl rfl 2 (by decide) (k_X1_remember_f18 hts) (fun _ h9 => h9) rfl dX1_remember_28 ?_
    refine lv_iconst (v := 1) hx hb dX1_remember_31 (by decide) ?_
    refine lv_iadd hx hb dX1_remember_32 ?_
    refine lv_bipush (v := 10) hx hb dX1_remember_33 (by decide) ?_
    refine va_mmin hx hb (hml.trans hl.1.symm) hown (k_X1_remember_m29 hts) (k_X1_remember_smin hts) (k_X1_remember_imath hts) (k_X1_remember_bmin hts) (Nat.le_of_ble_eq_true rfl) (Nat.le_of_ble_eq_true rfl) (Nat.le_of_ble_eq_true rfl) (Nat.le_of_ble_eq_true rfl) dX1_remember_35 ?_
    refine lv_topi (fun z64 ez64 => ?_)
    have h := h z64 ez64
    refine va_put (D := D) (ci := 1) (v := .int z64) (ty := .int) (C := RX1) (T := TX1) (N := 3) hx hb hts in_X1_remember_X1 tyX1 tyX1_ok nmX1 hown hK hP hD hS 0 rfl rfl 2 (by decide) (k_X1_remember_f18 hts) (fun _ h9 => h9) rfl (by decide +kernel) rfl rfl (Nat.le_of_ble_eq_true rfl) dX1_remember_38 (fun H locs hP hD hS => ?_)
    have hP : va_P D vwCl (w_X1_remember Y q q_steps q_steps_E q_steps_E_lengths q1 q1_lengths z63 z64 (va_up g_steps_E_links 7 u59) (va_up g_steps_E_folded 7 u60) (va_up g_steps_E_stiff 7 u61) g1_links g1_folded g1_stiff g1_lengths (va_up g_steps_E_lengths 7 u62)) H := hP
    have hD : va_D A (w_X1_remember Y q q_steps q_steps_E q_steps_E_lengths q1 q1_lengths z63 z64 (va_up g_steps_E_links 7 u59) (va_up g_steps_E_folded 7 u60) (va_up g_steps_E_stiff 7 u61) g1_links g1_folded g1_stiff g1_lengths (va_up g_steps_E_lengths 7 u62)) := hD
    exact ret_v (z63, z64, (va_up g_steps_E_links 7 u59), (va_up g_steps_E_folded 7 u60), (va_up g_steps_E_stiff 7 u61), (va_up g_steps_E_lengths 7 u62)) hx hb hr hlocks hK hP hD hS h dX1_remember_41
  · refine W.eq (g2 := F0 m 9 ls [.ref (q_steps_E 8)]) (by rw [← ek8]; rfl) ?_
    refine lv_aload_n hx hb dX1_remember_9 rfl (lv_at hl 1 rfl) ?_
    have hp : Parts (w_X1_remember Y q q_steps q_steps_E q_steps_E_lengths q1 q1_lengths g_slot g_size g_steps_E_links g_steps_E_folded g_steps_E_stiff g1_links g1_folded g1_stiff g1_lengths g_steps_E_lengths) (w_X5_copyFrom Y (q_steps_E 8) (q_steps_E_lengths 8) q1 q1_lengths (g_steps_E_links 8) (g_steps_E_folded 8) (g_steps_E_stiff 8) g1_links g1_folded g1_stiff g1_lengths (g_steps_E_lengths 8)) (pick (w_X1_remember Y q q_steps q_steps_E q_steps_E_lengths q1 q1_lengths g_slot g_size g_steps_E_links g_steps_E_folded g_steps_E_stiff g1_links g1_folded g1_stiff g1_lengths g_steps_E_lengths) [0, 1, 2, 3, 4, 5, 6, 7, 8, 9, 11, 14, 15, 16, 17, 18, 19, 20, 21, 23]) [10, 12, 13, 22] [0, 1, 2, 3, 4, 5, 6, 7, 8, 9, 11, 14, 15, 16, 17, 18, 19, 20, 21, 23] := ⟨rfl, rfl, rfl, rfl, by decide⟩
    refine go_v (ps := [0, 1, 2, 3, 4, 5, 6, 7, 8, 9, 20, 10, 21, 22, 11, 12, 13, 14, 15, 16, 17, 18, 23, 19]) (wn := (fun u : Int32 × Int32 × Int32 × (Nat → Int32) => (w_X1_remember Y q q_steps q_steps_E q_steps_E_lengths q1 q1_lengths g_slot g_size (va_up g_steps_E_links 8 u.1) (va_up g_steps_E_folded 8 u.2.1) (va_up g_steps_E_stiff 8 u.2.2.1) g1_links g1_folded g1_stiff g1_lengths (va_up g_steps_E_lengths 8 u.2.2.2)))) hp hP hD hS hA rfl (fun _ => rfl) (va_runV (As := [.ref q1]) (rest := []) ⟨hx, hb, hml, hown, hts⟩ (c_X5_copyFrom h _) (cwV 1 hts gX1_remember_X5_copyFrom rfl rfl rfl (by decide +kernel) ⟨Nat.le_of_ble_eq_true rfl, Nat.le_of_ble_eq_true rfl⟩) (pre_V (wc := (w_X5_copyFrom Y (q_steps_E 8) (q_steps_E_lengths 8) q1 q1_lengths (g_steps_E_links 8) (g_steps_E_folded 8) (g_steps_E_stiff 8) g1_links g1_folded g1_stiff g1_lengths (g_steps_E_lengths 8))) (b := (q_steps_E 8)) (q0 := 0) (ci := 5) (q := (RX5, TX5, 4)) hK hN (P_sub hP [10, 12, 13, 22] rfl) (hD.sub [10, 12, 13, 22] rfl rfl) rfl rfl) rfl rfl hl.1 rfl (lv_room (Nat.le_of_ble_eq_true rfl)) dX1_remember_10 ⟨Nat.le_of_ble_eq_true rfl, Nat.le_of_ble_eq_true rfl⟩) (fun u H locs h hP hD hS => ?_)
    obtain ⟨u66, u67, u68, u69⟩ := u
    try dsimp only at h
    have hP : va_P D vwCl (w_X1_remember Y q q_steps q_steps_E q_steps_E_lengths q1 q1_lengths g_slot g_size (va_up g_steps_E_links 8 u66) (va_up g_steps_E_folded 8 u67) (va_up g_steps_E_stiff 8 u68) g1_links g1_folded g1_stiff g1_lengths (va_up g_steps_E_lengths 8 u69)) H := hP
    have hD : va_D A (w_X1_remember Y q q_steps q_steps_E q_steps_E_lengths q1 q1_lengths g_slot g_size (va_up g_steps_E_links 8 u66) (va_up g_steps_E_folded 8 u67) (va_up g_steps_E_stiff 8 u68) g1_links g1_folded g1_stiff g1_lengths (va_up g_steps_E_lengths 8 u69)) := hD
    refine lv_aload_n hx hb dX1_remember_13 rfl (lv_at hl 0 rfl) ?_
    refine lv_aload_n hx hb dX1_remember_14 rfl (lv_at hl 0 rfl) ?_
    refine va_get (D := D) (ci := 1) (v := .int g_slot) (C := RX1) (T := TX1) (N := 3) hx hb hts in_X1_remember_X1 hown hK hP 0 rfl rfl 1 (by decide) (k_X1_remember_f22 hts) (fun _ h9 => h9) rfl dX1_remember_15 ?_
    refine lv_iconst (v := 1) hx hb dX1_remember_18 (by decide) ?_
    refine lv_iadd hx hb dX1_remember_19 ?_
    refine lv_bipush (v := 10) hx hb dX1_remember_20 (by decide) ?_
    obtain ⟨hne, h⟩ := h
    refine lv_irem hx hb dX1_remember_22 hne ?_
    refine lv_topi (fun z70 ez70 => ?_)
    have h := h z70 ez70
    refine va_put (D := D) (ci := 1) (v := .int z70) (ty := .int) (C := RX1) (T := TX1) (N := 3) hx hb hts in_X1_remember_X1 tyX1 tyX1_ok nmX1 hown hK hP hD hS 0 rfl rfl 1 (by decide) (k_X1_remember_f22 hts) (fun _ h9 => h9) rfl (by decide +kernel) rfl rfl (Nat.le_of_ble_eq_true rfl) dX1_remember_23 (fun H locs hP hD hS => ?_)
    have hP : va_P D vwCl (w_X1_remember Y q q_steps q_steps_E q_steps_E_lengths q1 q1_lengths z70 g_size (va_up g_steps_E_links 8 u66) (va_up g_steps_E_folded 8 u67) (va_up g_steps_E_stiff 8 u68) g1_links g1_folded g1_stiff g1_lengths (va_up g_steps_E_lengths 8 u69)) H := hP
    have hD : va_D A (w_X1_remember Y q q_steps q_steps_E q_steps_E_lengths q1 q1_lengths z70 g_size (va_up g_steps_E_links 8 u66) (va_up g_steps_E_folded 8 u67) (va_up g_steps_E_stiff 8 u68) g1_links g1_folded g1_stiff g1_lengths (va_up g_steps_E_lengths 8 u69)) := hD
    refine lv_aload_n hx hb dX1_remember_26 rfl (lv_at hl 0 rfl) ?_
    refine lv_aload_n hx hb dX1_remember_27 rfl (lv_at hl 0 rfl) ?_
    refine va_get (D := D) (ci := 1) (v := .int g_size) (C := RX1) (T := TX1) (N := 3) hx hb hts in_X1_remember_X1 hown hK hP 0 rfl rfl 2 (by decide) (k_X1_remember_f18 hts) (fun _ h9 => h9) rfl dX1_remember_28 ?_
    refine lv_iconst (v := 1) hx hb dX1_remember_31 (by decide) ?_
    refine lv_iadd hx hb dX1_remember_32 ?_
    refine lv_bipush (v := 10) hx hb dX1_remember_33 (by decide) ?_
    refine va_mmin hx hb (hml.trans hl.1.symm) hown (k_X1_remember_m29 hts) (k_X1_remember_smin hts) (k_X1_remember_imath hts) (k_X1_remember_bmin hts) (Nat.le_of_ble_eq_true rfl) (Nat.le_of_ble_eq_true rfl) (Nat.le_of_ble_eq_true rfl) (Nat.le_of_ble_eq_true rfl) dX1_remember_35 ?_
    refine lv_topi (fun z71 ez71 => ?_)
    have h := h z71 ez71
    refine va_put (D := D) (ci := 1) (v := .int z71) (ty := .int) (C := RX1) (T := TX1) (N := 3) hx hb hts in_X1_remember_X1 tyX1 tyX1_ok nmX1 hown hK hP hD hS 0 rfl rfl 2 (by decide) (k_X1_remember_f18 hts) (fun _ h9 => h9) rfl (by decide +kernel) rfl rfl (Nat.le_of_ble_eq_true rfl) dX1_remember_38 (fun H locs hP hD hS => ?_)
    have hP : va_P D vwCl (w_X1_remember Y q q_steps q_steps_E q_steps_E_lengths q1 q1_lengths z70 z71 (va_up g_steps_E_links 8 u66) (va_up g_steps_E_folded 8 u67) (va_up g_steps_E_stiff 8 u68) g1_links g1_folded g1_stiff g1_lengths (va_up g_steps_E_lengths 8 u69)) H := hP
    have hD : va_D A (w_X1_remember Y q q_steps q_steps_E q_steps_E_lengths q1 q1_lengths z70 z71 (va_up g_steps_E_links 8 u66) (va_up g_steps_E_folded 8 u67) (va_up g_steps_E_stiff 8 u68) g1_links g1_folded g1_stiff g1_lengths (va_up g_steps_E_lengths 8 u69)) := hD
    exact ret_v (z70, z71, (va_up g_steps_E_links 8 u66), (va_up g_steps_E_folded 8 u67), (va_up g_steps_E_stiff 8 u68), (va_up g_steps_E_lengths 8 u69)) hx hb hr hlocks hK hP hD hS h dX1_remember_41
  · refine W.eq (g2 := F0 m 9 ls [.ref (q_steps_E 9)]) (by rw [← ek8]; rfl) ?_
    refine lv_aload_n hx hb dX1_remember_9 rfl (lv_at hl 1 rfl) ?_
    have hp : Parts (w_X1_remember Y q q_steps q_steps_E q_steps_E_lengths q1 q1_lengths g_slot g_size g_steps_E_links g_steps_E_folded g_steps_E_stiff g1_links g1_folded g1_stiff g1_lengths g_steps_E_lengths) (w_X5_copyFrom Y (q_steps_E 9) (q_steps_E_lengths 9) q1 q1_lengths (g_steps_E_links 9) (g_steps_E_folded 9) (g_steps_E_stiff 9) g1_links g1_folded g1_stiff g1_lengths (g_steps_E_lengths 9)) (pick (w_X1_remember Y q q_steps q_steps_E q_steps_E_lengths q1 q1_lengths g_slot g_size g_steps_E_links g_steps_E_folded g_steps_E_stiff g1_links g1_folded g1_stiff g1_lengths g_steps_E_lengths) [0, 1, 2, 3, 4, 5, 6, 7, 8, 9, 10, 14, 15, 16, 17, 18, 19, 20, 21, 22]) [11, 12, 13, 23] [0, 1, 2, 3, 4, 5, 6, 7, 8, 9, 10, 14, 15, 16, 17, 18, 19, 20, 21, 22] := ⟨rfl, rfl, rfl, rfl, by decide⟩
    refine go_v (ps := [0, 1, 2, 3, 4, 5, 6, 7, 8, 9, 10, 20, 21, 22, 11, 12, 13, 14, 15, 16, 17, 18, 19, 23]) (wn := (fun u : Int32 × Int32 × Int32 × (Nat → Int32) => (w_X1_remember Y q q_steps q_steps_E q_steps_E_lengths q1 q1_lengths g_slot g_size (va_up g_steps_E_links 9 u.1) (va_up g_steps_E_folded 9 u.2.1) (va_up g_steps_E_stiff 9 u.2.2.1) g1_links g1_folded g1_stiff g1_lengths (va_up g_steps_E_lengths 9 u.2.2.2)))) hp hP hD hS hA rfl (fun _ => rfl) (va_runV (As := [.ref q1]) (rest := []) ⟨hx, hb, hml, hown, hts⟩ (c_X5_copyFrom h _) (cwV 1 hts gX1_remember_X5_copyFrom rfl rfl rfl (by decide +kernel) ⟨Nat.le_of_ble_eq_true rfl, Nat.le_of_ble_eq_true rfl⟩) (pre_V (wc := (w_X5_copyFrom Y (q_steps_E 9) (q_steps_E_lengths 9) q1 q1_lengths (g_steps_E_links 9) (g_steps_E_folded 9) (g_steps_E_stiff 9) g1_links g1_folded g1_stiff g1_lengths (g_steps_E_lengths 9))) (b := (q_steps_E 9)) (q0 := 0) (ci := 5) (q := (RX5, TX5, 4)) hK hN (P_sub hP [11, 12, 13, 23] rfl) (hD.sub [11, 12, 13, 23] rfl rfl) rfl rfl) rfl rfl hl.1 rfl (lv_room (Nat.le_of_ble_eq_true rfl)) dX1_remember_10 ⟨Nat.le_of_ble_eq_true rfl, Nat.le_of_ble_eq_true rfl⟩) (fun u H locs h hP hD hS => ?_)
    obtain ⟨u73, u74, u75, u76⟩ := u
    try dsimp only at h
    have hP : va_P D vwCl (w_X1_remember Y q q_steps q_steps_E q_steps_E_lengths q1 q1_lengths g_slot g_size (va_up g_steps_E_links 9 u73) (va_up g_steps_E_folded 9 u74) (va_up g_steps_E_stiff 9 u75) g1_links g1_folded g1_stiff g1_lengths (va_up g_steps_E_lengths 9 u76)) H := hP
    have hD : va_D A (w_X1_remember Y q q_steps q_steps_E q_steps_E_lengths q1 q1_lengths g_slot g_size (va_up g_steps_E_links 9 u73) (va_up g_steps_E_folded 9 u74) (va_up g_steps_E_stiff 9 u75) g1_links g1_folded g1_stiff g1_lengths (va_up g_steps_E_lengths 9 u76)) := hD
    refine lv_aload_n hx hb dX1_remember_13 rfl (lv_at hl 0 rfl) ?_
    refine lv_aload_n hx hb dX1_remember_14 rfl (lv_at hl 0 rfl) ?_
    refine va_get (D := D) (ci := 1) (v := .int g_slot) (C := RX1) (T := TX1) (N := 3) hx hb hts in_X1_remember_X1 hown hK hP 0 rfl rfl 1 (by decide) (k_X1_remember_f22 hts) (fun _ h9 => h9) rfl dX1_remember_15 ?_
    refine lv_iconst (v := 1) hx hb dX1_remember_18 (by decide) ?_
    refine lv_iadd hx hb dX1_remember_19 ?_
    refine lv_bipush (v := 10) hx hb dX1_remember_20 (by decide) ?_
    obtain ⟨hne, h⟩ := h
    refine lv_irem hx hb dX1_remember_22 hne ?_
    refine lv_topi (fun z77 ez77 => ?_)
    have h := h z77 ez77
    refine va_put (D := D) (ci := 1) (v := .int z77) (ty := .int) (C := RX1) (T := TX1) (N := 3) hx hb hts in_X1_remember_X1 tyX1 tyX1_ok nmX1 hown hK hP hD hS 0 rfl rfl 1 (by decide) (k_X1_remember_f22 hts) (fun _ h9 => h9) rfl (by decide +kernel) rfl rfl (Nat.le_of_ble_eq_true rfl) dX1_remember_23 (fun H locs hP hD hS => ?_)
    have hP : va_P D vwCl (w_X1_remember Y q q_steps q_steps_E q_steps_E_lengths q1 q1_lengths z77 g_size (va_up g_steps_E_links 9 u73) (va_up g_steps_E_folded 9 u74) (va_up g_steps_E_stiff 9 u75) g1_links g1_folded g1_stiff g1_lengths (va_up g_steps_E_lengths 9 u76)) H := hP
    have hD : va_D A (w_X1_remember Y q q_steps q_steps_E q_steps_E_lengths q1 q1_lengths z77 g_size (va_up g_steps_E_links 9 u73) (va_up g_steps_E_folded 9 u74) (va_up g_steps_E_stiff 9 u75) g1_links g1_folded g1_stiff g1_lengths (va_up g_steps_E_lengths 9 u76)) := hD
    refine lv_aload_n hx hb dX1_remember_26 rfl (lv_at hl 0 rfl) ?_
    refine lv_aload_n hx hb dX1_remember_27 rfl (lv_at hl 0 rfl) ?_
    refine va_get (D := D) (ci := 1) (v := .int g_size) (C := RX1) (T := TX1) (N := 3) hx hb hts in_X1_remember_X1 hown hK hP 0 rfl rfl 2 (by decide) (k_X1_remember_f18 hts) (fun _ h9 => h9) rfl dX1_remember_28 ?_
    refine lv_iconst (v := 1) hx hb dX1_remember_31 (by decide) ?_
    refine lv_iadd hx hb dX1_remember_32 ?_
    refine lv_bipush (v := 10) hx hb dX1_remember_33 (by decide) ?_
    refine va_mmin hx hb (hml.trans hl.1.symm) hown (k_X1_remember_m29 hts) (k_X1_remember_smin hts) (k_X1_remember_imath hts) (k_X1_remember_bmin hts) (Nat.le_of_ble_eq_true rfl) (Nat.le_of_ble_eq_true rfl) (Nat.le_of_ble_eq_true rfl) (Nat.le_of_ble_eq_true rfl) dX1_remember_35 ?_
    refine lv_topi (fun z78 ez78 => ?_)
    have h := h z78 ez78
    refine va_put (D := D) (ci := 1) (v := .int z78) (ty := .int) (C := RX1) (T := TX1) (N := 3) hx hb hts in_X1_remember_X1 tyX1 tyX1_ok nmX1 hown hK hP hD hS 0 rfl rfl 2 (by decide) (k_X1_remember_f18 hts) (fun _ h9 => h9) rfl (by decide +kernel) rfl rfl (Nat.le_of_ble_eq_true rfl) dX1_remember_38 (fun H locs hP hD hS => ?_)
    have hP : va_P D vwCl (w_X1_remember Y q q_steps q_steps_E q_steps_E_lengths q1 q1_lengths z77 z78 (va_up g_steps_E_links 9 u73) (va_up g_steps_E_folded 9 u74) (va_up g_steps_E_stiff 9 u75) g1_links g1_folded g1_stiff g1_lengths (va_up g_steps_E_lengths 9 u76)) H := hP
    have hD : va_D A (w_X1_remember Y q q_steps q_steps_E q_steps_E_lengths q1 q1_lengths z77 z78 (va_up g_steps_E_links 9 u73) (va_up g_steps_E_folded 9 u74) (va_up g_steps_E_stiff 9 u75) g1_links g1_folded g1_stiff g1_lengths (va_up g_steps_E_lengths 9 u76)) := hD
    exact ret_v (z77, z78, (va_up g_steps_E_links 9 u73), (va_up g_steps_E_folded 9 u74), (va_up g_steps_E_stiff 9 u75), (va_up g_steps_E_lengths 9 u76)) hx hb hr hlocks hK hP hD hS h dX1_remember_41
abbrev rm_X7_isWithin : Room := { frames := 0, cells := 0, slots := 0, locals := 0 }
set_option maxHeartbeats 4000000 in
set_option maxRecDepth 100000 in
theorem c_X7_isWithin {l : Launch} {D : va_G} {Y : ClassId × ClassId × ClassId} {x0 x1 x2 : Int32} {Q : Int32 → Prop} (h : wp_X7_isWithin x0 x1 x2 Q) (sz : Nat) : MtI l yX7_isWithin wsX7_isWithin rm_X7_isWithin [.int x0, .int x1, .int x2] D Y (w_X7_isWithin Y ) (fun r (_ : Unit) => Q r) (fun _ : Unit => (w_X7_isWithin Y )) sz := by
  refine ct_i (cc := cX7_isWithin) (nL := 3) (ret := (some .boolean)) (by decide) rfl (Nat.le_of_ble_eq_true rfl) ?_ sz
  intro p e s m below meth c A ls C hK hA hP hD hS hl
  obtain ⟨⟨hx, hb, hml, hown, hts⟩, hr, hlocks, hN⟩ := id C
  have hown : s.vm.findClass RX7 = some m.cls := hown
  have hl : lv_has ls 3 [(0, .int x0), (1, .int x1), (2, .int x2)] := hl
  unfold wp_X7_isWithin at h
  refine lv_iload_n hx hb dX7_isWithin_0 rfl (lv_at hl 0 rfl) ?_
  refine lv_iload_n hx hb dX7_isWithin_1 rfl (lv_at hl 1 rfl) ?_
  refine lv_icmp_lt (tgt := 14) hx hb dX7_isWithin_2 (by decide) (fun c1 => ?_) (fun c1 => ?_)
  · have h := h.1 c1
    refine lv_iconst (v := 0) hx hb dX7_isWithin_14 (by decide) ?_
    exact ret_z () hx hb hr hlocks hK hP hD hS (Or.inl rfl) h dX7_isWithin_15
  · have h := h.2 c1
    refine lv_iload_n hx hb dX7_isWithin_5 rfl (lv_at hl 0 rfl) ?_
    refine lv_iload_n hx hb dX7_isWithin_6 rfl (lv_at hl 2 rfl) ?_
    refine lv_icmp_gt (tgt := 14) hx hb dX7_isWithin_7 (by decide) (fun c2 => ?_) (fun c2 => ?_)
    · have h := h.1 c2
      refine lv_iconst (v := 0) hx hb dX7_isWithin_14 (by decide) ?_
      exact ret_z () hx hb hr hlocks hK hP hD hS (Or.inl rfl) h dX7_isWithin_15
    · have h := h.2 c2
      refine lv_iconst (v := 1) hx hb dX7_isWithin_10 (by decide) ?_
      refine lv_goto (tgt := 15) hx hb dX7_isWithin_11 (by decide) ?_
      exact ret_z () hx hb hr hlocks hK hP hD hS (Or.inr rfl) h dX7_isWithin_15
abbrev rm_X5_isFull : Room := { frames := 0, cells := 0, slots := 0, locals := 0 }
theorem in_X5_isFull_X5 : ∀ w ∈ wsX50, w ∈ wsX5_isFull := fun _ h => List.mem_cons_of_mem _ (List.mem_append_right _ h)
theorem k_X5_isFull_f15 {s : State} {args : Array Value} (hts : ∀ w ∈ wsX5_isFull, w.before args s = true) : (Cond.fieldLink RX5 15 "FoldRule$Strip" "links" "I").before args s = true := hts _ (by decide +kernel)
set_option maxHeartbeats 4000000 in
set_option maxRecDepth 100000 in
theorem c_X5_isFull {l : Launch} {D : va_G} {Y : ClassId × ClassId × ClassId} {q q_lengths : Nat} {g_links g_folded g_stiff : Int32} {Q : Int32 → Prop} (h : wp_X5_isFull g_links Q) (sz : Nat) : MtI l yX5_isFull wsX5_isFull rm_X5_isFull [.ref q] D Y (w_X5_isFull Y q q_lengths g_links g_folded g_stiff) (fun r (_ : Unit) => Q r) (fun _ : Unit => (w_X5_isFull Y q q_lengths g_links g_folded g_stiff)) sz := by
  refine ct_i (cc := cX5_isFull) (nL := 1) (ret := (some .boolean)) (by decide) rfl (Nat.le_of_ble_eq_true rfl) ?_ sz
  intro p e s m below meth c A ls C hK hA hP hD hS hl
  obtain ⟨⟨hx, hb, hml, hown, hts⟩, hr, hlocks, hN⟩ := id C
  have hown : s.vm.findClass RX5 = some m.cls := hown
  have hl : lv_has ls 1 [(0, .ref q)] := hl
  unfold wp_X5_isFull at h
  refine lv_aload_n hx hb dX5_isFull_0 rfl (lv_at hl 0 rfl) ?_
  refine va_get (D := D) (ci := 5) (v := .int g_links) (C := RX5) (T := TX5) (N := 4) hx hb hts in_X5_isFull_X5 hown hK hP 0 rfl rfl 1 (by decide) (k_X5_isFull_f15 hts) (fun _ h9 => h9) rfl dX5_isFull_1 ?_
  refine lv_bipush (v := 9) hx hb dX5_isFull_4 (by decide) ?_
  refine lv_icmp_lt (tgt := 13) hx hb dX5_isFull_6 (by decide) (fun c1 => ?_) (fun c1 => ?_)
  · have h := h.1 c1
    refine lv_iconst (v := 0) hx hb dX5_isFull_13 (by decide) ?_
    exact ret_z () hx hb hr hlocks hK hP hD hS (Or.inl rfl) h dX5_isFull_14
  · have h := h.2 c1
    refine lv_iconst (v := 1) hx hb dX5_isFull_9 (by decide) ?_
    refine lv_goto (tgt := 14) hx hb dX5_isFull_10 (by decide) ?_
    exact ret_z () hx hb hr hlocks hK hP hD hS (Or.inr rfl) h dX5_isFull_14
