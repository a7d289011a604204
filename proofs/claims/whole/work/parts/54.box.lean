/-! box, end -/
set_option maxHeartbeats 1000000 in
theorem p_near7 {n F T : Nat} (hn : n ≤ 9) (hF : F < 2 ^ (n - 1)) (hT : T < 2 ^ (n - 1)) {ln pl0 : Nat → Int32} {g1 g2 g3 : Int32} {d : Nat → Int} (hp0 : pl0 0 = 0) (hd : DL n ln (-9) 0 d) {N : Int} {be : Int32} {ok : Nat → Bool}
    (hok : (be = 0 ∧ 0 ≤ N ∧ N ≤ 200 ∧ ok = spB F T d n N) ∨ (¬ be = 0 ∧ -200 ≤ N ∧ N ≤ 200 ∧ ok = enB F T d n N)) {Q : Int32 → Int32 → Int32 → Int32 → (Nat → Int32) → Prop}
    (hQ : ∀ a b c pl, pl 0 = 0 → Q (iI (bst ok (bnF F) 9 (2 ^ (n - 1))).1) a b c pl) : wp_X0_nearestFold (nI n) (nI F) (nI T) g1 g2 g3 ln pl0 (iI N) be Q := by
  have hp := pw hn
  have key : ∀ (r f : Nat) (a b c : Int32) (pl : Nat → Int32), f + r = 2 ^ (n - 1) → pl 0 = 0 → itr7 (B_X0_nearestFold_11 (nI n) (nI F) (nI T) ln (iI N) be Q) (r + 1) (iI (bst ok (bnF F) 9 f).1) (iI (bst ok (bnF F) 9 f).2) (nI f) a b c pl := by
    intro r
    induction r with
    | zero =>
      intro f a b c pl hf h0
      show B_X0_nearestFold_11 _ _ _ _ _ _ _ _ _ _ _ _ _ _ _
      unfold B_X0_nearestFold_11
      refine p_limit hn ⟨fun _ => ?_, fun q => absurd (nI_le (by omega) (by omega)) q⟩
      have e : f = 2 ^ (n - 1) := by omega
      rw [e]
      exact hQ a b c pl h0
    | succ r ih =>
      intro f a b c pl hf h0
      have bb := bst_b (ok := ok) (key := bnF F) (a := 9) (L := 0) (by omega) f (fun g _ => (bnF_b F g).1)
      have sb := bnF_b F f
      show B_X0_nearestFold_11 _ _ _ _ _ _ _ _ _ _ _ _ _ _ _
      generalize itr7 (B_X0_nearestFold_11 (nI n) (nI F) (nI T) ln (iI N) be Q) (r + 1) = K at ih ⊢
      have no : ∀ (a b c : Int32) (pl' : Nat → Int32), pl' 0 = 0 → ¬ (ok f = true ∧ bnF F f < (bst ok (bnF F) 9 f).2) → K (iI (bst ok (bnF F) 9 f).1) (iI (bst ok (bnF F) 9 f).2) (nI f + 1) a b c pl' := by
        intro a b c pl' h' hnn
        rw [nI_1]
        have := ih (f + 1) a b c pl' (by omega) h'
        rw [bst_n hnn] at this
        exact this
      have yes : ∀ (a b c : Int32) (pl' : Nat → Int32), pl' 0 = 0 → ok f = true → bnF F f < (bst ok (bnF F) 9 f).2 → K (nI f) (nI (pcU (f ^^^ F) 9)) (nI f + 1) a b c pl' := by
        intro a b c pl' h' h1 h2
        rw [nI_1]
        have := ih (f + 1) a b c pl' (by omega) h'
        rw [bst_y h1 h2, ← nI_i] at this
        rw [nI_i (pcU (f ^^^ F) 9)]
        exact this
      unfold B_X0_nearestFold_11
      refine p_limit hn ⟨fun q => absurd q (nI_ge (by omega) (by omega)), fun _ => ?_⟩
      rw [nx_xor]
      refine p_bitCount (xor_lt hn (by omega) hF) ?_
      rw [nI_i (pcU (f ^^^ F) 9), show ((pcU (f ^^^ F) 9 : Nat) : Int) = bnF F f from rfl, iI_le (by omega) (by omega) (by omega) (by omega), show iI (bnF F f) = nI (pcU (f ^^^ F) 9) from (nI_i _).symm]
      refine ⟨fun q y e => by rw [e]; exact no _ _ _ pl h0 (fun z => absurd z.2 (by omega)), fun q => ?_⟩
      refine p_isF7 hn hT (by omega) (fun hf1 => be1 ?_) (fun hf1 => be0 ?_)
      · rcases hok with ⟨hb, n1, n2, rfl⟩ | ⟨hb, n1, n2, rfl⟩
        · refine ⟨fun _ => ?_, fun z => absurd hb z⟩
          refine p_goes hn hd ⟨n1, n2⟩ (fun hs a b c pl' h' => be1 ?_) (fun hs a b c pl' h' => be0 ?_)
          · rintro y e
            rw [e]
            exact yes _ _ _ pl' (h'.trans h0) (by unfold spB; rw [hf1, decide_eq_true hs]; rfl) (by omega)
          · rintro y e
            rw [e]
            exact no _ _ _ pl' (h'.trans h0) (fun z => absurd z.1 (by unfold spB; rw [hf1, decide_eq_false hs]; decide))
        · refine ⟨fun z => absurd z hb, fun _ => ?_⟩
          refine p_ends hn h0 hd ⟨n1, n2⟩ (fun hs a b c pl' h' => be1 ?_) (fun hs a b c pl' h' => be0 ?_)
          · rintro y e
            rw [e]
            exact yes _ _ _ pl' (h'.trans h0) (by unfold enB; rw [hf1, decide_eq_true hs]; rfl) (by omega)
          · rintro y e
            rw [e]
            exact no _ _ _ pl' (h'.trans h0) (fun z => absurd z.1 (by unfold enB; rw [hf1, decide_eq_false hs]; decide))
      · rintro y e
        rw [e]
        refine no _ _ _ pl h0 (fun z => absurd z.1 ?_)
        rcases hok with ⟨-, -, -, rfl⟩ | ⟨-, -, -, rfl⟩
        · unfold spB; rw [hf1, Bool.false_and]; decide
        · unfold enB; rw [hf1, Bool.false_and]; decide
  unfold wp_X0_nearestFold
  have h := key (2 ^ (n - 1)) 0 g1 g2 g3 pl0 (by omega) hp0
  rw [nI_0] at h
  exact ⟨_, h⟩
set_option maxHeartbeats 1000000 in
theorem p_box8 {n F T : Nat} (hn : n ≤ 9) (hF : F < 2 ^ (n - 1)) (hT : T < 2 ^ (n - 1)) {row ms0 : Nat → Int32} (r9 : row ((9 : Int32)).toNatClampNeg = nI F) (r10 : row ((10 : Int32)).toNatClampNeg = nI T) {d : Nat → Int} (hd : DL n row (-9) 0 d) {N : Int} (hN : 0 ≤ N ∧ N ≤ 200) {x2 : Int32} {Q : Int32 → (Nat → Int32) → Prop}
    (hQ : ∀ ms, (x2 = 0 → Q (nI (cntF (spB F T d n N) (2 ^ (n - 1)))) ms) ∧ (x2 = 1 → Q (iI (bst (spB F T d n N) (bnF F) 99999 (2 ^ (n - 1))).1) ms) ∧ (¬ x2 = 0 → ¬ x2 = 1 → ((bst (spB F T d n N) (bnF F) 99999 (2 ^ (n - 1))).1 = -9 → Q (iI (bst (spB F T d n N) (bnF F) 99999 (2 ^ (n - 1))).1) ms) ∧ (¬ (bst (spB F T d n N) (bnF F) 99999 (2 ^ (n - 1))).1 = -9 → Q (iI (bst (spB F T d n N) (bnF F) 99999 (2 ^ (n - 1))).2) ms))) :
    ∃ q : Nat, itr5 (B_X8_box_35 (nI n) row (iI N) x2 Q) q (0 : Int32) (-9 : Int32) (99999 : Int32) (0 : Int32) ms0 := by
  have hp := pw hn
  have V9 : vp_in (9 : Int32) 143 := by unfold vp_in; decide
  have key : ∀ (r f : Nat) (ms : Nat → Int32), f + r = 2 ^ (n - 1) → itr5 (B_X8_box_35 (nI n) row (iI N) x2 Q) (r + 1) (nI (cntF (spB F T d n N) f)) (iI (bst (spB F T d n N) (bnF F) 99999 f).1) (iI (bst (spB F T d n N) (bnF F) 99999 f).2) (nI f) ms := by
    intro r
    induction r with
    | zero =>
      intro f ms hf
      have bb := bst_b (ok := spB F T d n N) (key := bnF F) (a := 99999) (L := 0) (by omega) f (fun g _ => (bnF_b F g).1)
      show B_X8_box_35 _ _ _ _ _ _ _ _ _ _ _
      unfold B_X8_box_35
      refine p_folds hn ⟨fun _ => ?_, fun q => absurd (nI_le (by omega) (by omega)) q⟩
      have e : f = 2 ^ (n - 1) := by omega
      rw [e] at bb ⊢
      obtain ⟨q0, q1, q2⟩ := hQ ms
      rw [show (-9 : Int32) = iI (-9) from rfl, iI_eq (by omega) (by omega) (by omega) (by omega)]
      exact ⟨fun c0 => ⟨fun c1 => q1 c1, fun c1 => ⟨fun z => (q2 c0 c1).2 z, fun z => (q2 c0 c1).1 z⟩⟩, fun c0 => q0 c0⟩
    | succ r ih =>
      intro f ms hf
      have bb := bst_b (ok := spB F T d n N) (key := bnF F) (a := 99999) (L := 0) (by omega) f (fun g _ => (bnF_b F g).1)
      have sb := bnF_b F f
      have ss := spF_b hn (hd.b (Nat.le_refl n)) f
      show B_X8_box_35 _ _ _ _ _ _ _ _ _ _ _
      generalize itr5 (B_X8_box_35 (nI n) row (iI N) x2 Q) (r + 1) = K at ih ⊢
      unfold B_X8_box_35
      refine p_folds hn ⟨fun q => absurd q (nI_ge (by omega) (by omega)), fun _ => p_isF8 hn hT (by omega) r9 r10 (fun hok => be1 ?_) (fun hok => be0 ?_)⟩
      · refine p_spanBy hn hd (fun ms' _ => ?_)
        rw [show sp d (nI f) n = spF d n f from rfl, iI_lt (by omega) (by omega) (by omega) (by omega)]
        refine ⟨fun q y e => ?_, fun q y9 e9 => ⟨V9, ?_⟩⟩
        · have hfa : spB F T d n N f = false := by unfold spB; rw [hok, decide_eq_false (by omega)]; rfl
          rw [e, nI_1]
          have := ih (f + 1) ms' (by omega)
          rw [bst_n (fun z => absurd (hfa.symm.trans z.1) (by decide)), cnt_n hfa] at this
          exact this
        · have htr : spB F T d n N f = true := by unfold spB; rw [hok, decide_eq_true (by omega)]; rfl
          rw [r9, nx_xor]
          refine p_bits (by have := xor_lt hn (show f < 2 ^ (n - 1) by omega) hF; omega) ?_
          have hih := ih (f + 1) ms' (by omega)
          rw [cnt_y htr] at hih
          rw [e9, nI_1, nI_i (pcU (f ^^^ F) 9), show ((pcU (f ^^^ F) 9 : Nat) : Int) = bnF F f from rfl, iI_le (by omega) (by omega) (by omega) (by omega)]
          refine ⟨fun q => ⟨fun _ y e => ?_, fun z => absurd q z⟩, fun q => ⟨fun z => absurd z q, fun _ y e => ?_⟩⟩
          · rw [e, nI_1]
            rw [bst_n (fun z => absurd z.2 (by omega))] at hih
            exact hih
          · rw [e, nI_1]
            rw [bst_y htr (by omega), ← nI_i] at hih
            exact hih
      · have hfa : spB F T d n N f = false := by unfold spB; rw [hok]; rfl
        rintro y e
        rw [e, nI_1]
        have := ih (f + 1) ms (by omega)
        rw [bst_n (fun z => absurd (hfa.symm.trans z.1) (by decide)), cnt_n hfa] at this
        exact this
  have h := key (2 ^ (n - 1)) 0 ms0 (by omega)
  exact ⟨_, h⟩
set_option maxHeartbeats 1000000 in
theorem p_end8 {n F T : Nat} (hn : n ≤ 9) (hF : F < 2 ^ (n - 1)) (hT : T < 2 ^ (n - 1)) {row ms0 : Nat → Int32} (r9 : row ((9 : Int32)).toNatClampNeg = nI F) (r10 : row ((10 : Int32)).toNatClampNeg = nI T) {d : Nat → Int} (hd : DL n row (-9) 0 d) {N : Int} (hN : -200 ≤ N ∧ N ≤ 200) {Q : Int32 → (Nat → Int32) → Prop}
    (hQ : ∀ ms, Q (iI (bst (enB F T d n N) (bnF F) 99999 (2 ^ (n - 1))).1) ms) : ∃ q : Nat, itr4 (B_X8_end_24 (nI n) row (iI N) Q) q (-9 : Int32) (99999 : Int32) (0 : Int32) ms0 := by
  have hp := pw hn
  have V9 : vp_in (9 : Int32) 143 := by unfold vp_in; decide
  have V : vp_in (nI n) 10 := vp_in_nI (by omega) (by omega)
  have hcl : (nI n).toNatClampNeg = n := nI_clamp (by omega)
  have e99 : (99999 : Int32) = iI 99999 := rfl
  have key : ∀ (r f : Nat) (ms : Nat → Int32), f + r = 2 ^ (n - 1) → itr4 (B_X8_end_24 (nI n) row (iI N) Q) (r + 1) (iI (bst (enB F T d n N) (bnF F) 99999 f).1) (iI (bst (enB F T d n N) (bnF F) 99999 f).2) (nI f) ms := by
    intro r
    induction r with
    | zero =>
      intro f ms hf
      show B_X8_end_24 _ _ _ _ _ _ _ _ _
      unfold B_X8_end_24
      refine p_folds hn ⟨fun _ => ?_, fun q => absurd (nI_le (by omega) (by omega)) q⟩
      have e : f = 2 ^ (n - 1) := by omega
      rw [e]
      exact hQ ms
    | succ r ih =>
      intro f ms hf
      have bb := bst_b (ok := enB F T d n N) (key := bnF F) (a := 99999) (L := 0) (by omega) f (fun g _ => (bnF_b F g).1)
      have sb := bnF_b F f
      have ss := enF_b hn (hd.b (Nat.le_refl n)) f
      show B_X8_end_24 _ _ _ _ _ _ _ _ _
      generalize itr4 (B_X8_end_24 (nI n) row (iI N) Q) (r + 1) = K at ih ⊢
      unfold B_X8_end_24
      refine p_folds hn ⟨fun q => absurd q (nI_ge (by omega) (by omega)), fun _ => p_isF8 hn hT (by omega) r9 r10 (fun hok => be1 ?_) (fun hok => be0 ?_)⟩
      · refine p_lies hn hd (fun ms' hms => ⟨V, ?_⟩)
        have hih := ih (f + 1) ms' (by omega)
        rw [hcl, hms n (Nat.le_refl n), show mk d (nI f) n = enF d n f from rfl, iI_eq (by omega) (by omega) (by omega) (by omega)]
        refine ⟨fun q => ?_, fun q => ⟨V9, ?_⟩⟩
        · have hfa : enB F T d n N f = false := by unfold enB; rw [hok, decide_eq_false q]; rfl
          rw [bst_n (fun z => absurd (hfa.symm.trans z.1) (by decide))] at hih
          rw [e99, iI_le (by omega) (by omega) (by omega) (by omega)]
          refine ⟨fun q => ⟨fun _ y e => ?_, fun z => absurd q z⟩, fun q => absurd bb.2.2.2 q⟩
          rw [e, nI_1]
          exact hih
        · have htr : enB F T d n N f = true := by unfold enB; rw [hok, decide_eq_true q]; rfl
          rw [r9, nx_xor]
          refine p_bits (by have := xor_lt hn (show f < 2 ^ (n - 1) by omega) hF; omega) ?_
          rw [nI_i (pcU (f ^^^ F) 9), show ((pcU (f ^^^ F) 9 : Nat) : Int) = bnF F f from rfl, iI_le (by omega) (by omega) (by omega) (by omega)]
          refine ⟨fun q => ⟨fun _ y e => ?_, fun z => absurd q z⟩, fun q => ⟨fun z => absurd z q, fun _ y e => ?_⟩⟩
          · rw [e, nI_1]
            rw [bst_n (fun z => absurd z.2 (by omega))] at hih
            exact hih
          · rw [e, nI_1]
            rw [bst_y htr (by omega), ← nI_i] at hih
            exact hih
      · have hfa : enB F T d n N f = false := by unfold enB; rw [hok]; rfl
        rintro y e
        rw [e, nI_1]
        have := ih (f + 1) ms (by omega)
        rw [bst_n (fun z => absurd (hfa.symm.trans z.1) (by decide))] at this
        exact this
  have h := key (2 ^ (n - 1)) 0 ms0 (by omega)
  exact ⟨_, h⟩
