/-- how long it is -/
def sp (d : Nat → Int) (x : Int32) (n : Nat) : Int := hi d x n - lo d x n
theorem sp_b {d : Nat → Int} {x : Int32} {n : Nat} (hn : n ≤ 9) (h : ∀ l, l < n → 0 ≤ d l ∧ d l ≤ 20) : 0 ≤ sp d x n ∧ sp d x n ≤ 360 := by
  have h1 := lo_b (x := x) n h
  have h2 := hi_b (x := x) n h
  unfold sp
  omega
theorem p_spanNow {n : Nat} (hn : n ≤ 9) {ms : Nat → Int32} {fold : Int32} {d : Nat → Int} (hd : ∀ l, l < n → 0 ≤ d l ∧ d l ≤ 20) (hms : ∀ j, j ≤ n → ms j = iI (mk d fold j)) {Q : Int32 → Prop} (hQ : Q (iI (sp d fold n))) : wp_X8_spanNow (nI n) ms Q := by
  have key : ∀ (r m : Nat), m + r = n → itr2 (B_X8_spanNow_4 (nI n) ms Q) (r + 2) (iI (if m = 0 then 0 else hi d fold (m - 1))) (nI m) := by
    intro r
    induction r with
    | zero =>
      intro m hm
      have b1 := mk_b (x := fold) m (fun l hl => hd l (by omega))
      have b2 := hi_b (x := fold) (m - 1) (fun l hl => hd l (by omega))
      have hcl : (nI m).toNatClampNeg = m := nI_clamp (by omega)
      have hmn : m = n := by omega
      have fin : ∀ y : Int32, y = iI (hi d fold m) → itr2 (B_X8_spanNow_4 (nI n) ms Q) 1 y (nI (m + 1)) := by
        rintro _ rfl
        show B_X8_spanNow_4 _ _ _ _ _ _
        unfold B_X8_spanNow_4
        refine ⟨fun _ => p_lowest hn hd hms ?_, fun c => absurd (nI_lt (by omega) (by omega)) c⟩
        rw [iI_sub, hmn]
        exact hQ
      show B_X8_spanNow_4 _ _ _ _ _ _
      unfold B_X8_spanNow_4
      refine ⟨fun c => absurd c (nI_nlt (by omega) (by omega)), fun _ => ⟨vp_in_nI (by omega) (by omega), fun c => ?_, fun c => ⟨vp_in_nI (by omega) (by omega), ?_⟩⟩⟩
      · rintro y e
        rw [e, nI_1]
        refine fin _ ?_
        rw [hcl, hms m (by omega)] at c
        cases m with
        | zero => rfl
        | succ k =>
          simp only [Nat.add_one_ne_zero, if_false, Nat.add_sub_cancel] at c ⊢
          rw [iI_le (by push_cast at *; omega) (by push_cast at *; omega) (by push_cast at *; omega) (by push_cast at *; omega)] at c
          show _ = iI (if hi d fold k < mk d fold (k + 1) then _ else _)
          rw [if_neg (by omega)]
      · rintro y1 e1 y2 e2
        rw [e2, nI_1]
        refine fin _ ?_
        rw [hcl, hms m (by omega)] at c
        rw [e1, hcl, hms m (by omega)]
        cases m with
        | zero => rfl
        | succ k =>
          simp only [Nat.add_one_ne_zero, if_false, Nat.add_sub_cancel] at c
          rw [iI_le (by push_cast at *; omega) (by push_cast at *; omega) (by push_cast at *; omega) (by push_cast at *; omega)] at c
          show _ = iI (if hi d fold k < mk d fold (k + 1) then _ else _)
          rw [if_pos (by omega)]
    | succ r ih =>
      intro m hm
      have b1 := mk_b (x := fold) m (fun l hl => hd l (by omega))
      have b2 := hi_b (x := fold) (m - 1) (fun l hl => hd l (by omega))
      have hcl : (nI m).toNatClampNeg = m := nI_clamp (by omega)
      have fin : ∀ y : Int32, y = iI (hi d fold m) → itr2 (B_X8_spanNow_4 (nI n) ms Q) (r + 2) y (nI (m + 1)) := by
        rintro _ rfl
        exact ih (m + 1) (by omega)
      show B_X8_spanNow_4 _ _ _ _ _ _
      unfold B_X8_spanNow_4
      refine ⟨fun c => absurd c (nI_nlt (by omega) (by omega)), fun _ => ⟨vp_in_nI (by omega) (by omega), fun c => ?_, fun c => ⟨vp_in_nI (by omega) (by omega), ?_⟩⟩⟩
      · rintro y e
        rw [e, nI_1]
        refine fin _ ?_
        rw [hcl, hms m (by omega)] at c
        cases m with
        | zero => rfl
        | succ k =>
          simp only [Nat.add_one_ne_zero, if_false, Nat.add_sub_cancel] at c ⊢
          rw [iI_le (by push_cast at *; omega) (by push_cast at *; omega) (by push_cast at *; omega) (by push_cast at *; omega)] at c
          show _ = iI (if hi d fold k < mk d fold (k + 1) then _ else _)
          rw [if_neg (by omega)]
      · rintro y1 e1 y2 e2
        rw [e2, nI_1]
        refine fin _ ?_
        rw [hcl, hms m (by omega)] at c
        rw [e1, hcl, hms m (by omega)]
        cases m with
        | zero => rfl
        | succ k =>
          simp only [Nat.add_one_ne_zero, if_false, Nat.add_sub_cancel] at c
          rw [iI_le (by push_cast at *; omega) (by push_cast at *; omega) (by push_cast at *; omega) (by push_cast at *; omega)] at c
          show _ = iI (if hi d fold k < mk d fold (k + 1) then _ else _)
          rw [if_pos (by omega)]
  unfold wp_X8_spanNow
  have h := key n 0 (by omega)
  rw [nI_0, if_pos rfl] at h
  exact ⟨_, h⟩
theorem p_spanFiled {n : Nat} (hn : n ≤ 9) {row ms0 : Nat → Int32} {fold filed less : Int32} {d : Nat → Int} (hd : DL n row filed less d) {Q : Int32 → (Nat → Int32) → Prop} (hQ : ∀ ms, (∀ j, j ≤ n → ms j = iI (mk d fold j)) → Q (iI (sp d fold n)) ms) : wp_X8_spanFiled (nI n) ms0 row fold filed less Q := by
  unfold wp_X8_spanFiled
  exact p_lies hn hd (fun ms hms => p_spanNow hn (hd.b (Nat.le_refl n)) hms (hQ ms hms))
theorem p_spanBy {n : Nat} (hn : n ≤ 9) {row ms0 : Nat → Int32} {fold : Int32} {d : Nat → Int} (hd : DL n row (-9) 0 d) {Q : Int32 → (Nat → Int32) → Prop} (hQ : ∀ ms, (∀ j, j ≤ n → ms j = iI (mk d fold j)) → Q (iI (sp d fold n)) ms) : wp_X8_spanBy (nI n) ms0 row fold Q := by
  unfold wp_X8_spanBy
  exact p_lies hn hd (fun ms hms => p_spanNow hn (hd.b (Nat.le_refl n)) hms (hQ ms hms))
/-- the lengths as whole numbers -/
def dO (ln : Nat → Int32) : Nat → Int := fun l => (ln l).toInt
theorem ne9 {l : Nat} (h : l < 2147483648) : ¬ nI l = (-9 : Int32) := by
  rw [nI_i, show (-9 : Int32) = iI (-9) from rfl, iI_eq (by omega) (by omega) (by omega) (by omega)]
  omega
theorem SV.d {n : Nat} {ln : Nat → Int32} {fo st : Int32} (h : SV n ln fo st) : ∀ l, l < n → 1 ≤ dO ln l ∧ dO ln l ≤ 20 := by
  intro l hl
  obtain ⟨v, h1, h2, h3⟩ := h.1 l hl
  unfold dO
  rw [h3, nI_toInt (by omega)]
  omega
theorem SV.DL {n : Nat} {ln row : Nat → Int32} {fo st : Int32} (hn : n ≤ 9) (h : SV n ln fo st) (e : ∀ j, j < n → row j = ln j) : DL n row (-9) 0 (dO ln) := by
  intro l hl
  have := h.d l hl
  refine ⟨by omega, by omega, fun c => absurd c (ne9 (by omega)), fun _ => ?_⟩
  rw [e l hl]
  exact (Int32.ofInt_toInt _).symm
theorem SR.D7 {n : Nat} {ks : Int32} {ln : Nat → Int32} {fo st : Int32} {row : Nat → Int32} {o : Nat} (hn : n ≤ 9) (h : SR n ks ln fo st row o) : DL n ln (-9) 0 (dO ln) := h.2.2.2.2.DL hn (fun _ _ => rfl)
theorem SR.D8 {n : Nat} {ks : Int32} {ln : Nat → Int32} {fo st : Int32} {row : Nat → Int32} (hn : n ≤ 9) (h : SR n ks ln fo st row 0) : DL n row (-9) 0 (dO ln) := h.2.2.2.2.DL hn (fun j hj => by have := h.2.1 j hj; rw [Nat.zero_add] at this; exact this.symm)
theorem p_layNow {n : Nat} (hn : n ≤ 9) {ln pl0 : Nat → Int32} {fo g1 g2 g3 : Int32} {d : Nat → Int} (hd : DL n ln (-9) 0 d) {Q : Int32 → Int32 → Int32 → (Nat → Int32) → Prop}
    (hQ : ∀ pl, pl 0 = pl0 0 → (∀ j, 1 ≤ j → j ≤ n → pl j = iI (mk d fo j)) → Q (nI n) (iI (lo d fo n)) (iI (hi d fo n)) pl) : wp_X7_layNow (nI n) fo g1 g2 g3 ln pl0 Q := by
  unfold wp_X7_layNow wp_X2_layOut
  exact p_lay hn hd hQ
theorem p_spanNow7 {n : Nat} (hn : n ≤ 9) {ln pl0 : Nat → Int32} {fo g1 g2 g3 : Int32} {d : Nat → Int} (hd : DL n ln (-9) 0 d) {Q : Int32 → Int32 → Int32 → Int32 → (Nat → Int32) → Prop}
    (hQ : ∀ pl, pl 0 = pl0 0 → (∀ j, 1 ≤ j → j ≤ n → pl j = iI (mk d fo j)) → Q (iI (sp d fo n)) (nI n) (iI (lo d fo n)) (iI (hi d fo n)) pl) : wp_X7_spanNow (nI n) fo g1 g2 g3 ln pl0 Q := by
  unfold wp_X7_spanNow wp_X2_span
  refine p_layNow hn hd (fun pl h0 h1 => ?_)
  rw [iI_sub]
  exact hQ pl h0 h1
