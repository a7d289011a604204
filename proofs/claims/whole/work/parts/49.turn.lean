/-! turned about -/
def rv (F : Nat) : Nat → Nat
  | 0 => 0
  | j + 1 => 2 * rv F j + F / 2 ^ j % 2
theorem rv_lt (F : Nat) : ∀ j, rv F j < 2 ^ j
  | 0 => by simp [rv]
  | j + 1 => by
    have := rv_lt F j
    unfold rv
    rw [Nat.pow_succ]
    omega
theorem or2 (a b : Nat) (hb : b < 2) : 2 * a ||| b = 2 * a + b := (Nat.two_pow_add_eq_or_of_lt (i := 1) (by simpa using hb) a).symm
theorem p_order {n F : Nat} (hn : n ≤ 9) (hF : F < 2147483648) {Q : Int32 → Prop} (hQ : Q (nI (rv F (n - 1)))) : wp_X5_inOtherOrder (nI n) (nI F) Q := by
  have key : ∀ (r j : Nat), j + r = n - 1 → itr2 (B_X5_inOtherOrder_4 (nI n) (nI F) Q) (r + 1) (nI (rv F j)) (nI j) := by
    intro r
    induction r with
    | zero =>
      intro j hj
      show B_X5_inOtherOrder_4 _ _ _ _ _ _
      unfold B_X5_inOtherOrder_4
      refine p_joints hn ⟨fun _ => ?_, fun c => absurd (nI_le (by omega) (by omega)) c⟩
      have e : j = n - 1 := by omega
      rw [e]
      exact hQ
    | succ r ih =>
      intro j hj
      have hb := rv_lt F j
      have hj8 : 2 ^ j ≤ 256 := Nat.pow_le_pow_right (n := 2) (by omega) (show j ≤ 8 by omega)
      show B_X5_inOtherOrder_4 _ _ _ _ _ _
      unfold B_X5_inOtherOrder_4
      refine p_joints hn ⟨fun c => absurd c (nI_ge (by omega) (by omega)), fun _ => ?_⟩
      rintro y2 e2 y3 e3
      have f2 : y2 = nI (rv F (j + 1)) := by
        rw [e2, shr1 hF (by omega), show nI (rv F j) <<< ((1 : Int32) &&& 31) = nI (rv F j * 2 ^ 1) from pk_shlN _ 1 rfl (by omega), nx_or]
        have : rv F j * 2 ^ 1 ||| F / 2 ^ j % 2 = rv F (j + 1) := by
          rw [show rv F j * 2 ^ 1 = 2 * rv F j by omega, or2 _ _ (by omega)]
          rfl
        rw [this]
      rw [f2, e3, nI_1]
      exact ih (j + 1) (by omega)
  unfold wp_X5_inOtherOrder
  have h := key (n - 1) 0 (by omega)
  exact ⟨_, h⟩
theorem p_reversed {n F : Nat} (hn : n ≤ 9) (h1 : 1 ≤ n) (hF : F < 2147483648) {Q : Int32 → Prop} (hQ : Q (nI (rv F (n - 1)))) : wp_X8_reversed (nI n) (nI F) Q := by
  have em : nI n - 1 = nI (n - 1) := pk_sub (a := n) (b := 1) h1
  have key : ∀ (r j : Nat), j + r = n - 1 → itr2 (B_X8_reversed_4 (nI n) (nI F) Q) (r + 1) (nI (rv F j * 2 ^ (n - 1 - j))) (nI j) := by
    intro r
    induction r with
    | zero =>
      intro j hj
      have e : j = n - 1 := by omega
      subst e
      show B_X8_reversed_4 _ _ _ _ _ _
      unfold B_X8_reversed_4
      refine ⟨fun _ => ?_, fun c => absurd (by rw [em]; exact nI_le (Nat.le_refl _) (by omega)) c⟩
      rw [Nat.sub_self, Nat.pow_zero, Nat.mul_one]
      exact hQ
    | succ r ih =>
      intro j hj
      have hb := rv_lt F j
      have ep : 2 ^ (n - 1 - j) = 2 * 2 ^ (n - 1 - (j + 1)) := by
        rw [show n - 1 - j = (n - 1 - (j + 1)) + 1 by omega, Nat.pow_succ]
        omega
      have e2 : nI n - 2 - nI j = nI (n - 1 - (j + 1)) := by
        rw [show nI n - 2 = nI (n - 2) from pk_sub (a := n) (b := 2) (by omega), pk_sub (by omega)]
        congr 1
        omega
      have nxt : rv F (j + 1) * 2 ^ (n - 1 - (j + 1)) = rv F j * 2 ^ (n - 1 - j) + (F / 2 ^ j % 2) * 2 ^ (n - 1 - (j + 1)) := by
        rw [ep]
        show (2 * rv F j + F / 2 ^ j % 2) * _ = _
        rw [Nat.add_mul, Nat.mul_comm 2 (rv F j), Nat.mul_assoc]
      show B_X8_reversed_4 _ _ _ _ _ _
      unfold B_X8_reversed_4
      refine ⟨fun c => absurd c (by rw [em]; exact nI_ge (by omega) (by omega)), fun _ => p_has8 (fun hb => be1 ?_) (fun hb => be0 ?_)⟩
      · rintro y4 e4 y5 e5
        have hbit : F / 2 ^ j % 2 = 1 := by
          rw [bt_nI hF (by omega), Nat.testBit_eq_decide_div_mod_eq] at hb
          exact of_decide_eq_true hb
        have f4 : y4 = nI (rv F (j + 1) * 2 ^ (n - 1 - (j + 1))) := by
          rw [e4, e2, shl1 (by omega), nx_or, nxt, hbit, Nat.one_mul]
          congr 1
          rw [Nat.mul_comm, Nat.two_pow_add_eq_or_of_lt (Nat.pow_lt_pow_right (by omega) (by omega))]
        rw [f4, e5, nI_1]
        exact ih (j + 1) (by omega)
      · rintro y4 e4 y5 e5
        have hbit : F / 2 ^ j % 2 = 0 := by
          rw [bt_nI hF (by omega), Nat.testBit_eq_decide_div_mod_eq] at hb
          have := of_decide_eq_false hb
          omega
        have f4 : y4 = nI (rv F (j + 1) * 2 ^ (n - 1 - (j + 1))) := by
          rw [e4, show (0 : Int32) = nI 0 from rfl, nx_or, nxt, hbit, Nat.zero_mul, Nat.or_zero, Nat.add_zero]
        rw [f4, e5, nI_1]
        exact ih (j + 1) (by omega)
  unfold wp_X8_reversed
  have h := key (n - 1) 0 (by omega)
  rw [show rv F 0 = 0 from rfl, Nat.zero_mul] at h
  exact ⟨_, h⟩
theorem p_turnAbout {n F T : Nat} (hn : n ≤ 9) (h1 : 1 ≤ n) (hF : F < 2147483648) (hT : T < 2147483648) {ln : Nat → Int32} {Q : Int32 → Int32 → (Nat → Int32) → Prop} (hQ : ∀ l2, (∀ j, j < n → l2 j = ln (n - 1 - j)) → Q (nI (rv F (n - 1))) (nI (rv T (n - 1))) l2) : wp_X5_turnAbout (nI n) (nI F) (nI T) ln Q := by
  have key : ∀ (r i : Nat) (l2 : Nat → Int32), n ≤ 2 * i + 1 + r → 2 * i ≤ n → (∀ j, j < n → l2 j = if j < i ∨ n - 1 - i < j then ln (n - 1 - j) else ln j) → itr3 (B_X5_turnAbout_9 (nI n) (nI F) (nI T) Q) (r + 1) (nI i) (nI (n - 1 - i)) l2 := by
    intro r
    have fin : ∀ (K : Int32 → Int32 → (Nat → Int32) → Prop) (i : Nat) (l2 : Nat → Int32), n - 1 - i ≤ i → 2 * i ≤ n → (∀ j, j < n → l2 j = if j < i ∨ n - 1 - i < j then ln (n - 1 - j) else ln j) → B_X5_turnAbout_9 (nI n) (nI F) (nI T) Q K (nI i) (nI (n - 1 - i)) l2 := by
      intro K i l2 hi h2 h
      unfold B_X5_turnAbout_9
      refine ⟨fun _ => p_order hn hF (p_order hn hT (hQ l2 (fun j hj => ?_))), fun c => absurd (nI_le hi (by omega)) c⟩
      rw [h j hj]
      split
      · rfl
      · congr 1
        omega
    induction r with
    | zero => exact fun i l2 hr h2 h => fin _ i l2 (by omega) h2 h
    | succ r ih =>
      intro i l2 hr h2 h
      rcases Nat.lt_or_ge i (n - 1 - i) with q | q
      · show B_X5_turnAbout_9 _ _ _ _ _ _ _ _
        unfold B_X5_turnAbout_9
        have v1 : vp_in (nI i) 9 := vp_in_nI (by omega) (by omega)
        have v2 : vp_in (nI (n - 1 - i)) 9 := vp_in_nI (by omega) (by omega)
        have c1 : (nI i).toNatClampNeg = i := nI_clamp (by omega)
        have c2 : (nI (n - 1 - i)).toNatClampNeg = n - 1 - i := nI_clamp (by omega)
        refine ⟨fun c => absurd c (nI_ge q (by omega)), fun _ => ⟨v1, fun y4 e4 => ⟨v2, fun y5 e5 => ⟨v1, v2, fun y6 e6 y7 e7 => ?_⟩⟩⟩⟩
        have f7 : y7 = nI (n - 1 - (i + 1)) := by
          rw [e7, show n - 1 - i = n - 1 - (i + 1) + 1 by omega, pk_m1]
        rw [e6, nI_1, f7]
        refine ih (i + 1) _ (by omega) (by omega) (fun j hj => ?_)
        rw [c1, c2, upd_eq, upd_eq, e4, e5, c1, c2]
        by_cases z1 : j = n - 1 - i
        · rw [if_pos z1, if_pos (by omega), h i (by omega), if_neg (by omega)]
          congr 1
          omega
        · rw [if_neg z1]
          by_cases z2 : j = i
          · rw [if_pos z2, if_pos (by omega), h (n - 1 - i) (by omega), if_neg (by omega)]
            congr 1
            omega
          · rw [if_neg z2, h j hj]
            by_cases z3 : j < i ∨ n - 1 - i < j
            · rw [if_pos z3, if_pos (by omega)]
            · rw [if_neg z3, if_neg (by omega)]
      · exact fin _ i l2 q h2 h
  unfold wp_X5_turnAbout
  rintro y e
  have f : y = nI (n - 1 - 0) := by rw [e]; exact pk_sub (a := n) (b := 1) h1
  rw [f]
  have h := key n 0 ln (by omega) (by omega) (fun j hj => by rw [if_neg (by omega)])
  exact ⟨_, h⟩
theorem p_turn8 {n F T : Nat} (hn : n ≤ 9) (h1 : 1 ≤ n) (hF : F < 2147483648) (hT : T < 2147483648) {m1 : Int32} {row : Nat → Int32} (r9 : row 9 = nI F) (r10 : row 10 = nI T) {Q : Int32 → Int32 → (Nat → Int32) → Prop} (hQ : ∀ r2, (∀ j, j < n → r2 j = row (n - 1 - j)) → r2 9 = nI (rv F (n - 1)) → r2 10 = nI (rv T (n - 1)) → (∀ i, 11 ≤ i → r2 i = row i) → Q (nI (rv F (n - 1))) m1 r2) : ∃ q : Nat, itr3 (B_X8_turned_23 (nI n) m1 Q) q (0 : Int32) (nI (n - 1)) row := by
  have V9 : vp_in (9 : Int32) 143 := by unfold vp_in; decide
  have V10 : vp_in (10 : Int32) 143 := by unfold vp_in; decide
  have key : ∀ (r i : Nat) (l2 : Nat → Int32), n ≤ 2 * i + 1 + r → 2 * i ≤ n → (∀ j, j < n → l2 j = if j < i ∨ n - 1 - i < j then row (n - 1 - j) else row j) → (∀ j, 9 ≤ j → l2 j = row j) → itr3 (B_X8_turned_23 (nI n) m1 Q) (r + 1) (nI i) (nI (n - 1 - i)) l2 := by
    intro r
    have fin : ∀ (K : Int32 → Int32 → (Nat → Int32) → Prop) (i : Nat) (l2 : Nat → Int32), n - 1 - i ≤ i → 2 * i ≤ n → (∀ j, j < n → l2 j = if j < i ∨ n - 1 - i < j then row (n - 1 - j) else row j) → (∀ j, 9 ≤ j → l2 j = row j) → B_X8_turned_23 (nI n) m1 Q K (nI i) (nI (n - 1 - i)) l2 := by
      intro K i l2 hi h2 h h9
      unfold B_X8_turned_23
      refine ⟨fun _ => ⟨V9, ?_⟩, fun c => absurd (nI_le hi (by omega)) c⟩
      rw [show l2 ((9 : Int32)).toNatClampNeg = nI F from (h9 9 (by omega)).trans r9]
      refine p_reversed hn h1 hF ⟨V9, V10, ?_⟩
      rw [show upd l2 ((9 : Int32)).toNatClampNeg (nI (rv F (n - 1))) ((10 : Int32)).toNatClampNeg = nI T from (h9 10 (by omega)).trans r10]
      refine p_reversed hn h1 hT ⟨V10, V9, ?_⟩
      have u9 : upd (upd l2 ((9 : Int32)).toNatClampNeg (nI (rv F (n - 1)))) ((10 : Int32)).toNatClampNeg (nI (rv T (n - 1))) 9 = nI (rv F (n - 1)) := rfl
      have u10 : upd (upd l2 ((9 : Int32)).toNatClampNeg (nI (rv F (n - 1)))) ((10 : Int32)).toNatClampNeg (nI (rv T (n - 1))) 10 = nI (rv T (n - 1)) := rfl
      have u : ∀ q, q ≠ 9 → q ≠ 10 → upd (upd l2 ((9 : Int32)).toNatClampNeg (nI (rv F (n - 1)))) ((10 : Int32)).toNatClampNeg (nI (rv T (n - 1))) q = l2 q := fun q q1 q2 => (if_neg q2).trans (if_neg q1)
      rw [show upd (upd l2 ((9 : Int32)).toNatClampNeg (nI (rv F (n - 1)))) ((10 : Int32)).toNatClampNeg (nI (rv T (n - 1))) ((9 : Int32)).toNatClampNeg = nI (rv F (n - 1)) from rfl]
      refine hQ _ (fun j hj => ?_) u9 u10 (fun q hq => ?_)
      · rw [u j (by omega) (by omega), h j hj]
        split
        · rfl
        · congr 1
          omega
      · rw [u q (by omega) (by omega), h9 q (by omega)]
    induction r with
    | zero => exact fun i l2 hr h2 h h9 => fin _ i l2 (by omega) h2 h h9
    | succ r ih =>
      intro i l2 hr h2 h h9
      rcases Nat.lt_or_ge i (n - 1 - i) with q | q
      · show B_X8_turned_23 _ _ _ _ _ _ _
        unfold B_X8_turned_23
        rw [Int32.zero_add, Int32.zero_add]
        have v1 : vp_in (nI i) 143 := vp_in_nI (by omega) (by omega)
        have v2 : vp_in (nI (n - 1 - i)) 143 := vp_in_nI (by omega) (by omega)
        have c1 : (nI i).toNatClampNeg = i := nI_clamp (by omega)
        have c2 : (nI (n - 1 - i)).toNatClampNeg = n - 1 - i := nI_clamp (by omega)
        refine ⟨fun c => absurd c (nI_ge q (by omega)), fun _ => ⟨v1, fun y4 e4 => ⟨v2, fun y5 e5 => ⟨v1, v2, fun y6 e6 y7 e7 => ?_⟩⟩⟩⟩
        have f7 : y7 = nI (n - 1 - (i + 1)) := by
          rw [e7, show n - 1 - i = n - 1 - (i + 1) + 1 by omega, pk_m1]
        rw [e6, nI_1, f7]
        refine ih (i + 1) _ (by omega) (by omega) (fun j hj => ?_) (fun j hj => ?_)
        · rw [c1, c2, upd_eq, upd_eq, e4, e5, c1, c2]
          by_cases z1 : j = n - 1 - i
          · rw [if_pos z1, if_pos (by omega), h i (by omega), if_neg (by omega)]
            congr 1
            omega
          · rw [if_neg z1]
            by_cases z2 : j = i
            · rw [if_pos z2, if_pos (by omega), h (n - 1 - i) (by omega), if_neg (by omega)]
              congr 1
              omega
            · rw [if_neg z2, h j hj]
              by_cases z3 : j < i ∨ n - 1 - i < j
              · rw [if_pos z3, if_pos (by omega)]
              · rw [if_neg z3, if_neg (by omega)]
        · rw [c1, c2, upd_eq, upd_eq, if_neg (by omega), if_neg (by omega)]
          exact h9 j hj
      · exact fin _ i l2 q h2 h h9
  have h := key n 0 row (by omega) (by omega) (fun j hj => by rw [if_neg (by omega)]) (fun _ _ => rfl)
  exact ⟨_, h⟩
