theorem p_numfin {x1 x2 x3 g_place : Int32} {d c : Nat} (e2 : x2 = nI d) (e3 : x3 = nI c) (hd : d ≤ 90) (hc : c ≤ 100) {Q : Int32 → Int32 → Prop} (h0 : (d = 0 ∨ 99 < c ∨ (x1 = 48 ∧ d ≠ 1)) → Q (-9) g_place) (h1 : ¬ (d = 0 ∨ 99 < c ∨ (x1 = 48 ∧ d ≠ 1)) → Q (nI c) g_place) : ((x2 ≤ 0 → (((0 : Int32) = 0 → (Q (-9 : Int32) g_place)) ∧ (¬ (0 : Int32) = 0 → (Q x3 g_place)))) ∧ (¬ x2 ≤ 0 → (((99 : Int32) < x3 → (((0 : Int32) = 0 → (Q (-9 : Int32) g_place)) ∧ (¬ (0 : Int32) = 0 → (Q x3 g_place)))) ∧ (¬ (99 : Int32) < x3 → ((¬ x1 = (48 : Int32) → (((1 : Int32) = 0 → (Q (-9 : Int32) g_place)) ∧ (¬ (1 : Int32) = 0 → (Q x3 g_place)))) ∧ (x1 = (48 : Int32) → ((¬ x2 = (1 : Int32) → (((0 : Int32) = 0 → (Q (-9 : Int32) g_place)) ∧ (¬ (0 : Int32) = 0 → (Q x3 g_place)))) ∧ (x2 = (1 : Int32) → (((1 : Int32) = 0 → (Q (-9 : Int32) g_place)) ∧ (¬ (1 : Int32) = 0 → (Q x3 g_place))))))))))) := by
  subst e2; subst e3
  rw [show (nI d ≤ (0 : Int32)) ↔ d ≤ 0 from nI_leI (a := d) (b := 0) (by omega) (by omega), show ((99 : Int32) < nI c) ↔ 99 < c from nI_ltI (a := 99) (b := c) (by omega) (by omega), show (nI d = (1 : Int32)) ↔ d = 1 from nI_eq (a := d) (b := 1) (by omega) (by omega)]
  refine ⟨fun q => be0 (h0 (by omega)), fun q => ⟨fun q2 => be0 (h0 (by omega)), fun q2 => ⟨fun q3 => be1 (h1 (fun z => ?_)), fun q3 => ⟨fun q4 => be0 (h0 (Or.inr (Or.inr ⟨q3, q4⟩))), fun q4 => be1 (h1 (fun z => ?_))⟩⟩⟩⟩
  · rcases z with z | z | z
    · omega
    · omega
    · exact q3 z.1
  · rcases z with z | z | z
    · omega
    · omega
    · exact z.2 q4
theorem p_digit7 {L p : Nat} {t : Nat → Int32} (hL : L ≤ 90) (hp : p < L) {Q : Int32 → Prop} (h1 : dgB t L p = true → Q 1) (h0 : dgB t L p = false → Q 0) : wp_X6_isDigitHere (nI L) (nI p) t Q := by
  unfold wp_X6_isDigitHere
  refine p_here hL (by omega) (fun _ => p_in7 (fun a b => ⟨Or.inr rfl, h1 (decide_eq_true ⟨hp, a, b⟩)⟩) (fun c => ⟨Or.inl rfl, h0 (decide_eq_false (fun z => ?_))⟩)) (fun q => absurd q (by omega))
  have c' : (t p).toInt < 48 ∨ 57 < (t p).toInt := c
  omega
theorem p_num7 {L q : Nat} {t : Nat → Int32} (hL : L ≤ 90) (hq : q ≤ L) {Q : Int32 → Int32 → Prop} (hQ : Q (nv (num t L q)) (nI (de t L q))) : wp_X6_readNumber (nI L) (nI q) t Q := by
  have hde := de_le (t := t) hq
  have hdg := de_ge (t := t) (L := L) (p := q)
  have stop : dgB t L (de t L q) = false := sc_end hq (fun j => dgB_lt)
  have fin : ∀ x1 : Int32, (q < L → x1 = t q) → ∀ i, q + i = de t L q → (((i = 0 ∨ 99 < cv t q i ∨ (x1 = 48 ∧ i ≠ 1)) → Q (-9) (nI (q + i))) ∧ (¬ (i = 0 ∨ 99 < cv t q i ∨ (x1 = 48 ∧ i ≠ 1)) → Q (nI (cv t q i)) (nI (q + i)))) := by
    intro x1 hx1 i hi
    rw [hi]
    by_cases d : dgB t L q = true
    · have hql := dgB_lt d
      have dq := dv_i d
      rw [hx1 hql]
      have i1 : i ≠ 0 := by
        intro z
        have e : de t L q = q := by omega
        rw [e, d] at stop
        exact absurd stop (by decide)
      have h48 : (t q = 48) ↔ dv t q = 0 := by
        rw [dq.1]
        have : (nI (48 + dv t q) = (48 : Int32)) ↔ 48 + dv t q = 48 := nI_eq (a := 48 + dv t q) (b := 48) (by omega) (by omega)
        rw [this]
        omega
      rw [h48]
      by_cases j1 : i = 1
      · subst j1
        have e1 : cv t q 1 = if 100 < 0 * 10 + dv t (q + 0) then 100 else 0 * 10 + dv t (q + 0) := rfl
        rw [Nat.add_zero, if_neg (by omega), Nat.zero_mul, Nat.zero_add] at e1
        have en : num t L q = some (dv t q) := by unfold num; rw [if_pos d, if_pos hi.symm]
        rw [en] at hQ
        rw [e1]
        exact ⟨fun z => absurd z (by omega), fun _ => hQ⟩
      · by_cases j2 : i = 2
        · subst j2
          have d2 : dgB t L (q + 1) = true := scF_all (L - q) q (q + 1) (by omega) (by unfold de sc at hi; omega)
          have dq2 := dv_i d2
          have e1 : cv t q 1 = if 100 < 0 * 10 + dv t (q + 0) then 100 else 0 * 10 + dv t (q + 0) := rfl
          have e2 : cv t q 2 = if 100 < cv t q 1 * 10 + dv t (q + 1) then 100 else cv t q 1 * 10 + dv t (q + 1) := rfl
          rw [Nat.add_zero, if_neg (by omega), Nat.zero_mul, Nat.zero_add] at e1
          rw [e1, if_neg (by omega)] at e2
          rw [e2]
          by_cases z0 : dv t q = 0
          · have en : num t L q = none := by unfold num; rw [if_pos d, if_neg (by omega), if_neg (by omega)]
            rw [en] at hQ
            exact ⟨fun _ => hQ, fun z => absurd (Or.inr (Or.inr ⟨z0, by omega⟩)) z⟩
          · have en : num t L q = some (10 * dv t q + dv t (q + 1)) := by unfold num; rw [if_pos d, if_neg (by omega), if_pos ⟨hi.symm, z0⟩]
            rw [en, Nat.mul_comm] at hQ
            exact ⟨fun z => absurd z (by omega), fun _ => hQ⟩
        · have en : num t L q = none := by unfold num; rw [if_pos d, if_neg (by omega), if_neg (by omega)]
          rw [en] at hQ
          refine ⟨fun _ => hQ, fun z => absurd ?_ z⟩
          by_cases z0 : dv t q = 0
          · exact Or.inr (Or.inr ⟨z0, j1⟩)
          · have := cv_big z0 (i - 3)
            rw [show i - 3 + 3 = i by omega] at this
            exact Or.inr (Or.inl (by omega))
    · have d' : dgB t L q = false := by cases h : dgB t L q with
        | true => exact absurd h d
        | false => rfl
      have e : de t L q = q := sc_no d'
      have i0 : i = 0 := by omega
      have en : num t L q = none := by unfold num; rw [if_neg d]
      rw [en] at hQ
      exact ⟨fun _ => hQ, fun z => absurd (Or.inl i0) z⟩
  have key : ∀ x1 : Int32, (q < L → x1 = t q) → ∀ (r i : Nat), q + i + r = de t L q → itr3 (B_X6_readNumber_9 (nI L) t x1 Q) (r + 1) (nI i) (nI (cv t q i)) (nI (q + i)) := by
    intro x1 hx1 r
    induction r with
    | zero =>
      intro i hi
      have hf := fin x1 hx1 i hi
      have hcv := cv_b (t := t) (q := q) i
      show B_X6_readNumber_9 _ _ _ _ _ _ _ _
      unfold B_X6_readNumber_9
      have fb := p_numfin (x1 := x1) (g_place := nI (q + i)) (Q := Q) rfl rfl (show i ≤ 90 by omega) hcv hf.1 hf.2
      refine ⟨fun _ => fb, fun z => p_digit7 hL ?_ (fun w => ?_) (fun w => be0 fb)⟩
      · rw [nI_leI (by omega) (by omega)] at z; omega
      · rw [show q + i = de t L q by omega, stop] at w; exact absurd w (by decide)
    | succ r ih =>
      intro i hi
      have hcv := cv_b (t := t) (q := q) i
      have d : dgB t L (q + i) = true := scF_all (L - q) q (q + i) (by omega) (by unfold de sc at hi; omega)
      have hql := dgB_lt d
      have dq := dv_i d
      show B_X6_readNumber_9 _ _ _ _ _ _ _ _
      generalize itr3 (B_X6_readNumber_9 (nI L) t x1 Q) (r + 1) = K at ih ⊢
      have hih := ih (i + 1) (by omega)
      unfold B_X6_readNumber_9
      refine ⟨fun z => absurd z (nI_ge (by omega) (by omega)), fun _ => p_digit7 hL hql (fun _ => be1 ?_) (fun w => absurd (d.symm.trans w) (by decide))⟩
      refine p_here hL (by omega) (fun _ => ?_) (fun z => absurd z (by omega))
      rintro y4 e4 y5 e5 y6 e6
      have ev : nI (cv t q i) * (10 : Int32) + t (q + i) - (48 : Int32) = nI (cv t q i * 10 + dv t (q + i)) := by
        rw [dq.1, show (10 : Int32) = nI 10 from rfl, show (48 : Int32) = nI 48 from rfl, pk_mul, nI_add, pk_sub (by omega)]
        congr 1; omega
      rw [ev] at e4
      have e4' : y4 = nI (cv t q (i + 1)) := by
        rw [e4]
        have e : cv t q (i + 1) = if 100 < cv t q i * 10 + dv t (q + i) then 100 else cv t q i * 10 + dv t (q + i) := rfl
        rw [e]
        by_cases z : 100 < cv t q i * 10 + dv t (q + i)
        · rw [if_pos z, if_pos (show (100 : Int32) < nI (cv t q i * 10 + dv t (q + i)) from nI_lt (a := 100) z (by omega))]; rfl
        · rw [if_neg z, if_neg (show ¬ (100 : Int32) < nI (cv t q i * 10 + dv t (q + i)) from nI_nlt (a := 100) (by omega) (by omega))]
      rw [e4', e5, e6, nI_1, nI_1]
      exact hih
  unfold wp_X6_readNumber
  have go : ∀ x1 : Int32, (q < L → x1 = t q) → ∃ n : Nat, itr3 (B_X6_readNumber_9 (nI L) t x1 Q) n (0 : Int32) (0 : Int32) (nI q) := by
    intro x1 hx1
    exact ⟨_, key x1 hx1 (de t L q - q) 0 (by omega)⟩
  exact p_here hL (by omega) (fun _ => go _ (fun _ => rfl)) (fun z => go _ (fun w => absurd w (by omega)))
