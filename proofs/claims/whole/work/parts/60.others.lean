/-! the reference's stack; links that lie over a link -/
theorem i_nI1 (a : Int) : iI a + 1 = iI (a + 1) := by
  rw [show (1 : Int32) = iI 1 from rfl, iI_add]
theorem p_stack8 {n : Nat} (hn : n ≤ 9) {row ms0 : Nat → Int32} {d : Nat → Int} {x : Int32} (hd : DL n row (-9) 0 d) (hd1 : ∀ l, l < n → 1 ≤ d l) (hx : row 9 = x) {Q : Int32 → (Nat → Int32) → Prop} (hQ : ∀ ms, Q (nI (stkC d x n n)) ms) : wp_X8_stack (nI n) row ms0 Q := by
  have hb := hd.b (Nat.le_refl n)
  have s1 := sp_b2 (x := x) n hb
  have s2 := lo_b (x := x) n hb
  unfold wp_X8_stack
  refine ⟨by unfold vp_in; decide, ?_⟩
  show wp_X8_spanBy (nI n) ms0 row (row 9) _
  rw [hx]
  refine p_spanBy hn hd (fun ms hms => p_lowest hn hb hms ?_)
  have key : ∀ (r i : Nat), i + r = (sp d x n).toNat → itr2 (B_X8_stack_22 (nI n) ms (iI (sp d x n)) (iI (lo d x n)) Q) (r + 1) (nI (stkM d x n i)) (iI (lo d x n + (i : Int))) := by
    intro r
    induction r with
    | zero =>
      intro i hi
      have e : i = (sp d x n).toNat := by omega
      show B_X8_stack_22 _ _ _ _ _ _ _ _
      unfold B_X8_stack_22
      rw [iI_add, iI_le (by omega) (by omega) (by omega) (by omega)]
      refine ⟨fun _ => ?_, fun q => absurd (by omega) q⟩
      rw [e, ← stk_eq hd1]
      exact hQ ms
    | succ r ih =>
      intro i hi
      have b1 : stkM d x n i ≤ 9 := mx_le i (fun i _ => Nat.le_trans (cntF_le _ n) hn)
      show B_X8_stack_22 _ _ _ _ _ _ _ _
      generalize itr2 (B_X8_stack_22 (nI n) ms (iI (sp d x n)) (iI (lo d x n)) Q) (r + 1) = K at ih ⊢
      have hih := ih (i + 1) (by omega)
      have e : stkM d x n (i + 1) = if stkM d x n i < cntF (ov d x (lo d x n + (i : Int))) n then cntF (ov d x (lo d x n + (i : Int))) n else stkM d x n i := rfl
      rw [e] at hih
      unfold B_X8_stack_22
      rw [iI_add, iI_le (by omega) (by omega) (by omega) (by omega)]
      refine ⟨fun q => absurd q (by omega), fun _ => ?_⟩
      have key2 : ∀ (r2 l : Nat), l + r2 = n → itr2 (B_X8_stack_36 (nI n) ms (nI (stkM d x n i)) (iI (lo d x n + (i : Int))) K) (r2 + 1) (nI (cntF (ov d x (lo d x n + (i : Int))) l)) (nI l) := by
        intro r2
        induction r2 with
        | zero =>
          intro l hl
          have e : l = n := by omega
          subst e
          have b2 := cntF_le (ov d x (lo d x l + (i : Int))) l
          show B_X8_stack_36 _ _ _ _ _ _ _ _
          unfold B_X8_stack_36
          refine ⟨fun _ => ?_, fun q => absurd (nI_le (Nat.le_refl l) (by omega)) q⟩
          rw [nI_leI (by omega) (by omega), i_nI1]
          refine ⟨fun q y h => ?_, fun q y h => ?_⟩
          · rw [if_neg (by omega)] at hih
            rw [h]; push_cast at hih; rw [Int.add_assoc]; exact hih
          · rw [if_pos (by omega)] at hih
            rw [h]; push_cast at hih; rw [Int.add_assoc]; exact hih
        | succ r2 ih2 =>
          intro l hl
          show B_X8_stack_36 _ _ _ _ _ _ _ _
          generalize itr2 (B_X8_stack_36 (nI n) ms (nI (stkM d x n i)) (iI (lo d x n + (i : Int))) K) (r2 + 1) = K2 at ih2 ⊢
          have hih2 := ih2 (l + 1) (by omega)
          unfold B_X8_stack_36
          refine ⟨fun q => absurd q (nI_ge (by omega) (by omega)), fun _ => ?_⟩
          refine p_isOver8 hn (by omega) hb hms (by omega) (fun q => be1 ?_) (fun q => be0 ?_)
          · rintro y h y2 h2
            rw [cnt_y q] at hih2
            rw [h, h2, nI_1, nI_1]; exact hih2
          · rintro y h y2 h2
            rw [cnt_n q] at hih2
            rw [h, h2, nI_1, Int32.add_zero]; exact hih2
      have h := key2 n 0 (by omega)
      exact ⟨_, h⟩
  have h := key (sp d x n).toNat 0 (by omega)
  rw [show (lo d x n + ((0 : Nat) : Int)) = lo d x n by omega] at h
  exact ⟨_, h⟩
/-- links over link l -/
def ot (d : Nat → Int) (x : Int32) (l o : Nat) : Bool := decide (o ≠ l ∧ lwL d x o < hgL d x l ∧ lwL d x l < hgL d x o)
theorem p_others7 {n l : Nat} (hn : n ≤ 9) (hl : l < n) {pl : Nat → Int32} {d : Nat → Int} {x : Int32} (hd : ∀ l, l < n → 0 ≤ d l ∧ d l ≤ 20) (hpl : ∀ j, j ≤ n → pl j = iI (mk d x j)) {Q : Int32 → Prop} (hQ : Q (nI (cntF (ot d x l) n))) : wp_X2_othersOver (nI n) pl (nI l) Q := by
  have hL := LH_b (x := x) hn hl hd
  have key : ∀ (r o : Nat), o + r = n → itr2 (B_X2_othersOver_4 (nI n) pl (nI l) Q) (r + 1) (nI (cntF (ot d x l) o)) (nI o) := by
    intro r
    induction r with
    | zero =>
      intro o ho
      have e : o = n := by omega
      subst e
      show B_X2_othersOver_4 _ _ _ _ _ _ _
      unfold B_X2_othersOver_4
      exact ⟨fun _ => hQ, fun q => absurd (nI_le (Nat.le_refl o) (by omega)) q⟩
    | succ r ih =>
      intro o ho
      have hO := LH_b (x := x) hn (show o < n by omega) hd
      show B_X2_othersOver_4 _ _ _ _ _ _ _
      generalize itr2 (B_X2_othersOver_4 (nI n) pl (nI l) Q) (r + 1) = K at ih ⊢
      have hih := ih (o + 1) (by omega)
      unfold B_X2_othersOver_4
      refine ⟨fun q => absurd q (nI_ge (by omega) (by omega)), fun _ => ?_⟩
      rw [nI_eq (by omega) (by omega)]
      refine ⟨fun q y h => ?_, fun q => p_low7 hn (by omega) hd hpl (p_high7 hn hl hd hpl ?_)⟩
      · rw [cnt_n (show ot d x l o = false from decide_eq_false (by omega))] at hih
        rw [h, nI_1]; exact hih
      · rw [iI_le (by omega) (by omega) (by omega) (by omega)]
        refine ⟨fun q2 y h => ?_, fun q2 => p_low7 hn hl hd hpl (p_high7 hn (by omega) hd hpl ?_)⟩
        · rw [cnt_n (show ot d x l o = false from decide_eq_false (by omega))] at hih
          rw [h, nI_1]; exact hih
        · rw [iI_le (by omega) (by omega) (by omega) (by omega)]
          refine ⟨fun q3 y h => ?_, fun q3 y h y2 h2 => ?_⟩
          · rw [cnt_n (show ot d x l o = false from decide_eq_false (by omega))] at hih
            rw [h, nI_1]; exact hih
          · rw [cnt_y (show ot d x l o = true from decide_eq_true (by omega))] at hih
            rw [h, h2, nI_1, nI_1]; exact hih
  unfold wp_X2_othersOver
  have h := key n 0 (by omega)
  exact ⟨_, h⟩
/-- both over one of the first i places -/
def bo (d : Nat → Int) (x : Int32) (n l o : Nat) : Nat → Bool
  | 0 => false
  | i + 1 => bo d x n l o i || (ov d x (lo d x n + (i : Int)) o && ov d x (lo d x n + (i : Int)) l)
theorem bo_t {d : Nat → Int} {x : Int32} {n l o : Nat} : ∀ i, bo d x n l o i = true ↔ ∃ k, k < i ∧ ov d x (lo d x n + (k : Int)) o = true ∧ ov d x (lo d x n + (k : Int)) l = true
  | 0 => ⟨fun h => absurd (show false = true from h) (by decide), fun ⟨k, h, _⟩ => absurd h (Nat.not_lt_zero k)⟩
  | i + 1 => by
    have ih := bo_t (d := d) (x := x) (n := n) (l := l) (o := o) i
    have e : bo d x n l o (i + 1) = (bo d x n l o i || (ov d x (lo d x n + (i : Int)) o && ov d x (lo d x n + (i : Int)) l)) := rfl
    rw [e, Bool.or_eq_true, Bool.and_eq_true, ih]
    constructor
    · rintro (⟨k, h1, h2⟩ | h)
      · exact ⟨k, by omega, h2⟩
      · exact ⟨i, by omega, h⟩
    · rintro ⟨k, h1, h2⟩
      by_cases q : k = i
      · subst q; exact Or.inr h2
      · exact Or.inl ⟨k, by omega, h2⟩
theorem bo_ot {n l o : Nat} {d : Nat → Int} {x : Int32} (hl : l < n) (ho : o < n) (hd1 : ∀ l, l < n → 1 ≤ d l) (hne : o ≠ l) : bo d x n l o (sp d x n).toNat = ot d x l o := by
  have hL := LH_in (x := x) hl (hd1 l hl)
  have hO := LH_in (x := x) ho (hd1 o ho)
  have e : (bo d x n l o (sp d x n).toNat = true) ↔ (ot d x l o = true) := by
    rw [bo_t]
    constructor
    · rintro ⟨k, h1, h2, h3⟩
      have := of_decide_eq_true h2
      have := of_decide_eq_true h3
      exact decide_eq_true ⟨hne, by omega, by omega⟩
    · intro h
      obtain ⟨-, h2, h3⟩ := of_decide_eq_true h
      by_cases q : lwL d x o ≤ lwL d x l
      · have e : lo d x n + (((lwL d x l - lo d x n).toNat : Nat) : Int) = lwL d x l := by omega
        refine ⟨(lwL d x l - lo d x n).toNat, by unfold sp; omega, ?_, ?_⟩
        · rw [e]; exact decide_eq_true (by omega)
        · rw [e]; exact decide_eq_true (by omega)
      · have e : lo d x n + (((lwL d x o - lo d x n).toNat : Nat) : Int) = lwL d x o := by omega
        refine ⟨(lwL d x o - lo d x n).toNat, by unfold sp; omega, ?_, ?_⟩
        · rw [e]; exact decide_eq_true (by omega)
        · rw [e]; exact decide_eq_true (by omega)
  cases h1 : bo d x n l o (sp d x n).toNat <;> cases h2 : ot d x l o <;> simp_all
def bI (b : Bool) : Int32 := if b = true then 1 else 0
theorem p_others8 {n l : Nat} (hn : n ≤ 9) (hl : l < n) {row ms0 : Nat → Int32} {d : Nat → Int} {x : Int32} (hd : DL n row (-9) 0 d) (hd1 : ∀ l, l < n → 1 ≤ d l) (hx : row 9 = x) {Q : Int32 → (Nat → Int32) → Prop} (hQ : ∀ ms, Q (nI (cntF (ot d x l) n)) ms) : wp_X8_othersOver (nI n) row ms0 (nI l) Q := by
  have hb := hd.b (Nat.le_refl n)
  have s1 := sp_b2 (x := x) n hb
  have s2 := lo_b (x := x) n hb
  unfold wp_X8_othersOver
  refine ⟨by unfold vp_in; decide, ?_⟩
  show wp_X8_spanBy (nI n) ms0 row (row 9) _
  rw [hx]
  refine p_spanBy hn hd (fun ms hms => p_lowest hn hb hms ?_)
  have key : ∀ (r o : Nat), o + r = n → itr2 (B_X8_othersOver_23 (nI n) ms (nI l) (iI (sp d x n)) (iI (lo d x n)) Q) (r + 1) (nI (cntF (ot d x l) o)) (nI o) := by
    intro r
    induction r with
    | zero =>
      intro o ho
      have e : o = n := by omega
      subst e
      show B_X8_othersOver_23 _ _ _ _ _ _ _ _ _
      unfold B_X8_othersOver_23
      exact ⟨fun _ => hQ ms, fun q => absurd (nI_le (Nat.le_refl o) (by omega)) q⟩
    | succ r ih =>
      intro o ho
      show B_X8_othersOver_23 _ _ _ _ _ _ _ _ _
      generalize itr2 (B_X8_othersOver_23 (nI n) ms (nI l) (iI (sp d x n)) (iI (lo d x n)) Q) (r + 1) = K at ih ⊢
      have hih := ih (o + 1) (by omega)
      unfold B_X8_othersOver_23
      refine ⟨fun q => absurd q (nI_ge (by omega) (by omega)), fun _ => ?_⟩
      have key2 : ∀ (r2 i : Nat), i + r2 = (sp d x n).toNat → itr2 (B_X8_othersOver_38 ms (nI l) (iI (sp d x n)) (iI (lo d x n)) (nI (cntF (ot d x l) o)) (nI o) K) (r2 + 1) (bI (bo d x n l o i)) (iI (lo d x n + (i : Int))) := by
        intro r2
        induction r2 with
        | zero =>
          intro i hi
          have e : i = (sp d x n).toNat := by omega
          show B_X8_othersOver_38 _ _ _ _ _ _ _ _ _ _
          unfold B_X8_othersOver_38
          rw [iI_add, iI_le (by omega) (by omega) (by omega) (by omega), nI_eq (by omega) (by omega)]
          refine ⟨fun _ => ⟨fun q y h y2 h2 => ?_, fun q => ?_⟩, fun q => absurd (by omega) q⟩
          · rw [cnt_n (show ot d x l o = false from decide_eq_false (by omega))] at hih
            rw [h, h2, nI_1, Int32.add_zero]; exact hih
          · rw [e, bo_ot hl (by omega) hd1 q]
            cases ho : ot d x l o with
            | true =>
              refine be1 (fun y h y2 h2 => ?_)
              rw [cnt_y ho] at hih
              rw [h, h2, nI_1, nI_1]; exact hih
            | false =>
              refine be0 (fun y h y2 h2 => ?_)
              rw [cnt_n ho] at hih
              rw [h, h2, nI_1, Int32.add_zero]; exact hih
        | succ r2 ih2 =>
          intro i hi
          show B_X8_othersOver_38 _ _ _ _ _ _ _ _ _ _
          generalize itr2 (B_X8_othersOver_38 ms (nI l) (iI (sp d x n)) (iI (lo d x n)) (nI (cntF (ot d x l) o)) (nI o) K) (r2 + 1) = K2 at ih2 ⊢
          have hih2 := ih2 (i + 1) (by omega)
          have e : bo d x n l o (i + 1) = (bo d x n l o i || (ov d x (lo d x n + (i : Int)) o && ov d x (lo d x n + (i : Int)) l)) := rfl
          rw [e, show (lo d x n + ((i + 1 : Nat) : Int)) = lo d x n + (i : Int) + 1 by omega] at hih2
          unfold B_X8_othersOver_38
          rw [iI_add, iI_le (by omega) (by omega) (by omega) (by omega), i_nI1]
          refine ⟨fun q => absurd q (by omega), fun _ => ?_⟩
          cases hbo : bo d x n l o i with
          | true =>
            refine bn1 (fun y h => ?_)
            rw [hbo] at hih2
            rw [h]; exact hih2
          | false =>
            rw [hbo] at hih2
            refine bn0 (p_isOver8 hn (by omega) hb hms (by omega) (fun q => be1 ?_) (fun q => be0 (fun y h => ?_)))
            · refine p_isOver8 hn hl hb hms (by omega) (fun q2 => be1 (fun y h => ?_)) (fun q2 => be0 (fun y h => ?_))
              · rw [q, q2] at hih2; rw [h]; exact hih2
              · rw [q, q2] at hih2; rw [h]; exact hih2
            · rw [q] at hih2; rw [h]; exact hih2
      have h := key2 (sp d x n).toNat 0 (by omega)
      rw [show (lo d x n + ((0 : Nat) : Int)) = lo d x n by omega] at h
      exact ⟨_, h⟩
  have h := key n 0 (by omega)
  exact ⟨_, h⟩
