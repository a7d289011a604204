/-! links over one another -/
def lwL (d : Nat → Int) (x : Int32) (l : Nat) : Int := if mk d x (l + 1) < mk d x l then mk d x (l + 1) else mk d x l
def hgL (d : Nat → Int) (x : Int32) (l : Nat) : Int := if mk d x l < mk d x (l + 1) then mk d x (l + 1) else mk d x l
def ov (d : Nat → Int) (x : Int32) (p : Int) (l : Nat) : Bool := decide (lwL d x l ≤ p ∧ p < hgL d x l)
theorem LH_b {n l : Nat} (hn : n ≤ 9) (hl : l < n) {d : Nat → Int} {x : Int32} (hd : ∀ l, l < n → 0 ≤ d l ∧ d l ≤ 20) : -180 ≤ lwL d x l ∧ lwL d x l ≤ 180 ∧ -180 ≤ hgL d x l ∧ hgL d x l ≤ 180 := by
  have h1 := mk_b (x := x) l (fun i hi => hd i (by omega))
  have h2 := mk_b (x := x) (l + 1) (fun i hi => hd i (by omega))
  unfold lwL hgL
  push_cast at h2
  refine ⟨?_, ?_, ?_, ?_⟩ <;> split <;> omega
theorem LH_in {n l : Nat} (hl : l < n) {d : Nat → Int} {x : Int32} (hd1 : 1 ≤ d l) : lo d x n ≤ lwL d x l ∧ lwL d x l < hgL d x l ∧ hgL d x l ≤ hi d x n := by
  have h1 := lo_mono (d := d) (x := x) n l (by omega)
  have h2 := lo_mono (d := d) (x := x) n (l + 1) (by omega)
  have e : mk d x (l + 1) = mk d x l + wy x l * d l := rfl
  have hne : mk d x (l + 1) ≠ mk d x l := by
    rw [e]
    rcases wy_1 x l with q | q <;> rw [q] <;> omega
  unfold lwL hgL
  refine ⟨?_, ?_, ?_⟩ <;> (try split) <;> (try split) <;> omega
theorem p_low7 {n l : Nat} (hn : n ≤ 9) (hl : l < n) {pl : Nat → Int32} {d : Nat → Int} {x : Int32} (hd : ∀ l, l < n → 0 ≤ d l ∧ d l ≤ 20) (hpl : ∀ j, j ≤ n → pl j = iI (mk d x j)) {Q : Int32 → Prop} (hQ : Q (iI (lwL d x l))) : wp_X2_lowOf (nI n) pl (nI l) Q := by
  have h1 := mk_b (x := x) l (fun i hi => hd i (by omega))
  have h2 := mk_b (x := x) (l + 1) (fun i hi => hd i (by omega))
  push_cast at h2
  unfold wp_X2_lowOf
  rw [nI_1]
  refine p_place hn (by omega) (hpl l (by omega)) (p_place hn (by omega) (hpl (l + 1) (by omega)) ?_)
  rintro y e
  simp only [iI_lt (a := mk d x (l + 1)) (b := mk d x l) (by omega) (by omega) (by omega) (by omega)] at e
  rw [iI_if] at e
  rw [e]
  exact hQ
theorem p_high7 {n l : Nat} (hn : n ≤ 9) (hl : l < n) {pl : Nat → Int32} {d : Nat → Int} {x : Int32} (hd : ∀ l, l < n → 0 ≤ d l ∧ d l ≤ 20) (hpl : ∀ j, j ≤ n → pl j = iI (mk d x j)) {Q : Int32 → Prop} (hQ : Q (iI (hgL d x l))) : wp_X2_highOf (nI n) pl (nI l) Q := by
  have h1 := mk_b (x := x) l (fun i hi => hd i (by omega))
  have h2 := mk_b (x := x) (l + 1) (fun i hi => hd i (by omega))
  push_cast at h2
  unfold wp_X2_highOf
  rw [nI_1]
  refine p_place hn (by omega) (hpl l (by omega)) (p_place hn (by omega) (hpl (l + 1) (by omega)) ?_)
  rintro y e
  simp only [iI_lt (a := mk d x l) (b := mk d x (l + 1)) (by omega) (by omega) (by omega) (by omega)] at e
  rw [iI_if] at e
  rw [e]
  exact hQ
theorem p_behind {n : Nat} (hn : n ≤ 9) {pl : Nat → Int32} {d : Nat → Int} {x : Int32} (hd : ∀ l, l < n → 0 ≤ d l ∧ d l ≤ 20) (hpl : ∀ j, j ≤ n → pl j = iI (mk d x j)) {p : Int} (hp : -200 ≤ p ∧ p ≤ 200) {Q : Int32 → Prop} (hQ : Q (nI (cntF (ov d x p) n))) : wp_X2_linksBehind (nI n) pl (iI p) Q := by
  have key : ∀ (r l : Nat), l + r = n → itr2 (B_X2_linksBehind_4 (nI n) pl (iI p) Q) (r + 1) (nI (cntF (ov d x p) l)) (nI l) := by
    intro r
    induction r with
    | zero =>
      intro l hl
      have e : l = n := by omega
      subst e
      show B_X2_linksBehind_4 _ _ _ _ _ _ _
      unfold B_X2_linksBehind_4
      exact ⟨fun _ => hQ, fun q => absurd (nI_le (Nat.le_refl l) (by omega)) q⟩
    | succ r ih =>
      intro l hl
      have hb := LH_b (x := x) hn (show l < n by omega) hd
      show B_X2_linksBehind_4 _ _ _ _ _ _ _
      generalize itr2 (B_X2_linksBehind_4 (nI n) pl (iI p) Q) (r + 1) = K at ih ⊢
      have hih := ih (l + 1) (by omega)
      unfold B_X2_linksBehind_4
      refine ⟨fun q => absurd q (nI_ge (by omega) (by omega)), fun _ => p_low7 hn (by omega) hd hpl ?_⟩
      rw [iI_lt (by omega) (by omega) (by omega) (by omega)]
      refine ⟨fun q y e => ?_, fun q => p_high7 hn (by omega) hd hpl ?_⟩
      · rw [cnt_n (show ov d x p l = false from decide_eq_false (by omega))] at hih
        rw [e, nI_1]
        exact hih
      · rw [iI_le (by omega) (by omega) (by omega) (by omega)]
        refine ⟨fun q2 y e => ?_, fun q2 y e y2 e2 => ?_⟩
        · rw [cnt_n (show ov d x p l = false from decide_eq_false (by omega))] at hih
          rw [e, nI_1]
          exact hih
        · rw [cnt_y (show ov d x p l = true from decide_eq_true (by omega))] at hih
          rw [e, e2, nI_1, nI_1]
          exact hih
  unfold wp_X2_linksBehind
  have h := key n 0 (by omega)
  exact ⟨_, h⟩
def mx (g : Nat → Nat) : Nat → Nat
  | 0 => 0
  | k + 1 => if mx g k < g k then g k else mx g k
theorem le_mx {g : Nat → Nat} : ∀ (k l : Nat), l < k → g l ≤ mx g k
  | 0, l, h => absurd h (Nat.not_lt_zero l)
  | k + 1, l, h => by
    unfold mx
    by_cases q : l = k
    · subst q; split <;> omega
    · have := le_mx (g := g) k l (by omega)
      split <;> omega
theorem mx_le {g : Nat → Nat} {B : Nat} : ∀ (k : Nat), (∀ l, l < k → g l ≤ B) → mx g k ≤ B
  | 0, _ => Nat.zero_le B
  | k + 1, h => by
    have := mx_le (g := g) k (fun l hl => h l (by omega))
    have := h k (by omega)
    unfold mx
    split <;> omega
theorem cnt_mono {a b : Nat → Bool} : ∀ (k : Nat), (∀ l, l < k → a l = true → b l = true) → cntF a k ≤ cntF b k
  | 0, _ => Nat.le_refl 0
  | k + 1, h => by
    have ih := cnt_mono (a := a) (b := b) k (fun l hl => h l (by omega))
    cases ha : a k with
    | false =>
      rw [cnt_n ha]
      cases hb : b k with
      | false => rw [cnt_n hb]; exact ih
      | true => rw [cnt_y hb]; omega
    | true =>
      rw [cnt_y ha, cnt_y (h k (by omega) ha)]
      omega
theorem cnt_pos {a : Nat → Bool} : ∀ (k : Nat), 0 < cntF a k → ∃ l, l < k ∧ a l = true
  | 0, h => absurd h (Nat.lt_irrefl 0)
  | k + 1, h => by
    cases ha : a k with
    | true => exact ⟨k, by omega, ha⟩
    | false =>
      rw [cnt_n ha] at h
      obtain ⟨l, h1, h2⟩ := cnt_pos k h
      exact ⟨l, by omega, h2⟩
/-- of those that are so, one with the greatest key -/
theorem top_of {a : Nat → Bool} {key : Nat → Int} : ∀ (k : Nat), (∃ l, l < k ∧ a l = true) → ∃ t, t < k ∧ a t = true ∧ ∀ l, l < k → a l = true → key l ≤ key t
  | 0, h => by obtain ⟨l, h1, -⟩ := h; omega
  | k + 1, h => by
    by_cases q : ∃ l, l < k ∧ a l = true
    · obtain ⟨t, h1, h2, h3⟩ := top_of (key := key) k q
      cases ha : a k with
      | false =>
        refine ⟨t, by omega, h2, fun l hl hal => ?_⟩
        by_cases z : l = k
        · subst z; rw [ha] at hal; cases hal
        · exact h3 l (by omega) hal
      | true =>
        by_cases w : key t ≤ key k
        · refine ⟨k, by omega, ha, fun l hl hal => ?_⟩
          by_cases z : l = k
          · subst z; exact Int.le_refl _
          · have := h3 l (by omega) hal
            omega
        · refine ⟨t, by omega, h2, fun l hl hal => ?_⟩
          by_cases z : l = k
          · subst z; omega
          · exact h3 l (by omega) hal
    · obtain ⟨l, h1, h2⟩ := h
      have hl : l = k := by
        by_cases z : l = k
        · exact z
        · exact absurd ⟨l, by omega, h2⟩ q
      subst hl
      refine ⟨l, by omega, h2, fun i hi hai => ?_⟩
      by_cases z : i = l
      · subst z; exact Int.le_refl _
      · exact absurd ⟨i, by omega, hai⟩ q
/-- STACK: looked for where links begin, or everywhere: the same -/
def stkC (d : Nat → Int) (x : Int32) (n : Nat) : Nat → Nat := mx (fun l => cntF (ov d x (lwL d x l)) n)
def stkM (d : Nat → Int) (x : Int32) (n : Nat) : Nat → Nat := mx (fun i => cntF (ov d x (lo d x n + (i : Int))) n)
theorem stk_eq {n : Nat} {d : Nat → Int} {x : Int32} (hd : ∀ l, l < n → 1 ≤ d l) : stkC d x n n = stkM d x n (sp d x n).toNat := by
  apply Nat.le_antisymm
  · refine mx_le n (fun l hl => ?_)
    have h := LH_in (x := x) hl (hd l hl)
    have e : lwL d x l = lo d x n + (((lwL d x l - lo d x n).toNat : Nat) : Int) := by omega
    have := le_mx (g := fun i => cntF (ov d x (lo d x n + (i : Int))) n) (sp d x n).toNat (lwL d x l - lo d x n).toNat (by unfold sp; omega)
    rw [e]
    exact this
  · refine mx_le _ (fun i hi => ?_)
    rcases Nat.eq_zero_or_pos (cntF (ov d x (lo d x n + (i : Int))) n) with q | q
    · rw [q]; exact Nat.zero_le _
    · obtain ⟨t, h1, h2, h3⟩ := top_of (key := lwL d x) n (cnt_pos n q)
      have ht := of_decide_eq_true h2
      refine Nat.le_trans (cnt_mono n (fun l hl hal => ?_)) (le_mx (g := fun l => cntF (ov d x (lwL d x l)) n) n t h1)
      have hl2 := of_decide_eq_true hal
      have := h3 l hl hal
      exact decide_eq_true ⟨this, by omega⟩
theorem p_stack7 {n : Nat} (hn : n ≤ 9) {pl : Nat → Int32} {d : Nat → Int} {x : Int32} (hd : ∀ l, l < n → 0 ≤ d l ∧ d l ≤ 20) (hpl : ∀ j, j ≤ n → pl j = iI (mk d x j)) {Q : Int32 → Prop} (hQ : Q (nI (stkC d x n n))) : wp_X2_stack (nI n) pl Q := by
  have key : ∀ (r l : Nat), l + r = n → itr2 (B_X2_stack_4 (nI n) pl Q) (r + 1) (nI (stkC d x n l)) (nI l) := by
    intro r
    induction r with
    | zero =>
      intro l hl
      have e : l = n := by omega
      subst e
      show B_X2_stack_4 _ _ _ _ _ _
      unfold B_X2_stack_4
      exact ⟨fun _ => hQ, fun q => absurd (nI_le (Nat.le_refl l) (by omega)) q⟩
    | succ r ih =>
      intro l hl
      have hb := LH_b (x := x) hn (show l < n by omega) hd
      have b1 : stkC d x n l ≤ 9 := mx_le l (fun i _ => Nat.le_trans (cntF_le _ n) hn)
      have b2 : cntF (ov d x (lwL d x l)) n ≤ 9 := Nat.le_trans (cntF_le _ n) hn
      show B_X2_stack_4 _ _ _ _ _ _
      generalize itr2 (B_X2_stack_4 (nI n) pl Q) (r + 1) = K at ih ⊢
      have hih := ih (l + 1) (by omega)
      unfold B_X2_stack_4
      refine ⟨fun q => absurd q (nI_ge (by omega) (by omega)), fun _ => p_low7 hn (by omega) hd hpl (p_behind hn hd hpl (by omega) ?_)⟩
      rintro y3 e3 y4 e4
      have f3 : y3 = nI (stkC d x n (l + 1)) := by
        rw [e3]
        have e : stkC d x n (l + 1) = if stkC d x n l < cntF (ov d x (lwL d x l)) n then cntF (ov d x (lwL d x l)) n else stkC d x n l := rfl
        rw [e]
        by_cases q : stkC d x n l < cntF (ov d x (lwL d x l)) n
        · rw [if_pos q, if_pos (nI_lt q (by omega))]
        · rw [if_neg q, if_neg (nI_nlt (by omega) (by omega))]
      rw [f3, e4, nI_1]
      exact hih
  unfold wp_X2_stack
  have h := key n 0 (by omega)
  exact ⟨_, h⟩
theorem p_isOver8 {n l : Nat} (hn : n ≤ 9) (hl : l < n) {ms : Nat → Int32} {d : Nat → Int} {x : Int32} (hd : ∀ l, l < n → 0 ≤ d l ∧ d l ≤ 20) (hms : ∀ j, j ≤ n → ms j = iI (mk d x j)) {p : Int} (hp : -400 ≤ p ∧ p ≤ 400) {Q : Int32 → Prop} (h1 : ov d x p l = true → Q 1) (h0 : ov d x p l = false → Q 0) : wp_X8_isOver ms (nI l) (iI p) Q := by
  have b1 := mk_b (x := x) l (fun i hi => hd i (by omega))
  have b2 := mk_b (x := x) (l + 1) (fun i hi => hd i (by omega))
  push_cast at b2
  unfold wp_X8_isOver
  rw [nI_1]
  refine ⟨vp_in_nI (by omega) (by omega), fun y1 e1 => ⟨vp_in_nI (by omega) (by omega), fun y2 e2 => ?_⟩⟩
  rw [nI_clamp (by omega), hms l (by omega)] at e1
  rw [nI_clamp (by omega), hms (l + 1) (by omega)] at e2
  subst e1; subst e2
  have un : ov d x p l = decide (lwL d x l ≤ p ∧ p < hgL d x l) := rfl
  unfold lwL hgL at un
  rw [iI_le (by omega) (by omega) (by omega) (by omega), iI_lt (by omega) (by omega) (by omega) (by omega), iI_le (by omega) (by omega) (by omega) (by omega), iI_lt (by omega) (by omega) (by omega) (by omega), iI_le (by omega) (by omega) (by omega) (by omega)]
  refine ⟨fun q => ⟨fun z => h0 ?_, fun z => ⟨fun w => h0 ?_, fun w => h1 ?_⟩⟩, fun q => ⟨fun z => h0 ?_, fun z => ⟨fun w => h0 ?_, fun w => h1 ?_⟩⟩⟩
  all_goals rw [un]
  · exact decide_eq_false (by split <;> split <;> omega)
  · exact decide_eq_false (by split <;> split <;> omega)
  · exact decide_eq_true (by split <;> split <;> omega)
  · exact decide_eq_false (by split <;> split <;> omega)
  · exact decide_eq_false (by split <;> split <;> omega)
  · exact decide_eq_true (by split <;> split <;> omega)
