/-! where the marks lie -/
def bt (x l : Int32) : Bool := decide ((x >>> (l &&& 31)) &&& 1 = 1)
theorem p_has7 {x l : Int32} {Q : Int32 → Prop} (h1 : bt x l = true → Q 1) (h0 : bt x l = false → Q 0) : wp_X7_hasBit x l Q := by
  unfold wp_X7_hasBit
  exact ⟨fun c => h0 (decide_eq_false c), fun c => h1 (decide_eq_true c)⟩
theorem p_has8 {x l : Int32} {Q : Int32 → Prop} (h1 : bt x l = true → Q 1) (h0 : bt x l = false → Q 0) : wp_X8_has x l Q := by
  unfold wp_X8_has
  exact ⟨fun c => h0 (decide_eq_false c), fun c => h1 (decide_eq_true c)⟩
/-- the way of link l: 1 up, -1 down -/
def wy (x : Int32) : Nat → Int
  | 0 => 1
  | l + 1 => if bt x (nI l) = true then -(wy x l) else wy x l
/-- where mark l lies -/
def mk (d : Nat → Int) (x : Int32) : Nat → Int
  | 0 => 0
  | l + 1 => mk d x l + wy x l * d l
def lo (d : Nat → Int) (x : Int32) : Nat → Int
  | 0 => 0
  | l + 1 => if mk d x (l + 1) < lo d x l then mk d x (l + 1) else lo d x l
def hi (d : Nat → Int) (x : Int32) : Nat → Int
  | 0 => 0
  | l + 1 => if hi d x l < mk d x (l + 1) then mk d x (l + 1) else hi d x l
theorem wy_t {x : Int32} {l : Nat} (h : bt x (nI l) = true) : wy x (l + 1) = -(wy x l) := if_pos h
theorem wy_f {x : Int32} {l : Nat} (h : bt x (nI l) = false) : wy x (l + 1) = wy x l := if_neg (by rw [h]; decide)
theorem wy_1 (x : Int32) : ∀ l, wy x l = 1 ∨ wy x l = -1
  | 0 => Or.inl rfl
  | l + 1 => by
    have := wy_1 x l
    unfold wy
    split <;> omega
theorem mk_b {d : Nat → Int} {x : Int32} : ∀ (j : Nat), (∀ l, l < j → 0 ≤ d l ∧ d l ≤ 20) → -(20 * (j : Int)) ≤ mk d x j ∧ mk d x j ≤ 20 * (j : Int)
  | 0, _ => by simp [mk]
  | j + 1, h => by
    have h1 := mk_b (x := x) j (fun l hl => h l (by omega))
    have h2 := h j (by omega)
    have e : mk d x (j + 1) = mk d x j + wy x j * d j := rfl
    rw [e]
    rcases wy_1 x j with q | q <;> rw [q] <;> push_cast <;> omega
theorem lo_b {d : Nat → Int} {x : Int32} : ∀ (j : Nat), (∀ l, l < j → 0 ≤ d l ∧ d l ≤ 20) → -(20 * (j : Int)) ≤ lo d x j ∧ lo d x j ≤ 0
  | 0, _ => by simp [lo]
  | j + 1, h => by
    have h1 := lo_b (x := x) j (fun l hl => h l (by omega))
    have h2 := mk_b (x := x) (j + 1) h
    unfold lo
    split <;> push_cast at * <;> omega
theorem hi_b {d : Nat → Int} {x : Int32} : ∀ (j : Nat), (∀ l, l < j → 0 ≤ d l ∧ d l ≤ 20) → 0 ≤ hi d x j ∧ hi d x j ≤ 20 * (j : Int)
  | 0, _ => by simp [hi]
  | j + 1, h => by
    have h1 := hi_b (x := x) j (fun l hl => h l (by omega))
    have h2 := mk_b (x := x) (j + 1) h
    unfold hi
    split <;> push_cast at * <;> omega
/-- the links as they are laid: one may be filed -/
def DL (n : Nat) (ln : Nat → Int32) (filed less : Int32) (d : Nat → Int) : Prop := ∀ l, l < n → 0 ≤ d l ∧ d l ≤ 20 ∧ (nI l = filed → ln l - less = iI (d l)) ∧ (¬ nI l = filed → ln l = iI (d l))
theorem DL.b {n : Nat} {ln : Nat → Int32} {filed less : Int32} {d : Nat → Int} (h : DL n ln filed less d) {j : Nat} (hj : j ≤ n) : ∀ l, l < j → 0 ≤ d l ∧ d l ≤ 20 := fun l hl => ⟨(h l (by omega)).1, (h l (by omega)).2.1⟩
set_option maxHeartbeats 1000000 in
theorem p_layL {n : Nat} (hn : n ≤ 9) {ln : Nat → Int32} {fold filed less : Int32} {d : Nat → Int} (hd : DL n ln filed less d) {Q : Int32 → Int32 → Int32 → (Nat → Int32) → Prop} (p0 : Int32)
    (hQ : ∀ pl, pl 0 = p0 → (∀ j, 1 ≤ j → j ≤ n → pl j = iI (mk d fold j)) → Q (nI n) (iI (lo d fold n)) (iI (hi d fold n)) pl) :
    ∀ (r l : Nat) (pl : Nat → Int32), l + r = n → pl 0 = p0 → (∀ j, 1 ≤ j → j ≤ l → pl j = iI (mk d fold j)) →
      itr6 (B_X2_layOutFiled_32 (nI n) ln fold filed less Q) (r + 1) (iI (mk d fold l)) (iI (wy fold l)) (nI l) (iI (lo d fold l)) (iI (hi d fold l)) pl := by
  intro r
  induction r with
  | zero =>
    intro l pl hl h0 hpl
    have e : l = n := by omega
    subst e
    show B_X2_layOutFiled_32 _ _ _ _ _ _ _ _ _ _ _ _ _
    unfold B_X2_layOutFiled_32
    exact ⟨fun _ => hQ pl h0 hpl, fun c => absurd (nI_le (Nat.le_refl l) (by omega)) c⟩
  | succ r ih =>
    intro l pl hl h0 hpl
    have hlt : l < n := by omega
    obtain ⟨d1, d2, d3, d4⟩ := hd l hlt
    have b1 := mk_b (x := fold) (l + 1) (hd.b hlt)
    have b2 := lo_b (x := fold) l (hd.b (Nat.le_of_lt hlt))
    have b3 := hi_b (x := fold) l (hd.b (Nat.le_of_lt hlt))
    have hin9 : vp_in (nI l) 9 := vp_in_nI (by omega) (by omega)
    have hin10 : vp_in (nI l + 1) 10 := by rw [nI_1]; exact vp_in_nI (by omega) (by omega)
    have hcl : (nI l).toNatClampNeg = l := nI_clamp (by omega)
    have hcl1 : (nI l + 1).toNatClampNeg = l + 1 := by rw [nI_1]; exact nI_clamp (by omega)
    show B_X2_layOutFiled_32 _ _ _ _ _ _ _ _ _ _ _ _ _
    unfold B_X2_layOutFiled_32
    refine ⟨fun c => absurd c (nI_ge hlt (by omega)), fun _ => ⟨fun c => ⟨hin9, fun y2 e2 => ?_⟩, fun c => ⟨hin9, fun y2 e2 => ?_⟩⟩⟩
    all_goals
      have ey : y2 = iI (d l) := by rw [e2, hcl]; first | exact d4 c | exact d3 c
      subst ey
      refine fun y3 e3 => ⟨hin10, fun y4 e4 y5 e5 => ?_⟩
      have f3 : y3 = iI (mk d fold (l + 1)) := by rw [e3, iI_mul, iI_add]; rfl
      subst f3
      have f4 : y4 = iI (lo d fold (l + 1)) := by
        rw [e4]
        simp only [iI_lt (a := mk d fold (l + 1)) (b := lo d fold l) (by push_cast at *; omega) (by push_cast at *; omega) (by omega) (by omega)]
        exact iI_if _ _
      subst f4
      have f5 : y5 = iI (hi d fold (l + 1)) := by
        rw [e5]
        simp only [iI_lt (a := hi d fold l) (b := mk d fold (l + 1)) (by omega) (by omega) (by push_cast at *; omega) (by push_cast at *; omega)]
        exact iI_if _ _
      subst f5
      have hnew : ∀ j, 1 ≤ j → j ≤ l + 1 → upd pl (nI l + 1).toNatClampNeg (iI (mk d fold (l + 1))) j = iI (mk d fold j) := by
        intro j j1 j2
        rw [hcl1, upd_eq]
        by_cases q : j = l + 1
        · rw [if_pos q, q]
        · rw [if_neg q]; exact hpl j j1 (by omega)
      have hz : upd pl (nI l + 1).toNatClampNeg (iI (mk d fold (l + 1))) 0 = p0 := by
        rw [hcl1, upd_eq, if_neg (by omega)]; exact h0
      refine p_has7 (fun hb => be1 ?_) (fun hb => be0 ?_)
      · rintro y8 e8 y9 e9
        have f8 : y8 = iI (wy fold (l + 1)) := by rw [e8, iI_neg, wy_t hb]
        have f9 : y9 = nI (l + 1) := by rw [e9]; exact nI_1 l
        subst f8; subst f9
        exact ih (l + 1) _ (by omega) hz hnew
      · rintro y7 e7
        have f9 : y7 = nI (l + 1) := by rw [e7]; exact nI_1 l
        subst f9
        rw [← wy_f hb]
        exact ih (l + 1) _ (by omega) hz hnew
theorem p_lay {n : Nat} (hn : n ≤ 9) {ln pl0 : Nat → Int32} {fold filed less g1 g2 g3 : Int32} {d : Nat → Int} (hd : DL n ln filed less d) {Q : Int32 → Int32 → Int32 → (Nat → Int32) → Prop}
    (hQ : ∀ pl, pl 0 = pl0 0 → (∀ j, 1 ≤ j → j ≤ n → pl j = iI (mk d fold j)) → Q (nI n) (iI (lo d fold n)) (iI (hi d fold n)) pl) :
    wp_X2_layOutFiled (nI n) g1 g2 g3 ln pl0 fold filed less Q := by
  unfold wp_X2_layOutFiled
  intro y1 e1
  have f1 : y1 = nI n := by
    rw [e1]
    exact if_neg (nI_nlt (a := 9) (b := n) hn (by omega))
  subst f1
  have h := p_layL hn hd (fold := fold) (pl0 0) hQ n 0 pl0 (by omega) rfl (fun j h1 h2 => absurd h1 (by omega))
  rw [nI_0] at h
  exact ⟨_, h⟩
set_option maxHeartbeats 1000000 in
theorem p_liesL {n : Nat} (hn : n ≤ 9) {row : Nat → Int32} {fold filed less : Int32} {d : Nat → Int} (hd : DL n row filed less d) {Q : (Nat → Int32) → Prop}
    (hQ : ∀ ms, (∀ j, j ≤ n → ms j = iI (mk d fold j)) → Q ms) :
    ∀ (r l : Nat) (ms : Nat → Int32), l + r = n → (∀ j, j ≤ l → ms j = iI (mk d fold j)) →
      itr3 (B_X8_lies_13 (nI n) row fold filed less Q) (r + 1) (iI (wy fold l)) (nI l) ms := by
  intro r
  induction r with
  | zero =>
    intro l ms hl hms
    have e : l = n := by omega
    subst e
    show B_X8_lies_13 _ _ _ _ _ _ _ _ _ _
    unfold B_X8_lies_13
    exact ⟨fun _ => hQ ms hms, fun c => absurd (nI_le (Nat.le_refl l) (by omega)) c⟩
  | succ r ih =>
    intro l ms hl hms
    have hlt : l < n := by omega
    obtain ⟨d1, d2, d3, d4⟩ := hd l hlt
    have hin10 : vp_in (nI l) 10 := vp_in_nI (by omega) (by omega)
    have hin143 : vp_in ((0 : Int32) + nI l) 143 := by rw [Int32.zero_add]; exact vp_in_nI (by omega) (by omega)
    have hin11 : vp_in (nI l + 1) 10 := by rw [nI_1]; exact vp_in_nI (by omega) (by omega)
    have hcl : (nI l).toNatClampNeg = l := nI_clamp (by omega)
    have hcl0 : ((0 : Int32) + nI l).toNatClampNeg = l := by rw [Int32.zero_add]; exact hcl
    have hcl1 : (nI l + 1).toNatClampNeg = l + 1 := by rw [nI_1]; exact nI_clamp (by omega)
    show B_X8_lies_13 _ _ _ _ _ _ _ _ _ _
    unfold B_X8_lies_13
    refine ⟨fun c => absurd c (nI_ge hlt (by omega)), fun _ => ⟨hin10, hin143, fun c => fun y1 e1 => ?_, fun c => fun y1 e1 => ?_⟩⟩
    all_goals
      have f1 : y1 = iI (mk d fold (l + 1)) := by
        rw [e1, hcl, hcl0, hms l (Nat.le_refl l)]
        first | rw [show row l - 0 = iI (d l) by rw [Int32.sub_zero]; exact d4 c] | rw [d3 c]
        rw [iI_mul, iI_add]; rfl
      subst f1
      have hnew : ∀ j, j ≤ l + 1 → upd ms (nI l + 1).toNatClampNeg (iI (mk d fold (l + 1))) j = iI (mk d fold j) := by
        intro j j2
        rw [hcl1, upd_eq]
        by_cases q : j = l + 1
        · rw [if_pos q, q]
        · rw [if_neg q]; exact hms j (by omega)
      refine ⟨hin11, p_has8 (fun hb => be1 ?_) (fun hb => be0 ?_)⟩
      · rintro y8 e8 y9 e9
        have f8 : y8 = iI (wy fold (l + 1)) := by rw [e8, iI_neg, wy_t hb]
        have f9 : y9 = nI (l + 1) := by rw [e9]; exact nI_1 l
        subst f8; subst f9
        exact ih (l + 1) _ (by omega) hnew
      · rintro y7 e7
        have f9 : y7 = nI (l + 1) := by rw [e7]; exact nI_1 l
        subst f9
        rw [← wy_f hb]
        exact ih (l + 1) _ (by omega) hnew
theorem p_lies {n : Nat} (hn : n ≤ 9) {row ms0 : Nat → Int32} {fold filed less : Int32} {d : Nat → Int} (hd : DL n row filed less d) {Q : (Nat → Int32) → Prop}
    (hQ : ∀ ms, (∀ j, j ≤ n → ms j = iI (mk d fold j)) → Q ms) : wp_X8_lies (nI n) ms0 row fold filed less Q := by
  unfold wp_X8_lies
  refine ⟨by unfold vp_in; decide, ?_⟩
  have h := p_liesL hn hd (fold := fold) hQ n 0 (upd ms0 ((0 : Int32)).toNatClampNeg (0 : Int32)) (by omega) (fun j hj => by
    have e : j = 0 := by omega
    subst e
    rfl)
  rw [nI_0] at h
  exact ⟨_, h⟩
theorem p_lowest {n : Nat} (hn : n ≤ 9) {ms : Nat → Int32} {fold : Int32} {d : Nat → Int} (hd : ∀ l, l < n → 0 ≤ d l ∧ d l ≤ 20) (hms : ∀ j, j ≤ n → ms j = iI (mk d fold j)) {Q : Int32 → Prop} (hQ : Q (iI (lo d fold n))) : wp_X8_lowest (nI n) ms Q := by
  have key : ∀ (r m : Nat), m + r = n → itr2 (B_X8_lowest_4 (nI n) ms Q) (r + 2) (iI (if m = 0 then 0 else lo d fold (m - 1))) (nI m) := by
    intro r
    induction r with
    | zero =>
      intro m hm
      have e : m = n := by omega
      subst e
      have b1 := mk_b (x := fold) m hd
      have b2 := lo_b (x := fold) (m - 1) (fun l hl => hd l (by omega))
      have hcl : (nI m).toNatClampNeg = m := nI_clamp (by omega)
      have fin : ∀ y : Int32, y = iI (lo d fold m) → B_X8_lowest_4 (nI m) ms Q (itr2 (B_X8_lowest_4 (nI m) ms Q) 0) y (nI (m + 1)) := by
        rintro _ rfl
        unfold B_X8_lowest_4
        exact ⟨fun _ => hQ, fun c => absurd (nI_lt (Nat.lt_succ_self m) (by omega)) c⟩
      show B_X8_lowest_4 _ _ _ _ _ _
      unfold B_X8_lowest_4
      refine ⟨fun c => absurd c (nI_nlt (Nat.le_refl m) (by omega)), fun _ => ⟨vp_in_nI (by omega) (by omega), fun c => ?_, fun c => ⟨vp_in_nI (by omega) (by omega), ?_⟩⟩⟩
      · rintro y e
        rw [e, nI_1]
        refine fin _ ?_
        rw [hcl, hms m (Nat.le_refl m)] at c
        cases m with
        | zero => rfl
        | succ k =>
          simp only [Nat.add_one_ne_zero, if_false, Nat.add_sub_cancel] at c ⊢
          rw [iI_le (by push_cast at *; omega) (by push_cast at *; omega) (by push_cast at *; omega) (by push_cast at *; omega)] at c
          show _ = iI (if mk d fold (k + 1) < lo d fold k then _ else _)
          rw [if_neg (by omega)]
      · rintro y1 e1 y2 e2
        rw [e2, nI_1]
        refine fin _ ?_
        rw [hcl, hms m (Nat.le_refl m)] at c
        rw [e1, hcl, hms m (Nat.le_refl m)]
        cases m with
        | zero => rfl
        | succ k =>
          simp only [Nat.add_one_ne_zero, if_false, Nat.add_sub_cancel] at c
          rw [iI_le (by push_cast at *; omega) (by push_cast at *; omega) (by push_cast at *; omega) (by push_cast at *; omega)] at c
          show _ = iI (if mk d fold (k + 1) < lo d fold k then _ else _)
          rw [if_pos (by omega)]
    | succ r ih =>
      intro m hm
      have b1 := mk_b (x := fold) m (fun l hl => hd l (by omega))
      have b2 := lo_b (x := fold) (m - 1) (fun l hl => hd l (by omega))
      have hcl : (nI m).toNatClampNeg = m := nI_clamp (by omega)
      have fin : ∀ y : Int32, y = iI (lo d fold m) → itr2 (B_X8_lowest_4 (nI n) ms Q) (r + 2) y (nI (m + 1)) := by
        rintro _ rfl
        exact ih (m + 1) (by omega)
      show B_X8_lowest_4 _ _ _ _ _ _
      unfold B_X8_lowest_4
      refine ⟨fun c => absurd c (nI_nlt (by omega) (by omega)), fun _ => ⟨vp_in_nI (by omega) (by omega), fun c => ?_, fun c => ⟨vp_in_nI (by omega) (by omega), ?_⟩⟩⟩
      · rintro y e
        rw [e, nI_1]
        refine fin _ ?_
        rw [hcl, hms m (by omega)] at c
        cases m with
        | zero => rfl
        | succ k =>
          simp only [Nat.add_one_ne_zero, if_false, Nat.add_sub_cancel] at c ⊢
          rw [iI_le (by push_cast at *; omega) (by push_cast at *; omega) (by push_cast at *; omega) (by push_cast at *; omega)] at c
          show _ = iI (if mk d fold (k + 1) < lo d fold k then _ else _)
          rw [if_neg (by omega)]
      · rintro y1 e1 y2 e2
        rw [e2, nI_1]
        refine fin _ ?_
        rw [hcl, hms m (by omega)] at c
        rw [e1, hcl, hms m (by omega)]
        cases m with
        | zero => rfl
        | succ k =>
          simp only [Nat.add_one_ne_zero, if_false, Nat.add_sub_cancel] at c
          rw [iI_le (by push_cast at *; omega) (by push_cast at *; omega) (by push_cast at *; omega) (by push_cast at *; omega)] at c
          show _ = iI (if mk d fold (k + 1) < lo d fold k then _ else _)
          rw [if_pos (by omega)]
  unfold wp_X8_lowest
  have h := key n 0 (by omega)
  rw [nI_0, if_pos rfl] at h
  exact ⟨_, h⟩
