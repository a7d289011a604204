/-! which link can have been filed -/
def dW (ln : Nat → Int32) (l0 k : Nat) : Nat → Int := fun l => dO ln l - (if l = l0 then (k : Int) else 0)
theorem ln_k {n : Nat} {ln : Nat → Int32} (l k : Nat) : ln l - nI k = iI (dO ln l - (k : Int)) := by
  rw [nI_i, ← iI_sub]
  exact congrArg (· - iI (k : Int)) (Int32.ofInt_toInt _).symm
theorem dW_DL {n l k : Nat} {ln row : Nat → Int32} {fo st : Int32} (hn : n ≤ 9) (h : SV n ln fo st) (e : ∀ j, j < n → row j = ln j) (hl : l < n) (hk : (k : Int) < dO ln l) : DL n row (nI l) (nI k) (dW ln l k) := by
  intro i hi
  have hd := h.d i hi
  have un : dW ln l k i = dO ln i - (if i = l then (k : Int) else 0) := rfl
  by_cases q : i = l
  · subst q
    rw [if_pos rfl] at un
    refine ⟨by omega, by omega, fun _ => ?_, fun c => absurd rfl c⟩
    rw [e i hi, un]
    exact ln_k (n := n) i k
  · rw [if_neg q] at un
    refine ⟨by omega, by omega, fun c => absurd ((nI_eq (by omega) (by omega)).mp c) q, fun _ => ?_⟩
    rw [e i hi, un, Int.sub_zero]
    exact (Int32.ofInt_toInt _).symm
def agB (d : Nat → Int) (n : Nat) (fs ss : Nat → Int32) : Nat → Bool
  | 0 => true
  | i + 1 => agB d n fs ss i && decide (iI (sp d (fs i) n) = ss i)
theorem agB_y {d : Nat → Int} {n i : Nat} {fs ss : Nat → Int32} (h : agB d n fs ss i = true) (h2 : iI (sp d (fs i) n) = ss i) : agB d n fs ss (i + 1) = true := by
  show (agB d n fs ss i && decide (iI (sp d (fs i) n) = ss i)) = true
  rw [h, decide_eq_true h2]; rfl
theorem agB_n {d : Nat → Int} {n i : Nat} {fs ss : Nat → Int32} (h2 : ¬ iI (sp d (fs i) n) = ss i) : ∀ r, agB d n fs ss (i + 1 + r) = false
  | 0 => by
    show (agB d n fs ss i && decide (iI (sp d (fs i) n) = ss i)) = false
    rw [decide_eq_false h2, Bool.and_false]
  | r + 1 => by
    show (agB d n fs ss (i + 1 + r) && _) = false
    rw [agB_n h2 r, Bool.false_and]
theorem p_agrees {n m : Nat} (hn : n ≤ 9) (hm : m ≤ 6) {ln fs ss pl0 : Nat → Int32} {g1 g2 g3 x2 x3 : Int32} {d : Nat → Int} (hd : DL n ln x2 x3 d) {Q : Int32 → Int32 → Int32 → Int32 → (Nat → Int32) → Prop}
    (h1 : agB d n fs ss m = true → ∀ a b c pl, Q 1 a b c pl) (h0 : agB d n fs ss m = false → ∀ a b c pl, Q 0 a b c pl) : wp_X4_agrees (nI m) fs (nI n) g1 g2 g3 ln pl0 ss x2 x3 Q := by
  have key : ∀ (r i : Nat) (a b c : Int32) (pl : Nat → Int32), i + r = m → agB d n fs ss i = true → itr5 (B_X4_agrees_3 (nI m) fs (nI n) ln ss x2 x3 Q) (r + 1) (nI i) a b c pl := by
    intro r
    induction r with
    | zero =>
      intro i a b c pl hi ha
      have e : i = m := by omega
      subst e
      show B_X4_agrees_3 _ _ _ _ _ _ _ _ _ _ _ _ _ _
      unfold B_X4_agrees_3
      exact ⟨fun _ => h1 ha a b c pl, fun q => absurd (nI_le (Nat.le_refl i) (by omega)) q⟩
    | succ r ih =>
      intro i a b c pl hi ha
      show B_X4_agrees_3 _ _ _ _ _ _ _ _ _ _ _ _ _ _
      generalize itr5 (B_X4_agrees_3 (nI m) fs (nI n) ln ss x2 x3 Q) (r + 1) = K at ih ⊢
      unfold B_X4_agrees_3
      rw [nI_clamp (by omega)]
      refine ⟨fun q => absurd q (nI_ge (by omega) (by omega)), fun _ => ⟨vp_in_nI (by omega) (by omega), p_lay hn hd (fun pl2 _ _ => ?_)⟩⟩
      unfold wp_X2_span
      rw [iI_sub]
      refine ⟨vp_in_nI (by omega) (by omega), fun q y e => ?_, fun q => ?_⟩
      · rw [e, nI_1]
        exact ih (i + 1) _ _ _ _ (by omega) (agB_y ha q)
      · have := agB_n (d := d) (n := n) (i := i) q (m - (i + 1))
        rw [show i + 1 + (m - (i + 1)) = m by omega] at this
        exact h0 this _ _ _ _
  unfold wp_X4_agrees
  have h := key m 0 g1 g2 g3 pl0 (by omega) rfl
  exact ⟨_, h⟩
theorem p_isWay8 {n m l k : Nat} (hn : n ≤ 9) (hm : m ≤ 6) (hl : l < n) (hk : k ≤ 9) {ln row fs ss fs2 ss2 ms0 : Nat → Int32} {fo st : Int32} (hS : SV n ln fo st) (e : ∀ j, j < n → row j = ln j) (es : ∀ i, i < m → fs i = fs2 i ∧ ss i = ss2 i) {Q : Int32 → (Nat → Int32) → Prop}
    (h1 : ((k : Int) < dO ln l ∧ agB (dW ln l k) n fs ss m = true) → ∀ ms, Q 1 ms) (h0 : ¬ ((k : Int) < dO ln l ∧ agB (dW ln l k) n fs ss m = true) → ∀ ms, Q 0 ms) : wp_X8_isWay (nI n) (nI m) row fs2 ms0 ss2 (nI l) (nI k) Q := by
  have hdl := hS.d l hl
  have zero : (∀ ms, Q 0 ms) → ∀ (r i : Nat) (ms : Nat → Int32), itr3 (B_X8_isWay_22 (nI n) (nI m) row fs2 ss2 (nI l) (nI k) Q) (r + 1) 0 (nI i) ms := by
    intro hq r i ms
    show B_X8_isWay_22 _ _ _ _ _ _ _ _ _ _ _ _
    unfold B_X8_isWay_22
    exact ⟨fun _ => ⟨Or.inl rfl, hq ms⟩, fun _ => ⟨fun _ => ⟨Or.inl rfl, hq ms⟩, fun q => absurd rfl q⟩⟩
  have key : (k : Int) < dO ln l → ∀ (r i : Nat) (ms : Nat → Int32), i + r = m → agB (dW ln l k) n fs ss i = true → itr3 (B_X8_isWay_22 (nI n) (nI m) row fs2 ss2 (nI l) (nI k) Q) (r + 1) 1 (nI i) ms := by
    intro hkl
    have hd : DL n row (nI l) (nI k) (dW ln l k) := dW_DL hn hS e hl hkl
    intro r
    induction r with
    | zero =>
      intro i ms hi ha
      have e : i = m := by omega
      subst e
      show B_X8_isWay_22 _ _ _ _ _ _ _ _ _ _ _ _
      unfold B_X8_isWay_22
      exact ⟨fun _ => ⟨Or.inr rfl, h1 ⟨hkl, ha⟩ ms⟩, fun q => absurd (nI_le (Nat.le_refl i) (by omega)) q⟩
    | succ r ih =>
      intro i ms hi ha
      have hz := fun hq => zero hq r
      show B_X8_isWay_22 _ _ _ _ _ _ _ _ _ _ _ _
      generalize itr3 (B_X8_isWay_22 (nI n) (nI m) row fs2 ss2 (nI l) (nI k) Q) (r + 1) = K at ih hz ⊢
      unfold B_X8_isWay_22
      rw [nI_clamp (by omega), ← (es i (by omega)).1, ← (es i (by omega)).2]
      refine ⟨fun q => absurd q (nI_ge (by omega) (by omega)), fun _ => ⟨fun q => absurd q (by decide), fun _ => ⟨vp_in_nI (by omega) (by omega), p_spanFiled hn hd (fun ms2 _ => ⟨vp_in_nI (by omega) (by omega), fun q y e => ?_, fun q y e => ?_⟩)⟩⟩⟩
      · rw [e, nI_1]
        refine hz (h0 (fun z => ?_)) (i + 1) ms2
        have := agB_n (d := dW ln l k) (n := n) (i := i) q (m - (i + 1))
        rw [show i + 1 + (m - (i + 1)) = m by omega] at this
        rw [this] at z
        exact absurd z.2 (by decide)
      · rw [e, nI_1]
        exact ih (i + 1) _ (by omega) (agB_y ha q)
  unfold wp_X8_isWay
  have hz : (iI (dO ln l - (k : Int)) ≤ (0 : Int32)) ↔ dO ln l - (k : Int) ≤ 0 := iI_le (b := 0) (by omega) (by omega) (by omega) (by omega)
  rw [Int32.zero_add, nI_clamp (by omega), e l hl, ln_k (n := n), hz]
  refine ⟨vp_in_nI (by omega) (by omega), fun q => ⟨_, zero (h0 (fun z => by omega)) 0 0 ms0⟩, fun q => ⟨_, key (by omega) m 0 ms0 (by omega) rfl⟩⟩
def wB (n : Nat) (ln fs ss : Nat → Int32) (m l k : Nat) : Bool := decide (l < n ∧ (k : Int) < dO ln l ∧ agB (dW ln l k) n fs ss m = true)
def wJ (n : Nat) (ln fs ss : Nat → Int32) (m j : Nat) : Bool := decide (j % 10 ≠ 0) && wB n ln fs ss m (j / 10) (j % 10)
theorem wJ_lk {n m l k : Nat} {ln fs ss : Nat → Int32} (h1 : 1 ≤ k) (h2 : k ≤ 9) : wJ n ln fs ss m (10 * l + k) = wB n ln fs ss m l k := by
  unfold wJ
  rw [show (10 * l + k) % 10 = k by omega, show (10 * l + k) / 10 = l by omega, decide_eq_true (by omega), Bool.true_and]
theorem wJ_0 {n m l : Nat} {ln fs ss : Nat → Int32} : wJ n ln fs ss m (10 * l) = false := by
  unfold wJ
  rw [show (10 * l) % 10 = 0 by omega, decide_eq_false (by omega), Bool.false_and]
theorem wJ_big {n m j : Nat} {ln fs ss : Nat → Int32} (h : 10 * n ≤ j) : wJ n ln fs ss m j = false := by
  unfold wJ wB
  rw [decide_eq_false (p := _ ∧ _) (fun z => by omega), Bool.and_false]
theorem p_canFile {n l k : Nat} (hn : n ≤ 9) (hl : l < 9) (hk : 1 ≤ k ∧ k ≤ 9) {ln : Nat → Int32} {fo st : Int32} (hS : SV n ln fo st) {Q : Int32 → Prop} (h1 : l < n → (k : Int) < dO ln l → Q 1) (h0 : ¬ (l < n ∧ (k : Int) < dO ln l) → Q 0) : wp_X5_canFile (nI n) ln (nI l) (nI k) Q := by
  unfold wp_X5_canFile wp_X5_lengthOf
  refine p_link7 hn (fun j hj ej => be1 ⟨vp_in_nI (by omega) (by omega), ?_⟩) (fun c => be0 ?_)
  · have e : l = j := (nI_eq (by omega) (by omega)).mp ej
    subst e
    have hdl := hS.d l hj
    have hz : (iI (dO ln l - (k : Int)) < (1 : Int32)) ↔ dO ln l - (k : Int) < 1 := iI_lt (b := 1) (by omega) (by omega) (by omega) (by omega)
    rw [nI_clamp (by omega)]
    show (ln l - nI k < 1 → Q 0) ∧ (¬ ln l - nI k < 1 → Q 1)
    rw [ln_k (n := n), hz]
    exact ⟨fun q => h0 (fun z => by omega), fun q => h1 hj (by omega)⟩
  · rw [t_nI (by omega)] at c
    have hz : ((0 : Int32) - nI k < (1 : Int32)) ↔ (0 : Int) - (k : Int) < 1 := by
      rw [nI_i, show (0 : Int32) = iI 0 from rfl, iI_sub]
      exact iI_lt (b := 1) (by omega) (by omega) (by omega) (by omega)
    show ((0 : Int32) - nI k < 1 → Q 0) ∧ (¬ (0 : Int32) - nI k < 1 → Q 1)
    rw [hz]
    exact ⟨fun q => h0 (fun z => by omega), fun q => absurd (by omega) q⟩
theorem n10 (l k : Nat) : (10 : Int32) * nI l + nI k = nI (10 * l + k) := by
  rw [show (10 : Int32) = nI 10 from rfl, pk_mul, nI_add]
theorem p_findWays {n m : Nat} (hn : n ≤ 9) (hm : m ≤ 6) {ln fs ss pl0 iw0 : Nat → Int32} {g1 g2 g3 : Int32} {fo st : Int32} (hS : SV n ln fo st) (hw : ∀ i : Nat, i < 9 → iw0 (10 * i) = 0) {Q : Int32 → Int32 → Int32 → Int32 → (Nat → Int32) → (Nat → Int32) → Prop}
    (hQ : ∀ a b c pl iw, (∀ j, j < 90 → iw j = bI (wJ n ln fs ss m j)) → (∀ i : Nat, i < 9 → iw (10 * i) = 0) → Q (nI (cntF (wJ n ln fs ss m) 90)) a b c pl iw) : wp_X4_findWays (nI n) ln (nI m) fs g1 g2 g3 pl0 ss iw0 Q := by
  have key : ∀ (r l : Nat) (a b c : Int32) (pl iw : Nat → Int32), l + r = 9 → (∀ j, j < 10 * l → iw j = bI (wJ n ln fs ss m j)) → (∀ i : Nat, i < 9 → iw (10 * i) = 0) → itr7 (B_X4_findWays_4 (nI n) ln (nI m) fs ss Q) (r + 1) (nI (cntF (wJ n ln fs ss m) (10 * l))) (nI l) a b c pl iw := by
    intro r
    induction r with
    | zero =>
      intro l a b c pl iw hl hi h0
      have e : l = 9 := by omega
      subst e
      show B_X4_findWays_4 _ _ _ _ _ _ _ _ _ _ _ _ _ _
      unfold B_X4_findWays_4
      exact ⟨fun _ => hQ a b c pl iw hi h0, fun q => absurd (nI_le (a := 9) (b := 9) (by omega) (by omega)) q⟩
    | succ r ih =>
      intro l a b c pl iw hl hi h0
      show B_X4_findWays_4 _ _ _ _ _ _ _ _ _ _ _ _ _ _
      generalize itr7 (B_X4_findWays_4 (nI n) ln (nI m) fs ss Q) (r + 1) = K at ih ⊢
      unfold B_X4_findWays_4
      refine ⟨fun q => absurd q (nI_ge (a := l) (b := 9) (by omega) (by omega)), fun _ => ?_⟩
      have key2 : ∀ (r2 k : Nat) (a b c : Int32) (pl iw : Nat → Int32), k + r2 = 10 → 1 ≤ k → (∀ j, j < 10 * l + k → iw j = bI (wJ n ln fs ss m j)) → (∀ i : Nat, i < 9 → iw (10 * i) = 0) → itr7 (B_X4_findWays_13 (nI n) ln (nI m) fs ss (nI l) K) (r2 + 1) (nI (cntF (wJ n ln fs ss m) (10 * l + k))) (nI k) a b c pl iw := by
        intro r2
        induction r2 with
        | zero =>
          intro k a b c pl iw hk k1 hi h0
          have e : k = 10 := by omega
          subst e
          show B_X4_findWays_13 _ _ _ _ _ _ _ _ _ _ _ _ _ _ _
          unfold B_X4_findWays_13
          refine ⟨fun _ y e => ?_, fun q => absurd (nI_lt (a := 9) (b := 10) (by omega) (by omega)) q⟩
          rw [e, nI_1]
          have := ih (l + 1) a b c pl iw (by omega) (fun j hj => hi j (by omega)) h0
          rw [show 10 * (l + 1) = 10 * l + 10 by omega] at this
          exact this
        | succ r2 ih2 =>
          intro k a b c pl iw hk k1 hi h0
          show B_X4_findWays_13 _ _ _ _ _ _ _ _ _ _ _ _ _ _ _
          generalize itr7 (B_X4_findWays_13 (nI n) ln (nI m) fs ss (nI l) K) (r2 + 1) = K2 at ih2 ⊢
          have eJ : wJ n ln fs ss m (10 * l + k) = wB n ln fs ss m l k := wJ_lk k1 (by omega)
          have hno : wB n ln fs ss m l k = false → ∀ (a b c : Int32) (pl : Nat → Int32) (y y2 : Int32), y = nI (cntF (wJ n ln fs ss m) (10 * l + k)) + 0 → y2 = nI k + 1 → K2 y y2 a b c pl (upd iw (10 * l + k) (vp_nar .boolean 0)) := by
            intro hb a b c pl y y2 e e2
            have := ih2 (k + 1) a b c pl (upd iw (10 * l + k) (vp_nar .boolean 0)) (by omega) (by omega) (fun j hj => by
              rw [upd_eq]
              by_cases q : j = 10 * l + k
              · rw [if_pos q, q, eJ, hb]; rfl
              · rw [if_neg q]; exact hi j (by omega)) (fun i hi2 => by
              rw [upd_eq, if_neg (by omega)]; exact h0 i hi2)
            rw [← Nat.add_assoc, cnt_n (eJ.trans hb)] at this
            rw [e, e2, nI_1, Int32.add_zero]
            exact this
          have hyes : wB n ln fs ss m l k = true → ∀ (a b c : Int32) (pl : Nat → Int32) (y y2 : Int32), y = nI (cntF (wJ n ln fs ss m) (10 * l + k)) + 1 → y2 = nI k + 1 → K2 y y2 a b c pl (upd iw (10 * l + k) (vp_nar .boolean 1)) := by
            intro hb a b c pl y y2 e e2
            have := ih2 (k + 1) a b c pl (upd iw (10 * l + k) (vp_nar .boolean 1)) (by omega) (by omega) (fun j hj => by
              rw [upd_eq]
              by_cases q : j = 10 * l + k
              · rw [if_pos q, q, eJ, hb]; rfl
              · rw [if_neg q]; exact hi j (by omega)) (fun i hi2 => by
              rw [upd_eq, if_neg (by omega)]; exact h0 i hi2)
            rw [← Nat.add_assoc, cnt_y (eJ.trans hb)] at this
            rw [e, e2, nI_1, nI_1]
            exact this
          have vi : vp_in (nI (10 * l + k)) 90 := vp_in_nI (by omega) (by omega)
          unfold B_X4_findWays_13
          rw [n10, nI_clamp (show 10 * l + k < 2 ^ 31 by omega)]
          refine ⟨fun q => absurd q (nI_nlt (a := 9) (b := k) (by omega) (by omega)), fun _ => ?_⟩
          refine p_canFile hn (by omega) (by omega) hS (fun c1 c2 => be1 ?_) (fun c0 => be0 ⟨vi, be0 (fun y e y2 e2 => hno (decide_eq_false (fun z => c0 ⟨z.1, z.2.1⟩)) _ _ _ _ y y2 e e2)⟩)
          refine p_agrees hn hm (dW_DL hn hS (fun _ _ => rfl) c1 c2) (fun g a b c pl => be1 ⟨vi, be1 (fun y e y2 e2 => hyes (decide_eq_true ⟨c1, c2, g⟩) _ _ _ _ y y2 e e2)⟩) (fun g a b c pl => be0 ⟨vi, be0 (fun y e y2 e2 => hno (decide_eq_false (fun z => ?_)) _ _ _ _ y y2 e e2)⟩)
          rw [g] at z
          exact absurd z.2.2 (by decide)
      have h := key2 9 1 a b c pl iw (by omega) (by omega) (fun j hj => by
        by_cases q : j = 10 * l
        · rw [q, wJ_0]; exact h0 l (by omega)
        · exact hi j (by omega)) h0
      rw [cnt_n wJ_0] at h
      exact ⟨_, h⟩
  unfold wp_X4_findWays
  have h := key 9 0 g1 g2 g3 pl0 iw0 (by omega) (fun j hj => absurd hj (by omega)) hw
  exact ⟨_, h⟩
