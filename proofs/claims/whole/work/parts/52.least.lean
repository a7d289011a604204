/-! least, most -/
set_option maxHeartbeats 1000000 in
theorem p_least7 {n F T : Nat} (hn : n ≤ 9) (hT : T < 2 ^ (n - 1)) {ln pl0 : Nat → Int32} {g1 g2 g3 : Int32} {d : Nat → Int} (hd : DL n ln (-9) 0 d) {Q : Int32 → Int32 → Int32 → Int32 → (Nat → Int32) → Prop}
    (hQ : ∀ a b c pl, pl 0 = pl0 0 → Q (iI (bst (fB F T) (spF d n) 181 (2 ^ (n - 1))).1) a b c pl) : wp_X0_leastFold (nI n) (nI F) (nI T) g1 g2 g3 ln pl0 Q := by
  have hp := pw hn
  have key : ∀ (r f : Nat) (a b c : Int32) (pl : Nat → Int32), f + r = 2 ^ (n - 1) → pl 0 = pl0 0 → itr7 (B_X0_leastFold_10 (nI n) (nI F) (nI T) ln Q) (r + 1) (iI (bst (fB F T) (spF d n) 181 f).1) (iI (bst (fB F T) (spF d n) 181 f).2) (nI f) a b c pl := by
    intro r
    induction r with
    | zero =>
      intro f a b c pl hf h0
      show B_X0_leastFold_10 _ _ _ _ _ _ _ _ _ _ _ _ _
      unfold B_X0_leastFold_10
      refine p_limit hn ⟨fun _ => ?_, fun q => absurd (nI_le (by omega) (by omega)) q⟩
      have e : f = 2 ^ (n - 1) := by omega
      rw [e]
      exact hQ a b c pl h0
    | succ r ih =>
      intro f a b c pl hf h0
      have bb := bst_b (ok := fB F T) (key := spF d n) (a := 181) (L := 0) (by omega) f (fun g _ => (spF_b hn (hd.b (Nat.le_refl n)) g).1)
      have sb := spF_b hn (hd.b (Nat.le_refl n)) f
      show B_X0_leastFold_10 _ _ _ _ _ _ _ _ _ _ _ _ _
      generalize itr7 (B_X0_leastFold_10 (nI n) (nI F) (nI T) ln Q) (r + 1) = K at ih ⊢
      unfold B_X0_leastFold_10
      refine p_limit hn ⟨fun q => absurd q (nI_ge (by omega) (by omega)), fun _ => p_isF7 hn hT (by omega) (fun hok => be1 ?_) (fun hok => be0 ?_)⟩
      · unfold wp_X2_layOut
        refine p_lay hn hd (fun pl' h0' _ => ?_)
        simp only [wp_X2_span, iI_sub]
        rw [show hi d (nI f) n - lo d (nI f) n = spF d n f from rfl]
        refine ⟨fun q y e => ?_, fun q y e => ?_⟩
        · rw [iI_le (by omega) (by omega) (by omega) (by omega)] at q
          rw [e, nI_1]
          have := ih (f + 1) (nI n) (iI (lo d (nI f) n)) (iI (hi d (nI f) n)) pl' (by omega) (h0'.trans h0)
          rw [bst_n (fun z => absurd z.2 (by omega))] at this
          exact this
        · rw [iI_le (by omega) (by omega) (by omega) (by omega)] at q
          rw [e, nI_1]
          have := ih (f + 1) (nI n) (iI (lo d (nI f) n)) (iI (hi d (nI f) n)) pl' (by omega) (h0'.trans h0)
          rw [bst_y hok (by omega), ← nI_i] at this
          exact this
      · rintro y e
        rw [e, nI_1]
        have := ih (f + 1) a b c pl (by omega) h0
        rw [bst_n (fun z => absurd (hok.symm.trans z.1) (by decide))] at this
        exact this
  unfold wp_X0_leastFold
  have h := key (2 ^ (n - 1)) 0 g1 g2 g3 pl0 (by omega) rfl
  rw [nI_0] at h
  exact ⟨_, h⟩
set_option maxHeartbeats 1000000 in
theorem p_least8 {n F T : Nat} (hn : n ≤ 9) (hT : T < 2 ^ (n - 1)) {row ms0 : Nat → Int32} (r9 : row ((9 : Int32)).toNatClampNeg = nI F) (r10 : row ((10 : Int32)).toNatClampNeg = nI T) {d : Nat → Int} (hd : DL n row (-9) 0 d) {Q : Int32 → (Nat → Int32) → Prop}
    (hQ : ∀ ms, Q (iI (bst (fB F T) (spF d n) 99999 (2 ^ (n - 1))).1) ms) : wp_X8_leastFold (nI n) row ms0 Q := by
  have hp := pw hn
  have e99 : (99999 : Int32) = iI 99999 := rfl
  have key : ∀ (r f : Nat) (ms : Nat → Int32), f + r = 2 ^ (n - 1) → itr4 (B_X8_leastFold_8 (nI n) row Q) (r + 1) (iI (bst (fB F T) (spF d n) 99999 f).1) (iI (bst (fB F T) (spF d n) 99999 f).2) (nI f) ms := by
    intro r
    induction r with
    | zero =>
      intro f ms hf
      show B_X8_leastFold_8 _ _ _ _ _ _ _ _
      unfold B_X8_leastFold_8
      refine p_folds hn ⟨fun _ => ?_, fun q => absurd (nI_le (by omega) (by omega)) q⟩
      have e : f = 2 ^ (n - 1) := by omega
      rw [e]
      exact hQ ms
    | succ r ih =>
      intro f ms hf
      have bb := bst_b (ok := fB F T) (key := spF d n) (a := 99999) (L := 0) (by omega) f (fun g _ => (spF_b hn (hd.b (Nat.le_refl n)) g).1)
      have sb := spF_b hn (hd.b (Nat.le_refl n)) f
      show B_X8_leastFold_8 _ _ _ _ _ _ _ _
      generalize itr4 (B_X8_leastFold_8 (nI n) row Q) (r + 1) = K at ih ⊢
      unfold B_X8_leastFold_8
      refine p_folds hn ⟨fun q => absurd q (nI_ge (by omega) (by omega)), fun _ => p_isF8 hn hT (by omega) r9 r10 (fun hok => be1 ?_) (fun hok => be0 ?_)⟩
      · refine p_spanBy hn hd (fun ms' _ => ?_)
        rw [show sp d (nI f) n = spF d n f from rfl, iI_le (by omega) (by omega) (by omega) (by omega)]
        refine ⟨fun q => ⟨fun _ y e => ?_, fun z => absurd q z⟩, fun q => ⟨fun z => absurd z q, fun _ y e => ?_⟩⟩
        · rw [e, nI_1]
          have := ih (f + 1) ms' (by omega)
          rw [bst_n (fun z => absurd z.2 (by omega))] at this
          exact this
        · rw [e, nI_1]
          have := ih (f + 1) ms' (by omega)
          rw [bst_y hok (by omega), ← nI_i] at this
          exact this
      · rw [e99, iI_le (by omega) (by omega) (by omega) (by omega)]
        refine ⟨fun q => ⟨fun _ y e => ?_, fun z => absurd q z⟩, fun q => absurd bb.2.2.2 q⟩
        rw [e, nI_1]
        have := ih (f + 1) ms (by omega)
        rw [bst_n (fun z => absurd (hok.symm.trans z.1) (by decide))] at this
        exact this
  unfold wp_X8_leastFold
  have h := key (2 ^ (n - 1)) 0 ms0 (by omega)
  rw [nI_0] at h
  exact ⟨_, h⟩
/-- the greatest end, ahead of k -/
def mst (ok : Nat → Bool) (key : Nat → Int) (a : Int) : Nat → Int
  | 0 => a
  | k + 1 => if ok k = true ∧ mst ok key a k < key k then key k else mst ok key a k
theorem mst_ok {ok : Nat → Bool} {key : Nat → Int} {a : Int} {k : Nat} (h : ok k = true) : mst ok key a (k + 1) = if mst ok key a k < key k then key k else mst ok key a k := by
  show (if ok k = true ∧ _ then _ else _) = _
  rw [h]
  simp only [true_and]
theorem mst_b {ok : Nat → Bool} {key : Nat → Int} {a U : Int} (ha : a ≤ U) : ∀ (k : Nat), (∀ f, f < k → key f ≤ U) → a ≤ mst ok key a k ∧ mst ok key a k ≤ U
  | 0, _ => ⟨Int.le_refl a, ha⟩
  | k + 1, h => by
    have ih := mst_b ha (ok := ok) (key := key) (a := a) k (fun f hf => h f (by omega))
    have hk := h k (by omega)
    unfold mst
    split <;> omega
theorem mst_eq {ok : Nat → Bool} {key : Nat → Int} {a b : Int} : ∀ (k : Nat), (∀ f, f < k → a ≤ key f ∧ b ≤ key f) → (mst ok key a k = mst ok key b k) ∨ (mst ok key a k = a ∧ mst ok key b k = b ∧ ∀ f, f < k → ok f = false)
  | 0, _ => Or.inr ⟨rfl, rfl, fun f hf => absurd hf (Nat.not_lt_zero f)⟩
  | k + 1, h => by
    have ih := mst_eq (ok := ok) (key := key) (a := a) (b := b) k (fun f hf => h f (by omega))
    have hk := h k (by omega)
    unfold mst
    cases ho : ok k with
    | false =>
      simp only [Bool.false_eq_true, false_and, if_false]
      rcases ih with h1 | ⟨h1, h2, h3⟩
      · exact Or.inl h1
      · refine Or.inr ⟨h1, h2, fun f hf => ?_⟩
        by_cases q : f = k
        · rw [q]; exact ho
        · exact h3 f (by omega)
    | true =>
      left
      simp only [true_and]
      rcases ih with h1 | ⟨h1, h2, -⟩
      · rw [h1]
      · rw [h1, h2]
        split <;> split <;> omega
def enF (d : Nat → Int) (n f : Nat) : Int := mk d (nI f) n
theorem enF_b {n : Nat} (hn : n ≤ 9) {d : Nat → Int} (hd : ∀ l, l < n → 0 ≤ d l ∧ d l ≤ 20) (f : Nat) : -180 ≤ enF d n f ∧ enF d n f ≤ 180 := by
  have := mk_b (x := nI f) n hd
  unfold enF
  omega
theorem p_last {n : Nat} (hn : n ≤ 9) {pl : Nat → Int32} {d : Nat → Int} {x : Int32} (h0 : pl 0 = 0) (h1 : ∀ j, 1 ≤ j → j ≤ n → pl j = iI (mk d x j)) {Q : Int32 → Prop} (hQ : Q (iI (mk d x n))) : wp_X2_lastPlace (nI n) pl Q := by
  unfold wp_X2_lastPlace wp_X2_placeOf
  refine ⟨fun q => absurd q (nI_pos (by omega)), fun _ => ⟨fun q => absurd q (nI_nlt (Nat.le_refl n) (by omega)), fun _ => ⟨vp_in_nI (by omega) (by omega), ?_⟩⟩⟩
  rw [nI_clamp (by omega)]
  cases n with
  | zero => rw [h0]; exact hQ
  | succ k => rw [h1 (k + 1) (by omega) (by omega)]; exact hQ
set_option maxHeartbeats 1000000 in
theorem p_most7 {n F T : Nat} (hn : n ≤ 9) (hT : T < 2 ^ (n - 1)) {ln pl0 : Nat → Int32} {g1 g2 g3 : Int32} {d : Nat → Int} (hp0 : pl0 0 = 0) (hd : DL n ln (-9) 0 d) {Q : Int32 → Int32 → Int32 → Int32 → (Nat → Int32) → Prop}
    (hQ : ∀ a b c pl, pl 0 = 0 → Q (iI (mst (fB F T) (enF d n) (-180) (2 ^ (n - 1)))) a b c pl) : wp_X0_greatestEnd (nI n) (nI F) (nI T) g1 g2 g3 ln pl0 Q := by
  have hp := pw hn
  have key : ∀ (r f : Nat) (a b c : Int32) (pl : Nat → Int32), f + r = 2 ^ (n - 1) → pl 0 = 0 → itr6 (B_X0_greatestEnd_6 (nI n) (nI F) (nI T) ln Q) (r + 1) (iI (mst (fB F T) (enF d n) (-180) f)) (nI f) a b c pl := by
    intro r
    induction r with
    | zero =>
      intro f a b c pl hf h0
      show B_X0_greatestEnd_6 _ _ _ _ _ _ _ _ _ _ _ _
      unfold B_X0_greatestEnd_6
      refine p_limit hn ⟨fun _ => ?_, fun q => absurd (nI_le (by omega) (by omega)) q⟩
      have e : f = 2 ^ (n - 1) := by omega
      rw [e]
      exact hQ a b c pl h0
    | succ r ih =>
      intro f a b c pl hf h0
      have bb := mst_b (ok := fB F T) (key := enF d n) (a := -180) (U := 180) (by omega) f (fun g _ => (enF_b hn (hd.b (Nat.le_refl n)) g).2)
      have sb := enF_b hn (hd.b (Nat.le_refl n)) f
      show B_X0_greatestEnd_6 _ _ _ _ _ _ _ _ _ _ _ _
      generalize itr6 (B_X0_greatestEnd_6 (nI n) (nI F) (nI T) ln Q) (r + 1) = K at ih ⊢
      unfold B_X0_greatestEnd_6
      refine p_limit hn ⟨fun q => absurd q (nI_ge (by omega) (by omega)), fun _ => p_isF7 hn hT (by omega) (fun hok => be1 ?_) (fun hok => be0 ?_)⟩
      · unfold wp_X2_layOut
        refine p_lay hn hd (fun pl' h0' h1' => p_last hn (h0'.trans h0) h1' ?_)
        rintro y9 e9 y10 e10
        have f9 : y9 = iI (mst (fB F T) (enF d n) (-180) (f + 1)) := by
          rw [e9]
          show (if _ < iI (enF d n f) then iI (enF d n f) else _) = _
          simp only [iI_lt (a := mst (fB F T) (enF d n) (-180) f) (b := enF d n f) (by omega) (by omega) (by omega) (by omega)]
          rw [iI_if, mst_ok hok]
        rw [f9, e10, nI_1]
        exact ih (f + 1) _ _ _ pl' (by omega) (h0'.trans h0)
      · rintro y e
        rw [e, nI_1]
        have := ih (f + 1) a b c pl (by omega) h0
        rw [show mst (fB F T) (enF d n) (-180) (f + 1) = mst (fB F T) (enF d n) (-180) f from if_neg (fun z => absurd (hok.symm.trans z.1) (by decide))] at this
        exact this
  unfold wp_X0_greatestEnd
  have h := key (2 ^ (n - 1)) 0 g1 g2 g3 pl0 (by omega) hp0
  rw [nI_0] at h
  exact ⟨_, h⟩
set_option maxHeartbeats 1000000 in
theorem p_most8 {n F T : Nat} (hn : n ≤ 9) (hT : T < 2 ^ (n - 1)) {row ms0 : Nat → Int32} (r9 : row ((9 : Int32)).toNatClampNeg = nI F) (r10 : row ((10 : Int32)).toNatClampNeg = nI T) {d : Nat → Int} (hd : DL n row (-9) 0 d) {Q : Int32 → (Nat → Int32) → Prop}
    (hQ : ∀ ms, Q (iI (mst (fB F T) (enF d n) (-99999) (2 ^ (n - 1)))) ms) : wp_X8_mostEnd (nI n) row ms0 Q := by
  have hp := pw hn
  have hcl : (nI n).toNatClampNeg = n := nI_clamp (by omega)
  have V : vp_in (nI n) 10 := vp_in_nI (by omega) (by omega)
  have key : ∀ (r f : Nat) (ms : Nat → Int32), f + r = 2 ^ (n - 1) → itr3 (B_X8_mostEnd_5 (nI n) row Q) (r + 1) (iI (mst (fB F T) (enF d n) (-99999) f)) (nI f) ms := by
    intro r
    induction r with
    | zero =>
      intro f ms hf
      show B_X8_mostEnd_5 _ _ _ _ _ _ _
      unfold B_X8_mostEnd_5
      refine p_folds hn ⟨fun _ => ?_, fun q => absurd (nI_le (by omega) (by omega)) q⟩
      have e : f = 2 ^ (n - 1) := by omega
      rw [e]
      exact hQ ms
    | succ r ih =>
      intro f ms hf
      have bb := mst_b (ok := fB F T) (key := enF d n) (a := -99999) (U := 180) (by omega) f (fun g _ => (enF_b hn (hd.b (Nat.le_refl n)) g).2)
      have sb := enF_b hn (hd.b (Nat.le_refl n)) f
      show B_X8_mostEnd_5 _ _ _ _ _ _ _
      generalize itr3 (B_X8_mostEnd_5 (nI n) row Q) (r + 1) = K at ih ⊢
      unfold B_X8_mostEnd_5
      refine p_folds hn ⟨fun q => absurd q (nI_ge (by omega) (by omega)), fun _ => p_isF8 hn hT (by omega) r9 r10 (fun hok => be1 ?_) (fun hok => be0 ?_)⟩
      · refine p_lies hn hd (fun ms' hms => ⟨V, ?_⟩)
        rw [hcl, hms n (Nat.le_refl n), show mk d (nI f) n = enF d n f from rfl, iI_le (by omega) (by omega) (by omega) (by omega)]
        refine ⟨fun q y e => ?_, fun q => ⟨V, fun y6 e6 y e => ?_⟩⟩
        · rw [e, nI_1]
          have := ih (f + 1) ms' (by omega)
          rw [show mst (fB F T) (enF d n) (-99999) (f + 1) = mst (fB F T) (enF d n) (-99999) f from if_neg (fun z => absurd z.2 (by omega))] at this
          exact this
        · rw [e, nI_1, e6]
          have := ih (f + 1) ms' (by omega)
          rw [show mst (fB F T) (enF d n) (-99999) (f + 1) = enF d n f from if_pos ⟨hok, by omega⟩] at this
          exact this
      · rintro y e
        rw [e, nI_1]
        have := ih (f + 1) ms (by omega)
        rw [show mst (fB F T) (enF d n) (-99999) (f + 1) = mst (fB F T) (enF d n) (-99999) f from if_neg (fun z => absurd (hok.symm.trans z.1) (by decide))] at this
        exact this
  unfold wp_X8_mostEnd
  have h := key (2 ^ (n - 1)) 0 ms0 (by omega)
  rw [nI_0] at h
  exact ⟨_, h⟩
