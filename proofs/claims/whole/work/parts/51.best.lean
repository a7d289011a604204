/-! the best of all folds -/
def fB (F T f : Nat) : Bool := decide (f &&& T = F &&& T)
theorem p_isF7 {n F T f : Nat} (hn : n ≤ 9) (hT : T < 2 ^ (n - 1)) (hf : f < 2 ^ (n - 1)) {Q : Int32 → Prop} (h1 : fB F T f = true → Q 1) (h0 : fB F T f = false → Q 0) : wp_X5_isFold (nI n) (nI F) (nI T) (nI f) Q := by
  have hp := pw hn
  refine p_isFold7 hn hT (fun f' hf' e h => h1 ?_) (fun c => h0 ?_)
  · have : f = f' := (nI_eq (by omega) (by omega)).mp e
    rw [this]
    exact decide_eq_true h
  · exact decide_eq_false (c f hf rfl)
theorem p_isF8 {n F T f : Nat} (hn : n ≤ 9) (hT : T < 2 ^ (n - 1)) (hf : f < 2 ^ (n - 1)) {row : Nat → Int32} (r9 : row ((9 : Int32)).toNatClampNeg = nI F) (r10 : row ((10 : Int32)).toNatClampNeg = nI T) {Q : Int32 → Prop} (h1 : fB F T f = true → Q 1) (h0 : fB F T f = false → Q 0) : wp_X8_isFold (nI n) row (nI f) Q := by
  have hp := pw hn
  refine p_isFold8 hn hT r9 r10 (fun f' hf' e h => h1 ?_) (fun c => h0 ?_)
  · have : f = f' := (nI_eq (by omega) (by omega)).mp e
    rw [this]
    exact decide_eq_true h
  · exact decide_eq_false (c f hf rfl)
/-- the first of the least, ahead of k: which, and how much -/
def bst (ok : Nat → Bool) (key : Nat → Int) (a : Int) : Nat → Int × Int
  | 0 => (-9, a)
  | k + 1 => if ok k = true ∧ key k < (bst ok key a k).2 then ((k : Int), key k) else bst ok key a k
theorem bst_y {ok : Nat → Bool} {key : Nat → Int} {a : Int} {k : Nat} (h : ok k = true) (h2 : key k < (bst ok key a k).2) : bst ok key a (k + 1) = ((k : Int), key k) := if_pos ⟨h, h2⟩
theorem bst_n {ok : Nat → Bool} {key : Nat → Int} {a : Int} {k : Nat} (h : ¬ (ok k = true ∧ key k < (bst ok key a k).2)) : bst ok key a (k + 1) = bst ok key a k := if_neg h
theorem bst_b {ok : Nat → Bool} {key : Nat → Int} {a L : Int} (ha : L ≤ a) : ∀ (k : Nat), (∀ f, f < k → L ≤ key f) → -9 ≤ (bst ok key a k).1 ∧ (bst ok key a k).1 ≤ (k : Int) ∧ L ≤ (bst ok key a k).2 ∧ (bst ok key a k).2 ≤ a
  | 0, _ => by unfold bst; exact ⟨by omega, by simp, ha, Int.le_refl a⟩
  | k + 1, h => by
    have ih := bst_b ha (ok := ok) (key := key) (a := a) k (fun f hf => h f (by omega))
    have hk := h k (by omega)
    unfold bst
    split
    · rename_i q
      refine ⟨by show (-9 : Int) ≤ (k : Int); omega, by show (k : Int) ≤ _; push_cast; omega, hk, ?_⟩
      show key k ≤ a
      omega
    · refine ⟨ih.1, by push_cast; omega, ih.2.2.1, ih.2.2.2⟩
theorem bst_eq {ok : Nat → Bool} {key : Nat → Int} {a b : Int} : ∀ (k : Nat), (∀ f, f < k → ok f = true → key f < a ∧ key f < b) → (bst ok key a k = bst ok key b k ∧ 0 ≤ (bst ok key a k).1 ∧ ∃ f, f < k ∧ ok f = true) ∨ (bst ok key a k = (-9, a) ∧ bst ok key b k = (-9, b) ∧ ∀ f, f < k → ok f = false)
  | 0, _ => Or.inr ⟨rfl, rfl, fun f hf => absurd hf (Nat.not_lt_zero f)⟩
  | k + 1, h => by
    have ih := bst_eq (ok := ok) (key := key) (a := a) (b := b) k (fun f hf => h f (by omega))
    cases hk : ok k with
    | false =>
      have e1 : bst ok key a (k + 1) = bst ok key a k := bst_n (by rw [hk]; simp)
      have e2 : bst ok key b (k + 1) = bst ok key b k := bst_n (by rw [hk]; simp)
      rw [e1, e2]
      rcases ih with ⟨h1, h2, f, h3, h4⟩ | ⟨h1, h2, h3⟩
      · exact Or.inl ⟨h1, h2, f, by omega, h4⟩
      · refine Or.inr ⟨h1, h2, fun f hf => ?_⟩
        by_cases q : f = k
        · rw [q]; exact hk
        · exact h3 f (by omega)
    | true =>
      obtain ⟨ha, hb⟩ := h k (by omega) hk
      left
      rcases ih with ⟨h1, h2, -⟩ | ⟨h1, h2, -⟩
      · by_cases q : key k < (bst ok key a k).2
        · rw [bst_y hk q, bst_y hk (by rw [← h1]; exact q)]
          exact ⟨rfl, by show (0 : Int) ≤ (k : Int); omega, k, by omega, hk⟩
        · rw [bst_n (fun z => q z.2), bst_n (fun z => q (by rw [h1]; exact z.2))]
          exact ⟨h1, h2, k, by omega, hk⟩
      · rw [bst_y hk (by rw [h1]; exact ha), bst_y hk (by rw [h2]; exact hb)]
        exact ⟨rfl, by show (0 : Int) ≤ (k : Int); omega, k, by omega, hk⟩
theorem bst_1 {ok : Nat → Bool} {key : Nat → Int} {a b : Int} {k : Nat} (h : ∀ f, f < k → ok f = true → key f < a ∧ key f < b) : (bst ok key a k).1 = (bst ok key b k).1 := by
  rcases bst_eq k h with ⟨h1, -⟩ | ⟨h1, h2, -⟩
  · rw [h1]
  · rw [h1, h2]
/-- the span by a fold -/
def spF (d : Nat → Int) (n f : Nat) : Int := sp d (nI f) n
theorem spF_b {n : Nat} (hn : n ≤ 9) {d : Nat → Int} (hd : ∀ l, l < n → 0 ≤ d l ∧ d l ≤ 20) (f : Nat) : 0 ≤ spF d n f ∧ spF d n f ≤ 180 := by
  have := sp_b2 (x := nI f) n hd
  unfold spF
  omega
