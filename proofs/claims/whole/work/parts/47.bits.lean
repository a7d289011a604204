/-! bits -/
theorem nx_and (a b : Nat) : nI a &&& nI b = nI (a &&& b) := by
  apply Int32.toBitVec_inj.1
  show BitVec.ofNat 32 a &&& BitVec.ofNat 32 b = BitVec.ofNat 32 (a &&& b)
  apply BitVec.eq_of_getLsbD_eq
  intro i hi
  simp [hi]
theorem nx_xor (a b : Nat) : nI a ^^^ nI b = nI (a ^^^ b) := by
  apply Int32.toBitVec_inj.1
  show BitVec.ofNat 32 a ^^^ BitVec.ofNat 32 b = BitVec.ofNat 32 (a ^^^ b)
  apply BitVec.eq_of_getLsbD_eq
  intro i hi
  simp [hi]
theorem nx_or (a b : Nat) : nI a ||| nI b = nI (a ||| b) := by
  apply Int32.toBitVec_inj.1
  show BitVec.ofNat 32 a ||| BitVec.ofNat 32 b = BitVec.ofNat 32 (a ||| b)
  apply BitVec.eq_of_getLsbD_eq
  intro i hi
  simp [hi]
theorem s_l : ∀ n, n < 32 → ((nI n &&& 31).toBitVec.smod 32).toNat = n := by decide +kernel
theorem shl1 {j : Nat} (h : j < 31) : (1 : Int32) <<< (nI j &&& 31) = nI (2 ^ j) := by
  have := pk_shlN (n := 1) (nI j &&& 31) j (s_l j (by omega)) (by
    rw [Nat.one_mul]
    exact Nat.lt_of_lt_of_le (Nat.pow_lt_pow_right (by omega) h) (by decide))
  rw [Nat.one_mul] at this
  exact this
theorem shr {F j : Nat} (hF : F < 2147483648) (h : j < 31) : nI F >>> (nI j &&& 31) = nI (F / 2 ^ j) := pk_shrN hF _ j (s_l j (by omega))
theorem shr1 {F j : Nat} (hF : F < 2147483648) (h : j < 31) : (nI F >>> (nI j &&& 31)) &&& 1 = nI (F / 2 ^ j % 2) := by
  rw [shr hF h]
  have : F / 2 ^ j < 2 ^ 32 := Nat.lt_of_le_of_lt (Nat.div_le_self _ _) (by omega)
  exact pk_andN this (m := 1) 1 rfl
theorem bt_nI {F j : Nat} (hF : F < 2147483648) (h : j < 31) : bt (nI F) (nI j) = F.testBit j := by
  unfold bt
  rw [shr1 hF h, Nat.testBit_eq_decide_div_mod_eq]
  have e : (nI (F / 2 ^ j % 2) = (1 : Int32)) ↔ (F / 2 ^ j % 2 = 1) := nI_eq (a := F / 2 ^ j % 2) (b := 1) (by omega) (by omega)
  by_cases q : F / 2 ^ j % 2 = 1
  · rw [decide_eq_true q, decide_eq_true (e.mpr q)]
  · rw [decide_eq_false q, decide_eq_false (fun z => q (e.mp z))]
theorem pw {n : Nat} (hn : n ≤ 9) : 2 ^ (n - 1) ≤ 256 ∧ 0 < 2 ^ (n - 1) := ⟨Nat.pow_le_pow_right (n := 2) (by omega) (show n - 1 ≤ 8 by omega), Nat.pow_pos (by omega)⟩
/-- stiff joints are as they are -/
def isF (F T f : Nat) : Prop := f &&& T = F &&& T
theorem isF7 (F T f : Nat) : (f ^^^ F) &&& T = 0 ↔ isF F T f := by
  unfold isF
  constructor
  · intro h
    apply Nat.eq_of_testBit_eq
    intro i
    have := congrArg (fun z => z.testBit i) h
    simp only [Nat.testBit_and, Nat.testBit_xor, Nat.zero_testBit] at this ⊢
    revert this
    cases f.testBit i <;> cases F.testBit i <;> cases T.testBit i <;> decide
  · intro h
    apply Nat.eq_of_testBit_eq
    intro i
    have := congrArg (fun z => z.testBit i) h
    simp only [Nat.testBit_and, Nat.testBit_xor, Nat.zero_testBit] at this ⊢
    revert this
    cases f.testBit i <;> cases F.testBit i <;> cases T.testBit i <;> decide
theorem p_limit {n : Nat} (hn : n ≤ 9) {Q : Int32 → Prop} (h : Q (nI (2 ^ (n - 1)))) : wp_X5_foldLimit (nI n) Q := by
  unfold wp_X5_foldLimit
  refine p_joints hn ?_
  rw [shl1 (by omega)]
  exact h
theorem p_folds {n : Nat} (hn : n ≤ 9) {Q : Int32 → Prop} (h : Q (nI (2 ^ (n - 1)))) : wp_X8_folds (nI n) Q := by
  unfold wp_X8_folds
  refine ⟨fun c => ?_, fun c => ?_⟩
  · have h2 : ¬ n < 2 := fun q => absurd (nI_lt (a := n) (b := 2) q (by omega)) (by
      intro z
      rw [Int32.le_iff_toInt_le, t_nI (by omega)] at c
      have : (2 : Int32).toInt = 2 := rfl
      omega)
    rw [show nI n - 1 = nI (n - 1) from pk_sub (a := n) (b := 1) (by omega), shl1 (by omega)]
    exact h
  · have h2 : n < 2 := by
      rcases Nat.lt_or_ge n 2 with q | q
      · exact q
      · exact absurd (nI_le (a := 2) (b := n) q (by omega)) c
    rw [show 2 ^ (n - 1) = 1 by rw [show n - 1 = 0 by omega]] at h
    exact h
theorem nI_z {k : Nat} (h : k < 2147483648) : nI k = 0 ↔ k = 0 := nI_eq (a := k) (b := 0) h (by omega)
theorem and_lt9 {a T n : Nat} (hn : n ≤ 9) (hT : T < 2 ^ (n - 1)) : a &&& T < 2147483648 := Nat.lt_of_le_of_lt Nat.and_le_right (by have := pw hn; omega)
theorem p_isFold7 {n F T : Nat} (hn : n ≤ 9) (hT : T < 2 ^ (n - 1)) {x : Int32} {Q : Int32 → Prop} (h1 : ∀ f, f < 2 ^ (n - 1) → x = nI f → isF F T f → Q 1) (h0 : (∀ f, f < 2 ^ (n - 1) → x = nI f → ¬ isF F T f) → Q 0) : wp_X5_isFold (nI n) (nI F) (nI T) x Q := by
  have hp := pw hn
  unfold wp_X5_isFold
  refine ⟨fun c => h0 (fun f hf e => absurd c (by rw [e]; exact nI_pos (by omega))), fun c => p_limit hn ⟨fun d => h0 (fun f hf e => absurd d (by rw [e]; exact nI_ge hf (by omega))), fun d => ?_⟩⟩
  rw [Int32.lt_iff_toInt_lt, t_0] at c
  rw [Int32.le_iff_toInt_le, t_nI (by omega)] at d
  obtain ⟨f, hf, rfl⟩ := ix (x := x) (N := 2 ^ (n - 1)) (by omega) (by omega)
  rw [nx_xor, nx_and, nI_z (and_lt9 hn hT), isF7]
  refine ⟨fun z => h0 (fun f' hf' e' => ?_), fun z => h1 f hf rfl z⟩
  have : f = f' := (nI_eq (by omega) (by omega)).mp e'
  rw [← this]
  exact z
theorem p_isFold8 {n F T : Nat} (hn : n ≤ 9) (hT : T < 2 ^ (n - 1)) {row : Nat → Int32} (r9 : row ((9 : Int32)).toNatClampNeg = nI F) (r10 : row ((10 : Int32)).toNatClampNeg = nI T) {x : Int32} {Q : Int32 → Prop} (h1 : ∀ f, f < 2 ^ (n - 1) → x = nI f → isF F T f → Q 1) (h0 : (∀ f, f < 2 ^ (n - 1) → x = nI f → ¬ isF F T f) → Q 0) : wp_X8_isFold (nI n) row x Q := by
  have hp := pw hn
  have v10 : vp_in (10 : Int32) 143 := by unfold vp_in; decide
  have v9 : vp_in (9 : Int32) 143 := by unfold vp_in; decide
  unfold wp_X8_isFold
  refine p_folds hn ?_
  rw [show nI (2 ^ (n - 1)) - 1 = nI (2 ^ (n - 1) - 1) from pk_sub (a := 2 ^ (n - 1)) (b := 1) (by omega)]
  refine p_in8 (fun a b => be1 ⟨v10, v9, v10, ?_⟩) (fun c => be0 (h0 (fun f hf e => ?_)))
  · rw [t_0] at a
    rw [t_nI (by omega)] at b
    obtain ⟨f, hf, rfl⟩ := ix (x := x) (N := 2 ^ (n - 1)) (by omega) (by omega)
    rw [r9, r10, nx_and, nx_and]
    have e : (nI (f &&& T) = nI (F &&& T)) ↔ isF F T f := nI_eq (and_lt9 hn hT) (and_lt9 hn hT)
    refine ⟨fun z => h0 (fun f' hf' e' => ?_), fun z => h1 f hf rfl (e.mp z)⟩
    have : f = f' := (nI_eq (by omega) (by omega)).mp e'
    rw [← this]
    exact fun y => z (e.mpr y)
  · rw [e, t_0, t_nI (by omega), t_nI (by omega)] at c
    omega
