/-! odds: weights of folds -/
def SM (g : Nat → Nat) : Nat → Nat
  | 0 => 0
  | k + 1 => SM g k + g k
theorem SM_congr {g h : Nat → Nat} : ∀ (k : Nat), (∀ i, i < k → g i = h i) → SM g k = SM h k
  | 0, _ => rfl
  | k + 1, e => by
    show SM g k + g k = SM h k + h k
    rw [SM_congr k (fun i hi => e i (by omega)), e k (by omega)]
theorem SM_le {g h : Nat → Nat} : ∀ (k : Nat), (∀ i, i < k → g i ≤ h i) → SM g k ≤ SM h k
  | 0, _ => Nat.le_refl 0
  | k + 1, e => Nat.add_le_add (SM_le k (fun i hi => e i (by omega))) (e k (by omega))
theorem SM_add {g : Nat → Nat} (a : Nat) : ∀ (b : Nat), SM g (a + b) = SM g a + SM (fun i => g (a + i)) b
  | 0 => rfl
  | b + 1 => by
    show SM g (a + b) + g (a + b) = SM g a + (SM (fun i => g (a + i)) b + g (a + b))
    rw [SM_add a b, Nat.add_assoc]
theorem SM_mul {g : Nat → Nat} (c : Nat) : ∀ (k : Nat), SM (fun i => g i * c) k = SM g k * c
  | 0 => (Nat.zero_mul c).symm
  | k + 1 => by
    show SM (fun i => g i * c) k + g k * c = (SM g k + g k) * c
    rw [SM_mul c k, Nat.add_mul]
/-- the weight of a fold's first joints -/
def wf (x T f j : Nat) : Nat := if T.testBit j = true then 1 else if f.testBit j = true then x else 10 - x
def PW (x T f : Nat) : Nat → Nat
  | 0 => 1
  | j + 1 => PW x T f j * wf x T f j
/-- the first joints that are stiff are as they are -/
def agK (F T f : Nat) : Nat → Bool
  | 0 => true
  | k + 1 => agK F T f k && (!T.testBit k || (f.testBit k == F.testBit k))
theorem PW_congr {x T f g : Nat} : ∀ (k : Nat), (∀ i, i < k → f.testBit i = g.testBit i) → PW x T f k = PW x T g k
  | 0, _ => rfl
  | k + 1, e => by
    show PW x T f k * wf x T f k = PW x T g k * wf x T g k
    rw [PW_congr k (fun i hi => e i (by omega))]
    unfold wf
    rw [e k (by omega)]
theorem agK_congr {F T f g : Nat} : ∀ (k : Nat), (∀ i, i < k → f.testBit i = g.testBit i) → agK F T f k = agK F T g k
  | 0, _ => rfl
  | k + 1, e => by
    show (agK F T f k && (!T.testBit k || (f.testBit k == F.testBit k))) = (agK F T g k && (!T.testBit k || (g.testBit k == F.testBit k)))
    rw [agK_congr k (fun i hi => e i (by omega)), e k (by omega)]
/-- joints that are free among the first -/
def fr (T : Nat) : Nat → Nat
  | 0 => 0
  | k + 1 => fr T k + (if T.testBit k = true then 0 else 1)
def tK (x F T k f : Nat) : Nat := if agK F T f k = true then PW x T f k else 0
theorem tK_s {x F T k f : Nat} : tK x F T (k + 1) f = tK x F T k f * (if (!T.testBit k || (f.testBit k == F.testBit k)) = true then wf x T f k else 0) := by
  unfold tK
  have e : agK F T f (k + 1) = (agK F T f k && (!T.testBit k || (f.testBit k == F.testBit k))) := rfl
  have e2 : PW x T f (k + 1) = PW x T f k * wf x T f k := rfl
  rw [e, e2]
  cases agK F T f k <;> cases (!T.testBit k || (f.testBit k == F.testBit k)) <;> simp
theorem SM_all {x F T : Nat} (hx : x ≤ 10) : ∀ (k : Nat), SM (tK x F T k) (2 ^ k) = 10 ^ fr T k
  | 0 => rfl
  | k + 1 => by
    have ih := SM_all (x := x) (F := F) (T := T) hx k
    rw [show 2 ^ (k + 1) = 2 ^ k + 2 ^ k by rw [Nat.pow_succ]; omega, SM_add]
    have h1 : SM (tK x F T (k + 1)) (2 ^ k) = SM (fun f => tK x F T k f * (if (!T.testBit k || (false == F.testBit k)) = true then (if T.testBit k = true then 1 else 10 - x) else 0)) (2 ^ k) := by
      refine SM_congr _ (fun f hf => ?_)
      rw [tK_s]
      unfold wf
      rw [Nat.testBit_lt_two_pow hf]
      simp
    have h2 : SM (fun i => tK x F T (k + 1) (2 ^ k + i)) (2 ^ k) = SM (fun f => tK x F T k f * (if (!T.testBit k || (true == F.testBit k)) = true then (if T.testBit k = true then 1 else x) else 0)) (2 ^ k) := by
      refine SM_congr _ (fun f hf => ?_)
      have hb : ∀ i, i < k → (2 ^ k + f).testBit i = f.testBit i := fun i hi => Nat.testBit_two_pow_add_gt hi f
      have hk : (2 ^ k + f).testBit k = true := by rw [Nat.testBit_two_pow_add_eq, Nat.testBit_lt_two_pow hf]; rfl
      have e : tK x F T k (2 ^ k + f) = tK x F T k f := by
        unfold tK
        rw [agK_congr k hb, PW_congr k hb]
      show tK x F T (k + 1) (2 ^ k + f) = _
      rw [tK_s, e]
      unfold wf
      rw [hk]
      simp
    rw [h1, h2, SM_mul, SM_mul, ih, ← Nat.mul_add]
    show _ = 10 ^ (fr T k + (if T.testBit k = true then 0 else 1))
    cases T.testBit k <;> cases F.testBit k <;> simp
    · rw [Nat.pow_succ]; congr 1; omega
    · rw [Nat.pow_succ]; congr 1; omega
theorem agK_t {F T f : Nat} : ∀ (k : Nat), agK F T f k = true ↔ ∀ i, i < k → T.testBit i = true → f.testBit i = F.testBit i
  | 0 => ⟨fun _ i hi => absurd hi (Nat.not_lt_zero i), fun _ => rfl⟩
  | k + 1 => by
    have ih := agK_t (F := F) (T := T) (f := f) k
    show (agK F T f k && (!T.testBit k || (f.testBit k == F.testBit k))) = true ↔ _
    rw [Bool.and_eq_true, ih]
    constructor
    · rintro ⟨a, b⟩ i hi ht
      by_cases q : i = k
      · subst q
        rw [ht] at b
        simpa using b
      · exact a i (by omega) ht
    · intro a
      refine ⟨fun i hi => a i (by omega), ?_⟩
      cases ht : T.testBit k with
      | false => rfl
      | true => rw [a k (by omega) ht]; simp
theorem fB_ag {F T f k : Nat} (hT : T < 2 ^ k) : fB F T f = agK F T f k := by
  have e : (fB F T f = true) ↔ (agK F T f k = true) := by
    rw [agK_t]
    unfold fB
    rw [decide_eq_true_iff]
    constructor
    · intro h i hi ht
      have := congrArg (fun z => z.testBit i) h
      simp only [Nat.testBit_and, ht, Bool.and_true] at this
      exact this
    · intro h
      apply Nat.eq_of_testBit_eq
      intro i
      rw [Nat.testBit_and, Nat.testBit_and]
      cases ht : T.testBit i with
      | false => rw [Bool.and_false, Bool.and_false]
      | true =>
        rcases Nat.lt_or_ge i k with q | q
        · rw [h i q ht]
        · rw [Nat.testBit_lt_two_pow (Nat.lt_of_lt_of_le hT (Nat.pow_le_pow_right (by omega) q))] at ht
          cases ht
  cases h1 : fB F T f <;> cases h2 : agK F T f k <;> simp_all
/-- free joints that are folded -/
def fo (T f : Nat) : Nat → Nat
  | 0 => 0
  | k + 1 => fo T f k + (if T.testBit k = true then 0 else if f.testBit k = true then 1 else 0)
theorem fo_le {T f : Nat} : ∀ k, fo T f k ≤ fr T k
  | 0 => Nat.le_refl 0
  | k + 1 => by
    have := fo_le (T := T) (f := f) k
    show fo T f k + (if T.testBit k = true then 0 else if f.testBit k = true then 1 else 0) ≤ fr T k + (if T.testBit k = true then 0 else 1)
    cases T.testBit k <;> cases f.testBit k <;> simp <;> omega
theorem PW_fo {x T f : Nat} : ∀ k, PW x T f k = x ^ fo T f k * (10 - x) ^ (fr T k - fo T f k)
  | 0 => rfl
  | k + 1 => by
    have ih := PW_fo (x := x) (T := T) (f := f) k
    have hle := fo_le (T := T) (f := f) k
    show PW x T f k * wf x T f k = x ^ (fo T f k + (if T.testBit k = true then 0 else if f.testBit k = true then 1 else 0)) * (10 - x) ^ (fr T k + (if T.testBit k = true then 0 else 1) - (fo T f k + (if T.testBit k = true then 0 else if f.testBit k = true then 1 else 0)))
    rw [ih]
    unfold wf
    cases T.testBit k with
    | true => rw [if_pos rfl, if_pos rfl, if_pos rfl, Nat.mul_one, Nat.add_zero, Nat.add_zero]
    | false =>
      cases f.testBit k with
      | true =>
        show x ^ fo T f k * (10 - x) ^ (fr T k - fo T f k) * x = x ^ (fo T f k + 1) * (10 - x) ^ (fr T k + 1 - (fo T f k + 1))
        rw [show fr T k + 1 - (fo T f k + 1) = fr T k - fo T f k by omega, Nat.pow_succ, Nat.mul_right_comm]
      | false =>
        show x ^ fo T f k * (10 - x) ^ (fr T k - fo T f k) * (10 - x) = x ^ fo T f k * (10 - x) ^ (fr T k + 1 - fo T f k)
        rw [show fr T k + 1 - fo T f k = (fr T k - fo T f k) + 1 by omega, Nat.pow_succ, Nat.mul_assoc]
theorem tb (a j : Nat) : a / 2 ^ j % 2 = (if a.testBit j = true then 1 else 0) := by
  rw [Nat.testBit_eq_decide_div_mod_eq]
  by_cases q : a / 2 ^ j % 2 = 1
  · rw [if_pos (decide_eq_true q), q]
  · rw [if_neg (by rw [decide_eq_false q]; decide)]; omega
theorem pc_up {a k : Nat} (ha : a < 2 ^ k) : ∀ r, pcU a (k + r) = pcU a k
  | 0 => rfl
  | r + 1 => by
    show pcU a (k + r) + a / 2 ^ (k + r) % 2 = _
    rw [tb, Nat.testBit_lt_two_pow (Nat.lt_of_lt_of_le ha (Nat.pow_le_pow_right (by omega) (by omega))), pc_up ha r]
    rfl
theorem pc_fr {T : Nat} : ∀ k, pcU T k + fr T k = k
  | 0 => rfl
  | k + 1 => by
    have := pc_fr (T := T) k
    show pcU T k + T / 2 ^ k % 2 + (fr T k + (if T.testBit k = true then 0 else 1)) = k + 1
    rw [tb]
    cases T.testBit k <;> simp <;> omega
theorem pc_fo {T f : Nat} : ∀ k, pcU (f ^^^ (f &&& T)) k = fo T f k
  | 0 => rfl
  | k + 1 => by
    have := pc_fo (T := T) (f := f) k
    show pcU (f ^^^ (f &&& T)) k + (f ^^^ (f &&& T)) / 2 ^ k % 2 = fo T f k + (if T.testBit k = true then 0 else if f.testBit k = true then 1 else 0)
    rw [tb, this, Nat.testBit_xor, Nat.testBit_and]
    cases T.testBit k <;> cases f.testBit k <;> simp
