/-! the text: how it is gone through -/
def scF (b : Nat → Bool) : Nat → Nat → Nat
  | 0, p => p
  | r + 1, p => if b p = true then scF b r (p + 1) else p
theorem scF_le {b : Nat → Bool} : ∀ (r p : Nat), p ≤ scF b r p ∧ scF b r p ≤ p + r
  | 0, p => ⟨Nat.le_refl p, Nat.le_refl p⟩
  | r + 1, p => by
    have := scF_le (b := b) r (p + 1)
    unfold scF
    split <;> omega
theorem scF_all {b : Nat → Bool} : ∀ (r p j : Nat), p ≤ j → j < scF b r p → b j = true
  | 0, p, j, h1, h2 => absurd h2 (Nat.not_lt.mpr h1)
  | r + 1, p, j, h1, h2 => by
    unfold scF at h2
    by_cases q : b p = true
    · rw [if_pos q] at h2
      by_cases z : j = p
      · rw [z]; exact q
      · exact scF_all r (p + 1) j (by omega) h2
    · rw [if_neg q] at h2; omega
theorem scF_end {b : Nat → Bool} : ∀ (r p : Nat), b (scF b r p) = false ∨ scF b r p = p + r
  | 0, p => Or.inr rfl
  | r + 1, p => by
    unfold scF
    by_cases q : b p = true
    · rw [if_pos q]
      rcases scF_end (b := b) r (p + 1) with z | z
      · exact Or.inl z
      · exact Or.inr (by omega)
    · rw [if_neg q]
      exact Or.inl (by cases h : b p with
        | true => exact absurd h q
        | false => rfl)
def sc (b : Nat → Bool) (L p : Nat) : Nat := scF b (L - p) p
theorem sc_go {b : Nat → Bool} {L p : Nat} (h : b p = true) (hp : p < L) : sc b L p = sc b L (p + 1) := by
  unfold sc
  rw [show L - p = (L - (p + 1)) + 1 by omega]
  exact if_pos h
theorem sc_no {b : Nat → Bool} {L p : Nat} (h : b p = false) : sc b L p = p := by
  unfold sc
  cases L - p with
  | zero => rfl
  | succ r => exact if_neg (by rw [h]; decide)
theorem sc_ge {b : Nat → Bool} {L p : Nat} : p ≤ sc b L p := (scF_le (L - p) p).1
theorem sc_le {b : Nat → Bool} {L p : Nat} (h : p ≤ L) : sc b L p ≤ L := by
  have := (scF_le (b := b) (L - p) p).2
  unfold sc
  omega
theorem sc_end {b : Nat → Bool} {L p : Nat} (h : p ≤ L) (hb : ∀ j, b j = true → j < L) : b (sc b L p) = false := by
  rcases scF_end (b := b) (L - p) p with q | q
  · exact q
  · unfold sc
    cases z : b (scF b (L - p) p) with
    | false => rfl
    | true => have := hb _ z; omega
def blB (t : Nat → Int32) (L p : Nat) : Bool := decide (p < L ∧ t p = 32)
def dgB (t : Nat → Int32) (L p : Nat) : Bool := decide (p < L ∧ 48 ≤ (t p).toInt ∧ (t p).toInt ≤ 57)
def sk (t : Nat → Int32) (L p : Nat) : Nat := sc (blB t L) L p
def de (t : Nat → Int32) (L p : Nat) : Nat := sc (dgB t L) L p
theorem blB_lt {t : Nat → Int32} {L j : Nat} (h : blB t L j = true) : j < L := (of_decide_eq_true h).1
theorem dgB_lt {t : Nat → Int32} {L j : Nat} (h : dgB t L j = true) : j < L := (of_decide_eq_true h).1
theorem sk_ge {t : Nat → Int32} {L p : Nat} : p ≤ sk t L p := sc_ge
theorem sk_le {t : Nat → Int32} {L p : Nat} (h : p ≤ L) : sk t L p ≤ L := sc_le h
theorem de_ge {t : Nat → Int32} {L p : Nat} : p ≤ de t L p := sc_ge
theorem de_le {t : Nat → Int32} {L p : Nat} (h : p ≤ L) : de t L p ≤ L := sc_le h
/-- a figure's value -/
def dv (t : Nat → Int32) (j : Nat) : Nat := ((t j).toInt - 48).toNat
theorem dv_i {t : Nat → Int32} {L j : Nat} (h : dgB t L j = true) : t j = nI (48 + dv t j) ∧ dv t j ≤ 9 := by
  obtain ⟨h1, h2, h3⟩ := of_decide_eq_true h
  unfold dv
  refine ⟨?_, by omega⟩
  rw [nI_i, show ((48 + ((t j).toInt - 48).toNat : Nat) : Int) = (t j).toInt by omega]
  exact (Int32.ofInt_toInt _).symm
theorem p_here {L p : Nat} {t : Nat → Int32} (hL : L ≤ 90) (hp : p ≤ 200) {Q : Int32 → Prop} (h1 : p < L → Q (t p)) (h0 : L ≤ p → Q (-9)) : wp_X6_letterHere (nI L) (nI p) t Q := by
  unfold wp_X6_letterHere
  refine ⟨fun q => absurd q (nI_pos (by omega)), fun _ => ?_⟩
  rw [nI_leI (by omega) (by omega), nI_clamp (by omega)]
  exact ⟨fun q => h0 q, fun q => ⟨vp_in_nI (by omega) (by omega), h1 (by omega)⟩⟩
theorem p_skip7 {L p : Nat} {t : Nat → Int32} (hL : L ≤ 90) (hp : p ≤ L) {Q : Int32 → Prop} (hQ : Q (nI (sk t L p))) : wp_X6_skipBlanks (nI L) (nI p) t Q := by
  have key : ∀ (r p : Nat), p + r = L → Q (nI (sk t L p)) → itr1 (B_X6_skipBlanks_0 (nI L) t Q) (r + 1) (nI p) := by
    intro r
    induction r with
    | zero =>
      intro p hp hq
      have e : p = L := by omega
      subst e
      rw [show sk t p p = p from sc_no (decide_eq_false (by omega))] at hq
      show B_X6_skipBlanks_0 _ _ _ _ _
      unfold B_X6_skipBlanks_0
      exact ⟨fun _ => hq, fun q => absurd (nI_le (Nat.le_refl p) (by omega)) q⟩
    | succ r ih =>
      intro p hp hq
      show B_X6_skipBlanks_0 _ _ _ _ _
      generalize itr1 (B_X6_skipBlanks_0 (nI L) t Q) (r + 1) = K at ih ⊢
      unfold B_X6_skipBlanks_0
      refine ⟨fun q => absurd q (nI_ge (by omega) (by omega)), fun _ => p_here hL (by omega) (fun hl => ⟨fun q => ?_, fun q y e => ?_⟩) (fun hl => absurd hl (by omega))⟩
      · rw [show sk t L p = p from sc_no (decide_eq_false (fun z => q z.2))] at hq
        exact hq
      · rw [show sk t L p = sk t L (p + 1) from sc_go (decide_eq_true ⟨by omega, q⟩) (by omega)] at hq
        rw [e, nI_1]
        exact ih (p + 1) (by omega) hq
  unfold wp_X6_skipBlanks
  exact ⟨_, key (L - p) p (by omega) hQ⟩
/-- a number as it must be -/
def num (t : Nat → Int32) (L q : Nat) : Option Nat := if dgB t L q = true then (if de t L q = q + 1 then some (dv t q) else if de t L q = q + 2 ∧ dv t q ≠ 0 then some (10 * dv t q + dv t (q + 1)) else none) else none
def nv : Option Nat → Int32
  | none => -9
  | some x => nI x
theorem num_b {t : Nat → Int32} {L q x : Nat} (h : num t L q = some x) : x ≤ 99 ∧ dgB t L q = true ∧ (de t L q = q + 1 ∨ de t L q = q + 2) := by
  unfold num at h
  by_cases d : dgB t L q = true
  · rw [if_pos d] at h
    have := (dv_i d).2
    by_cases e : de t L q = q + 1
    · rw [if_pos e] at h
      cases h
      exact ⟨by omega, d, Or.inl e⟩
    · rw [if_neg e] at h
      by_cases e2 : de t L q = q + 2 ∧ dv t q ≠ 0
      · rw [if_pos e2] at h
        have d2 : dgB t L (q + 1) = true := scF_all (L - q) q (q + 1) (by omega) (by have e3 := e2.1; unfold de sc at e3; omega)
        have := (dv_i d2).2
        cases h
        exact ⟨by omega, d, Or.inr e2.1⟩
      · rw [if_neg e2] at h; cases h
  · rw [if_neg d] at h; cases h
/-- what the class has read of a number -/
def cv (t : Nat → Int32) (q : Nat) : Nat → Nat
  | 0 => 0
  | i + 1 => if 100 < cv t q i * 10 + dv t (q + i) then 100 else cv t q i * 10 + dv t (q + i)
theorem cv_b {t : Nat → Int32} {q : Nat} : ∀ i, cv t q i ≤ 100
  | 0 => Nat.zero_le _
  | i + 1 => by
    unfold cv
    split <;> omega
theorem cv_big {t : Nat → Int32} {q : Nat} (h : dv t q ≠ 0) : ∀ i, cv t q (i + 3) = 100
  | 0 => by
    have e1 : cv t q 1 = if 100 < 0 * 10 + dv t (q + 0) then 100 else 0 * 10 + dv t (q + 0) := rfl
    have e2 : cv t q 2 = if 100 < cv t q 1 * 10 + dv t (q + 1) then 100 else cv t q 1 * 10 + dv t (q + 1) := rfl
    have e3 : cv t q 3 = if 100 < cv t q 2 * 10 + dv t (q + 2) then 100 else cv t q 2 * 10 + dv t (q + 2) := rfl
    rw [Nat.add_zero] at e1
    show cv t q 3 = 100
    rw [e3]
    split at e1 <;> split at e2 <;> split <;> omega
  | i + 1 => by
    have ih := cv_big h i
    have e : cv t q (i + 1 + 3) = if 100 < cv t q (i + 3) * 10 + dv t (q + (i + 3)) then 100 else cv t q (i + 3) * 10 + dv t (q + (i + 3)) := rfl
    rw [e, ih]
    split <;> omega
