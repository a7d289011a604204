/-! an item of the text -/
def fin (t : Nat → Int32) (L s n F T : Nat) (v : Nat → Nat) : Sum Nat (Nat × Nat × Nat × Nat × (Nat → Nat)) := if s < L ∧ t s = 59 then .inr (s + 1, n, F, T, v) else .inl s
def itk (t : Nat → Int32) (L n F T : Nat) (v : Nat → Nat) (q : Nat) : Option Nat → Sum Nat (Nat × Nat × Nat × Nat × (Nat → Nat))
  | none => .inl q
  | some x => if 1 ≤ x ∧ x ≤ 20 then fin t L (sk t L (de t L q)) (n + 1) F T (fun j => if j = n then x else v j) else .inl q
def itj (t : Nat → Int32) (L n F T : Nat) (v : Nat → Nat) (isf : Bool) (q : Nat) : Option Nat → Sum Nat (Nat × Nat × Nat × Nat × (Nat → Nat))
  | none => .inl q
  | some x => if x + 1 < n ∧ (F ||| T).testBit x = false then fin t L (sk t L (de t L q)) n (if isf = true then F ||| 2 ^ x else F) (if isf = true then T else T ||| 2 ^ x) v else .inl q
def item (t : Nat → Int32) (L n F T : Nat) (v : Nat → Nat) (p : Nat) : Sum Nat (Nat × Nat × Nat × Nat × (Nat → Nat)) :=
  if t p = 107 then (if 9 ≤ n then .inl p else itk t L n F T v (sk t L (p + 1)) (num t L (sk t L (p + 1))))
  else if t p = 102 then itj t L n F T v true (sk t L (p + 1)) (num t L (sk t L (p + 1)))
  else if t p = 120 then itj t L n F T v false (sk t L (p + 1)) (num t L (sk t L (p + 1)))
  else .inl p
def OK (n F T : Nat) (v : Nat → Nat) : Prop := n ≤ 9 ∧ F < 2 ^ (n - 1) ∧ T < 2 ^ (n - 1) ∧ ∀ j, j < n → 1 ≤ v j ∧ v j ≤ 20
/-- what an item leaves -/
def OR (L p : Nat) : Sum Nat (Nat × Nat × Nat × Nat × (Nat → Nat)) → Prop
  | .inl f => f ≤ L
  | .inr (p', n', F', T', v') => p < p' ∧ p' ≤ L ∧ OK n' F' T' v'
theorem fin_OR {t : Nat → Int32} {L p s n F T : Nat} {v : Nat → Nat} (hp : p ≤ s) (hs : s ≤ L) (h : OK n F T v) : OR L p (fin t L s n F T v) := by
  unfold fin
  by_cases q : s < L ∧ t s = 59
  · rw [if_pos q]; exact ⟨by omega, by omega, h⟩
  · rw [if_neg q]; exact hs
theorem item_OR {t : Nat → Int32} {L p n F T : Nat} {v : Nat → Nat} (hp : p < L) (h : OK n F T v) : OR L p (item t L n F T v p) := by
  have hq := sk_le (t := t) (show p + 1 ≤ L by omega)
  have hq2 := sk_ge (t := t) (L := L) (p := p + 1)
  have hj : ∀ isf, OR L p (itj t L n F T v isf (sk t L (p + 1)) (num t L (sk t L (p + 1)))) := by
    intro isf
    cases hn : num t L (sk t L (p + 1)) with
    | none => exact hq
    | some x =>
      show OR L p (if x + 1 < n ∧ (F ||| T).testBit x = false then _ else _)
      by_cases q : x + 1 < n ∧ (F ||| T).testBit x = false
      · rw [if_pos q]
        have hd := de_le (t := t) hq
        have hd2 := de_ge (t := t) (L := L) (p := sk t L (p + 1))
        have hs := sk_ge (t := t) (L := L) (p := de t L (sk t L (p + 1)))
        have h2 : 2 ^ x < 2 ^ (n - 1) := Nat.pow_lt_pow_right (by omega) (by omega)
        refine fin_OR (by omega) (sk_le hd) ?_
        cases isf with
        | true => exact ⟨h.1, Nat.or_lt_two_pow h.2.1 h2, h.2.2.1, h.2.2.2⟩
        | false => exact ⟨h.1, h.2.1, Nat.or_lt_two_pow h.2.2.1 h2, h.2.2.2⟩
      · rw [if_neg q]; exact hq
  unfold item
  by_cases c1 : t p = 107
  · rw [if_pos c1]
    by_cases c2 : 9 ≤ n
    · rw [if_pos c2]; exact Nat.le_of_lt hp
    · rw [if_neg c2]
      cases hn : num t L (sk t L (p + 1)) with
      | none => exact hq
      | some x =>
        show OR L p (if 1 ≤ x ∧ x ≤ 20 then _ else _)
        by_cases q : 1 ≤ x ∧ x ≤ 20
        · rw [if_pos q]
          have hd := de_le (t := t) hq
          have hd2 := de_ge (t := t) (L := L) (p := sk t L (p + 1))
          have hs := sk_ge (t := t) (L := L) (p := de t L (sk t L (p + 1)))
          have h2 : 2 ^ (n - 1) ≤ 2 ^ (n + 1 - 1) := Nat.pow_le_pow_right (by omega) (by omega)
          have hF := h.2.1
          have hT := h.2.2.1
          refine fin_OR (by omega) (sk_le hd) ⟨by omega, by omega, by omega, fun j hj => ?_⟩
          show 1 ≤ (if j = n then x else v j) ∧ (if j = n then x else v j) ≤ 20
          by_cases z : j = n
          · rw [if_pos z]; exact q
          · rw [if_neg z]; exact h.2.2.2 j (by omega)
        · rw [if_neg q]; exact hq
  · rw [if_neg c1]
    by_cases c2 : t p = 102
    · rw [if_pos c2]; exact hj true
    · rw [if_neg c2]
      by_cases c3 : t p = 120
      · rw [if_pos c3]; exact hj false
      · rw [if_neg c3]; exact Nat.le_of_lt hp
/-- what is asked of an item's end -/
def RB (B : Nat → Prop) (G : Nat → Nat → Nat → Nat → (Nat → Nat) → Prop) : Sum Nat (Nat × Nat × Nat × Nat × (Nat → Nat)) → Prop
  | .inl f => B f
  | .inr (p', n', F', T', v') => G p' n' F' T' v'
theorem RB_y {B : Nat → Prop} {G : Nat → Nat → Nat → Nat → (Nat → Nat) → Prop} {t : Nat → Int32} {L s n F T : Nat} {v : Nat → Nat} (h : RB B G (fin t L s n F T v)) (h1 : s < L) (h2 : t s = 59) : G (s + 1) n F T v := by
  unfold fin at h
  rw [if_pos ⟨h1, h2⟩] at h
  exact h
theorem RB_n {B : Nat → Prop} {G : Nat → Nat → Nat → Nat → (Nat → Nat) → Prop} {t : Nat → Int32} {L s n F T : Nat} {v : Nat → Nat} (h : RB B G (fin t L s n F T v)) (h1 : ¬ (s < L ∧ t s = 59)) : B s := by
  unfold fin at h
  rw [if_neg h1] at h
  exact h
theorem nvk {t : Nat → Int32} {L q : Nat} : ∀ o : Option Nat, num t L q = o → (∃ x, o = some x ∧ 1 ≤ (nv o).toInt ∧ (nv o).toInt ≤ 20 ∧ 1 ≤ x ∧ x ≤ 20) ∨ (((nv o).toInt < 1 ∨ 20 < (nv o).toInt) ∧ ∀ x, o = some x → ¬ (1 ≤ x ∧ x ≤ 20))
  | none, _ => Or.inr ⟨Or.inl (by decide), fun x h => by cases h⟩
  | some x, h => by
    have hb := (num_b h).1
    have e : (nv (some x)).toInt = (x : Int) := t_nI (by omega)
    rw [e]
    by_cases q : 1 ≤ x ∧ x ≤ 20
    · exact Or.inl ⟨x, rfl, by omega, by omega, q⟩
    · exact Or.inr ⟨by omega, fun y hy => by cases hy; exact q⟩
