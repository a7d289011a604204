theorem p_item7 {L p n F T : Nat} {v : Nat → Nat} {t ln : Nat → Int32} (hL : L ≤ 90) (hp : p < L) (hok : OK n F T v) (hln : ∀ j, j < n → ln j = nI (v j)) {Q : Int32 → Int32 → Int32 → Int32 → Int32 → (Nat → Int32) → Prop}
    (h : RB (fun f => ∀ a b c d e, Q (nI f) a b c d e) (fun p' n' F' T' v' => ∀ ln', (∀ j, j < n' → ln' j = nI (v' j)) → Q (-1) (nI p') (nI n') (nI F') (nI T') ln') (item t L n F T v p)) : wp_X6_readItem (nI L) (nI p) t (nI n) (nI F) (nI T) ln Q := by
  obtain ⟨hn, hF, hT, hv⟩ := id hok
  have hpw := pw hn
  have hq := sk_le (t := t) (show p + 1 ≤ L by omega)
  have hde := de_le (t := t) hq
  have hs := sk_le (t := t) hde
  unfold wp_X6_readItem
  refine p_here hL (by omega) (fun _ => ?_) (fun z => absurd z (by omega))
  have tail : ∀ (x n' F' T' : Nat) (v' : Nat → Nat), RB (fun f => ∀ a b c d e, Q (nI f) a b c d e) (fun p' n' F' T' v' => ∀ ln', (∀ j, j < n' → ln' j = nI (v' j)) → Q (-1) (nI p') (nI n') (nI F') (nI T') ln') (fin t L (sk t L (de t L (sk t L (p + 1)))) n' F' T' v') →
      (∀ Q' : Int32 → Int32 → Int32 → (Nat → Int32) → Prop, (∀ ln', (∀ j, j < n' → ln' j = nI (v' j)) → Q' (nI n') (nI F') (nI T') ln') → wp_X6_tell (nI n) (nI F) (nI T) ln (t p) (nI x) Q') →
      (wp_X6_skipBlanks (nI L) (nI (de t L (sk t L (p + 1)))) t (fun m8 => (wp_X6_letterHere (nI L) m8 t (fun r9 => ((r9 = (59 : Int32) → (∀ y10 : Int32, y10 = (m8 + (1 : Int32)) → (wp_X6_tell (nI n) (nI F) (nI T) ln (t p) (nI x) (fun m11 m12 m13 m14 => (Q (-1 : Int32) y10 m11 m12 m13 m14))))) ∧ (¬ r9 = (59 : Int32) → (Q m8 m8 (nI n) (nI F) (nI T) ln))))))) := by
    intro x n' F' T' v' hr ht
    refine p_skip7 hL hde (p_here hL (by omega) (fun hl => ⟨fun q y e => ?_, fun q => ?_⟩) (fun hl => ⟨fun q => absurd q (by decide), fun _ => ?_⟩))
    · rw [e, nI_1]
      exact ht _ (fun ln' hln' => RB_y hr hl q ln' hln')
    · exact RB_n hr (fun z => q z.2) _ _ _ _ _
    · exact RB_n hr (fun z => absurd z.1 (by omega)) _ _ _ _ _
  have jcase : ∀ isf : Bool, ¬ t p = 107 → (isf = true → t p = 102) → (isf = false → ¬ t p = 102) → RB (fun f => ∀ a b c d e, Q (nI f) a b c d e) (fun p' n' F' T' v' => ∀ ln', (∀ j, j < n' → ln' j = nI (v' j)) → Q (-1) (nI p') (nI n') (nI F') (nI T') ln') (itj t L n F T v isf (sk t L (p + 1)) (num t L (sk t L (p + 1)))) →
      (∀ y3 : Int32, y3 = (nI p + (1 : Int32)) → (wp_X6_skipBlanks (nI L) y3 t (fun m4 => (wp_X6_readNumber (nI L) m4 t (fun r5 m6 => (wp_X6_canStand (nI n) (nI F) (nI T) (t p) r5 (fun r7 => ((¬ r7 = 0 → (wp_X6_skipBlanks (nI L) m6 t (fun m8 => (wp_X6_letterHere (nI L) m8 t (fun r9 => ((r9 = (59 : Int32) → (∀ y10 : Int32, y10 = (m8 + (1 : Int32)) → (wp_X6_tell (nI n) (nI F) (nI T) ln (t p) r5 (fun m11 m12 m13 m14 => (Q (-1 : Int32) y10 m11 m12 m13 m14))))) ∧ (¬ r9 = (59 : Int32) → (Q m8 m8 (nI n) (nI F) (nI T) ln)))))))) ∧ (r7 = 0 → (Q m4 m6 (nI n) (nI F) (nI T) ln)))))))))) := by
    intro isf c1 cf cx hr y e
    rw [e, nI_1]
    refine p_skip7 hL (by omega) (p_num7 hL hq ?_)
    unfold wp_X6_canStand
    refine ⟨fun _ => ?_, fun z => absurd z c1⟩
    cases hn2 : num t L (sk t L (p + 1)) with
    | none =>
      rw [hn2] at hr
      exact p_joint7 hn (fun j hj ej => absurd (ej.symm) (ne9 (by omega))) (fun _ => be0 (bn0 (hr _ _ _ _ _)))
    | some x =>
      rw [hn2] at hr
      have hx := (num_b hn2).1
      have h2 : RB _ _ (if x + 1 < n ∧ (F ||| T).testBit x = false then fin t L (sk t L (de t L (sk t L (p + 1)))) n (if isf = true then F ||| 2 ^ x else F) (if isf = true then T else T ||| 2 ^ x) v else .inl (sk t L (p + 1))) := hr
      have hor : F ||| T < 2147483648 := Nat.lt_of_lt_of_le (Nat.or_lt_two_pow hF hT) (by omega)
      refine p_joint7 hn (fun j hj ej => be1 ?_) (fun c => be0 ?_)
      · have ej' : x = j := (nI_eq (by omega) (by omega)).mp ej
        subst ej'
        rw [nx_or]
        refine p_has7 (fun hb => bn1 (bn0 ?_)) (fun hb => bn0 (bn1 ?_))
        · show Q _ _ _ _ _ _
          rw [show nv (some x) = nI x from rfl, bt_nI hor (by omega)] at hb
          rw [if_neg (fun z => absurd (hb.symm.trans z.2) (by decide))] at h2
          exact h2 _ _ _ _ _
        · rw [show nv (some x) = nI x from rfl, bt_nI hor (by omega)] at hb
          rw [if_pos ⟨hj, hb⟩] at h2
          refine tail x _ _ _ _ h2 (fun Q' hQ' => ?_)
          unfold wp_X6_tell
          refine ⟨fun _ => ⟨fun q y e => ?_, fun q y e => ?_⟩, fun z => absurd z c1⟩
          · cases isf with
            | true => exact absurd (cf rfl) q
            | false =>
              rw [e, shl1 (by omega), nx_or]
              exact hQ' ln hln
          · cases isf with
            | false => exact absurd q (cx rfl)
            | true =>
              rw [e, shl1 (by omega), nx_or]
              exact hQ' ln hln
      · rw [show nv (some x) = nI x from rfl, t_nI (by omega)] at c
        rw [if_neg (by omega)] at h2
        exact bn0 (h2 _ _ _ _ _)
  unfold item at h
  unfold wp_X6_canBegin
  by_cases c1 : t p = 107
  · rw [if_pos c1] at h
    refine ⟨fun z => absurd c1 z, fun _ => ?_⟩
    unfold wp_X5_isFull
    rw [show (nI n < (9 : Int32)) ↔ n < 9 from nI_ltI (a := n) (b := 9) (by omega) (by omega)]
    by_cases c2 : 9 ≤ n
    · rw [if_pos c2] at h
      exact ⟨fun z => absurd z (by omega), fun _ => bn1 (bn0 (h _ _ _ _ _))⟩
    · rw [if_neg c2] at h
      refine ⟨fun _ => bn0 (bn1 ?_), fun z => absurd (by omega) z⟩
      rintro y e
      rw [e, nI_1]
      refine p_skip7 hL (by omega) (p_num7 hL hq ?_)
      unfold wp_X6_canStand
      refine ⟨fun z => absurd c1 z, fun _ => ?_⟩
      cases hn2 : num t L (sk t L (p + 1)) with
      | none =>
        rw [hn2] at h
        exact p_in7 (fun a b => absurd a (by decide)) (fun _ => ⟨Or.inl rfl, bn0 (h _ _ _ _ _)⟩)
      | some x =>
        rw [hn2] at h
        have hx := (num_b hn2).1
        have h2 : RB _ _ (if 1 ≤ x ∧ x ≤ 20 then fin t L (sk t L (de t L (sk t L (p + 1)))) (n + 1) F T (fun j => if j = n then x else v j) else .inl (sk t L (p + 1))) := h
        have t20 : (20 : Int32).toInt = 20 := rfl
        refine p_in7 (fun a b => ⟨Or.inr rfl, bn1 ?_⟩) (fun c => ⟨Or.inl rfl, bn0 ?_⟩)
        · rw [show nv (some x) = nI x from rfl, t_nI (by omega)] at a b
          rw [t_1] at a
          rw [t20] at b
          rw [if_pos (by omega)] at h2
          refine tail x _ _ _ _ h2 (fun Q' hQ' => ?_)
          unfold wp_X6_tell
          refine ⟨fun z => absurd c1 z, fun _ => ?_⟩
          unfold wp_X5_addLink wp_X5_isFull
          rw [show (nI n < (9 : Int32)) ↔ n < 9 from nI_ltI (a := n) (b := 9) (by omega) (by omega)]
          refine ⟨fun _ => bn0 ⟨vp_in_nI (by omega) (by omega), fun y e => ?_⟩, fun z => absurd (by omega) z⟩
          rw [e, nI_1, nI_clamp (by omega)]
          refine hQ' _ (fun j hj => ?_)
          rw [upd_eq]
          show _ = nI (if j = n then x else v j)
          by_cases z : j = n
          · rw [if_pos z, if_pos z]
          · rw [if_neg z, if_neg z]; exact hln j (by omega)
        · rw [show nv (some x) = nI x from rfl, t_nI (by omega), t_1, t20] at c
          rw [if_neg (by omega)] at h2
          exact h2 _ _ _ _ _
  · rw [if_neg c1] at h
    refine ⟨fun _ => ?_, fun z => absurd z c1⟩
    by_cases c2 : t p = 102
    · rw [if_pos c2] at h
      exact ⟨fun _ => bn1 (jcase true c1 (fun _ => c2) (fun z => absurd z (by decide)) h), fun z => absurd c2 z⟩
    · rw [if_neg c2] at h
      refine ⟨fun z => absurd z c2, fun _ => ?_⟩
      by_cases c3 : t p = 120
      · rw [if_pos c3] at h
        exact ⟨fun z => absurd c3 z, fun _ => bn1 (jcase false c1 (fun z => absurd z (by decide)) (fun _ => c2) h)⟩
      · rw [if_neg c3] at h
        exact ⟨fun _ => bn0 (h _ _ _ _ _), fun z => absurd z c3⟩
