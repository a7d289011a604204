theorem tb8_c {t : Nat → Int32} {L p : Nat} {c : Int32} (hp : p < L) (h : t p = c) (hc : 57 < c.toInt) : tb8 t L p = p + 1 := by
  unfold tb8
  rw [if_pos hp, if_neg (by rw [show dgB t L p = false from decide_eq_false (fun z => by rw [h] at z; omega)]; decide)]
theorem or0 (a : Nat) : nI a ||| (0 : Int32) = nI a := by
  rw [show (0 : Int32) = nI 0 from rfl, nx_or, Nat.or_zero]
theorem p_readsJoint {L b n F T : Nat} {v : Nat → Nat} {t : Nat → Int32} {g g2 : Int32} (isf : Bool) (hL : L ≤ 90) (hb : b ≤ L) (hok : OK n F T v) {Q : Int32 → Int32 → Int32 → Int32 → Int32 → Int32 → Prop}
    (hB : (∀ x, num t L (sk t L b) = some x → ¬ (x + 1 < n ∧ (F ||| T).testBit x = false)) → ∀ a b' c d, Q 0 (nI (sk t L b)) a b' c d)
    (hG : ∀ x, num t L (sk t L b) = some x → x + 1 < n → (F ||| T).testBit x = false → Q 1 (nI (sk t L b)) (nI (de t L (sk t L b))) (nI x) (nI (if isf = true then F ||| 2 ^ x else F)) (nI (if isf = true then T else T ||| 2 ^ x))) : wp_X8_readsJoint (nI L) g (nI b) g2 (nI n) (nI F) (nI T) t (bI isf) Q := by
  obtain ⟨hn, hF, hT, hv⟩ := id hok
  have hpw := pw hn
  have hor : F ||| T < 2147483648 := Nat.lt_of_lt_of_le (Nat.or_lt_two_pow hF hT) (by omega)
  have e2 : (nI n - 2).toInt = (n : Int) - 2 := by
    rw [nI_i, show (2 : Int32) = iI 2 from rfl, iI_sub, iI_t (by omega) (by omega)]
  unfold wp_X8_readsJoint
  refine p_reads8 hL hb (fun x hx a b => be1 ?_) (fun h m w => be0 (hB (fun x hx z => h x hx ⟨by rw [t_0]; omega, by rw [e2]; omega⟩) _ _ _ _))
  rw [e2] at b
  have hx9 := (num_b hx).1
  rw [nx_or]
  refine p_has8 (fun hb => be1 (hB (fun y hy z => ?_) _ _ _ _)) (fun hb => be0 ?_)
  · rw [hx] at hy
    cases hy
    rw [bt_nI hor (by omega)] at hb
    exact absurd (hb.symm.trans z.2) (by decide)
  · rw [bt_nI hor (by omega)] at hb
    have hg := hG x hx (by omega) hb
    rw [shl1 (by omega), nx_or, nx_or, or0, or0]
    cases isf with
    | true => exact be1 (fun y e => be1 (fun y2 e2 => by rw [e, e2]; exact hg))
    | false => exact be0 (fun y e => be0 (fun y2 e2 => by rw [e, e2]; exact hg))
theorem p_item8 {L p n F T : Nat} {v : Nat → Nat} {t rL : Nat → Int32} {g beh : Int32} (hL : L ≤ 90) (hp : p < L) (hok : OK n F T v) (hrL : ∀ j, j < n → rL j = nI (v j)) (hbeh : beh = nI (tb8 t L p)) {Q : Int32 → Int32 → Int32 → Int32 → Int32 → Int32 → Int32 → (Nat → Int32) → Prop}
    (h : RB (fun f => ∀ a b c d e w, Q 0 (nI f) a b c d e w) (fun p' n' F' T' v' => ∀ w rL', (∀ j, j < n' → rL' j = nI (v' j)) → Q 1 (nI (p' - 1)) (nI p') w (nI n') (nI F') (nI T') rL') (item t L n F T v p)) : wp_X8_readsItem (nI L) (nI p) beh g (nI n) (nI F) (nI T) t rL Q := by
  obtain ⟨hn, hF, hT, hv⟩ := id hok
  have hq := sk_le (t := t) (show p + 1 ≤ L by omega)
  have hde := de_le (t := t) hq
  have hs := sk_le (t := t) hde
  have tail : ∀ (g w : Int32) (n' F' T' : Nat) (v' : Nat → Nat) (rL' : Nat → Int32), (∀ j, j < n' → rL' j = nI (v' j)) → RB (fun f => ∀ a b c d e w, Q 0 (nI f) a b c d e w) (fun p' n' F' T' v' => ∀ w rL', (∀ j, j < n' → rL' j = nI (v' j)) → Q 1 (nI (p' - 1)) (nI p') w (nI n') (nI F') (nI T') rL') (fin t L (sk t L (de t L (sk t L (p + 1)))) n' F' T' v') →
      (wp_X8_nextToken (nI L) g (nI (de t L (sk t L (p + 1)))) t (fun m34 m35 => (wp_X8_isSign (nI L) m34 t (59 : Int32) (fun r36 => ((r36 = 0 ∨ r36 = 1) ∧ (Q r36 m34 m35 w (nI n') (nI F') (nI T') rL')))))) := by
    intro g w n' F' T' v' rL' hr' hr
    refine p_next hL hde (p_sign hL (by omega) (fun a b => ⟨Or.inr rfl, ?_⟩) (fun c => ⟨Or.inl rfl, RB_n hr c _ _ _ _ _ _⟩))
    have := RB_y hr a b w rL' hr'
    rw [tb8_c a b (by decide)]
    exact this
  have jc : ∀ isf : Bool, RB (fun f => ∀ a b c d e w, Q 0 (nI f) a b c d e w) (fun p' n' F' T' v' => ∀ w rL', (∀ j, j < n' → rL' j = nI (v' j)) → Q 1 (nI (p' - 1)) (nI p') w (nI n') (nI F') (nI T') rL') (itj t L n F T v isf (sk t L (p + 1)) (num t L (sk t L (p + 1)))) →
      ∀ Q' : Int32 → Int32 → Int32 → Int32 → Int32 → Int32 → Prop, ((∀ a b c d e w, Q 0 (nI (sk t L (p + 1))) a b c d e w) → ∀ a b' c d, Q' 0 (nI (sk t L (p + 1))) a b' c d) →
      (∀ x F' T', RB (fun f => ∀ a b c d e w, Q 0 (nI f) a b c d e w) (fun p' n' F' T' v' => ∀ w rL', (∀ j, j < n' → rL' j = nI (v' j)) → Q 1 (nI (p' - 1)) (nI p') w (nI n') (nI F') (nI T') rL') (fin t L (sk t L (de t L (sk t L (p + 1)))) n F' T' v) → Q' 1 (nI (sk t L (p + 1))) (nI (de t L (sk t L (p + 1)))) (nI x) (nI F') (nI T')) →
      wp_X8_readsJoint (nI L) (nI p) (nI (p + 1)) g (nI n) (nI F) (nI T) t (bI isf) Q' := by
    intro isf hr Q' hB hG
    refine p_readsJoint isf hL (by omega) hok (fun hz => hB ?_) (fun x hx a b => hG x _ _ ?_)
    · cases hn2 : num t L (sk t L (p + 1)) with
      | none => rw [hn2] at hr; exact hr
      | some x =>
        rw [hn2] at hr
        have h2 : RB _ _ (if x + 1 < n ∧ (F ||| T).testBit x = false then fin t L (sk t L (de t L (sk t L (p + 1)))) n (if isf = true then F ||| 2 ^ x else F) (if isf = true then T else T ||| 2 ^ x) v else .inl (sk t L (p + 1))) := hr
        rw [if_neg (hz x hn2)] at h2
        exact h2
    · rw [hx] at hr
      have h2 : RB _ _ (if x + 1 < n ∧ (F ||| T).testBit x = false then fin t L (sk t L (de t L (sk t L (p + 1)))) n (if isf = true then F ||| 2 ^ x else F) (if isf = true then T else T ||| 2 ^ x) v else .inl (sk t L (p + 1))) := hr
      rw [if_pos ⟨a, b⟩] at h2
      exact h2
  unfold item at h
  unfold wp_X8_readsItem
  refine p_sign hL (by omega) (fun _ c1 => be1 ?_) (fun c => be0 ?_)
  · rw [hbeh, tb8_c hp c1 (by decide)]
    rw [if_pos c1] at h
    unfold wp_X8_readsLink
    rw [show (nI n = (9 : Int32)) ↔ n = 9 from nI_eq (a := n) (b := 9) (by omega) (by omega)]
    refine ⟨fun z => be0 ⟨Or.inl rfl, ?_⟩, fun z => ?_⟩
    · rw [if_pos (by omega)] at h
      exact h _ _ _ _ _ _
    · rw [if_neg (by omega)] at h
      have t20 : (20 : Int32).toInt = 20 := rfl
      refine p_reads8 hL (by omega) (fun x hx a b => bn1 ⟨vp_in_nI (by omega) (by omega), fun y e => be1 ?_⟩) (fun hz m w => bn0 (be0 ⟨Or.inl rfl, ?_⟩))
      · rw [t_1] at a
        rw [t20] at b
        rw [hx] at h
        have h2 : RB _ _ (if 1 ≤ x ∧ x ≤ 20 then fin t L (sk t L (de t L (sk t L (p + 1)))) (n + 1) F T (fun j => if j = n then x else v j) else .inl (sk t L (p + 1))) := h
        rw [if_pos (by omega)] at h2
        rw [e, nI_1, nI_clamp (by omega)]
        refine tail _ _ (n + 1) F T _ _ (fun j hj => ?_) h2
        rw [upd_eq]
        show _ = nI (if j = n then x else v j)
        by_cases z : j = n
        · rw [if_pos z, if_pos z]
        · rw [if_neg z, if_neg z]; exact hrL j (by omega)
      · cases hn2 : num t L (sk t L (p + 1)) with
        | none => rw [hn2] at h; exact h _ _ _ _ _ _
        | some x =>
          have hz2 := hz x hn2
          rw [t_1, t20] at hz2
          rw [hn2] at h
          have h2 : RB _ _ (if 1 ≤ x ∧ x ≤ 20 then fin t L (sk t L (de t L (sk t L (p + 1)))) (n + 1) F T (fun j => if j = n then x else v j) else .inl (sk t L (p + 1))) := h
          rw [if_neg (by omega)] at h2
          exact h2 _ _ _ _ _ _
  · have c1 : ¬ t p = 107 := fun z => c ⟨hp, z⟩
    rw [if_neg c1] at h
    refine p_sign hL (by omega) (fun _ c2 => be1 ?_) (fun c => be0 ?_)
    · rw [hbeh, tb8_c hp c2 (by decide)]
      rw [if_pos c2] at h
      exact jc true h _ (fun hB a b c d => be0 ⟨Or.inl rfl, hB _ _ _ _ _ _⟩) (fun x F' T' hr => be1 (tail _ _ n F' T' v rL hrL hr))
    · have c2 : ¬ t p = 102 := fun z => c ⟨hp, z⟩
      rw [if_neg c2] at h
      refine p_sign hL (by omega) (fun _ c3 => be1 ?_) (fun c => be0 (be0 ?_))
      · rw [hbeh, tb8_c hp c3 (by decide)]
        rw [if_pos c3] at h
        exact jc false h _ (fun hB a b c d => be0 (be0 (hB _ _ _ _ _ _))) (fun x F' T' hr => be1 (be1 (tail _ _ n F' T' v rL hrL hr)))
      · rw [if_neg (fun z => c ⟨hp, z⟩)] at h
        exact h _ _ _ _ _ _
/-- the whole text: a fault's place, or items and what they tell -/
def RUN (t : Nat → Int32) (L : Nat) : Nat → Nat → Nat → Nat → Nat → Nat → (Nat → Nat) → Sum Nat (Nat × Nat × Nat × Nat × (Nat → Nat))
  | 0, _, it, n, F, T, v => .inr (it, n, F, T, v)
  | r + 1, p, it, n, F, T, v => if sk t L p < L then (match item t L n F T v (sk t L p) with
      | .inl f => .inl f
      | .inr (p', n', F', T', v') => RUN t L r p' (it + 1) n' F' T' v') else .inr (it, n, F, T, v)
theorem RUN_end {t : Nat → Int32} {L r p it n F T : Nat} {v : Nat → Nat} (h : ¬ sk t L p < L) : RUN t L (r + 1) p it n F T v = .inr (it, n, F, T, v) := if_neg h
theorem RUN_go {t : Nat → Int32} {L r p it n F T : Nat} {v : Nat → Nat} (h : sk t L p < L) : RUN t L (r + 1) p it n F T v = (match item t L n F T v (sk t L p) with
      | .inl f => .inl f
      | .inr (p', n', F', T', v') => RUN t L r p' (it + 1) n' F' T' v') := if_pos h
theorem m1 {f : Nat} (h : f ≤ 90) : ¬ nI f = (-1 : Int32) := by
  rw [nI_i, show (-1 : Int32) = iI (-1) from rfl, iI_eq (by omega) (by omega) (by omega) (by omega)]
  omega
theorem p_read7 {L : Nat} {t ln0 : Nat → Int32} {g1 g2 g3 g4 g5 : Int32} (hL : L ≤ 90) {Q : Int32 → Int32 → Int32 → Int32 → Int32 → Int32 → (Nat → Int32) → Prop}
    (hB : ∀ f, f ≤ L → RUN t L 91 0 0 0 0 0 (fun _ => 0) = .inl f → ∀ a b c d e w, Q (nI f) a b c d e w)
    (hG : ∀ it n F T v, it ≤ 91 → OK n F T v → RUN t L 91 0 0 0 0 0 (fun _ => 0) = .inr (it, n, F, T, v) → ∀ p ln, (∀ j, j < n → ln j = nI (v j)) → Q (-1) (nI n) (nI F) (nI T) p (nI it) ln) : wp_X6_readInto g1 g2 g3 (nI L) g4 g5 t ln0 Q := by
  generalize hR0 : RUN t L 91 0 0 0 0 0 (fun _ => 0) = R0 at hB hG
  have key : ∀ (r it p n F T : Nat) (v : Nat → Nat) (ln : Nat → Int32), it + r = 91 → it ≤ p → p ≤ L → OK n F T v → (∀ j, j < n → ln j = nI (v j)) → R0 = RUN t L r p it n F T v → itr7 (B_X6_readInto_16 (nI L) t Q) (r + 1) (nI it) (nI n) (nI F) (nI T) (nI p) (nI it) ln := by
    intro r
    induction r with
    | zero => intro it p n F T v ln h1 h2 h3; omega
    | succ r ih =>
      intro it p n F T v ln h1 h2 h3 hok hln hr
      have hs := sk_le (t := t) h3
      have hs2 := sk_ge (t := t) (L := L) (p := p)
      show B_X6_readInto_16 _ _ _ _ _ _ _ _ _ _ _
      generalize itr7 (B_X6_readInto_16 (nI L) t Q) (r + 1) = K at ih ⊢
      unfold B_X6_readInto_16
      refine ⟨fun q => absurd q (nI_nlt (a := 90) (b := it) (by omega) (by omega)), fun _ => p_skip7 hL h3 ?_⟩
      rw [nI_ltI (by omega) (by omega)]
      refine ⟨fun q => p_item7 hL q hok hln ?_, fun q => ?_⟩
      · have ho := item_OR (t := t) q hok
        rw [RUN_go q] at hr
        cases hi : item t L n F T v (sk t L p) with
        | inl f =>
          rw [hi] at hr ho
          exact fun a b c d e => ⟨fun z => absurd z (m1 (Nat.le_trans ho hL)), fun _ => hB f ho hr _ _ _ _ _ _⟩
        | inr x =>
          obtain ⟨p', n', F', T', v'⟩ := x
          rw [hi] at hr ho
          refine fun ln' hln' => ⟨fun _ y e y2 e2 => ?_, fun z => absurd rfl z⟩
          rw [e, e2, nI_1]
          obtain ⟨o1, o2, o3⟩ := ho
          exact ih (it + 1) p' n' F' T' v' ln' (by omega) (by omega) o2 o3 hln' hr
      · rw [RUN_end q] at hr
        exact hG it n F T v (by omega) hok hr _ _ hln
  unfold wp_X6_readInto wp_X5_makeEmpty
  exact ⟨_, key 91 0 0 0 0 0 (fun _ => 0) ln0 (by omega) (by omega) (by omega) ⟨by omega, by decide, by decide, fun j hj => absurd hj (Nat.not_lt_zero j)⟩ (fun j hj => absurd hj (Nat.not_lt_zero j)) hR0.symm⟩
theorem p_read8 {L : Nat} {t rL0 : Nat → Int32} {g1 g2 g3 g4 g5 g6 : Int32} (hL : L ≤ 90) {Q : Int32 → Int32 → Int32 → Int32 → Int32 → Int32 → Int32 → (Nat → Int32) → Prop}
    (hB : ∀ f, RUN t L 91 0 0 0 0 0 (fun _ => 0) = .inl f → ∀ b c d e w x, Q (-9) (nI f) b c d e w x)
    (hG : ∀ it n F T v, OK n F T v → RUN t L 91 0 0 0 0 0 (fun _ => 0) = .inr (it, n, F, T, v) → ∀ a b c rL, (∀ j, j < n → rL j = nI (v j)) → Q (nI it) a b c (nI n) (nI F) (nI T) rL) : wp_X8_readItems (nI L) g1 g2 g3 g4 g5 g6 t rL0 Q := by
  generalize hR0 : RUN t L 91 0 0 0 0 0 (fun _ => 0) = R0 at hB hG
  have key : ∀ (r it p n F T : Nat) (v : Nat → Nat) (rL : Nat → Int32) (g : Int32), it + r = 91 → it ≤ p → p ≤ L → OK n F T v → (∀ j, j < n → rL j = nI (v j)) → R0 = RUN t L r p it n F T v → itr8 (B_X8_readItems_26 (nI L) t Q) (r + 1) (nI it) (nI (sk t L p)) (nI (tb8 t L (sk t L p))) g (nI n) (nI F) (nI T) rL := by
    intro r
    induction r with
    | zero => intro it p n F T v ln g h1 h2 h3; omega
    | succ r ih =>
      intro it p n F T v rL g h1 h2 h3 hok hrL hr
      have hs := sk_le (t := t) h3
      have hs2 := sk_ge (t := t) (L := L) (p := p)
      show B_X8_readItems_26 _ _ _ _ _ _ _ _ _ _ _ _
      generalize itr8 (B_X8_readItems_26 (nI L) t Q) (r + 1) = K at ih ⊢
      unfold B_X8_readItems_26
      rw [nI_leI (by omega) (by omega)]
      refine ⟨fun q => ?_, fun q => p_item8 hL (by omega) hok hrL rfl ?_⟩
      · rw [RUN_end (by omega)] at hr
        exact hG it n F T v hok hr _ _ _ _ hrL
      · have ho := item_OR (t := t) (show sk t L p < L by omega) hok
        rw [RUN_go (by omega)] at hr
        cases hi : item t L n F T v (sk t L p) with
        | inl f =>
          rw [hi] at hr ho
          exact fun a b c d e w => bn0 (hB f hr _ _ _ _ _ _)
        | inr x =>
          obtain ⟨p', n', F', T', v'⟩ := x
          rw [hi] at hr ho
          obtain ⟨o1, o2, o3⟩ := ho
          refine fun w rL' hrL' => bn1 (fun y e => p_next hL o2 ?_)
          rw [e, nI_1]
          exact ih (it + 1) p' n' F' T' v' rL' w (by omega) (by omega) o2 o3 hrL' hr
  unfold wp_X8_readItems
  exact p_next (b := 0) hL (by omega) ⟨_, key 91 0 0 0 0 0 (fun _ => 0) rL0 g3 (by omega) (by omega) (by omega) ⟨by omega, by decide, by decide, fun j hj => absurd hj (Nat.not_lt_zero j)⟩ (fun j hj => absurd hj (Nat.not_lt_zero j)) hR0.symm⟩
