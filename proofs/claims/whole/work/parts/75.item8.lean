theorem p_fig {L p : Nat} {t : Nat → Int32} (hL : L ≤ 90) (hp : p ≤ 200) {Q : Int32 → Prop} (h1 : dgB t L p = true → Q 1) (h0 : dgB t L p = false → Q 0) : wp_X8_isFigure (nI L) t (nI p) Q := by
  unfold wp_X8_isFigure
  rw [nI_leI (by omega) (by omega), nI_clamp (by omega)]
  refine ⟨fun q => h0 (decide_eq_false (by omega)), fun q => ⟨vp_in_nI (by omega) (by omega), p_in8 (fun a b => be1 (h1 (decide_eq_true ⟨by omega, a, b⟩))) (fun c => be0 (h0 (decide_eq_false (fun z => ?_))))⟩⟩
  have c' : (t p).toInt < 48 ∨ 57 < (t p).toInt := c
  omega
theorem p_sign {L p : Nat} {t : Nat → Int32} {c : Int32} (hL : L ≤ 90) (hp : p ≤ 200) {Q : Int32 → Prop} (h1 : p < L → t p = c → Q 1) (h0 : ¬ (p < L ∧ t p = c) → Q 0) : wp_X8_isSign (nI L) (nI p) t c Q := by
  unfold wp_X8_isSign
  rw [nI_leI (by omega) (by omega), nI_clamp (by omega)]
  exact ⟨fun q => h0 (by omega), fun q => ⟨vp_in_nI (by omega) (by omega), fun z => h0 (fun w => z w.2), fun z => h1 (by omega) z⟩⟩
/-- behind a token -/
def tb8 (t : Nat → Int32) (L a : Nat) : Nat := if a < L then (if dgB t L a = true then de t L (a + 1) else a + 1) else a
theorem p_beh {L a : Nat} {t : Nat → Int32} (hL : L ≤ 90) (ha : a ≤ L) {Q : Int32 → Int32 → Prop} : ∀ (r b : Nat), b + r = L → (dgB t L a = true → Q (nI a) (nI (de t L b))) → (dgB t L a = false → Q (nI a) (nI b)) → itr1 (B_X8_nextToken_74 (nI L) (nI a) t Q) (r + 1) (nI b) := by
  intro r
  induction r with
  | zero =>
    intro b hb h1 h0
    have e : b = L := by omega
    subst e
    have hd : dgB t b b = false := decide_eq_false (by omega)
    rw [show de t b b = b from sc_no hd] at h1
    show B_X8_nextToken_74 _ _ _ _ _ _
    unfold B_X8_nextToken_74
    exact p_fig hL (by omega) (fun d => be1 (p_fig hL (by omega) (fun d2 => absurd (hd.symm.trans d2) (by decide)) (fun _ => be0 (h1 d)))) (fun d => be0 (h0 d))
  | succ r ih =>
    intro b hb h1 h0
    show B_X8_nextToken_74 _ _ _ _ _ _
    generalize itr1 (B_X8_nextToken_74 (nI L) (nI a) t Q) (r + 1) = K at ih ⊢
    unfold B_X8_nextToken_74
    refine p_fig hL (by omega) (fun d => be1 (p_fig hL (by omega) (fun d2 => be1 (fun y e => ?_)) (fun d2 => be0 ?_))) (fun d => be0 (h0 d))
    · rw [show de t L b = de t L (b + 1) from sc_go d2 (by omega)] at h1
      rw [e, nI_1]
      exact ih (b + 1) (by omega) h1 (fun z => absurd (d.symm.trans z) (by decide))
    · have := h1 d
      rw [show de t L b = b from sc_no d2] at this
      exact this
theorem p_next {L b : Nat} {t : Nat → Int32} {g : Int32} (hL : L ≤ 90) (hb : b ≤ L) {Q : Int32 → Int32 → Prop} (hQ : Q (nI (sk t L b)) (nI (tb8 t L (sk t L b)))) : wp_X8_nextToken (nI L) g (nI b) t Q := by
  have tok : ∀ a, a < L → Q (nI a) (nI (tb8 t L a)) → ∃ n : Nat, itr1 (B_X8_nextToken_74 (nI L) (nI a) t Q) n (nI (a + 1)) := by
    intro a ha hq
    unfold tb8 at hq
    rw [if_pos ha] at hq
    refine ⟨_, p_beh hL (by omega) (L - (a + 1)) (a + 1) (by omega) (fun d => ?_) (fun d => ?_)⟩
    · rw [if_pos d] at hq; exact hq
    · rw [if_neg (by rw [d]; decide)] at hq; exact hq
  have key : ∀ (r p : Nat), p + r = L → Q (nI (sk t L p)) (nI (tb8 t L (sk t L p))) → itr1 (B_X8_nextToken_8 (nI L) t Q) (r + 1) (nI p) := by
    intro r
    induction r with
    | zero =>
      intro p hp hq
      have e : p = L := by omega
      subst e
      have hd : dgB t p p = false := decide_eq_false (by omega)
      rw [show sk t p p = p from sc_no (decide_eq_false (by omega))] at hq
      have hq2 : Q (nI p) (nI p) := by
        unfold tb8 at hq
        rw [if_neg (by omega)] at hq
        exact hq
      show B_X8_nextToken_8 _ _ _ _ _
      unfold B_X8_nextToken_8
      have hle := nI_le (Nat.le_refl p) (show p < 2 ^ 31 by omega)
      exact ⟨fun _ => ⟨fun _ => ⟨_, p_beh hL (by omega) 0 p (by omega) (fun d => absurd (hd.symm.trans d) (by decide)) (fun _ => hq2)⟩, fun q => absurd hle q⟩, fun q => absurd hle q⟩
    | succ r ih =>
      intro p hp hq
      show B_X8_nextToken_8 _ _ _ _ _
      generalize itr1 (B_X8_nextToken_8 (nI L) t Q) (r + 1) = K at ih ⊢
      unfold B_X8_nextToken_8
      rw [nI_leI (by omega) (by omega), nI_clamp (by omega), nI_1]
      refine ⟨fun q => absurd q (by omega), fun _ => ⟨vp_in_nI (by omega) (by omega), fun q => ⟨fun z => absurd z (by omega), fun _ y e => ?_⟩, fun q y e => ?_⟩⟩
      · rw [show sk t L p = p from sc_no (decide_eq_false (fun z => q z.2))] at hq
        rw [e]
        exact tok p (by omega) hq
      · rw [show sk t L p = sk t L (p + 1) from sc_go (decide_eq_true ⟨by omega, q⟩) (by omega)] at hq
        rw [e]
        exact ih (p + 1) (by omega) hq
  unfold wp_X8_nextToken
  exact ⟨_, key (L - b) b (by omega) hQ⟩
theorem p_reads8 {L b : Nat} {t : Nat → Int32} {g g2 x1 x2 : Int32} (hL : L ≤ 90) (hb : b ≤ L) {Q : Int32 → Int32 → Int32 → Int32 → Prop}
    (h1 : ∀ x, num t L (sk t L b) = some x → x1.toInt ≤ (x : Int) → (x : Int) ≤ x2.toInt → Q 1 (nI (sk t L b)) (nI (de t L (sk t L b))) (nI x)) (h0 : (∀ x, num t L (sk t L b) = some x → ¬ (x1.toInt ≤ (x : Int) ∧ (x : Int) ≤ x2.toInt)) → ∀ m w, Q 0 (nI (sk t L b)) m w) : wp_X8_readsNumber (nI L) g (nI b) g2 t x1 x2 Q := by
  have hq := sk_le (t := t) hb
  unfold wp_X8_readsNumber
  refine p_next hL hb ?_
  generalize sk t L b = q at hq h1 h0 ⊢
  have hde := de_le (t := t) hq
  have hdg := de_ge (t := t) (L := L) (p := q)
  refine p_fig hL (by omega) (fun d => be1 ?_) (fun d => be0 (h0 (fun x hx => absurd ((num_b hx).2.1.symm.trans d) (by decide)) _ _))
  have hql := dgB_lt d
  have e1 : de t L q = de t L (q + 1) := sc_go d hql
  have hdg2 := de_ge (t := t) (L := L) (p := q + 1)
  have etb : tb8 t L q = de t L q := by unfold tb8; rw [if_pos hql, if_pos d, e1]
  have dq := dv_i d
  rw [etb, pk_sub hdg]
  have c2 : ((2 : Int32) < nI (de t L q - q)) ↔ 2 < de t L q - q := nI_ltI (a := 2) (by omega) (by omega)
  have c3 : (nI (de t L q - q) = (2 : Int32)) ↔ de t L q - q = 2 := nI_eq (b := 2) (by omega) (by omega)
  have ev : t q - 48 = nI (dv t q) := by
    rw [dq.1, show (48 : Int32) = nI 48 from rfl, pk_sub (by omega), Nat.add_sub_cancel_left]
  have h48 : (t q = 48) ↔ dv t q = 0 := by
    rw [dq.1]
    have : (nI (48 + dv t q) = (48 : Int32)) ↔ 48 + dv t q = 48 := nI_eq (a := 48 + dv t q) (b := 48) (by omega) (by omega)
    rw [this]
    omega
  rw [c2, c3, nI_clamp (n := q) (by omega), nI_1, nI_clamp (n := q + 1) (by omega), h48, ev]
  have vq : vp_in (nI q) 90 := vp_in_nI (by omega) (by omega)
  refine ⟨fun z => ?_, fun z => ⟨fun z2 => ⟨vq, fun y e => ⟨fun _ => ?_, fun z3 => absurd z3 z2⟩⟩, fun z2 => ⟨vq, fun z3 => ⟨vq, fun y e => ⟨fun z4 => absurd z2 z4, fun _ => ?_⟩⟩, fun z3 => ?_⟩⟩⟩
  · have en : num t L q = none := by unfold num; rw [if_pos d, if_neg (by omega), if_neg (by omega)]
    exact h0 (fun x hx => by rw [en] at hx; cases hx) _ _
  · have en : num t L q = some (dv t q) := by unfold num; rw [if_pos d, if_pos (by omega)]
    rw [e]
    refine p_in8 (fun a b => ⟨Or.inr rfl, ?_⟩) (fun c => ⟨Or.inl rfl, h0 (fun x hx => ?_) _ _⟩)
    · rw [t_nI (by omega)] at a b
      exact h1 _ en a b
    · rw [en] at hx
      cases hx
      rw [t_nI (by omega)] at c
      omega
  · have e2 : de t L q = q + 2 := by omega
    unfold de sc at e2
    have d2 : dgB t L (q + 1) = true := scF_all (L - q) q (q + 1) (by omega) (by omega)
    have dq2 := dv_i d2
    have hl2 := dgB_lt d2
    have en : num t L q = some (10 * dv t q + dv t (q + 1)) := by unfold num; rw [if_pos d, if_neg (by omega), if_pos ⟨by omega, z3⟩]
    refine ⟨vp_in_nI (by omega) (by omega), fun y6 e6 => ?_⟩
    have f6 : y6 = nI (10 * dv t q + dv t (q + 1)) := by
      rw [e6, e, dq2.1, show (10 : Int32) = nI 10 from rfl, show (48 : Int32) = nI 48 from rfl, pk_mul, nI_add, pk_sub (by omega)]
      congr 1; omega
    rw [f6]
    refine p_in8 (fun a b => ⟨Or.inr rfl, ?_⟩) (fun c => ⟨Or.inl rfl, h0 (fun x hx => ?_) _ _⟩)
    · rw [t_nI (by omega)] at a b
      exact h1 _ en a b
    · rw [en] at hx
      cases hx
      rw [t_nI (by omega)] at c
      omega
  · have en : num t L q = none := by unfold num; rw [if_pos d, if_neg (by omega), if_neg (by omega)]
    exact h0 (fun x hx => by rw [en] at hx; cases hx) _ _
