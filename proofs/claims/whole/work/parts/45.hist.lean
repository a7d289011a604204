/-! what can be undone -/
theorem p_remember {s k : Nat} (hs : s < 10) (hk : k ≤ 10) {ks fo st : Nat → Int32} {lns : Nat → Nat → Int32} {kl f t : Int32} {ln : Nat → Int32} {Q : Int32 → Int32 → (Nat → Int32) → (Nat → Int32) → (Nat → Int32) → (Nat → Nat → Int32) → Prop}
    (hQ : ∀ l2, (∀ j, j < 9 → l2 j = ln j) → Q (nI ((s + 1) % 10)) (nI (if k = 10 then 10 else k + 1)) (va_up ks s kl) (va_up fo s f) (va_up st s t) (va_up lns s l2)) : wp_X1_remember (nI s) (nI k) ks fo st kl f t ln lns Q := by
  unfold wp_X1_remember
  refine ⟨vp_in_nI hs (by omega), fun k1 e1 => ?_⟩
  have f1 : k1 = s := by rw [e1]; exact nI_clamp (by omega)
  subst f1
  refine p_copyFrom (fun l2 h2 => ⟨by decide, fun y6 e6 y7 e7 => ?_⟩)
  have f6 : y6 = nI ((k1 + 1) % 10) := by
    rw [e6, nI_1]
    exact pk_rem (a := k1 + 1) (d := 10) (by omega) (by omega) (by omega)
  have f7 : y7 = nI (if k = 10 then 10 else k + 1) := by
    rw [e7, nI_1]
    by_cases q : k = 10
    · rw [if_pos q]; exact if_pos (nI_lt (a := 10) (b := k + 1) (by omega) (by omega))
    · rw [if_neg q]; exact if_neg (nI_nlt (a := 10) (b := k + 1) (by omega) (by omega))
  rw [f6, f7]
  exact hQ l2 h2
theorem n11 (k : Nat) : (11 : Int32) + (11 : Int32) * nI k = nI (11 + 11 * k) := by
  rw [show (11 : Int32) = nI 11 from rfl, pk_mul, nI_add]
theorem n121 (k : Nat) : (121 : Int32) + (11 : Int32) * nI k = nI (121 + 11 * k) := by
  rw [show (11 : Int32) = nI 11 from rfl, pk_mul, show (121 : Int32) = nI 121 from rfl, nI_add]
theorem p_keepPast {k : Nat} (hk : k ≤ 10) {row : Nat → Int32} {Q : Int32 → (Nat → Int32) → Prop}
    (hQ : ∀ r2, (∀ i, i < 11 → r2 i = row i) → (∀ i, 121 ≤ i → r2 i = row i) → (∀ j, j < 11 → r2 (11 + 11 * (if k = 10 then 9 else k) + j) = row j) → (∀ i, i < (if k = 10 then 9 else k) → ∀ j, j < 11 → r2 (11 + 11 * i + j) = row (11 + 11 * (if k = 10 then i + 1 else i) + j)) → Q (nI (if k = 10 then 10 else k + 1)) r2) : wp_X8_keepPast (nI k) row Q := by
  unfold wp_X8_keepPast
  refine ⟨fun c => ?_, fun c => ?_⟩
  · have hk9 : k ≠ 10 := fun q => c (by rw [q]; rfl)
    simp only [if_neg hk9] at hQ
    rw [n11, ← nI_0]
    refine p_copyRow 0 (11 + 11 * k) (by omega) (by omega) (by omega) (fun r2 h1 h2 y e => ?_)
    rw [e, nI_1]
    refine hQ r2 (fun i hi => h2 i (by omega)) (fun i hi => h2 i (by omega)) (fun j hj => by rw [h1 j hj, Nat.zero_add]) (fun i hi j hj => h2 _ (by omega))
  · have hk10 : k = 10 := (nI_eq (a := k) (b := 10) (by omega) (by omega)).mp c
    subst hk10
    simp only [if_true] at hQ
    have key : ∀ (r i : Nat) (r2 : Nat → Int32), i + r = 99 → (∀ q, q < i → r2 (11 + q) = row (22 + q)) → (∀ q, (q < 11 ∨ 11 + i ≤ q) → r2 q = row q) → itr2 (B_X8_keepPast_11 (nI 10) Q) (r + 1) (nI i) r2 := by
      intro r
      induction r with
      | zero =>
        intro i r2 hi h h2
        have e : i = 99 := by omega
        subst e
        show B_X8_keepPast_11 _ _ _ _ _
        unfold B_X8_keepPast_11
        refine ⟨fun _ y3 e3 => ?_, fun c => absurd (nI_le (a := 99) (b := 99) (Nat.le_refl 99) (by omega)) c⟩
        have f3 : y3 = nI 9 := e3
        subst f3
        rw [n11, ← nI_0]
        refine p_copyRow 0 (11 + 11 * 9) (by omega) (by omega) (by omega) (fun r3 g1 g2 y e => ?_)
        rw [e, nI_1]
        refine hQ r3 (fun i hi => ?_) (fun i hi => ?_) (fun j hj => ?_) (fun i hi j hj => ?_)
        · rw [g2 i (by omega)]; exact h2 i (by omega)
        · rw [g2 i (by omega)]; exact h2 i (by omega)
        · rw [g1 j hj, Nat.zero_add]; exact h2 j (by omega)
        · rw [g2 _ (by omega), show 11 + 11 * i + j = 11 + (11 * i + j) by omega, h _ (by omega)]
          congr 1
          omega
      | succ r ih =>
        intro i r2 hi h h2
        have e22 : (22 : Int32) + nI i = nI (22 + i) := nI_add 22 i
        have e11 : (11 : Int32) + nI i = nI (11 + i) := nI_add 11 i
        show B_X8_keepPast_11 _ _ _ _ _
        unfold B_X8_keepPast_11
        rw [e22, e11]
        refine ⟨fun c => absurd c (nI_ge (a := i) (b := 99) (by omega) (by omega)), fun _ => ⟨vp_in_nI (by omega) (by omega), fun y6 e6 => ⟨vp_in_nI (by omega) (by omega), fun y7 e7 => ?_⟩⟩⟩
        rw [e7, nI_1]
        have f6 : y6 = row (22 + i) := by
          rw [e6, nI_clamp (by omega)]
          exact h2 _ (by omega)
        refine ih (i + 1) _ (by omega) (fun q hq => ?_) (fun q hq => ?_)
        · rw [nI_clamp (by omega), upd_eq]
          by_cases z : q = i
          · rw [if_pos (by omega), f6, z]
          · rw [if_neg (by omega)]; exact h q (by omega)
        · rw [nI_clamp (by omega), upd_eq, if_neg (by omega)]
          exact h2 q (by omega)
    have h := key 99 0 row (by omega) (fun q hq => absurd hq (Nat.not_lt_zero q)) (fun _ _ => rfl)
    rw [nI_0] at h
    exact ⟨_, h⟩
/-- one more can be undone -/
theorem RHist.push {n s k : Nat} (hn : n ≤ 9) (hs : s < 10) (hk : k ≤ 10) {ks fo st : Nat → Int32} {lns : Nat → Nat → Int32} {kl f t : Int32} {ln l2 : Nat → Int32} {row r2 : Nat → Int32}
    (h : ∀ i, i < k → SR n (ks ((s + 10 - k + i) % 10)) (lns ((s + 10 - k + i) % 10)) (fo ((s + 10 - k + i) % 10)) (st ((s + 10 - k + i) % 10)) row (11 + 11 * i)) (hS : SR n kl ln f t row 0) (hl : ∀ j, j < 9 → l2 j = ln j)
    (g3 : ∀ j, j < 11 → r2 (11 + 11 * (if k = 10 then 9 else k) + j) = row j) (g4 : ∀ i, i < (if k = 10 then 9 else k) → ∀ j, j < 11 → r2 (11 + 11 * i + j) = row (11 + 11 * (if k = 10 then i + 1 else i) + j)) :
    RHist n (nI ((s + 1) % 10)) (nI (if k = 10 then 10 else k + 1)) (va_up ks s kl) (va_up fo s f) (va_up st s t) (va_up lns s l2) (nI (if k = 10 then 10 else k + 1)) r2 := by
  have last : ∀ o, (∀ j, j < 11 → r2 (o + j) = row j) → SR n kl l2 f t r2 o := fun o ho => hS.copy hn hl (fun j hj => by rw [ho j hj, Nat.zero_add])
  by_cases q : k = 10
  · subst q
    simp only [if_true] at g3 g4 ⊢
    refine ⟨10, (s + 1) % 10, by omega, by omega, rfl, rfl, rfl, fun i hi => ?_⟩
    by_cases z : i = 9
    · subst z
      have e : ((s + 1) % 10 + 10 - 10 + 9) % 10 = s := by omega
      rw [e, va_up_self, va_up_self, va_up_self, va_up_self]
      exact last _ g3
    · have e : ((s + 1) % 10 + 10 - 10 + i) % 10 = (s + 10 - 10 + (i + 1)) % 10 := by omega
      have hne : (s + 10 - 10 + (i + 1)) % 10 ≠ s := by omega
      rw [e, va_up_ne _ _ hne, va_up_ne _ _ hne, va_up_ne _ _ hne, va_up_ne _ _ hne]
      exact (h (i + 1) (by omega)).copy hn (fun _ _ => rfl) (fun j hj => g4 i (by omega) j hj)
  · simp only [if_neg q] at g3 g4 ⊢
    refine ⟨k + 1, (s + 1) % 10, by omega, by omega, rfl, rfl, rfl, fun i hi => ?_⟩
    by_cases z : i = k
    · subst z
      have e : ((s + 1) % 10 + 10 - (i + 1) + i) % 10 = s := by omega
      rw [e, va_up_self, va_up_self, va_up_self, va_up_self]
      exact last _ g3
    · have e : ((s + 1) % 10 + 10 - (k + 1) + i) % 10 = (s + 10 - k + i) % 10 := by omega
      have hne : (s + 10 - k + i) % 10 ≠ s := by omega
      rw [e, va_up_ne _ _ hne, va_up_ne _ _ hne, va_up_ne _ _ hne, va_up_ne _ _ hne]
      exact (h i (by omega)).copy hn (fun _ _ => rfl) (fun j hj => g4 i (by omega) j hj)
theorem bit01 (x : Int32) : x &&& 1 = 0 ∨ x &&& 1 = 1 := by
  obtain ⟨j, hj, e⟩ := pk_andE x (m := 1) 1 rfl
  have : j = 0 ∨ j = 1 := by omega
  rcases this with rfl | rfl
  · exact Or.inl e
  · exact Or.inr e
theorem bt_t {x l : Int32} (h : bt x l = true) : (x >>> (l &&& 31)) &&& 1 = 1 := of_decide_eq_true h
theorem bt_f {x l : Int32} (h : bt x l = false) : (x >>> (l &&& 31)) &&& 1 = 0 := (bit01 _).resolve_right (of_decide_eq_false h)
