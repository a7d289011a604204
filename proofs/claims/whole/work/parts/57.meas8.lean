set_option maxHeartbeats 1000000 in
theorem p_marks8 {n f : Nat} (hn : n ≤ 9) {ms m0 : Nat → Int32} {d : Nat → Int} {x1 : Int32} (hd : ∀ l, l < n → 0 ≤ d l ∧ d l ≤ 20) (hms : ∀ j, j ≤ n → ms j = iI (mk d (nI f) j)) {K24 : Int32 → (Nat → Int32) → (Nat → Int32) → Prop}
    (hK : ∀ m1, (∀ j : Nat, 1 ≤ j → j ≤ 181 → (m1 j = 0 ↔ (m0 j = 0 ∧ ¬ Mz d n f j))) → K24 (x1 + 1) m1 ms) : ∃ q : Nat, itr2 (B_X8_measure_50 (nI n) ms x1 K24) q (0 : Int32) m0 := by
  have key : ∀ (r k : Nat) (m1 : Nat → Int32), k + r = 100 → (∀ j : Nat, 1 ≤ j → j ≤ 181 → (m1 j = 0 ↔ (m0 j = 0 ∧ ∀ q : Nat, q < k → q / 10 ≤ n → q % 10 ≤ n → ¬ mk d (nI f) (q / 10) - mk d (nI f) (q % 10) = j))) → itr2 (B_X8_measure_50 (nI n) ms x1 K24) (r + 1) (nI k) m1 := by
    intro r
    induction r with
    | zero =>
      intro k m1 hk h
      show B_X8_measure_50 _ _ _ _ _ _ _
      unfold B_X8_measure_50
      refine ⟨fun _ y e => ?_, fun q => absurd (nI_le (a := 100) (b := k) (by omega) (by omega)) q⟩
      rw [e]
      refine hK m1 (fun j j1 j2 => ?_)
      rw [h j j1 j2]
      refine ⟨fun z => ⟨z.1, ?_⟩, fun z => ⟨z.1, fun q hq ha hb e => z.2 ⟨_, _, ha, hb, e⟩⟩⟩
      rintro ⟨a, b, ha, hb, hab⟩
      refine z.2 (10 * a + b) (by omega) (by omega) (by omega) ?_
      rw [show (10 * a + b) / 10 = a by omega, show (10 * a + b) % 10 = b by omega]
      exact hab
    | succ r ih =>
      intro k m1 hk h
      show B_X8_measure_50 _ _ _ _ _ _ _
      generalize itr2 (B_X8_measure_50 (nI n) ms x1 K24) (r + 1) = K at ih ⊢
      unfold B_X8_measure_50
      refine ⟨fun q => absurd q (nI_ge (a := k) (b := 100) (by omega) (by omega)), fun _ => ⟨by decide, fun y6 e6 => ⟨by decide, fun y7 e7 => ?_⟩⟩⟩
      have f6 : y6 = nI (k / 10) := by rw [e6]; exact pk_div (a := k) (d := 10) (by omega) (by omega) (by omega)
      have f7 : y7 = nI (k % 10) := by rw [e7]; exact pk_rem (a := k) (d := 10) (by omega) (by omega) (by omega)
      subst f6; subst f7
      have keep : (¬ (k / 10 ≤ n ∧ k % 10 ≤ n ∧ mk d (nI f) (k % 10) < mk d (nI f) (k / 10))) → K (nI k + 1) m1 := by
        intro hno
        rw [nI_1]
        refine ih (k + 1) m1 (by omega) (fun j j1 j2 => ?_)
        rw [h j j1 j2]
        refine ⟨fun z => ⟨z.1, fun q hq ha hb e => ?_⟩, fun z => ⟨z.1, fun q hq => z.2 q (by omega)⟩⟩
        by_cases w : q = k
        · subst w
          exact hno ⟨ha, hb, by omega⟩
        · exact z.2 q (by omega) ha hb e
      refine ⟨fun q y e => by rw [e]; exact keep (fun z => absurd q (nI_nlt z.1 (by omega))), fun q => ⟨fun q2 y e => by rw [e]; exact keep (fun z => absurd q2 (nI_nlt z.2.1 (by omega))), fun q2 => ?_⟩⟩
      have ha : k / 10 ≤ n := by
        rcases Nat.lt_or_ge n (k / 10) with w | w
        · exact absurd (nI_lt w (by omega)) q
        · exact w
      have hb : k % 10 ≤ n := by
        rcases Nat.lt_or_ge n (k % 10) with w | w
        · exact absurd (nI_lt w (by omega)) q2
        · exact w
      have va : vp_in (nI (k / 10)) 10 := vp_in_nI (by omega) (by omega)
      have vb : vp_in (nI (k % 10)) 10 := vp_in_nI (by omega) (by omega)
      have df := mk_diff (x := nI f) hn hd ha hb
      have ba := mk_b (x := nI f) (k / 10) (fun l hl => hd l (by omega))
      have bb := mk_b (x := nI f) (k % 10) (fun l hl => hd l (by omega))
      refine ⟨va, vb, ?_⟩
      rw [nI_clamp (by omega), nI_clamp (by omega), hms _ ha, hms _ hb, iI_le (by push_cast at *; omega) (by push_cast at *; omega) (by push_cast at *; omega) (by push_cast at *; omega), iI_sub, iI_in (by omega) (by omega), iI_cl (by omega) (by omega), nar1]
      refine ⟨fun q3 y e => by rw [e]; exact keep (fun z => by omega), fun q3 => ⟨va, vb, by omega, fun y e => ?_⟩⟩
      rw [e, nI_1]
      refine ih (k + 1) _ (by omega) (fun j j1 j2 => ?_)
      rw [upd_eq]
      by_cases w : j = (mk d (nI f) (k / 10) - mk d (nI f) (k % 10)).toNat
      · rw [if_pos w]
        exact ⟨fun z => absurd z (by decide), fun z => absurd (by omega) (z.2 k (by omega) ha hb)⟩
      · rw [if_neg w, h j j1 j2]
        refine ⟨fun z => ⟨z.1, fun q hq ha' hb' e => ?_⟩, fun z => ⟨z.1, fun q hq => z.2 q (by omega)⟩⟩
        by_cases w2 : q = k
        · subst w2; omega
        · exact z.2 q (by omega) ha' hb' e
  have h := key 100 0 m0 (by omega) (fun j _ _ => ⟨fun z => ⟨z, fun q hq => absurd hq (Nat.not_lt_zero q)⟩, fun z => z.1⟩)
  exact ⟨_, h⟩
set_option maxHeartbeats 1000000 in
theorem p_meas8 {n F T : Nat} (hn : n ≤ 9) (hT : T < 2 ^ (n - 1)) {row ms0 m0 : Nat → Int32} (r9 : row ((9 : Int32)).toNatClampNeg = nI F) (r10 : row ((10 : Int32)).toNatClampNeg = nI T) {d : Nat → Int} (hd : DL n row (-9) 0 d) {Q : (Nat → Int32) → (Nat → Int32) → Prop}
    (hQ : ∀ m1 ms, (∀ j : Nat, 1 ≤ j → j ≤ 181 → (m1 j = 0 ↔ ¬ MA F T d n (2 ^ (n - 1)) j)) → Q m1 ms) : wp_X8_measure (nI n) m0 row ms0 Q := by
  have hp := pw hn
  have hdb := hd.b (Nat.le_refl n)
  have key : ∀ (r f : Nat) (m1 ms : Nat → Int32), f + r = 2 ^ (n - 1) → (∀ j : Nat, 1 ≤ j → j ≤ 181 → (m1 j = 0 ↔ ¬ MA F T d n f j)) → itr3 (B_X8_measure_24 (nI n) row Q) (r + 1) (nI f) m1 ms := by
    intro r
    induction r with
    | zero =>
      intro f m1 ms hf h
      show B_X8_measure_24 _ _ _ _ _ _ _
      unfold B_X8_measure_24
      refine p_folds hn ⟨fun _ => ?_, fun q => absurd (nI_le (by omega) (by omega)) q⟩
      have e : f = 2 ^ (n - 1) := by omega
      subst e
      exact hQ m1 ms h
    | succ r ih =>
      intro f m1 ms hf h
      show B_X8_measure_24 _ _ _ _ _ _ _
      generalize itr3 (B_X8_measure_24 (nI n) row Q) (r + 1) = K at ih ⊢
      unfold B_X8_measure_24
      refine p_folds hn ⟨fun q => absurd q (nI_ge (by omega) (by omega)), fun _ => p_isF8 hn hT (by omega) r9 r10 (fun hok => be1 ?_) (fun hok => be0 ?_)⟩
      · refine p_lies hn hd (fun ms' hms => p_marks8 (f := f) hn hdb hms (fun m2 h2 => ?_))
        rw [nI_1]
        refine ih (f + 1) m2 ms' (by omega) (fun j j1 j2 => ?_)
        rw [h2 j j1 j2, h j j1 j2, MA_s]
        exact ⟨fun z q => q.elim z.1 (fun w => z.2 w.2), fun z => ⟨fun q => z (Or.inl q), fun q => z (Or.inr ⟨hok, q⟩)⟩⟩
      · rintro y e
        rw [e, nI_1]
        refine ih (f + 1) m1 ms (by omega) (fun j j1 j2 => ?_)
        rw [h j j1 j2, MA_s]
        exact ⟨fun z q => q.elim z (fun w => absurd (hok.symm.trans w.1) (by decide)), fun z q => z (Or.inl q)⟩
  have clr : ∀ (r i : Nat) (m1 : Nat → Int32), i + r = 182 → (∀ j, j < i → m1 j = 0) → itr2 (B_X8_measure_2 (nI n) row ms0 Q) (r + 1) (nI i) m1 := by
    intro r
    induction r with
    | zero =>
      intro i m1 hi h
      show B_X8_measure_2 _ _ _ _ _ _ _
      unfold B_X8_measure_2
      refine ⟨fun _ => ?_, fun q => absurd (nI_le (a := 182) (b := i) (by omega) (by omega)) q⟩
      have := key (2 ^ (n - 1)) 0 m1 ms0 (by omega) (fun j j1 j2 => ⟨fun _ q => by obtain ⟨f, hf, -⟩ := q; omega, fun _ => h j (by omega)⟩)
      exact ⟨_, this⟩
    | succ r ih =>
      intro i m1 hi h
      show B_X8_measure_2 _ _ _ _ _ _ _
      generalize itr2 (B_X8_measure_2 (nI n) row ms0 Q) (r + 1) = K at ih ⊢
      unfold B_X8_measure_2
      refine ⟨fun q => absurd q (nI_ge (a := i) (b := 182) (by omega) (by omega)), fun _ => ⟨vp_in_nI (by omega) (by omega), fun y e => ?_⟩⟩
      rw [e, nI_1, nI_clamp (by omega), nar0]
      refine ih (i + 1) _ (by omega) (fun j hj => ?_)
      rw [upd_eq]
      split
      · rfl
      · exact h j (by omega)
  unfold wp_X8_measure
  have h := clr 182 0 m0 (by omega) (fun j hj => absurd hj (Nat.not_lt_zero j))
  exact ⟨_, h⟩
theorem MA_181 {n F T k : Nat} (hn : n ≤ 9) {d : Nat → Int} (hd : ∀ l, l < n → 0 ≤ d l ∧ d l ≤ 20) : ¬ MA F T d n k 181 := by
  rintro ⟨f, -, -, a, b, ha, hb, e⟩
  have := mk_diff (x := nI f) hn hd ha hb
  omega
/-- the gap: both sides find the same -/
theorem p_gap {m7 m8 ms pl : Nat → Int32} {a b c : Int32} {Z : Int → Prop} (h7 : ∀ j : Nat, 1 ≤ j → j ≤ 180 → (m7 j = 0 ↔ ¬ Z j)) (h8 : ∀ j : Nat, 1 ≤ j → j ≤ 181 → (m8 j = 0 ↔ ¬ Z j)) (hz : ¬ Z 181) {Q7 : Int32 → (Nat → Int32) → Int32 → Int32 → Int32 → (Nat → Int32) → Prop} {Q8 : Int32 → (Nat → Int32) → (Nat → Int32) → Prop} :
    ∀ (r i : Nat), i + r = 181 → 1 ≤ i → ((∀ x, (∀ y, Q8 y m8 ms → True) → Q7 x m7 a b c pl → True) → True) → ∃ g : Nat, 1 ≤ g ∧ g ≤ 181 ∧ (Q7 (nI g) m7 a b c pl → itr1 (B_X0_gap_7 m7 a b c pl Q7) (r + 1) (nI i)) ∧ (Q8 (nI g) m8 ms → itr1 (B_X8_gap_6 m8 ms Q8) (r + 1) (nI i)) := by
  intro r
  induction r with
  | zero =>
    intro i hi h1 _
    have e : i = 181 := by omega
    subst e
    refine ⟨181, by omega, by omega, fun hq => ?_, fun hq => ?_⟩
    · show B_X0_gap_7 _ _ _ _ _ _ _ _
      unfold B_X0_gap_7
      exact ⟨fun _ => hq, fun q => absurd (nI_lt (a := 180) (b := 181) (by omega) (by omega)) q⟩
    · show B_X8_gap_6 _ _ _ _ _
      unfold B_X8_gap_6
      refine ⟨vp_in_nI (by omega) (by omega), fun _ => hq, fun q => absurd ?_ q⟩
      rw [nI_clamp (by omega)]
      exact (h8 181 (by omega) (by omega)).mpr hz
  | succ r ih =>
    intro i hi h1 ht
    by_cases q : m7 i = 0
    · have q8 : m8 i = 0 := (h8 i h1 (by omega)).mpr ((h7 i h1 (by omega)).mp q)
      refine ⟨i, h1, by omega, fun hq => ?_, fun hq => ?_⟩
      · show B_X0_gap_7 _ _ _ _ _ _ _ _
        unfold B_X0_gap_7
        refine ⟨fun z => absurd z (nI_nlt (a := 180) (b := i) (by omega) (by omega)), fun _ => ⟨vp_in_nI (by omega) (by omega), fun _ => hq, fun z => absurd ?_ z⟩⟩
        rw [nI_clamp (by omega)]
        exact q
      · show B_X8_gap_6 _ _ _ _ _
        unfold B_X8_gap_6
        refine ⟨vp_in_nI (by omega) (by omega), fun _ => hq, fun z => absurd ?_ z⟩
        rw [nI_clamp (by omega)]
        exact q8
    · have q8 : ¬ m8 i = 0 := fun z => q ((h7 i h1 (by omega)).mpr ((h8 i h1 (by omega)).mp z))
      obtain ⟨g, g1, g2, g3, g4⟩ := ih (i + 1) (by omega) (by omega) ht
      refine ⟨g, g1, g2, fun hq => ?_, fun hq => ?_⟩
      · have := g3 hq
        show B_X0_gap_7 _ _ _ _ _ _ _ _
        unfold B_X0_gap_7
        refine ⟨fun z => absurd z (nI_nlt (a := 180) (b := i) (by omega) (by omega)), fun _ => ⟨vp_in_nI (by omega) (by omega), fun z => absurd z ?_, fun _ y e => ?_⟩⟩
        · rw [nI_clamp (by omega)]; exact q
        · rw [e, nI_1]; exact this
      · have := g4 hq
        show B_X8_gap_6 _ _ _ _ _
        unfold B_X8_gap_6
        refine ⟨vp_in_nI (by omega) (by omega), fun z => absurd z ?_, fun _ y e => ?_⟩
        · rw [nI_clamp (by omega)]; exact q8
        · rw [e, nI_1]; exact this
