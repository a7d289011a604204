theorem cmp_0 {b : Nat} (h : b = 0) : lg_cmp (lN b) (0 : Int64) = 0 := by
  subst h
  decide
theorem cmp_1 {b : Nat} (h0 : 0 < b) (h : b < 2 ^ 63) : ¬ lg_cmp (lN b) (0 : Int64) = 0 := by
  unfold lg_cmp
  rw [if_pos (show lN b > (0 : Int64) from (pk_lLT (a := 0) (b := b) (by omega) h).mpr h0)]
  decide
theorem l_ne {b : Nat} (h0 : 0 < b) (h : b < 2 ^ 63) : ¬ lN b = 0 := fun q => absurd ((pk_lEQ (a := b) (b := 0) h (by omega)).mp q) (by omega)
theorem p_gcd8 {ms : Nat → Int32} {x3 : Int32} {A B G : Nat} (hA : A < 2 ^ 31) (hB : B < 2 ^ 31) (hG : 1 ≤ G) (hG2 : G < 2 ^ 31) {Q : Int32 → (Nat → Int32) → Prop} (h1 : ¬ x3 = 0 → Q (nI (B / G)) ms) (h0 : x3 = 0 → Q (nI (A / G)) ms) : ∀ (b a : Nat), a < 2 ^ 31 → b < 2 ^ 31 → Nat.gcd a b = G → ∃ n : Nat, itr2 (B_X8_odds_168 ms x3 (lN A) (lN B) Q) n (lN a) (lN b) := by
  intro b
  induction b using Nat.strongRecOn with
  | _ b ih =>
    intro a ha hb hg
    rcases Nat.eq_zero_or_pos b with z | z
    · subst z
      rw [Nat.gcd_zero_right] at hg
      subst hg
      refine ⟨1, ?_⟩
      show B_X8_odds_168 _ _ _ _ _ _ _ _
      unfold B_X8_odds_168
      refine ⟨fun _ => ⟨fun q => ⟨l_ne hG (by omega), ?_⟩, fun q => ⟨l_ne hG (by omega), ?_⟩⟩, fun q => absurd (cmp_0 rfl) q⟩
      · rw [pk_lDiv (by omega) hG (by omega), lN_i]; exact h1 q
      · rw [pk_lDiv (by omega) hG (by omega), lN_i]; exact h0 q
    · have hr := Nat.mod_lt a z
      rw [gcd_st] at hg
      obtain ⟨n, hn⟩ := ih (a % b) hr b hb (by omega) hg
      refine ⟨n + 1, ?_⟩
      show B_X8_odds_168 _ _ _ _ _ (itr2 (B_X8_odds_168 ms x3 (lN A) (lN B) Q) n) _ _
      generalize itr2 (B_X8_odds_168 ms x3 (lN A) (lN B) Q) n = K at hn ⊢
      unfold B_X8_odds_168
      refine ⟨fun q => absurd q (cmp_1 z (by omega)), fun _ => ⟨l_ne z (by omega), fun y e => ?_⟩⟩
      rw [e, pk_lRem (by omega) z (by omega)]
      exact hn
theorem le_n1 {n j : Nat} (hn : n ≤ 9) (hj : j ≤ 9) : (nI n - 1 ≤ nI j) ↔ n - 1 ≤ j := by
  rw [nI_i, nI_i, show (1 : Int32) = iI 1 from rfl, iI_sub, iI_le (by omega) (by omega) (by omega) (by omega)]
  omega
theorem p_wf8 {n x T f : Nat} (hn : n ≤ 9) (hx : x ≤ 10) (hT : T < 2147483648) (hf : f < 2147483648) {row ms : Nat → Int32} {d : Nat → Int} (r10 : row ((10 : Int32)).toNatClampNeg = nI T) (hd : DL n row (-9) 0 d) {N : Int} (hN : 0 ≤ N ∧ N ≤ 200) {A B : Nat} {K41 : Int64 → Int64 → Int32 → (Nat → Int32) → Prop}
    (h1 : spF d n f ≤ N → ∀ ms, K41 (lN (A + PW x T f (n - 1))) (lN (B + PW x T f (n - 1))) (nI f + 1) ms) (h0 : ¬ spF d n f ≤ N → ∀ ms, K41 (lN A) (lN (B + PW x T f (n - 1))) (nI f + 1) ms) :
    ∀ (r j : Nat), j + r = n - 1 → itr2 (B_X8_odds_65 (nI n) row ms (nI x) (iI N) (lN A) (lN B) (nI f) K41) (r + 1) (lN (PW x T f j)) (nI j) := by
  intro r
  induction r with
  | zero =>
    intro j hj
    have e : j = n - 1 := by omega
    subst e
    show B_X8_odds_65 _ _ _ _ _ _ _ _ _ _ _ _
    unfold B_X8_odds_65
    rw [le_n1 hn (by omega)]
    refine ⟨fun _ => p_spanBy hn hd (fun ms2 _ => ?_), fun q => absurd (Nat.le_refl _) q⟩
    have sb := spF_b hn (hd.b (Nat.le_refl n)) f
    rw [show iI (sp d (nI f) n) = iI (spF d n f) from rfl, iI_lt (by omega) (by omega) (by omega) (by omega), lN_add, lN_add]
    refine ⟨fun q y e y2 e2 y3 e3 => ?_, fun q y e y2 e2 y3 e3 => ?_⟩
    · rw [e, e2, e3, Int64.add_zero]
      exact h0 (by omega) ms2
    · rw [e, e2, e3]
      exact h1 (by omega) ms2
  | succ r ih =>
    intro j hj
    show B_X8_odds_65 _ _ _ _ _ _ _ _ _ _ _ _
    generalize itr2 (B_X8_odds_65 (nI n) row ms (nI x) (iI N) (lN A) (lN B) (nI f) K41) (r + 1) = K at ih ⊢
    have hih := ih (j + 1) (by omega)
    have es : PW x T f (j + 1) = PW x T f j * wf x T f j := rfl
    rw [es] at hih
    unfold wf at hih
    unfold B_X8_odds_65
    rw [le_n1 hn (by omega), r10]
    refine ⟨fun q => absurd q (by omega), fun _ => ⟨by unfold vp_in; decide, p_has8 (fun hb => be1 ?_) (fun hb => be0 (p_has8 (fun hb2 => be1 ?_) (fun hb2 => be0 ?_)))⟩⟩
    · rw [bt_nI hT (by omega)] at hb
      rw [if_pos hb] at hih
      rintro y e y2 e2
      rw [e, e2, nI_1, show (1 : Int64) = lN 1 from rfl, lN_mul]
      exact hih
    · rw [bt_nI hT (by omega)] at hb
      rw [bt_nI hf (by omega)] at hb2
      rw [if_neg (by rw [hb]; decide), if_pos hb2] at hih
      rintro y e y2 e2
      rw [e, e2, nI_1, nI_l (by omega), lN_mul]
      exact hih
    · rw [bt_nI hT (by omega)] at hb
      rw [bt_nI hf (by omega)] at hb2
      rw [if_neg (by rw [hb]; decide), if_neg (by rw [hb2]; decide)] at hih
      rintro y e y2 e2
      rw [e, e2, nI_1, show (10 : Int32) = nI 10 from rfl, pk_sub hx, nI_l (by omega), lN_mul]
      exact hih
theorem p_odds8 {n F T x : Nat} (hn : n ≤ 9) (hx : x ≤ 10) (hT : T < 2 ^ (n - 1)) {row ms0 : Nat → Int32} (r9 : row ((9 : Int32)).toNatClampNeg = nI F) (r10 : row ((10 : Int32)).toNatClampNeg = nI T) {d : Nat → Int} (hd : DL n row (-9) 0 d) {N : Int} (hN : 0 ≤ N ∧ N ≤ 200) {x3 : Int32} {Q : Int32 → (Nat → Int32) → Prop}
    (hA : SM (gA x F T d n N) (2 ^ (n - 1)) < 2 ^ 31) (hB : SM (tK x F T (n - 1)) (2 ^ (n - 1)) < 2 ^ 31) {G : Nat} (hG : 1 ≤ G) (hG2 : G < 2 ^ 31) (hGe : Nat.gcd (SM (gA x F T d n N) (2 ^ (n - 1))) (SM (tK x F T (n - 1)) (2 ^ (n - 1))) = G)
    (h1 : ¬ x3 = 0 → ∀ ms, Q (nI (SM (tK x F T (n - 1)) (2 ^ (n - 1)) / G)) ms) (h0 : x3 = 0 → ∀ ms, Q (nI (SM (gA x F T d n N) (2 ^ (n - 1)) / G)) ms) : ∃ q : Nat, itr4 (B_X8_odds_41 (nI n) row (nI x) (iI N) x3 Q) q (0 : Int64) (0 : Int64) (0 : Int32) ms0 := by
  have hp := pw hn
  have key : ∀ (r f : Nat) (ms : Nat → Int32), f + r = 2 ^ (n - 1) → itr4 (B_X8_odds_41 (nI n) row (nI x) (iI N) x3 Q) (r + 1) (lN (SM (gA x F T d n N) f)) (lN (SM (tK x F T (n - 1)) f)) (nI f) ms := by
    intro r
    induction r with
    | zero =>
      intro f ms hf
      have e : f = 2 ^ (n - 1) := by omega
      show B_X8_odds_41 _ _ _ _ _ _ _ _ _ _ _
      unfold B_X8_odds_41
      refine p_folds hn ⟨fun _ => ?_, fun q => absurd (nI_le (by omega) (by omega)) q⟩
      rw [e]
      exact p_gcd8 hA hB hG hG2 (fun q => h1 q ms) (fun q => h0 q ms) _ _ hA hB hGe
    | succ r ih =>
      intro f ms hf
      have es : SM (gA x F T d n N) (f + 1) = SM (gA x F T d n N) f + gA x F T d n N f := rfl
      have es2 : SM (tK x F T (n - 1)) (f + 1) = SM (tK x F T (n - 1)) f + tK x F T (n - 1) f := rfl
      show B_X8_odds_41 _ _ _ _ _ _ _ _ _ _ _
      generalize itr4 (B_X8_odds_41 (nI n) row (nI x) (iI N) x3 Q) (r + 1) = K at ih ⊢
      have hih := fun ms => ih (f + 1) ms (by omega)
      rw [es, es2] at hih
      unfold B_X8_odds_41
      refine p_folds hn ⟨fun q => absurd q (nI_ge (by omega) (by omega)), fun _ => p_isF8 hn hT (by omega) r9 r10 (fun hok => be1 ?_) (fun hok => be0 ?_)⟩
      · have et : tK x F T (n - 1) f = PW x T f (n - 1) := if_pos (by rw [← fB_ag hT]; exact hok)
        rw [et] at hih
        refine ⟨_, p_wf8 hn hx (by omega) (by omega) r10 hd hN (fun q ms2 => ?_) (fun q ms2 => ?_) (n - 1) 0 (by omega)⟩
        · have eg : gA x F T d n N f = PW x T f (n - 1) := if_pos (by unfold spB; rw [hok, decide_eq_true q]; rfl)
          have := hih ms2
          rw [eg] at this
          rw [nI_1]; exact this
        · have eg : gA x F T d n N f = 0 := if_neg (by unfold spB; rw [hok, decide_eq_false q]; decide)
          have := hih ms2
          rw [eg, Nat.add_zero] at this
          rw [nI_1]; exact this
      · have et : tK x F T (n - 1) f = 0 := if_neg (by rw [← fB_ag hT, hok]; decide)
        have eg : gA x F T d n N f = 0 := if_neg (by unfold spB; rw [hok, Bool.false_and]; decide)
        rw [et, eg, Nat.add_zero, Nat.add_zero] at hih
        rintro y e
        rw [e, nI_1]; exact hih ms
  exact ⟨_, key (2 ^ (n - 1)) 0 ms0 (by omega)⟩
theorem gA_tK {n F T x : Nat} (hT : T < 2 ^ (n - 1)) {d : Nat → Int} {N : Int} : SM (gA x F T d n N) (2 ^ (n - 1)) ≤ SM (tK x F T (n - 1)) (2 ^ (n - 1)) := by
  refine SM_le _ (fun f _ => ?_)
  unfold gA tK spB
  rw [← fB_ag hT]
  cases fB F T f <;> cases decide (spF d n f ≤ N) <;> simp
