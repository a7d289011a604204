theorem and_not (a b : Int32) : a &&& (b ^^^ (-1 : Int32)) = a ^^^ (a &&& b) := by
  apply Int32.toBitVec_inj.mp
  rw [Int32.toBitVec_and, Int32.toBitVec_xor, Int32.toBitVec_xor, Int32.toBitVec_and, show (-1 : Int32).toBitVec = BitVec.allOnes 32 by decide]
  ext i hi
  simp only [BitVec.getElem_and, BitVec.getElem_xor, BitVec.getElem_allOnes]
  cases a.toBitVec[i] <;> cases b.toBitVec[i] <;> rfl
theorem p_power {x e : Nat} (he : e < 100) {Q : Int32 → Prop} (hQ : Q (nI (x ^ e))) : wp_X7_power (nI x) (nI e) Q := by
  have key : ∀ (r i : Nat), i + r = e → itr2 (B_X7_power_4 (nI x) (nI e) Q) (r + 1) (nI (x ^ i)) (nI i) := by
    intro r
    induction r with
    | zero =>
      intro i hi
      have e : i = e := by omega
      subst e
      show B_X7_power_4 _ _ _ _ _ _
      unfold B_X7_power_4
      exact ⟨fun _ => hQ, fun q => absurd (nI_le (Nat.le_refl i) (by omega)) q⟩
    | succ r ih =>
      intro i hi
      show B_X7_power_4 _ _ _ _ _ _
      generalize itr2 (B_X7_power_4 (nI x) (nI e) Q) (r + 1) = K at ih ⊢
      have hih := ih (i + 1) (by omega)
      unfold B_X7_power_4
      refine ⟨fun q => absurd q (nI_ge (by omega) (by omega)), fun _ y e y2 e2 => ?_⟩
      rw [e, e2, nI_1, pk_mul, ← Nat.pow_succ]
      exact hih
  unfold wp_X7_power
  have h := key e 0 (by omega)
  exact ⟨_, h⟩
theorem p_free {n T : Nat} (hn : n ≤ 9) (hT : T < 2 ^ (n - 1)) {Q : Int32 → Prop} (hQ : Q (nI (fr T (n - 1)))) : wp_X5_freeJoints (nI n) (nI T) Q := by
  have hp := pw hn
  unfold wp_X5_freeJoints
  refine p_joints hn (p_bitCount (by omega) ?_)
  have e := pc_up hT (9 - (n - 1))
  rw [show n - 1 + (9 - (n - 1)) = 9 by omega] at e
  have e2 := pc_fr (T := T) (n - 1)
  rw [e, pk_sub (by omega), show n - 1 - pcU T (n - 1) = fr T (n - 1) by omega]
  exact hQ
def gA (x F T : Nat) (d : Nat → Int) (n : Nat) (N : Int) (f : Nat) : Nat := if spB F T d n N f = true then PW x T f (n - 1) else 0
theorem p_weight {n F T x : Nat} (hn : n ≤ 9) (hx : x ≤ 10) (hT : T < 2 ^ (n - 1)) {ln pl0 : Nat → Int32} {g1 g2 g3 : Int32} {d : Nat → Int} (hd : DL n ln (-9) 0 d) {N : Int} (hN : 0 ≤ N ∧ N ≤ 200) {Q : Int32 → Int32 → Int32 → Int32 → (Nat → Int32) → Prop}
    (hQ : ∀ a b c pl, pl 0 = pl0 0 → Q (nI (SM (gA x F T d n N) (2 ^ (n - 1)))) a b c pl) : wp_X0_weightInto (nI n) (nI F) (nI T) g1 g2 g3 ln pl0 (nI x) (iI N) Q := by
  have hp := pw hn
  have key : ∀ (r f : Nat) (a b c : Int32) (pl : Nat → Int32), f + r = 2 ^ (n - 1) → pl 0 = pl0 0 → itr6 (B_X0_weightInto_6 (nI n) (nI F) (nI T) ln (nI x) (iI N) Q) (r + 1) (nI (SM (gA x F T d n N) f)) (nI f) a b c pl := by
    intro r
    induction r with
    | zero =>
      intro f a b c pl hf h0
      show B_X0_weightInto_6 _ _ _ _ _ _ _ _ _ _ _ _ _ _
      unfold B_X0_weightInto_6
      refine p_limit hn ⟨fun _ => ?_, fun q => absurd (nI_le (by omega) (by omega)) q⟩
      have e : f = 2 ^ (n - 1) := by omega
      rw [e]
      exact hQ a b c pl h0
    | succ r ih =>
      intro f a b c pl hf h0
      have es : SM (gA x F T d n N) (f + 1) = SM (gA x F T d n N) f + gA x F T d n N f := rfl
      show B_X0_weightInto_6 _ _ _ _ _ _ _ _ _ _ _ _ _ _
      generalize itr6 (B_X0_weightInto_6 (nI n) (nI F) (nI T) ln (nI x) (iI N) Q) (r + 1) = K at ih ⊢
      unfold B_X0_weightInto_6
      refine p_limit hn ⟨fun q => absurd q (nI_ge (by omega) (by omega)), fun _ => p_isF7 hn hT (by omega) (fun hok => be1 ?_) (fun hok => be0 ?_)⟩
      · refine p_goes hn hd hN (fun hs a b c pl' h' => be1 ?_) (fun hs a b c pl' h' => be0 ?_)
        · have eg : gA x F T d n N f = PW x T f (n - 1) := if_pos (by unfold spB; rw [hok, decide_eq_true hs]; rfl)
          rw [and_not, nx_and, nx_xor]
          have ha : f ^^^ (f &&& T) < 2 ^ (n - 1) := Nat.xor_lt_two_pow (by omega) (Nat.lt_of_le_of_lt Nat.and_le_left (by omega))
          refine p_bitCount (by omega) ?_
          have e := pc_up ha (9 - (n - 1))
          rw [show n - 1 + (9 - (n - 1)) = 9 by omega] at e
          rw [e, pc_fo]
          have l1 := fo_le (T := T) (f := f) (n - 1)
          have l2 := pc_fr (T := T) (n - 1)
          refine p_power (by omega) (p_free hn hT ?_)
          rw [pk_sub l1, show (10 : Int32) = nI 10 from rfl, pk_sub hx]
          refine p_power (by omega) ?_
          rintro y e y2 e2
          rw [e, e2, nI_1, pk_mul, nI_add, ← PW_fo, ← eg, ← es]
          exact ih (f + 1) a b c pl' (by omega) (h'.trans h0)
        · rintro y e
          have eg : gA x F T d n N f = 0 := if_neg (by unfold spB; rw [hok, decide_eq_false hs]; decide)
          have := ih (f + 1) a b c pl' (by omega) (h'.trans h0)
          rw [es, eg, Nat.add_zero] at this
          rw [e, nI_1]; exact this
      · rintro y e
        have eg : gA x F T d n N f = 0 := if_neg (by unfold spB; rw [hok, Bool.false_and]; decide)
        have := ih (f + 1) a b c pl (by omega) h0
        rw [es, eg, Nat.add_zero] at this
        rw [e, nI_1]; exact this
  unfold wp_X0_weightInto
  have h := key (2 ^ (n - 1)) 0 g1 g2 g3 pl0 (by omega) rfl
  exact ⟨_, h⟩
theorem eu_half {a b : Nat} (hb : 0 < b) (h : 0 < a % b) : 2 * (b % (a % b)) < b := by
  have h1 := Nat.mod_lt a hb
  have h2 := Nat.mod_lt b h
  rcases Nat.lt_or_ge (2 * (a % b)) (b + 1) with q | q
  · omega
  · have e : b % (a % b) = (b - a % b) % (a % b) := Nat.mod_eq_sub_mod (by omega)
    rw [e, Nat.mod_eq_of_lt (by omega)]
    omega
theorem gcd_st (a b : Nat) : Nat.gcd a b = Nat.gcd b (a % b) := by
  rw [Nat.gcd_comm, Nat.gcd_rec, Nat.gcd_comm]
theorem p_gcd7 {Q : Int32 → Prop} {G : Nat} (hG : 1 ≤ G) (hQ : Q (nI G)) : ∀ (k a b s : Nat), a < 2 ^ 31 → b < 2 ^ k → b < 2 ^ 31 → s + 2 * k ≤ 64 → Nat.gcd a b = G → itr3 (B_X7_commonDivisor_7 Q) (2 * k + 1) (nI a) (nI b) (nI s) := by
  have fin : ∀ a, a < 2 ^ 31 → Nat.gcd a 0 = G → ∀ y : Int32, y = (if nI a < (1 : Int32) then (1 : Int32) else nI a) → Q y := by
    intro a ha hg y e
    rw [Nat.gcd_zero_right] at hg
    subst hg
    rw [e, if_neg (show ¬ nI a < (1 : Int32) from nI_nlt (a := a) (b := 1) hG ha)]
    exact hQ
  intro k
  induction k with
  | zero =>
    intro a b s ha hb hb2 hs hg
    have e : b = 0 := by simpa using hb
    subst e
    show B_X7_commonDivisor_7 _ _ _ _ _
    unfold B_X7_commonDivisor_7
    exact ⟨fun _ => fin a ha hg, fun _ => ⟨fun _ => fin a ha hg, fun q => absurd nI_0 q⟩⟩
  | succ k ih =>
    intro a b s ha hb hb2 hs hg
    show B_X7_commonDivisor_7 _ (B_X7_commonDivisor_7 Q (itr3 (B_X7_commonDivisor_7 Q) (2 * k + 1))) _ _ _
    generalize itr3 (B_X7_commonDivisor_7 Q) (2 * k + 1) = K at ih ⊢
    unfold B_X7_commonDivisor_7
    refine ⟨fun q => absurd q (nI_ge (a := s) (b := 64) (by omega) (by omega)), fun _ => ⟨fun q => ?_, fun q => ⟨q, ?_⟩⟩⟩
    · have e : b = 0 := (nI_z hb2).mp q
      subst e
      exact fin a ha hg
    · have hb0 : 0 < b := by
        rcases Nat.eq_zero_or_pos b with z | z
        · exact absurd ((nI_z hb2).mpr z) q
        · exact z
      have hr := Nat.mod_lt a hb0
      rw [pk_rem ha hb0 hb2, nI_1]
      rintro y3 rfl y4 rfl
      have hg2 := hg
      rw [gcd_st] at hg2
      refine ⟨fun q => absurd q (nI_ge (a := s + 1) (b := 64) (by omega) (by omega)), fun _ => ⟨fun q2 => ?_, fun q2 => ⟨q2, ?_⟩⟩⟩
      · have e : a % b = 0 := (nI_z (by omega)).mp q2
        rw [e] at hg2
        exact fin b hb2 hg2
      · have hr0 : 0 < a % b := by
          rcases Nat.eq_zero_or_pos (a % b) with z | z
          · exact absurd ((nI_z (by omega)).mpr z) q2
          · exact z
        have hh := eu_half hb0 hr0
        rw [pk_rem hb2 hr0 (by omega), nI_1]
        rintro y5 rfl y6 rfl
        have hg3 := hg2
        rw [gcd_st] at hg3
        exact ih (a % b) (b % (a % b)) (s + 1 + 1) (by omega) (by rw [Nat.pow_succ] at hb; omega) (by omega) (by omega) hg3
