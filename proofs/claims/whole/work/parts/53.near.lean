/-! bits counted; the nearest fold -/
def pcU (a : Nat) : Nat → Nat
  | 0 => 0
  | j + 1 => pcU a j + a / 2 ^ j % 2
theorem pcU_le (a : Nat) : ∀ j, pcU a j ≤ j
  | 0 => Nat.le_refl 0
  | j + 1 => by
    have := pcU_le a j
    unfold pcU
    omega
def bcv (x0 : Int32) : Int32 :=
  let y1 := (x0 - (((x0).toUInt32 >>> (((1 : Int32)).toUInt32 &&& Int32.toUInt32 31)).toInt32 &&& (1431655765 : Int32)))
  let y2 := ((y1 &&& (858993459 : Int32)) + (((y1).toUInt32 >>> (((2 : Int32)).toUInt32 &&& Int32.toUInt32 31)).toInt32 &&& (858993459 : Int32)))
  let y3 := ((y2 + ((y2).toUInt32 >>> (((4 : Int32)).toUInt32 &&& Int32.toUInt32 31)).toInt32) &&& (252645135 : Int32))
  let y4 := (y3 + ((y3).toUInt32 >>> (((8 : Int32)).toUInt32 &&& Int32.toUInt32 31)).toInt32)
  let y5 := (y4 + ((y4).toUInt32 >>> (((16 : Int32)).toUInt32 &&& Int32.toUInt32 31)).toInt32)
  y5 &&& (63 : Int32)
theorem bc_all : ∀ a, a < 256 → bcv (nI a) = nI (pcU a 9) := by decide +kernel
theorem p_bitCount {a : Nat} (ha : a < 256) {Q : Int32 → Prop} (h : Q (nI (pcU a 9))) : wp_J6_bitCount_0f7a4 (nI a) Q := by
  unfold wp_J6_bitCount_0f7a4
  rintro y1 rfl y2 rfl y3 rfl y4 rfl y5 rfl
  rw [← bc_all a ha] at h
  exact h
theorem p_bits {a : Nat} (ha : a < 2147483648) {Q : Int32 → Prop} (h : Q (nI (pcU a 9))) : wp_X8_bits (nI a) Q := by
  have key : ∀ (r j : Nat), j + r = 9 → itr2 (B_X8_bits_4 (nI a) Q) (r + 1) (nI (pcU a j)) (nI j) := by
    intro r
    induction r with
    | zero =>
      intro j hj
      have e : j = 9 := by omega
      subst e
      show B_X8_bits_4 _ _ _ _ _
      unfold B_X8_bits_4
      exact ⟨fun _ => h, fun c => absurd (nI_le (a := 9) (b := 9) (Nat.le_refl 9) (by omega)) c⟩
    | succ r ih =>
      intro j hj
      show B_X8_bits_4 _ _ _ _ _
      generalize itr2 (B_X8_bits_4 (nI a) Q) (r + 1) = K at ih ⊢
      unfold B_X8_bits_4
      refine ⟨fun c => absurd c (nI_ge (a := j) (b := 9) (by omega) (by omega)), fun _ y1 e1 y2 e2 => ?_⟩
      rw [e1, e2, shr1 ha (by omega), nI_add, nI_1]
      exact ih (j + 1) (by omega)
  unfold wp_X8_bits
  have h := key 9 0 (by omega)
  exact ⟨_, h⟩
theorem xor_lt {n a b : Nat} (hn : n ≤ 9) (ha : a < 2 ^ (n - 1)) (hb : b < 2 ^ (n - 1)) : a ^^^ b < 256 := Nat.lt_of_lt_of_le (Nat.xor_lt_two_pow ha hb) (pw hn).1
/-- how many joints are bent -/
def bnF (F f : Nat) : Int := (pcU (f ^^^ F) 9 : Nat)
theorem bnF_b (F f : Nat) : 0 ≤ bnF F f ∧ bnF F f ≤ 9 := by
  have := pcU_le (f ^^^ F) 9
  unfold bnF
  omega
theorem pc8 : ∀ a, a < 256 → pcU a 9 ≤ 8 := by decide +kernel
theorem bnF_b8 {n F f : Nat} (hn : n ≤ 9) (hF : F < 2 ^ (n - 1)) (hf : f < 2 ^ (n - 1)) : bnF F f < 9 := by
  have := pc8 _ (xor_lt hn hf hF)
  unfold bnF
  omega
def spB (F T : Nat) (d : Nat → Int) (n : Nat) (N : Int) (f : Nat) : Bool := fB F T f && decide (spF d n f ≤ N)
def enB (F T : Nat) (d : Nat → Int) (n : Nat) (N : Int) (f : Nat) : Bool := fB F T f && decide (enF d n f = N)
theorem bst_key {ok : Nat → Bool} {key : Nat → Int} {a : Int} : ∀ (k : Nat), 0 ≤ (bst ok key a k).1 → ∃ f : Nat, f < k ∧ (bst ok key a k) = ((f : Int), key f)
  | 0, h => absurd (show (0 : Int) ≤ -9 from h) (by decide)
  | k + 1, h => by
    by_cases q : ok k = true ∧ key k < (bst ok key a k).2
    · exact ⟨k, by omega, bst_y q.1 q.2⟩
    · rw [bst_n q] at h ⊢
      obtain ⟨f, h1, h2⟩ := bst_key k h
      exact ⟨f, by omega, h2⟩
theorem bst_9 {ok : Nat → Bool} {key : Nat → Int} {a : Int} : ∀ (k : Nat), 0 ≤ (bst ok key a k).1 ∨ (bst ok key a k).1 = -9
  | 0 => Or.inr rfl
  | k + 1 => by
    by_cases q : ok k = true ∧ key k < (bst ok key a k).2
    · rw [bst_y q.1 q.2]; exact Or.inl (by show (0 : Int) ≤ (k : Int); omega)
    · rw [bst_n q]; exact bst_9 k
def cntF (ok : Nat → Bool) : Nat → Nat
  | 0 => 0
  | k + 1 => cntF ok k + (if ok k = true then 1 else 0)
theorem cntF_le (ok : Nat → Bool) : ∀ k, cntF ok k ≤ k
  | 0 => Nat.le_refl 0
  | k + 1 => by
    have := cntF_le ok k
    unfold cntF
    split <;> omega
theorem cnt_y {ok : Nat → Bool} {k : Nat} (h : ok k = true) : cntF ok (k + 1) = cntF ok k + 1 := by
  show _ + (if ok k = true then 1 else 0) = _
  rw [if_pos h]
theorem cnt_n {ok : Nat → Bool} {k : Nat} (h : ok k = false) : cntF ok (k + 1) = cntF ok k := by
  show _ + (if ok k = true then 1 else 0) = _
  rw [if_neg (by rw [h]; decide)]
  rfl
theorem p_goes {n f : Nat} (hn : n ≤ 9) {ln pl0 : Nat → Int32} {g1 g2 g3 : Int32} {d : Nat → Int} (hd : DL n ln (-9) 0 d) {N : Int} (hN : 0 ≤ N ∧ N ≤ 200) {Q : Int32 → Int32 → Int32 → Int32 → (Nat → Int32) → Prop}
    (h1 : spF d n f ≤ N → ∀ a b c pl, pl 0 = pl0 0 → Q 1 a b c pl) (h0 : ¬ spF d n f ≤ N → ∀ a b c pl, pl 0 = pl0 0 → Q 0 a b c pl) : wp_X0_goesInto (nI n) g1 g2 g3 ln pl0 (nI f) (iI N) Q := by
  have sb := spF_b hn (hd.b (Nat.le_refl n)) f
  unfold wp_X0_goesInto wp_X2_layOut
  refine p_lay hn hd (fun pl hp _ => ?_)
  simp only [wp_X2_span, iI_sub]
  rw [show hi d (nI f) n - lo d (nI f) n = spF d n f from rfl, iI_lt (by omega) (by omega) (by omega) (by omega)]
  exact ⟨fun c => h0 (by omega) _ _ _ pl hp, fun c => h1 (by omega) _ _ _ pl hp⟩
theorem p_ends {n f : Nat} (hn : n ≤ 9) {ln pl0 : Nat → Int32} {g1 g2 g3 : Int32} {d : Nat → Int} (hp0 : pl0 0 = 0) (hd : DL n ln (-9) 0 d) {N : Int} (hN : -200 ≤ N ∧ N ≤ 200) {Q : Int32 → Int32 → Int32 → Int32 → (Nat → Int32) → Prop}
    (h1 : enF d n f = N → ∀ a b c pl, pl 0 = pl0 0 → Q 1 a b c pl) (h0 : ¬ enF d n f = N → ∀ a b c pl, pl 0 = pl0 0 → Q 0 a b c pl) : wp_X0_endsAt (nI n) g1 g2 g3 ln pl0 (nI f) (iI N) Q := by
  have sb := enF_b hn (hd.b (Nat.le_refl n)) f
  unfold wp_X0_endsAt wp_X2_layOut
  refine p_lay hn hd (fun pl hp h1' => p_last hn (hp.trans hp0) h1' ?_)
  rw [show mk d (nI f) n = enF d n f from rfl, iI_eq (by omega) (by omega) (by omega) (by omega)]
  exact ⟨fun c => h0 c _ _ _ pl hp, fun c => h1 c _ _ _ pl hp⟩
theorem p_many7 {n F T : Nat} (hn : n ≤ 9) (hT : T < 2 ^ (n - 1)) {ln pl0 : Nat → Int32} {g1 g2 g3 : Int32} {d : Nat → Int} (hd : DL n ln (-9) 0 d) {N : Int} (hN : 0 ≤ N ∧ N ≤ 200) {Q : Int32 → Int32 → Int32 → Int32 → (Nat → Int32) → Prop}
    (hQ : ∀ a b c pl, pl 0 = pl0 0 → Q (nI (cntF (spB F T d n N) (2 ^ (n - 1)))) a b c pl) : wp_X0_howManyGoInto (nI n) (nI F) (nI T) g1 g2 g3 ln pl0 (iI N) Q := by
  have hp := pw hn
  have key : ∀ (r f : Nat) (a b c : Int32) (pl : Nat → Int32), f + r = 2 ^ (n - 1) → pl 0 = pl0 0 → itr6 (B_X0_howManyGoInto_5 (nI n) (nI F) (nI T) ln (iI N) Q) (r + 1) (nI (cntF (spB F T d n N) f)) (nI f) a b c pl := by
    intro r
    induction r with
    | zero =>
      intro f a b c pl hf h0
      show B_X0_howManyGoInto_5 _ _ _ _ _ _ _ _ _ _ _ _ _
      unfold B_X0_howManyGoInto_5
      refine p_limit hn ⟨fun _ => ?_, fun q => absurd (nI_le (by omega) (by omega)) q⟩
      have e : f = 2 ^ (n - 1) := by omega
      rw [e]
      exact hQ a b c pl h0
    | succ r ih =>
      intro f a b c pl hf h0
      show B_X0_howManyGoInto_5 _ _ _ _ _ _ _ _ _ _ _ _ _
      generalize itr6 (B_X0_howManyGoInto_5 (nI n) (nI F) (nI T) ln (iI N) Q) (r + 1) = K at ih ⊢
      unfold B_X0_howManyGoInto_5
      refine p_limit hn ⟨fun q => absurd q (nI_ge (by omega) (by omega)), fun _ => p_isF7 hn hT (by omega) (fun hok => be1 ?_) (fun hok => be0 ?_)⟩
      · refine p_goes hn hd hN (fun hs a b c pl' h' => be1 ?_) (fun hs a b c pl' h' => be0 ?_)
        · rintro y10 e10 y11 e11
          rw [e10, e11, nI_1, nI_1, ← cnt_y (show spB F T d n N f = true by unfold spB; rw [hok, decide_eq_true hs]; rfl)]
          exact ih (f + 1) a b c pl' (by omega) (h'.trans h0)
        · rintro y e
          rw [e, nI_1, ← cnt_n (show spB F T d n N f = false by unfold spB; rw [hok, decide_eq_false hs]; rfl)]
          exact ih (f + 1) a b c pl' (by omega) (h'.trans h0)
      · rintro y e
        rw [e, nI_1, ← cnt_n (show spB F T d n N f = false by unfold spB; rw [hok]; rfl)]
        exact ih (f + 1) a b c pl (by omega) h0
  unfold wp_X0_howManyGoInto
  have h := key (2 ^ (n - 1)) 0 g1 g2 g3 pl0 (by omega) rfl
  exact ⟨_, h⟩
