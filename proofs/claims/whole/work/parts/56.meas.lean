/-! what is measured -/
theorem lo_mono {d : Nat → Int} {x : Int32} : ∀ (n a : Nat), a ≤ n → lo d x n ≤ mk d x a ∧ mk d x a ≤ hi d x n
  | 0, a, h => by
    have : a = 0 := by omega
    subst this
    simp [lo, mk, hi]
  | n + 1, a, h => by
    have e1 : hi d x (n + 1) = if hi d x n < mk d x (n + 1) then mk d x (n + 1) else hi d x n := rfl
    have e2 : lo d x (n + 1) = if mk d x (n + 1) < lo d x n then mk d x (n + 1) else lo d x n := rfl
    by_cases q : a = n + 1
    · subst q
      rw [e1, e2]
      constructor <;> split <;> omega
    · have ih := lo_mono (d := d) (x := x) n a (by omega)
      rw [e1, e2]
      constructor <;> split <;> omega
theorem mk_diff {n a b : Nat} (hn : n ≤ 9) {d : Nat → Int} {x : Int32} (hd : ∀ l, l < n → 0 ≤ d l ∧ d l ≤ 20) (ha : a ≤ n) (hb : b ≤ n) : -180 ≤ mk d x a - mk d x b ∧ mk d x a - mk d x b ≤ 180 := by
  have h1 := lo_mono (d := d) (x := x) n a ha
  have h2 := lo_mono (d := d) (x := x) n b hb
  have h3 := sp_b2 (x := x) n hd
  unfold sp at h3
  omega
/-- N is between two marks by fold f -/
def Mz (d : Nat → Int) (n f : Nat) (N : Int) : Prop := ∃ a b : Nat, a ≤ n ∧ b ≤ n ∧ mk d (nI f) a - mk d (nI f) b = N
/-- .. by some fold ahead of k -/
def MA (F T : Nat) (d : Nat → Int) (n k : Nat) (N : Int) : Prop := ∃ f : Nat, f < k ∧ fB F T f = true ∧ Mz d n f N
theorem MA_s {F T : Nat} {d : Nat → Int} {n k : Nat} {N : Int} : MA F T d n (k + 1) N ↔ MA F T d n k N ∨ (fB F T k = true ∧ Mz d n k N) := by
  constructor
  · rintro ⟨f, h1, h2, h3⟩
    by_cases q : f = k
    · subst q; exact Or.inr ⟨h2, h3⟩
    · exact Or.inl ⟨f, by omega, h2, h3⟩
  · rintro (⟨f, h1, h2, h3⟩ | ⟨h2, h3⟩)
    · exact ⟨f, by omega, h2, h3⟩
    · exact ⟨k, by omega, h2, h3⟩
theorem p_place {n i : Nat} (hn : n ≤ 9) (hi : i ≤ n) {pl : Nat → Int32} {z : Int} (h : pl i = iI z) {Q : Int32 → Prop} (hQ : Q (iI z)) : wp_X2_placeOf (nI n) pl (nI i) Q := by
  unfold wp_X2_placeOf
  refine ⟨fun q => absurd q (nI_pos (by omega)), fun _ => ⟨fun q => absurd q (nI_nlt (by omega) (by omega)), fun _ => ⟨vp_in_nI (by omega) (by omega), ?_⟩⟩⟩
  rw [nI_clamp (by omega), h]
  exact hQ
set_option maxHeartbeats 1000000 in
theorem p_marks7 {n f : Nat} (hn : n ≤ 9) {pl m0 : Nat → Int32} {d : Nat → Int} (hd : ∀ l, l < n → 0 ≤ d l ∧ d l ≤ 20) (hpl : ∀ j, j ≤ n → pl j = iI (mk d (nI f) j)) {Q : (Nat → Int32) → Prop}
    (hQ : ∀ m1, (∀ j : Nat, 1 ≤ j → j ≤ 180 → (m1 j = 0 ↔ (m0 j = 0 ∧ ¬ Mz d n f j))) → Q m1) : wp_X0_measureMarks (nI n) pl m0 Q := by
  have e180 : (180 : Int32) = iI 180 := rfl
  have inner : ∀ (K2 : Int32 → (Nat → Int32) → Prop) (m : Nat), m ≤ n →
      (∀ m1, (∀ j : Nat, 1 ≤ j → j ≤ 180 → (m1 j = 0 ↔ (m0 j = 0 ∧ ∀ a b : Nat, b < a → a < m + 1 → ¬ (mk d (nI f) a - mk d (nI f) b = j ∨ mk d (nI f) b - mk d (nI f) a = j)))) → K2 (nI (m + 1)) m1) →
      ∀ (r o : Nat) (m1 : Nat → Int32), o + r = m → (∀ j : Nat, 1 ≤ j → j ≤ 180 → (m1 j = 0 ↔ (m0 j = 0 ∧ ∀ a b : Nat, b < a → (a < m ∨ (a = m ∧ b < o)) → ¬ (mk d (nI f) a - mk d (nI f) b = j ∨ mk d (nI f) b - mk d (nI f) a = j)))) → itr2 (B_X0_measureMarks_15 (nI n) pl (nI m) K2) (r + 1) (nI o) m1 := by
    intro K2 m hm hK r
    induction r with
    | zero =>
      intro o m1 ho h
      show B_X0_measureMarks_15 _ _ _ _ _ _ _
      unfold B_X0_measureMarks_15
      refine ⟨fun _ y e => ?_, fun q => absurd (nI_le (by omega) (by omega)) q⟩
      rw [e, nI_1]
      refine hK m1 (fun j j1 j2 => ?_)
      rw [h j j1 j2]
      exact ⟨fun z => ⟨z.1, fun a b hb ha => z.2 a b hb (by omega)⟩, fun z => ⟨z.1, fun a b hb ha => z.2 a b hb (by omega)⟩⟩
    | succ r ih =>
      intro o m1 ho h
      have df := mk_diff (x := nI f) hn hd hm (show o ≤ n by omega)
      show B_X0_measureMarks_15 _ _ _ _ _ _ _
      generalize itr2 (B_X0_measureMarks_15 (nI n) pl (nI m) K2) (r + 1) = K at ih ⊢
      unfold B_X0_measureMarks_15
      refine ⟨fun q => absurd q (nI_ge (by omega) (by omega)), fun _ => p_place hn hm (hpl m hm) (p_place hn (by omega) (hpl o (by omega)) ?_)⟩
      rintro y4 e4
      rw [iI_sub] at e4
      have f4 : y4 = iI (if 0 ≤ mk d (nI f) m - mk d (nI f) o then mk d (nI f) m - mk d (nI f) o else 0 - (mk d (nI f) m - mk d (nI f) o)) := by
        rw [e4]
        have z0 : (0 : Int32) = iI 0 := rfl
        rw [z0, iI_sub]
        simp only [iI_le (a := 0) (b := mk d (nI f) m - mk d (nI f) o) (by omega) (by omega) (by omega) (by omega)]
        exact iI_if _ _
      generalize hw : (if 0 ≤ mk d (nI f) m - mk d (nI f) o then mk d (nI f) m - mk d (nI f) o else 0 - (mk d (nI f) m - mk d (nI f) o)) = w at f4
      have hwb : 0 ≤ w ∧ w ≤ 180 ∧ (w = mk d (nI f) m - mk d (nI f) o ∨ w = mk d (nI f) o - mk d (nI f) m) := by
        rw [← hw]
        split <;> omega
      subst f4
      rw [e180, iI_lt (by omega) (by omega) (by omega) (by omega), iI_in (by omega) (by omega), iI_cl (by omega) (by omega), nar1]
      refine ⟨fun q => absurd q (by omega), fun _ => ⟨by omega, fun y e => ?_⟩⟩
      rw [e, nI_1]
      refine ih (o + 1) _ (by omega) (fun j j1 j2 => ?_)
      rw [upd_eq]
      by_cases q : j = w.toNat
      · rw [if_pos q]
        refine ⟨fun z => absurd z (by decide), fun z => absurd ?_ (z.2 m o (by omega) (by omega))⟩
        omega
      · rw [if_neg q, h j j1 j2]
        refine ⟨fun z => ⟨z.1, fun a b hb ha => ?_⟩, fun z => ⟨z.1, fun a b hb ha => z.2 a b hb (by omega)⟩⟩
        by_cases q2 : a = m ∧ b = o
        · obtain ⟨rfl, rfl⟩ := q2
          omega
        · exact z.2 a b hb (by omega)
  have outer : ∀ (r m : Nat) (m1 : Nat → Int32), m + r = n + 1 → (∀ j : Nat, 1 ≤ j → j ≤ 180 → (m1 j = 0 ↔ (m0 j = 0 ∧ ∀ a b : Nat, b < a → a < m → ¬ (mk d (nI f) a - mk d (nI f) b = j ∨ mk d (nI f) b - mk d (nI f) a = j)))) → itr2 (B_X0_measureMarks_2 (nI n) pl Q) (r + 1) (nI m) m1 := by
    intro r
    induction r with
    | zero =>
      intro m m1 hm h
      show B_X0_measureMarks_2 _ _ _ _ _ _
      unfold B_X0_measureMarks_2
      refine ⟨fun _ => hQ m1 (fun j j1 j2 => ?_), fun q => absurd (nI_lt (by omega) (by omega)) q⟩
      rw [h j j1 j2]
      refine ⟨fun z => ⟨z.1, ?_⟩, fun z => ⟨z.1, fun a b hb ha q => z.2 ?_⟩⟩
      · rintro ⟨a, b, ha, hb, hab⟩
        rcases Nat.lt_trichotomy a b with q | q | q
        · exact z.2 b a q (by omega) (Or.inr hab)
        · subst q; omega
        · exact z.2 a b q (by omega) (Or.inl hab)
      · rcases q with q | q
        · exact ⟨a, b, by omega, by omega, q⟩
        · exact ⟨b, a, by omega, by omega, q⟩
    | succ r ih =>
      intro m m1 hm h
      show B_X0_measureMarks_2 _ _ _ _ _ _
      generalize itr2 (B_X0_measureMarks_2 (nI n) pl Q) (r + 1) = K at ih ⊢
      unfold B_X0_measureMarks_2
      refine ⟨fun q => absurd q (nI_nlt (by omega) (by omega)), fun _ => ?_⟩
      have := inner K m (by omega) (fun m2 h2 => ih (m + 1) m2 (by omega) h2) m 0 m1 (by omega) (fun j j1 j2 => by
        rw [h j j1 j2]
        exact ⟨fun z => ⟨z.1, fun a b hb ha => z.2 a b hb (by omega)⟩, fun z => ⟨z.1, fun a b hb ha => z.2 a b hb (by omega)⟩⟩)
      exact ⟨_, this⟩
  unfold wp_X0_measureMarks
  have h := outer (n + 1) 0 m0 (by omega) (fun j _ _ => ⟨fun z => ⟨z, fun a b _ ha => absurd ha (Nat.not_lt_zero a)⟩, fun z => z.1⟩)
  exact ⟨_, h⟩
set_option maxHeartbeats 1000000 in
theorem p_meas7 {n F T : Nat} (hn : n ≤ 9) (hT : T < 2 ^ (n - 1)) {ln pl0 m0 : Nat → Int32} {g1 g2 g3 : Int32} {d : Nat → Int} (hp0 : pl0 0 = 0) (hd : DL n ln (-9) 0 d) {Q : (Nat → Int32) → Int32 → Int32 → Int32 → (Nat → Int32) → Prop}
    (hQ : ∀ m1 a b c pl, pl 0 = 0 → (∀ j : Nat, 1 ≤ j → j ≤ 180 → (m1 j = 0 ↔ ¬ MA F T d n (2 ^ (n - 1)) j)) → Q m1 a b c pl) : wp_X0_measureAll m0 (nI n) (nI F) (nI T) g1 g2 g3 ln pl0 Q := by
  have hp := pw hn
  have hdb := hd.b (Nat.le_refl n)
  have key : ∀ (r f : Nat) (m1 : Nat → Int32) (a b c : Int32) (pl : Nat → Int32), f + r = 2 ^ (n - 1) → pl 0 = 0 → (∀ j : Nat, 1 ≤ j → j ≤ 180 → (m1 j = 0 ↔ ¬ MA F T d n f j)) → itr6 (B_X0_measureAll_24 (nI n) (nI F) (nI T) ln Q) (r + 1) (nI f) m1 a b c pl := by
    intro r
    induction r with
    | zero =>
      intro f m1 a b c pl hf h0 h
      show B_X0_measureAll_24 _ _ _ _ _ _ _ _ _ _ _ _
      unfold B_X0_measureAll_24
      refine p_limit hn ⟨fun _ => ?_, fun q => absurd (nI_le (by omega) (by omega)) q⟩
      have e : f = 2 ^ (n - 1) := by omega
      subst e
      exact hQ m1 a b c pl h0 h
    | succ r ih =>
      intro f m1 a b c pl hf h0 h
      show B_X0_measureAll_24 _ _ _ _ _ _ _ _ _ _ _ _
      generalize itr6 (B_X0_measureAll_24 (nI n) (nI F) (nI T) ln Q) (r + 1) = K at ih ⊢
      unfold B_X0_measureAll_24
      refine p_limit hn ⟨fun q => absurd q (nI_ge (by omega) (by omega)), fun _ => p_isF7 hn hT (by omega) (fun hok => be1 ?_) (fun hok => be0 ?_)⟩
      · unfold wp_X2_layOut
        refine p_lay hn hd (fun pl' h0' h1' => ?_)
        refine p_marks7 (f := f) hn hdb (fun j hj => ?_) (fun m2 h2 y e => ?_)
        · cases j with
          | zero => exact h0'.trans h0
          | succ j => exact h1' (j + 1) (by omega) hj
        · rw [e, nI_1]
          refine ih (f + 1) m2 _ _ _ pl' (by omega) (h0'.trans h0) (fun j j1 j2 => ?_)
          rw [h2 j j1 j2, h j j1 j2, MA_s]
          exact ⟨fun z q => q.elim z.1 (fun w => z.2 w.2), fun z => ⟨fun q => z (Or.inl q), fun q => z (Or.inr ⟨hok, q⟩)⟩⟩
      · rintro y e
        rw [e, nI_1]
        refine ih (f + 1) m1 a b c pl (by omega) h0 (fun j j1 j2 => ?_)
        rw [h j j1 j2, MA_s]
        exact ⟨fun z q => q.elim z (fun w => absurd (hok.symm.trans w.1) (by decide)), fun z q => z (Or.inl q)⟩
  have clr : ∀ (r i : Nat) (m1 : Nat → Int32), i + r = 181 → (∀ j, j < i → m1 j = 0) → itr2 (B_X0_measureAll_2 (nI n) (nI F) (nI T) g1 g2 g3 ln pl0 Q) (r + 1) (nI i) m1 := by
    intro r
    induction r with
    | zero =>
      intro i m1 hi h
      show B_X0_measureAll_2 _ _ _ _ _ _ _ _ _ _ _ _
      unfold B_X0_measureAll_2
      refine ⟨fun _ => ?_, fun q => absurd (nI_lt (a := 180) (b := i) (by omega) (by omega)) q⟩
      have := key (2 ^ (n - 1)) 0 m1 g1 g2 g3 pl0 (by omega) hp0 (fun j j1 j2 => ⟨fun _ q => by obtain ⟨f, hf, -⟩ := q; omega, fun _ => h j (by omega)⟩)
      exact ⟨_, this⟩
    | succ r ih =>
      intro i m1 hi h
      show B_X0_measureAll_2 _ _ _ _ _ _ _ _ _ _ _ _
      generalize itr2 (B_X0_measureAll_2 (nI n) (nI F) (nI T) g1 g2 g3 ln pl0 Q) (r + 1) = K at ih ⊢
      unfold B_X0_measureAll_2
      refine ⟨fun q => absurd q (nI_nlt (a := 180) (b := i) (by omega) (by omega)), fun _ => ⟨vp_in_nI (by omega) (by omega), fun y e => ?_⟩⟩
      rw [e, nI_1, nI_clamp (by omega), nar0]
      refine ih (i + 1) _ (by omega) (fun j hj => ?_)
      rw [upd_eq]
      split
      · rfl
      · exact h j (by omega)
  unfold wp_X0_measureAll
  have h := clr 181 0 m0 (by omega) (fun j hj => absurd hj (Nat.not_lt_zero j))
  exact ⟨_, h⟩
