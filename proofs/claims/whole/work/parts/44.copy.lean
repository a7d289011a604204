/-! copies, links, joints -/
theorem ix {x : Int32} {N : Nat} (h0 : 0 ≤ x.toInt) (h1 : x.toInt < (N : Int)) : ∃ i : Nat, i < N ∧ x = nI i := by
  refine ⟨x.toInt.toNat, by omega, ?_⟩
  rw [nI_i, show ((x.toInt.toNat : Nat) : Int) = x.toInt by omega]
  exact (Int32.ofInt_toInt x).symm
theorem t_nI {n : Nat} (h : n < 2147483648) : (nI n).toInt = (n : Int) := nI_toInt h
theorem t_0 : (0 : Int32).toInt = 0 := rfl
theorem t_1 : (1 : Int32).toInt = 1 := rfl
theorem mk_in {d : Nat → Int} {x : Int32} : ∀ (j : Nat), lo d x j ≤ mk d x j ∧ mk d x j ≤ hi d x j
  | 0 => by simp [lo, mk, hi]
  | j + 1 => by
    unfold lo hi
    constructor <;> split <;> omega
theorem sp_b2 {d : Nat → Int} {x : Int32} : ∀ (j : Nat), (∀ l, l < j → 0 ≤ d l ∧ d l ≤ 20) → 0 ≤ sp d x j ∧ sp d x j ≤ 20 * (j : Int)
  | 0, _ => by simp [sp, hi, lo]
  | j + 1, h => by
    have h1 := sp_b2 (x := x) j (fun l hl => h l (by omega))
    have h2 := h j (by omega)
    have h3 := mk_in (d := d) (x := x) j
    have e : mk d x (j + 1) = mk d x j + wy x j * d j := rfl
    have e1 : hi d x (j + 1) = if hi d x j < mk d x (j + 1) then mk d x (j + 1) else hi d x j := rfl
    have e2 : lo d x (j + 1) = if mk d x (j + 1) < lo d x j then mk d x (j + 1) else lo d x j := rfl
    unfold sp at *
    rw [e1, e2, e]
    rcases wy_1 x j with q | q <;> rw [q] <;> push_cast <;> split <;> split <;> omega
theorem p_joints {n : Nat} (hn : n ≤ 9) {Q : Int32 → Prop} (h : Q (nI (n - 1))) : wp_X5_joints (nI n) Q := by
  unfold wp_X5_joints
  rintro y e
  have f : y = nI (n - 1) := by
    rw [e]
    cases n with
    | zero => rfl
    | succ k =>
      rw [nI_pred, if_neg (nI_pos (by omega)), Nat.add_sub_cancel]
  rw [f]
  exact h
theorem p_joint7 {n : Nat} (hn : n ≤ 9) {x : Int32} {Q : Int32 → Prop} (h1 : ∀ j : Nat, j + 1 < n → x = nI j → Q 1) (h0 : (x.toInt < 0 ∨ (n : Int) ≤ x.toInt + 1) → Q 0) : wp_X5_hasJoint (nI n) x Q := by
  unfold wp_X5_hasJoint
  refine ⟨fun c => h0 (Or.inl ?_), fun c => p_joints hn ⟨fun e => h0 ?_, fun e => ?_⟩⟩
  · rw [Int32.lt_iff_toInt_lt, t_0] at c; exact c
  · rw [Int32.le_iff_toInt_le, t_nI (by omega)] at e
    omega
  · rw [Int32.lt_iff_toInt_lt, t_0] at c
    rw [Int32.le_iff_toInt_le, t_nI (by omega)] at e
    obtain ⟨j, hj, rfl⟩ := ix (x := x) (N := n - 1) (by omega) (by omega)
    exact h1 j (by omega) rfl
theorem p_joint8 {n : Nat} (hn : n ≤ 9) {x : Int32} {Q : Int32 → Prop} (h1 : ∀ j : Nat, j + 1 < n → x = nI j → Q 1) (h0 : (x.toInt < 0 ∨ (n : Int) ≤ x.toInt + 1) → Q 0) : wp_X8_isJoint (nI n) x Q := by
  have e2 : (nI n - 2).toInt = (n : Int) - 2 := pk_sub_toInt (a := n) (b := 2) (by omega) (by omega)
  unfold wp_X8_isJoint
  refine p_in8 (fun a b => ⟨Or.inr rfl, ?_⟩) (fun a => ⟨Or.inl rfl, h0 ?_⟩)
  · rw [t_0] at a
    rw [e2] at b
    obtain ⟨j, hj, rfl⟩ := ix (x := x) (N := n - 1) (by omega) (by omega)
    exact h1 j (by omega) rfl
  · rw [t_0, e2] at a
    omega
theorem p_link7 {n : Nat} (hn : n ≤ 9) {x : Int32} {Q : Int32 → Prop} (h1 : ∀ j : Nat, j < n → x = nI j → Q 1) (h0 : (x.toInt < 0 ∨ (n : Int) ≤ x.toInt) → Q 0) : wp_X5_hasLink (nI n) x Q := by
  unfold wp_X5_hasLink
  refine ⟨fun c => h0 (Or.inl ?_), fun c => ⟨fun e => h0 (Or.inr ?_), fun e => ?_⟩⟩
  · rw [Int32.lt_iff_toInt_lt, t_0] at c; exact c
  · rw [Int32.le_iff_toInt_le, t_nI (by omega)] at e
    exact e
  · rw [Int32.lt_iff_toInt_lt, t_0] at c
    rw [Int32.le_iff_toInt_le, t_nI (by omega)] at e
    obtain ⟨j, hj, rfl⟩ := ix (x := x) (N := n) (by omega) (by omega)
    exact h1 j hj rfl
theorem p_link8 {n : Nat} (hn : n ≤ 9) {x : Int32} {Q : Int32 → Prop} (h1 : ∀ j : Nat, j < n → x = nI j → Q 1) (h0 : (x.toInt < 0 ∨ (n : Int) ≤ x.toInt) → Q 0) : wp_X8_isLink (nI n) x Q := by
  have e2 : (nI n - 1).toInt = (n : Int) - 1 := pk_sub_toInt (a := n) (b := 1) (by omega) (by omega)
  unfold wp_X8_isLink
  refine p_in8 (fun a b => ⟨Or.inr rfl, ?_⟩) (fun a => ⟨Or.inl rfl, h0 ?_⟩)
  · rw [t_0] at a
    rw [e2] at b
    obtain ⟨j, hj, rfl⟩ := ix (x := x) (N := n) (by omega) (by omega)
    exact h1 j hj rfl
  · rw [t_0, e2] at a
    omega
theorem no_ix {j n : Nat} (h : j < n) (hn : n ≤ 99) (h0 : (nI j).toInt < 0 ∨ (n : Int) ≤ (nI j).toInt) : False := by
  rw [t_nI (by omega)] at h0
  omega
theorem p_copyFrom {a b c k f s : Int32} {l0 l1 : Nat → Int32} {Q : Int32 → Int32 → Int32 → (Nat → Int32) → Prop} (hQ : ∀ l2, (∀ j, j < 9 → l2 j = l1 j) → Q k f s l2) : wp_X5_copyFrom a b c k f s l1 l0 Q := by
  have key : ∀ (r i : Nat) (l2 : Nat → Int32), i + r = 9 → (∀ j, j < i → l2 j = l1 j) → itr2 (B_X5_copyFrom_2 k f s l1 Q) (r + 1) (nI i) l2 := by
    intro r
    induction r with
    | zero =>
      intro i l2 hi h
      have e : i = 9 := by omega
      subst e
      show B_X5_copyFrom_2 _ _ _ _ _ _ _ _
      unfold B_X5_copyFrom_2
      exact ⟨fun _ => hQ l2 h, fun c => absurd (nI_le (a := 9) (b := 9) (Nat.le_refl 9) (by omega)) c⟩
    | succ r ih =>
      intro i l2 hi h
      have hin : vp_in (nI i) 9 := vp_in_nI (by omega) (by omega)
      have hcl : (nI i).toNatClampNeg = i := nI_clamp (by omega)
      show B_X5_copyFrom_2 _ _ _ _ _ _ _ _
      unfold B_X5_copyFrom_2
      refine ⟨fun c => absurd c (nI_ge (a := i) (b := 9) (by omega) (by omega)), fun _ => ⟨hin, fun y1 e1 => ⟨hin, fun y2 e2 => ?_⟩⟩⟩
      rw [e2, nI_1]
      refine ih (i + 1) _ (by omega) (fun j hj => ?_)
      rw [e1, hcl, upd_eq]
      by_cases q : j = i
      · rw [if_pos q, q]
      · rw [if_neg q]; exact h j (by omega)
  unfold wp_X5_copyFrom
  have h := key 9 0 l0 (by omega) (fun j hj => absurd hj (Nat.not_lt_zero j))
  rw [nI_0] at h
  exact ⟨_, h⟩
theorem p_copyRow {row : Nat → Int32} (a b : Nat) (ha : a ≤ 132) (hb : b ≤ 132) (hab : a + 11 ≤ b ∨ b + 11 ≤ a) {Q : (Nat → Int32) → Prop} (hQ : ∀ r2, (∀ j, j < 11 → r2 (b + j) = row (a + j)) → (∀ i, (i < b ∨ b + 11 ≤ i) → r2 i = row i) → Q r2) : wp_X8_copyRow row (nI a) (nI b) Q := by
  have key : ∀ (r i : Nat) (r2 : Nat → Int32), i + r = 11 → (∀ j, j < i → r2 (b + j) = row (a + j)) → (∀ q, (q < b ∨ b + i ≤ q) → r2 q = row q) → itr2 (B_X8_copyRow_2 (nI a) (nI b) Q) (r + 1) (nI i) r2 := by
    intro r
    induction r with
    | zero =>
      intro i r2 hi h h2
      have e : i = 11 := by omega
      subst e
      show B_X8_copyRow_2 _ _ _ _ _ _
      unfold B_X8_copyRow_2
      exact ⟨fun _ => hQ r2 h h2, fun c => absurd (nI_le (a := 11) (b := 11) (Nat.le_refl 11) (by omega)) c⟩
    | succ r ih =>
      intro i r2 hi h h2
      have hina : vp_in (nI a + nI i) 143 := by rw [nI_add]; exact vp_in_nI (by omega) (by omega)
      have hinb : vp_in (nI b + nI i) 143 := by rw [nI_add]; exact vp_in_nI (by omega) (by omega)
      have hca : (nI a + nI i).toNatClampNeg = a + i := by rw [nI_add]; exact nI_clamp (by omega)
      have hcb : (nI b + nI i).toNatClampNeg = b + i := by rw [nI_add]; exact nI_clamp (by omega)
      show B_X8_copyRow_2 _ _ _ _ _ _
      unfold B_X8_copyRow_2
      refine ⟨fun c => absurd c (nI_ge (a := i) (b := 11) (by omega) (by omega)), fun _ => ⟨hina, fun y1 e1 => ⟨hinb, fun y2 e2 => ?_⟩⟩⟩
      rw [e2, nI_1]
      have f1 : y1 = row (a + i) := by
        rw [e1, hca]
        exact h2 (a + i) (by omega)
      refine ih (i + 1) _ (by omega) (fun j hj => ?_) (fun q hq => ?_)
      · rw [hcb, upd_eq]
        by_cases q : j = i
        · rw [if_pos (by omega), q, f1]
        · rw [if_neg (by omega)]; exact h j (by omega)
      · rw [hcb, upd_eq, if_neg (by omega)]
        exact h2 q (by omega)
  unfold wp_X8_copyRow
  have h := key 11 0 row (by omega) (fun j hj => absurd hj (Nat.not_lt_zero j)) (fun _ _ => rfl)
  rw [nI_0] at h
  exact ⟨_, h⟩
/-- a strip that is copied from one that is as a part of the row is as the part that is copied from that part -/
theorem SR.copy {n : Nat} {ks : Int32} {ln ln2 : Nat → Int32} {fo st : Int32} {row row2 : Nat → Int32} {a b : Nat} (hn : n ≤ 9) (h : SR n ks ln fo st row a) (hl : ∀ j, j < 9 → ln2 j = ln j) (hr : ∀ j, j < 11 → row2 (b + j) = row (a + j)) : SR n ks ln2 fo st row2 b := by
  obtain ⟨h1, h2, h3, h4, h5, h6, h7⟩ := h
  refine ⟨h1, fun j hj => ?_, ?_, ?_, fun j hj => ?_, h6, h7⟩
  · rw [hl j (by omega), hr j (by omega)]; exact h2 j hj
  · rw [hr 9 (by omega)]; exact h3
  · rw [hr 10 (by omega)]; exact h4
  · rw [hl j (by omega)]; exact h5 j hj
theorem RHist.keepRow {n : Nat} {slot size undos : Int32} {ks fo st : Nat → Int32} {ln : Nat → Nat → Int32} {row row2 : Nat → Int32} (hn : n ≤ 9) (h : RHist n slot size ks fo st ln undos row) (e : ∀ i, 11 ≤ i → i < 121 → row2 i = row i) : RHist n slot size ks fo st ln undos row2 := by
  obtain ⟨k, s, h1, h2, h3, h4, h5, h6⟩ := h
  exact ⟨k, s, h1, h2, h3, h4, h5, fun i hi => (h6 i hi).congr hn (fun j hj => e _ (by omega) (by omega))⟩
theorem RImg.keepRow {n : Nat} {kept isKept : Nat → Int32} {ks fo st : Nat → Int32} {ln : Nat → Nat → Int32} {row row2 : Nat → Int32} (hn : n ≤ 9) (h : RImg n kept isKept ks fo st ln row) (e : ∀ i, 121 ≤ i → i < 143 → row2 i = row i) : RImg n kept isKept ks fo st ln row2 := by
  intro i hi
  obtain ⟨h1, h2, h3⟩ := h i hi
  exact ⟨h1, h2, fun c => (h3 c).congr hn (fun j hj => e _ (by omega) (by omega))⟩
