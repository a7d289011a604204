/-! how many ways have one span behind a fold -/
theorem p_tallied {ta : Nat → Int32} {s : Nat} (hs : s ≤ 180) {Q : Int32 → (Nat → Int32) → Prop} (h : Q (ta s + 1) (upd ta s (ta s + 1))) : wp_X4_tallied ta (nI s) Q := by
  unfold wp_X4_tallied
  refine p_in7 (fun _ _ => bn1 ⟨vp_in_nI (by omega) (by omega), ?_⟩) (fun c => absurd c (by rw [t_0, show (180 : Int32).toInt = 180 from rfl, t_nI (by omega)]; omega))
  rintro y e
  rw [nI_clamp (by omega)] at e ⊢
  subst e
  refine ⟨vp_in_nI (by omega) (by omega), vp_in_nI (by omega) (by omega), ?_⟩
  rw [upd_eq, if_pos rfl]
  exact h
theorem p_mostAlike {n m f : Nat} (hn : n ≤ 9) {ln fs ss ta0 iw pl0 : Nat → Int32} {g1 g2 g3 : Int32} {fo st : Int32} (hS : SV n ln fo st) (hiw : ∀ j, j < 90 → iw j = bI (wJ n ln fs ss m j)) {Q : Int32 → (Nat → Int32) → Int32 → Int32 → Int32 → (Nat → Int32) → Prop}
    (hQ : ∀ ta a b c pl, Q (nI (TT (sW n ln f) (wJ n ln fs ss m) 90).2) ta a b c pl) : wp_X4_mostAlike ta0 iw (nI n) g1 g2 g3 ln pl0 (nI f) Q := by
  have key2 : ∀ (r j : Nat) (ta : Nat → Int32) (a b c : Int32) (pl : Nat → Int32), j + r = 90 → (∀ q, q ≤ 180 → ta q = nI ((TT (sW n ln f) (wJ n ln fs ss m) j).1 q)) → itr7 (B_X4_mostAlike_27 iw (nI n) ln (nI f) Q) (r + 1) (nI (TT (sW n ln f) (wJ n ln fs ss m) j).2) (nI j) ta a b c pl := by
    intro r
    induction r with
    | zero =>
      intro j ta a b c pl hj ht
      have e : j = 90 := by omega
      subst e
      show B_X4_mostAlike_27 _ _ _ _ _ _ _ _ _ _ _ _ _
      unfold B_X4_mostAlike_27
      exact ⟨fun _ => hQ ta a b c pl, fun q => absurd (nI_le (a := 90) (b := 90) (by omega) (by omega)) q⟩
    | succ r ih =>
      intro j ta a b c pl hj ht
      obtain ⟨b1, b2⟩ := TT_b (s := sW n ln f) (ok := wJ n ln fs ss m) j
      have b3 := cntF_le (wJ n ln fs ss m) j
      show B_X4_mostAlike_27 _ _ _ _ _ _ _ _ _ _ _ _ _
      generalize itr7 (B_X4_mostAlike_27 iw (nI n) ln (nI f) Q) (r + 1) = K at ih ⊢
      unfold B_X4_mostAlike_27
      rw [nI_clamp (by omega), hiw j (by omega), d10 (by omega), r10 (by omega)]
      refine ⟨fun q => absurd q (nI_ge (a := j) (b := 90) (by omega) (by omega)), fun _ => ⟨vp_in_nI (by omega) (by omega), ?_⟩⟩
      cases hJ : wJ n ln fs ss m j with
      | false =>
        refine be0 (fun y e => ?_)
        have := ih (j + 1) ta a b c pl (by omega) (by rw [TT_n hJ]; exact ht)
        rw [TT_n hJ] at this
        rw [e, nI_1]; exact this
      | true =>
        have hw := wJ_t hJ
        have hd := dW_DL (k := j % 10) hn hS (fun _ _ => rfl) hw.1 hw.2
        obtain ⟨z1, z2⟩ := sW_i (f := f) hn (hd.b (Nat.le_refl n))
        refine be1 ⟨by decide, by decide, p_lay hn hd (fun pl2 _ _ => ?_)⟩
        unfold wp_X2_span
        rw [iI_sub]
        show wp_X4_tallied ta (iI (sp (dW ln (j / 10) (j % 10)) (nI f) n)) _
        rw [z1]
        refine p_tallied z2 ?_
        rintro y e y2 e2
        have bs := b1 (sW n ln f j)
        rw [ht _ z2, nI_1] at e ⊢
        have fy : y = nI (if (TT (sW n ln f) (wJ n ln fs ss m) j).2 < (TT (sW n ln f) (wJ n ln fs ss m) j).1 (sW n ln f j) + 1 then (TT (sW n ln f) (wJ n ln fs ss m) j).1 (sW n ln f j) + 1 else (TT (sW n ln f) (wJ n ln fs ss m) j).2) := by
          rw [e]
          by_cases q : (TT (sW n ln f) (wJ n ln fs ss m) j).2 < (TT (sW n ln f) (wJ n ln fs ss m) j).1 (sW n ln f j) + 1
          · rw [if_pos q, if_pos (nI_lt q (by omega))]
          · rw [if_neg q, if_neg (nI_nlt (by omega) (by omega))]
        have := ih (j + 1) (upd ta (sW n ln f j) (nI ((TT (sW n ln f) (wJ n ln fs ss m) j).1 (sW n ln f j) + 1))) (nI n) (iI (lo (dW ln (j / 10) (j % 10)) (nI f) n)) (iI (hi (dW ln (j / 10) (j % 10)) (nI f) n)) pl2 (by omega) (fun q hq => ?_)
        · rw [TT_y hJ] at this
          rw [fy, e2, nI_1]; exact this
        · rw [upd_eq, TT_y hJ]
          show _ = nI (if q = sW n ln f j then (TT (sW n ln f) (wJ n ln fs ss m) j).1 q + 1 else (TT (sW n ln f) (wJ n ln fs ss m) j).1 q)
          by_cases z : q = sW n ln f j
          · rw [if_pos z, if_pos z, z]
          · rw [if_neg z, if_neg z]; exact ht q hq
  have key : ∀ (r s : Nat) (ta : Nat → Int32), s + r = 181 → (∀ q, q < s → ta q = 0) → itr2 (B_X4_mostAlike_2 iw (nI n) g1 g2 g3 ln pl0 (nI f) Q) (r + 1) (nI s) ta := by
    intro r
    induction r with
    | zero =>
      intro s ta hs ht
      have e : s = 181 := by omega
      subst e
      show B_X4_mostAlike_2 _ _ _ _ _ _ _ _ _ _ _ _
      unfold B_X4_mostAlike_2
      refine ⟨fun _ => ?_, fun q => absurd (nI_lt (a := 180) (b := 181) (by omega) (by omega)) q⟩
      have h := key2 90 0 ta g1 g2 g3 pl0 (by omega) (fun q hq => by rw [ht q (by omega)]; rfl)
      exact ⟨_, h⟩
    | succ r ih =>
      intro s ta hs ht
      show B_X4_mostAlike_2 _ _ _ _ _ _ _ _ _ _ _ _
      generalize itr2 (B_X4_mostAlike_2 iw (nI n) g1 g2 g3 ln pl0 (nI f) Q) (r + 1) = K at ih ⊢
      unfold B_X4_mostAlike_2
      refine ⟨fun q => absurd q (nI_nlt (a := 180) (b := s) (by omega) (by omega)), fun _ => ⟨vp_in_nI (by omega) (by omega), fun y e => ?_⟩⟩
      rw [e, nI_1, nI_clamp (by omega)]
      refine ih (s + 1) _ (by omega) (fun q hq => ?_)
      rw [upd_eq]
      by_cases z : q = s
      · rw [if_pos z]
      · rw [if_neg z]; exact ht q (by omega)
  unfold wp_X4_mostAlike
  exact ⟨_, key 181 0 ta0 (by omega) (fun q hq => absurd hq (Nat.not_lt_zero q))⟩
def alk (n : Nat) (ln fs ss : Nat → Int32) (m f : Nat) : Int := ((TT (sW n ln f) (wJ n ln fs ss m) 90).2 : Int)
theorem alk_b {n m f : Nat} {ln fs ss : Nat → Int32} : 0 ≤ alk n ln fs ss m f ∧ alk n ln fs ss m f ≤ (cntF (wJ n ln fs ss m) 90 : Int) := by
  have := (TT_b (s := sW n ln f) (ok := wJ n ln fs ss m) 90).2
  unfold alk
  omega
theorem p_bestTry {n m F T : Nat} (hn : n ≤ 9) (hm : m ≤ 6) (hT : T < 2 ^ (n - 1)) {ln fs ss ta0 iw0 pl0 : Nat → Int32} {g1 g2 g3 : Int32} {fo st : Int32} (hS : SV n ln fo st) (hw : ∀ i : Nat, i < 9 → iw0 (10 * i) = 0) {Q : Int32 → Int32 → Int32 → Int32 → (Nat → Int32) → (Nat → Int32) → (Nat → Int32) → Prop}
    (h1 : ∀ a b c pl iw ta, 2 ≤ cntF (wJ n ln fs ss m) 90 → (∀ i : Nat, i < 9 → iw (10 * i) = 0) → Q (iI (bst (fB F T) (alk n ln fs ss m) ((cntF (wJ n ln fs ss m) 90 : Int) + 1) (2 ^ (n - 1))).1) a b c pl iw ta)
    (h0 : ∀ a b c pl iw ta, cntF (wJ n ln fs ss m) 90 < 2 → (∀ i : Nat, i < 9 → iw (10 * i) = 0) → Q (-9) a b c pl iw ta) : wp_X4_bestTry (nI n) (nI F) (nI T) ln (nI m) fs g1 g2 g3 pl0 ss iw0 ta0 Q := by
  have hp := pw hn
  have c90 := cntF_le (wJ n ln fs ss m) 90
  unfold wp_X4_bestTry
  refine p_findWays hn hm hS hw (fun a b c pl iw hi hz => ?_)
  rintro y7 e7
  rw [nI_1] at e7
  subst e7
  rw [show (2 : Int32) = nI 2 from rfl, nI_ltI (by omega) (by omega)]
  refine ⟨fun q => ?_, fun q => h0 _ _ _ _ _ _ (by omega) hz⟩
  have key : ∀ (r f : Nat) (a b c : Int32) (pl ta : Nat → Int32), f + r = 2 ^ (n - 1) → itr8 (B_X4_bestTry_22 (nI n) (nI F) (nI T) ln iw Q) (r + 1) (iI (bst (fB F T) (alk n ln fs ss m) ((cntF (wJ n ln fs ss m) 90 : Int) + 1) f).2) (iI (bst (fB F T) (alk n ln fs ss m) ((cntF (wJ n ln fs ss m) 90 : Int) + 1) f).1) (nI f) a b c pl ta := by
    intro r
    induction r with
    | zero =>
      intro f a b c pl ta hf
      show B_X4_bestTry_22 _ _ _ _ _ _ _ _ _ _ _ _ _ _ _
      unfold B_X4_bestTry_22
      refine p_limit hn ⟨fun _ => ?_, fun q => absurd (nI_le (by omega) (by omega)) q⟩
      have e : f = 2 ^ (n - 1) := by omega
      rw [e]
      exact h1 a b c pl iw ta (by omega) hz
    | succ r ih =>
      intro f a b c pl ta hf
      have bb := bst_b (ok := fB F T) (key := alk n ln fs ss m) (a := (cntF (wJ n ln fs ss m) 90 : Int) + 1) (L := 0) (by omega) f (fun g _ => alk_b.1)
      have sb := alk_b (n := n) (m := m) (f := f) (ln := ln) (fs := fs) (ss := ss)
      show B_X4_bestTry_22 _ _ _ _ _ _ _ _ _ _ _ _ _ _ _
      generalize itr8 (B_X4_bestTry_22 (nI n) (nI F) (nI T) ln iw Q) (r + 1) = K at ih ⊢
      unfold B_X4_bestTry_22
      refine p_limit hn ⟨fun q => absurd q (nI_ge (by omega) (by omega)), fun _ => p_isF7 hn hT (by omega) (fun hok => be1 ?_) (fun hok => be0 ?_)⟩
      · refine p_mostAlike hn hS hi (fun ta2 a2 b2 c2 pl2 => ?_)
        rw [nI_i, show iI (((TT (sW n ln f) (wJ n ln fs ss m) 90).2 : Nat) : Int) = iI (alk n ln fs ss m f) from rfl]
        rw [iI_le (by omega) (by omega) (by omega) (by omega)]
        refine ⟨fun q y e => ?_, fun q y e => ?_⟩
        · rw [e, nI_1]
          have := ih (f + 1) a2 b2 c2 pl2 ta2 (by omega)
          rw [bst_n (fun z => absurd z.2 (by omega))] at this
          exact this
        · rw [e, nI_1]
          have := ih (f + 1) a2 b2 c2 pl2 ta2 (by omega)
          rw [bst_y hok (by omega), ← nI_i] at this
          exact this
      · rintro y e
        rw [e, nI_1]
        have := ih (f + 1) a b c pl ta (by omega)
        rw [bst_n (fun z => absurd (hok.symm.trans z.1) (by decide))] at this
        exact this
  have h := key (2 ^ (n - 1)) 0 a b c pl ta0 (by omega)
  rw [nI_i, nI_0] at h
  exact ⟨_, h⟩
theorem p_zero8 {ms wa row : Nat → Int32} {gn M x1 x2 x3 x4 : Int32} {K12 : Int32 → Int32 → Int32 → (Nat → Int32) → (Nat → Int32) → Prop}
    (h : ∀ hs, (∀ q, q < 181 → hs q = 0) → ∃ n : Nat, itr4 (B_X8_next_72 gn M row wa x1 x2 x3 K12) n x4 (0 : Int32) ms hs) (hs0 : Nat → Int32) : ∃ n : Nat, itr2 (B_X8_next_47 gn M row ms wa x1 x2 x3 x4 K12) n (0 : Int32) hs0 := by
  have key : ∀ (r s : Nat) (ta : Nat → Int32), s + r = 181 → (∀ q, q < s → ta q = 0) → itr2 (B_X8_next_47 gn M row ms wa x1 x2 x3 x4 K12) (r + 1) (nI s) ta := by
    intro r
    induction r with
    | zero =>
      intro s ta hs ht
      have e : s = 181 := by omega
      subst e
      show B_X8_next_47 _ _ _ _ _ _ _ _ _ _ _ _ _
      unfold B_X8_next_47
      exact ⟨fun _ => h ta ht, fun q => absurd (nI_le (a := 181) (b := 181) (by omega) (by omega)) q⟩
    | succ r ih =>
      intro s ta hs ht
      show B_X8_next_47 _ _ _ _ _ _ _ _ _ _ _ _ _
      generalize itr2 (B_X8_next_47 gn M row ms wa x1 x2 x3 x4 K12) (r + 1) = K at ih ⊢
      unfold B_X8_next_47
      refine ⟨fun q => absurd q (nI_ge (a := s) (b := 181) (by omega) (by omega)), fun _ => ⟨vp_in_nI (by omega) (by omega), fun y e => ?_⟩⟩
      rw [e, nI_1, nI_clamp (by omega)]
      refine ih (s + 1) _ (by omega) (fun q hq => ?_)
      rw [upd_eq]
      by_cases z : q = s
      · rw [if_pos z]
      · rw [if_neg z]; exact ht q (by omega)
  exact ⟨_, key 181 0 hs0 (by omega) (fun q hq => absurd hq (Nat.not_lt_zero q))⟩
theorem p_not8 {ms wa row : Nat → Int32} {gn x1 x3 : Int32} {M : Nat} (hM : M ≤ 90) {L : Int} (hL : 0 ≤ L ∧ L ≤ 99999) {K12 : Int32 → Int32 → Int32 → (Nat → Int32) → (Nat → Int32) → Prop} (hA : ∀ hs, K12 x1 (iI L) (x3 + 1) ms hs) (hs0 : Nat → Int32) : ∃ n : Nat, itr2 (B_X8_next_47 gn (nI M) row ms wa x1 (iI L) x3 99999 K12) n (0 : Int32) hs0 := by
  have hle : (iI L ≤ (99999 : Int32)) := (iI_le (b := 99999) (by omega) (by omega) (by omega) (by omega)).mpr hL.2
  refine p_zero8 (fun hs _ => ⟨1, ?_⟩) hs0
  show B_X8_next_72 _ _ _ _ _ _ _ _ _ _ _ _ _
  unfold B_X8_next_72
  have fin : ∀ hs, (iI L ≤ (99999 : Int32) → ((iI L ≤ (99999 : Int32) → (∀ y6 : Int32, y6 = (x3 + (1 : Int32)) → (K12 x1 (iI L) y6 ms hs))) ∧ (¬ iI L ≤ (99999 : Int32) → (∀ y7 : Int32, y7 = (x3 + (1 : Int32)) → (K12 x1 99999 y7 ms hs))))) ∧ (¬ iI L ≤ (99999 : Int32) → ((iI L ≤ (99999 : Int32) → (∀ y8 : Int32, y8 = (x3 + (1 : Int32)) → (K12 x3 (iI L) y8 ms hs))) ∧ (¬ iI L ≤ (99999 : Int32) → (∀ y9 : Int32, y9 = (x3 + (1 : Int32)) → (K12 x3 99999 y9 ms hs))))) :=
    fun hs => ⟨fun _ => ⟨fun _ y e => by rw [e]; exact hA hs, fun q => absurd hle q⟩, fun q => absurd hle q⟩
  exact ⟨fun _ => fin hs, fun _ => ⟨fun _ => fin hs, fun q => absurd (show (99999 : Int32) ≤ 99999 by decide) q⟩⟩
theorem c81 {n m : Nat} {ln fs ss : Nat → Int32} : cntF (wJ n ln fs ss m) 90 ≤ 81 :=
  Nat.le_trans (cnt_le (ok := wJ n ln fs ss m) (a := 90) 1) (cnt_wcb (n := n) (m := m) (ln := ln) (fs := fs) (ss := ss) 81)
theorem p_alk8 {n m f : Nat} (hn : n ≤ 9) {ln fs ss row wa ms0 : Nat → Int32} {fo st : Int32} (hS : SV n ln fo st) (e : ∀ j, j < n → row j = ln j) (hwa : ∀ j, j < 90 → wJ n ln fs ss m j = true → wa (cntF (wJ n ln fs ss m) j) = nI j) {x1 : Int32} {L : Int} (hL : 0 ≤ L ∧ L ≤ 99999) {K12 : Int32 → Int32 → Int32 → (Nat → Int32) → (Nat → Int32) → Prop}
    (hA : L ≤ alk n ln fs ss m f → ∀ ms hs, K12 x1 (iI L) (nI f + 1) ms hs) (hB : alk n ln fs ss m f < L → ∀ ms hs, K12 (nI f) (iI (alk n ln fs ss m f)) (nI f + 1) ms hs) (hs0 : Nat → Int32) : ∃ q : Nat, itr2 (B_X8_next_47 (nI n) (nI (cntF (wJ n ln fs ss m) 90)) row ms0 wa x1 (iI L) (nI f) 0 K12) q (0 : Int32) hs0 := by
  have c90 := c81 (n := n) (m := m) (ln := ln) (fs := fs) (ss := ss)
  refine p_zero8 (fun hs hz => ?_) hs0
  have key : ∀ (r k j : Nat) (ta ms : Nat → Int32), k + r = cntF (wJ n ln fs ss m) 90 → j ≤ 90 → cntF (wJ n ln fs ss m) j = k → (∀ q, q ≤ 180 → ta q = nI ((TT (sW n ln f) (wJ n ln fs ss m) j).1 q)) → itr4 (B_X8_next_72 (nI n) (nI (cntF (wJ n ln fs ss m) 90)) row wa x1 (iI L) (nI f) K12) (r + 1) (nI (TT (sW n ln f) (wJ n ln fs ss m) j).2) (nI k) ms ta := by
    intro r
    induction r with
    | zero =>
      intro k j ta ms hk hj hc ht
      have ab := alk_b (n := n) (m := m) (f := f) (ln := ln) (fs := fs) (ss := ss)
      have e1 : k = cntF (wJ n ln fs ss m) 90 := by omega
      rw [TT_fin (N := 90) (90 - j) j (by omega) (by omega), nI_i (TT (sW n ln f) (wJ n ln fs ss m) 90).2, show iI (((TT (sW n ln f) (wJ n ln fs ss m) 90).2 : Nat) : Int) = iI (alk n ln fs ss m f) from rfl]
      show B_X8_next_72 _ _ _ _ _ _ _ _ _ _ _ _ _
      unfold B_X8_next_72
      rw [iI_le (a := L) (b := alk n ln fs ss m f) (by omega) (by omega) (by omega) (by omega)]
      refine ⟨fun _ => ⟨fun q => ⟨fun _ y e => ?_, fun z => absurd q z⟩, fun q => ⟨fun z => absurd z q, fun _ y e => ?_⟩⟩, fun q => absurd (nI_le (by omega) (by omega)) q⟩
      · rw [e]; exact hA q ms ta
      · rw [e]; exact hB (by omega) ms ta
    | succ r ih =>
      intro k j0 ta ms hk hj0 hc0 ht0
      obtain ⟨j, j1, j2, hJ, hc1, ht1⟩ := TT_nxt (s := sW n ln f) (ok := wJ n ln fs ss m) (N := 90) (90 - j0) j0 (by omega) (by omega)
      rw [← ht1] at ht0 ⊢
      have hc : cntF (wJ n ln fs ss m) j = k := by omega
      clear ht1 hc1 hc0 hj0 j1
      obtain ⟨b1, b2⟩ := TT_b (s := sW n ln f) (ok := wJ n ln fs ss m) j
      have b3 := cntF_le (wJ n ln fs ss m) j
      have hw := wJ_t hJ
      have hd := dW_DL (k := j % 10) hn hS e hw.1 hw.2
      obtain ⟨z1, z2⟩ := sW_i (f := f) hn (hd.b (Nat.le_refl n))
      have bs := b1 (sW n ln f j)
      show B_X8_next_72 _ _ _ _ _ _ _ _ _ _ _ _ _
      generalize itr4 (B_X8_next_72 (nI n) (nI (cntF (wJ n ln fs ss m) 90)) row wa x1 (iI L) (nI f) K12) (r + 1) = K at ih ⊢
      have hih := fun ms2 => ih (k + 1) (j + 1) (upd ta (sW n ln f j) (nI ((TT (sW n ln f) (wJ n ln fs ss m) j).1 (sW n ln f j) + 1))) ms2 (by omega) (by omega) (by rw [cnt_y hJ, hc]) (fun q hq => by
        rw [upd_eq, TT_y hJ]
        show _ = nI (if q = sW n ln f j then (TT (sW n ln f) (wJ n ln fs ss m) j).1 q + 1 else (TT (sW n ln f) (wJ n ln fs ss m) j).1 q)
        by_cases z : q = sW n ln f j
        · rw [if_pos z, if_pos z, z]
        · rw [if_neg z, if_neg z]; exact ht0 q hq)
      rw [TT_y hJ] at hih
      have hwj : wa k = nI j := by rw [← hc]; exact hwa j j2 hJ
      unfold B_X8_next_72
      rw [nI_clamp (n := k) (by omega), hwj, d10 (by omega), r10 (by omega)]
      refine ⟨fun q => absurd q (nI_ge (by omega) (by omega)), fun _ => ⟨fun q => absurd q (nI_ge (a := (TT (sW n ln f) (wJ n ln fs ss m) j).2) (b := 99999) (by omega) (by omega)), fun _ => ⟨vp_in_nI (by omega) (by omega), by decide, vp_in_nI (by omega) (by omega), by decide, p_spanFiled hn hd (fun ms2 _ => ?_)⟩⟩⟩
      rw [z1, nI_clamp (n := sW n ln f j) (by omega), ht0 _ z2, nI_1]
      refine ⟨vp_in_nI (by omega) (by omega), fun y e => ⟨vp_in_nI (by omega) (by omega), vp_in_nI (by omega) (by omega), ?_⟩⟩
      rw [e, upd_eq, if_pos rfl, nI_leI (by omega) (by omega)]
      refine ⟨fun q y e => ?_, fun q => ⟨vp_in_nI (by omega) (by omega), fun y e y2 e2 => ?_⟩⟩
      · have := hih ms2
        rw [if_neg (by omega)] at this
        rw [e, nI_1]; exact this
      · have := hih ms2
        rw [if_pos (by omega)] at this
        rw [e, e2, nI_1]; exact this
  exact ⟨_, key (cntF (wJ n ln fs ss m) 90) 0 0 hs ms0 (by omega) (by omega) rfl (fun q hq => by rw [hz q (by omega)]; rfl)⟩
theorem p_next8 {n m F T : Nat} (hn : n ≤ 9) (hm : m ≤ 6) (hT : T < 2 ^ (n - 1)) {ln row fs ss fs2 ss2 ms0 wa0 hs0 : Nat → Int32} {g : Int32} {fo st : Int32} (hS : SV n ln fo st) (e : ∀ j, j < n → row j = ln j) (es : ∀ i, i < m → fs i = fs2 i ∧ ss i = ss2 i) (r9 : row ((9 : Int32)).toNatClampNeg = nI F) (r10 : row ((10 : Int32)).toNatClampNeg = nI T) {Q : Int32 → Int32 → (Nat → Int32) → (Nat → Int32) → (Nat → Int32) → Prop}
    (h1 : 2 ≤ cntF (wJ n ln fs ss m) 90 → ∀ M ms wa hs, Q (iI (bst (fB F T) (alk n ln fs ss m) 99999 (2 ^ (n - 1))).1) M ms wa hs)
    (h0 : cntF (wJ n ln fs ss m) 90 < 2 → ∀ M ms wa hs, Q (-9) M ms wa hs) : wp_X8_next (nI n) (nI m) g row fs2 ms0 ss2 wa0 hs0 Q := by
  have hp := pw hn
  have c90 := cntF_le (wJ n ln fs ss m) 90
  unfold wp_X8_next
  refine p_layWays hn hm hS e es (fun ms wa hwa => ?_)
  rcases Nat.lt_or_ge (cntF (wJ n ln fs ss m) 90) 2 with q2 | q2
  · refine ⟨1, ?_⟩
    show B_X8_next_12 _ _ _ _ _ _ _ _ _ _ _
    unfold B_X8_next_12
    refine p_folds hn ⟨fun _ => h0 q2 _ _ _ _, fun _ => ⟨fun _ => h0 q2 _ _ _ _, fun q => absurd (nI_le (b := 1) (by omega) (by omega)) q⟩⟩
  · have key : ∀ (r f : Nat) (ms hs : Nat → Int32), f + r = 2 ^ (n - 1) → itr5 (B_X8_next_12 (nI n) (nI (cntF (wJ n ln fs ss m) 90)) row wa Q) (r + 1) (iI (bst (fB F T) (alk n ln fs ss m) 99999 f).1) (iI (bst (fB F T) (alk n ln fs ss m) 99999 f).2) (nI f) ms hs := by
      intro r
      induction r with
      | zero =>
        intro f ms hs hf
        show B_X8_next_12 _ _ _ _ _ _ _ _ _ _ _
        unfold B_X8_next_12
        refine p_folds hn ⟨fun _ => ?_, fun q => absurd (nI_le (by omega) (by omega)) q⟩
        have e : f = 2 ^ (n - 1) := by omega
        rw [e]
        exact h1 q2 _ _ _ _
      | succ r ih =>
        intro f ms hs hf
        have bb := bst_b (ok := fB F T) (key := alk n ln fs ss m) (a := 99999) (L := 0) (by omega) f (fun g _ => alk_b.1)
        have sb := alk_b (n := n) (m := m) (f := f) (ln := ln) (fs := fs) (ss := ss)
        show B_X8_next_12 _ _ _ _ _ _ _ _ _ _ _
        generalize itr5 (B_X8_next_12 (nI n) (nI (cntF (wJ n ln fs ss m) 90)) row wa Q) (r + 1) = K at ih ⊢
        unfold B_X8_next_12
        refine p_folds hn ⟨fun q => absurd q (nI_ge (by omega) (by omega)), fun _ => ⟨fun q => absurd q (nI_ge (a := 1) (by omega) (by omega)), fun _ => p_isF8 hn hT (by omega) r9 r10 (fun hok => be1 ?_) (fun hok => be0 ?_)⟩⟩
        · refine p_alk8 hn hS e hwa (by omega) (fun q ms2 hs2 => ?_) (fun q ms2 hs2 => ?_) hs
          · have := ih (f + 1) ms2 hs2 (by omega)
            rw [bst_n (fun z => absurd z.2 (by omega))] at this
            rw [nI_1]; exact this
          · have := ih (f + 1) ms2 hs2 (by omega)
            rw [bst_y hok (by omega), ← nI_i] at this
            rw [nI_1]; exact this
        · refine p_not8 (by omega) (by omega) (fun hs2 => ?_) hs
          have := ih (f + 1) ms hs2 (by omega)
          rw [bst_n (fun z => absurd (hok.symm.trans z.1) (by decide))] at this
          rw [nI_1]; exact this
    have h := key (2 ^ (n - 1)) 0 ms hs0 (by omega)
    exact ⟨_, h⟩
