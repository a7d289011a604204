/-! the reference's ways -/
def wc (w : Nat) : Nat := 10 * (w / 9) + 1 + w % 9
theorem wc_s (w : Nat) : wc (w + 1) = wc w + 1 ∨ (wc (w + 1) = wc w + 2 ∧ wc w + 1 = 10 * (w / 9 + 1)) := by
  unfold wc
  omega
theorem wc_lk (w : Nat) : wc w = 10 * (w / 9) + (1 + w % 9) := by unfold wc; omega
theorem cnt_wc {n m : Nat} {ln fs ss : Nat → Int32} (w : Nat) : cntF (wJ n ln fs ss m) (wc (w + 1)) = cntF (wJ n ln fs ss m) (wc w + 1) := by
  rcases wc_s w with q | ⟨q, q2⟩
  · rw [q]
  · rw [q]
    exact cnt_n (k := wc w + 1) (by rw [q2]; exact wJ_0)
theorem cnt_wcb {n m : Nat} {ln fs ss : Nat → Int32} : ∀ w, cntF (wJ n ln fs ss m) (wc w) ≤ w
  | 0 => Nat.le_of_eq (cnt_n (k := 0) (wJ_0 (l := 0)))
  | w + 1 => by
    have ih := cnt_wcb (n := n) (m := m) (ln := ln) (fs := fs) (ss := ss) w
    rw [cnt_wc]
    cases h : wJ n ln fs ss m (wc w) with
    | true => rw [cnt_y h]; omega
    | false => rw [cnt_n h]; omega
theorem cnt_end {ok : Nat → Bool} {a : Nat} : ∀ (r : Nat), (∀ j, a ≤ j → ok j = false) → cntF ok (a + r) = cntF ok a
  | 0, _ => rfl
  | r + 1, h => by rw [← Nat.add_assoc, cnt_n (h (a + r) (by omega)), cnt_end r h]
theorem cnt_le {ok : Nat → Bool} {a : Nat} : ∀ (r : Nat), cntF ok a ≤ cntF ok (a + r)
  | 0 => Nat.le_refl _
  | r + 1 => by
    have := cnt_le (ok := ok) (a := a) r
    rw [← Nat.add_assoc]
    cases h : ok (a + r) with
    | true => rw [cnt_y h]; omega
    | false => rw [cnt_n h]; exact this
theorem n9 (n : Nat) : (9 : Int32) * nI n = nI (9 * n) := by
  rw [show (9 : Int32) = nI 9 from rfl, pk_mul]
theorem d9 {w : Nat} (h : w < 100) : nI w / (9 : Int32) = nI (w / 9) := pk_div (a := w) (d := 9) (by omega) (by omega) (by omega)
theorem r9 {w : Nat} (h : w < 100) : nI w - nI (w / 9) * (9 : Int32) = nI (w % 9) := by
  rw [← d9 h]
  exact pk_rem (a := w) (d := 9) (by omega) (by omega) (by omega)
theorem d10 {w : Nat} (h : w < 100) : nI w / (10 : Int32) = nI (w / 10) := pk_div (a := w) (d := 10) (by omega) (by omega) (by omega)
theorem r10 {w : Nat} (h : w < 100) : nI w - nI (w / 10) * (10 : Int32) = nI (w % 10) := by
  rw [← d10 h]
  exact pk_rem (a := w) (d := 10) (by omega) (by omega) (by omega)
theorem a1 (k : Nat) : (1 : Int32) + nI k = nI (1 + k) := by
  rw [show (1 : Int32) = nI 1 from rfl, nI_add]
theorem wc_i (w : Nat) : (10 : Int32) * nI (w / 9) + (1 : Int32) + nI (w % 9) = nI (wc w) := by
  rw [show (10 : Int32) = nI 10 from rfl, pk_mul, show (1 : Int32) = nI 1 from rfl, nI_add, nI_add]
  rfl
theorem p_layWays {n m : Nat} (hn : n ≤ 9) (hm : m ≤ 6) {ln row fs ss fs2 ss2 ms0 wa0 : Nat → Int32} {g : Int32} {fo st : Int32} (hS : SV n ln fo st) (e : ∀ j, j < n → row j = ln j) (es : ∀ i, i < m → fs i = fs2 i ∧ ss i = ss2 i) {Q : Int32 → (Nat → Int32) → (Nat → Int32) → Prop}
    (hQ : ∀ ms wa, (∀ j, j < 90 → wJ n ln fs ss m j = true → wa (cntF (wJ n ln fs ss m) j) = nI j) → Q (nI (cntF (wJ n ln fs ss m) 90)) ms wa) : wp_X8_layWays (nI n) (nI m) g row fs2 ms0 ss2 wa0 Q := by
  have key : ∀ (r w : Nat) (ms wa : Nat → Int32), w + r = 9 * n → (∀ j, j < wc w → wJ n ln fs ss m j = true → wa (cntF (wJ n ln fs ss m) j) = nI j) → itr4 (B_X8_layWays_7 (nI n) (nI m) row fs2 ss2 Q) (r + 1) (nI w) (nI (cntF (wJ n ln fs ss m) (wc w))) ms wa := by
    intro r
    induction r with
    | zero =>
      intro w ms wa hw hi
      show B_X8_layWays_7 _ _ _ _ _ _ _ _ _ _ _
      unfold B_X8_layWays_7
      rw [n9]
      refine ⟨fun _ => ?_, fun q => absurd (nI_le (by omega) (by omega)) q⟩
      have big : ∀ j, 10 * n ≤ j → wJ n ln fs ss m j = false := fun j hj => wJ_big hj
      have hwc : 10 * n ≤ wc w := by unfold wc; omega
      have e1 := cnt_end (ok := wJ n ln fs ss m) (a := 10 * n) (wc w - 10 * n) big
      have e2 := cnt_end (ok := wJ n ln fs ss m) (a := 10 * n) (90 - 10 * n) big
      rw [show 10 * n + (wc w - 10 * n) = wc w by omega] at e1
      rw [show 10 * n + (90 - 10 * n) = 90 by omega] at e2
      rw [e1, ← e2]
      refine hQ ms wa (fun j hj h => hi j ?_ h)
      rcases Nat.lt_or_ge j (wc w) with q | q
      · exact q
      · rw [big j (by omega)] at h; exact absurd h (by decide)
    | succ r ih =>
      intro w ms wa hw hi
      have hb := cnt_wcb (n := n) (m := m) (ln := ln) (fs := fs) (ss := ss) w
      show B_X8_layWays_7 _ _ _ _ _ _ _ _ _ _ _
      generalize itr4 (B_X8_layWays_7 (nI n) (nI m) row fs2 ss2 Q) (r + 1) = K at ih ⊢
      have hJ : wJ n ln fs ss m (wc w) = wB n ln fs ss m (w / 9) (1 + w % 9) := by
        rw [wc_lk]; exact wJ_lk (by omega) (by omega)
      unfold B_X8_layWays_7
      rw [n9, d9 (by omega), r9 (by omega), a1, wc_i]
      refine ⟨fun q => absurd q (nI_ge (by omega) (by omega)), fun _ => ⟨by decide, by decide, ?_⟩⟩
      refine p_isWay8 hn hm (by omega) (by omega) hS e es (fun c ms2 => be1 ⟨by decide, by decide, ?_⟩) (fun c ms2 => be0 ?_)
      · have hJt : wJ n ln fs ss m (wc w) = true := hJ.trans (decide_eq_true ⟨by omega, c⟩)
        rintro y4 e4
        refine ⟨vp_in_nI (by omega) (by omega), ?_⟩
        rintro y5 e5 y6 e6
        have := ih (w + 1) ms2 (upd wa (cntF (wJ n ln fs ss m) (wc w)) (nI (wc w))) (by omega) (fun j hj h => ?_)
        · rw [cnt_wc, cnt_y hJt] at this
          rw [e4, e5, e6, nI_1, nI_1, nI_clamp (by omega)]
          exact this
        · rw [upd_eq]
          rcases Nat.lt_or_ge j (wc w) with q | q
          · have c1 := cnt_le (ok := wJ n ln fs ss m) (a := j + 1) (wc w - (j + 1))
            rw [show j + 1 + (wc w - (j + 1)) = wc w by omega, cnt_y h] at c1
            rw [if_neg (by omega)]
            exact hi j q h
          · by_cases z : j = wc w
            · rw [z, if_pos rfl]
            · exfalso
              rcases wc_s w with p | ⟨p, p2⟩
              · omega
              · have : j = 10 * (w / 9 + 1) := by omega
                rw [this, wJ_0] at h
                exact absurd h (by decide)
      · have hJf : wJ n ln fs ss m (wc w) = false := hJ.trans (decide_eq_false (fun z => c z.2))
        rintro y e
        have := ih (w + 1) ms2 wa (by omega) (fun j hj h => ?_)
        · rw [cnt_wc, cnt_n hJf] at this
          rw [e, nI_1]
          exact this
        · rcases Nat.lt_or_ge j (wc w) with q | q
          · exact hi j q h
          · exfalso
            by_cases z : j = wc w
            · rw [z, hJf] at h; exact absurd h (by decide)
            · rcases wc_s w with p | ⟨p, p2⟩
              · omega
              · have : j = 10 * (w / 9 + 1) := by omega
                rw [this, wJ_0] at h
                exact absurd h (by decide)
  unfold wp_X8_layWays
  have h := key (9 * n) 0 ms0 wa0 (by omega) (fun j hj h => by
    have : j = 10 * 0 := by have e : wc 0 = 1 := rfl
                            omega
    rw [this, wJ_0] at h; exact absurd h (by decide))
  have e0 : cntF (wJ n ln fs ss m) (wc 0) = 0 := Nat.le_zero.mp (cnt_wcb 0)
  rw [e0] at h
  exact ⟨_, h⟩
theorem p_first {ok : Nat → Bool} {iw pl : Nat → Int32} (hi : ∀ j, j < 90 → iw j = bI (ok j)) {a b c : Int32} {Q : Int32 → Int32 → Int32 → Int32 → (Nat → Int32) → (Nat → Int32) → Prop} (h0 : cntF ok 90 = 0 → Q (-9) a b c pl iw) (h1 : ∀ j, j < 90 → ok j = true → cntF ok j = 0 → Q (nI j) a b c pl iw) : ∃ n : Nat, itr1 (B_X4_firstWay_8 a b c pl iw Q) n (0 : Int32) := by
  have key : ∀ (r j : Nat), j + r = 90 → cntF ok j = 0 → itr1 (B_X4_firstWay_8 a b c pl iw Q) (r + 1) (nI j) := by
    intro r
    induction r with
    | zero =>
      intro j hj hc
      have e : j = 90 := by omega
      subst e
      show B_X4_firstWay_8 _ _ _ _ _ _ _ _
      unfold B_X4_firstWay_8
      exact ⟨fun _ => h0 hc, fun q => absurd (nI_le (a := 90) (b := 90) (by omega) (by omega)) q⟩
    | succ r ih =>
      intro j hj hc
      show B_X4_firstWay_8 _ _ _ _ _ _ _ _
      generalize itr1 (B_X4_firstWay_8 a b c pl iw Q) (r + 1) = K at ih ⊢
      have hih := ih (j + 1) (by omega)
      unfold B_X4_firstWay_8
      rw [nI_clamp (by omega), hi j (by omega)]
      refine ⟨fun q => absurd q (nI_ge (a := j) (b := 90) (by omega) (by omega)), fun _ => ⟨vp_in_nI (by omega) (by omega), ?_⟩⟩
      cases ho : ok j with
      | true => exact be1 (h1 j (by omega) ho hc)
      | false =>
        refine be0 (fun y e => ?_)
        rw [e, nI_1]
        exact hih (by rw [cnt_n ho]; exact hc)
  exact ⟨_, key 90 0 (by omega) rfl⟩
/-- counts of spans, and the greatest of them -/
def TT (s : Nat → Nat) (ok : Nat → Bool) : Nat → (Nat → Nat) × Nat
  | 0 => (fun _ => 0, 0)
  | j + 1 => if ok j = true then (fun q => if q = s j then (TT s ok j).1 q + 1 else (TT s ok j).1 q, if (TT s ok j).2 < (TT s ok j).1 (s j) + 1 then (TT s ok j).1 (s j) + 1 else (TT s ok j).2) else TT s ok j
theorem TT_y {s : Nat → Nat} {ok : Nat → Bool} {j : Nat} (h : ok j = true) : TT s ok (j + 1) = (fun q => if q = s j then (TT s ok j).1 q + 1 else (TT s ok j).1 q, if (TT s ok j).2 < (TT s ok j).1 (s j) + 1 then (TT s ok j).1 (s j) + 1 else (TT s ok j).2) := if_pos h
theorem TT_n {s : Nat → Nat} {ok : Nat → Bool} {j : Nat} (h : ok j = false) : TT s ok (j + 1) = TT s ok j := if_neg (by rw [h]; decide)
theorem TT_b {s : Nat → Nat} {ok : Nat → Bool} : ∀ (j : Nat), (∀ q, (TT s ok j).1 q ≤ cntF ok j) ∧ (TT s ok j).2 ≤ cntF ok j
  | 0 => ⟨fun _ => Nat.le_refl 0, Nat.le_refl 0⟩
  | j + 1 => by
    obtain ⟨h1, h2⟩ := TT_b (s := s) (ok := ok) j
    cases h : ok j with
    | true =>
      rw [TT_y h, cnt_y h]
      have := h1 (s j)
      refine ⟨fun q => ?_, ?_⟩
      · have := h1 q
        show (if q = s j then (TT s ok j).1 q + 1 else (TT s ok j).1 q) ≤ _
        split <;> omega
      · show (if (TT s ok j).2 < (TT s ok j).1 (s j) + 1 then (TT s ok j).1 (s j) + 1 else (TT s ok j).2) ≤ _
        split <;> omega
    | false =>
      rw [TT_n h, cnt_n h]
      exact ⟨h1, h2⟩
theorem TT_nxt {s : Nat → Nat} {ok : Nat → Bool} {N : Nat} : ∀ (r j : Nat), j + r = N → cntF ok j < cntF ok N → ∃ i, j ≤ i ∧ i < N ∧ ok i = true ∧ cntF ok i = cntF ok j ∧ TT s ok i = TT s ok j
  | 0, j, h, h2 => by
    have e : j = N := by omega
    subst e
    exact absurd h2 (Nat.lt_irrefl _)
  | r + 1, j, h, h2 => by
    cases ho : ok j with
    | true => exact ⟨j, Nat.le_refl j, by omega, ho, rfl, rfl⟩
    | false =>
      obtain ⟨i, i1, i2, i3, i4, i5⟩ := TT_nxt (s := s) (ok := ok) (N := N) r (j + 1) (by omega) (by rw [cnt_n ho]; exact h2)
      exact ⟨i, by omega, i2, i3, by rw [i4, cnt_n ho], by rw [i5, TT_n ho]⟩
theorem TT_fin {s : Nat → Nat} {ok : Nat → Bool} {N : Nat} : ∀ (r j : Nat), j + r = N → cntF ok j = cntF ok N → TT s ok j = TT s ok N
  | 0, j, h, h2 => by
    have e : j = N := by omega
    rw [e]
  | r + 1, j, h, h2 => by
    cases ho : ok j with
    | true =>
      have := cnt_le (ok := ok) (a := j + 1) r
      rw [show j + 1 + r = N by omega, cnt_y ho] at this
      omega
    | false =>
      have := TT_fin (s := s) (ok := ok) (N := N) r (j + 1) (by omega) (by rw [cnt_n ho]; exact h2)
      rw [← this, TT_n ho]
def sW (n : Nat) (ln : Nat → Int32) (f j : Nat) : Nat := (sp (dW ln (j / 10) (j % 10)) (nI f) n).toNat
theorem wJ_t {n m j : Nat} {ln fs ss : Nat → Int32} (h : wJ n ln fs ss m j = true) : j / 10 < n ∧ ((j % 10 : Nat) : Int) < dO ln (j / 10) := by
  unfold wJ at h
  rw [Bool.and_eq_true] at h
  have := of_decide_eq_true h.2
  exact ⟨this.1, this.2.1⟩
theorem sW_i {n f j : Nat} {ln : Nat → Int32} (hn : n ≤ 9) (hd : ∀ l, l < n → 0 ≤ dW ln (j / 10) (j % 10) l ∧ dW ln (j / 10) (j % 10) l ≤ 20) : iI (sp (dW ln (j / 10) (j % 10)) (nI f) n) = nI (sW n ln f j) ∧ sW n ln f j ≤ 180 := by
  have := sp_b2 (x := nI f) n hd
  unfold sW
  refine ⟨?_, by omega⟩
  generalize sp (dW ln (j / 10) (j % 10)) (nI f) n = z at this ⊢
  rw [nI_i, show ((z.toNat : Nat) : Int) = z by omega]
