/-! ===== would, gaps ===== -/
theorem ab_280 {b : Nat} (h : b + 280 < 2147483648) : ai_add (b : Int) (280 : Int) = ((b + 280 : Nat) : Int) := ai_add_nn (b := 280) h
def stW (w : Nat → Int) (s : Nat) (side yards : Int) : Nat → Nat → Int := fst1 (fun i => decide (w (290 + 36 * s + 3 * i) = side ∧ w (290 + 36 * s + 3 * i + 1) = yards))
theorem fst1_cases (p : Nat → Bool) : ∀ j k : Nat, (fst1 p j k = -1 ∧ ∀ i, k ≤ i → i < k + j → p i = false) ∨ ∃ i, k ≤ i ∧ i < k + j ∧ p i = true ∧ fst1 p j k = (i : Int) ∧ ∀ i', k ≤ i' → i' < i → p i' = false := by
  intro j
  induction j with
  | zero => intro k; exact Or.inl ⟨rfl, fun i h1 h2 => by omega⟩
  | succ j ih =>
    intro k
    simp only [fst1]
    by_cases c : p k = true
    · rw [if_pos c]; exact Or.inr ⟨k, by omega, by omega, c, rfl, fun i h1 h2 => by omega⟩
    · rw [if_neg c]
      rcases ih (k + 1) with ⟨e, q⟩ | ⟨i, h1, h2, h3, h4, h5⟩
      · refine Or.inl ⟨e, fun i h1 h2 => ?_⟩
        rcases Nat.eq_or_lt_of_le h1 with z | z
        · subst z; simpa using c
        · exact q i (by omega) (by omega)
      · refine Or.inr ⟨i, by omega, by omega, h3, h4, fun i' g1 g2 => ?_⟩
        rcases Nat.eq_or_lt_of_le g1 with z | z
        · subst z; simpa using c
        · exact h5 i' (by omega) g2
theorem sp_standsAt {h : Hp} {m : Nat} {w : Nat → Int} (a : modelAt h m) {o : Nat} (ho : o ≤ 1010) (hr : ∀ p, p < 1010 → hpC h (m + 1) (o + p) = w p) {s : Nat} (hs : s < 10) (hn : 0 ≤ w (280 + s) ∧ w (280 + s) ≤ 12) {side yards : Int} {d mc ms : Nat} {R : PR} (hd : 1 ≤ d) {o5 o6 : Option AV} (H : R (some (xI (stW w s side yards (w (280 + s)).toNat 0))) h) : Wp m_M_standsAt 0 [some (xR m), some (xI (o : Int)), some (xI (s : Int)), some (xI side), some (xI yards), o5, o6] [] h d mc ms R := by
  apply f_M_standsAt_0
  have hr' : ∀ p, o ≤ p → p < o + 1010 → hpC h (m + 1) p = w (p - o) := fun p h1 h2 => by rw [← hr (p - o) (by omega), show o + (p - o) = p by omega]
  have L : ∀ (j k : Nat) (q : Option AV), ((k + j : Nat) : Int) = w (280 + s) → R (some (xI (stW w s side yards j k))) h → Wp m_M_standsAt 3 [some (xR m), some (xI (o : Int)), some (xI (s : Int)), some (xI side), some (xI yards), some (xI (k : Int)), q] [] h d mc ms R := by
    intro j
    induction j with
    | zero =>
      intro k q hk H
      apply f_M_standsAt_3
      simp (disch := omega) only [a.tag, a.row_n, a.row_t, hr', show o + 280 + s - o = 280 + s by omega, tn_0, tn_1, tn_2, tn_3, tn_4, tn_5, tn_6, tn_7, tn_8, tn_9, tn_10, tn_11, tn_12, ai_add_nn, ai_mul_nn, aa_1, aa_2, aa_3, aa_10, aa_36, aa_60, aa_180, aa_280, aa_290, aa_650, aa_950, aa_980, aa_1010, aa_2020, aa_4040, aa_100, aa_200, aa_300, aa_400, ab_1, ab_2, ab_3, ab_4, ab_20, ab_10, ab_280, am_2, am_3, am_5, am_10, am_12, am_36, am_100, am_1010, an_2, an_3, an_10, an_12, as_1, as_2, as_3, Int.toNat_natCast, q_lt, n_lt, q_le, n_le, q_eq, n_eq, q_nle, not_false_eq_true, not_true_eq_false, true_and, and_true, true_or, or_true, and_self, ↓reduceIte]
      exact H
    | succ j ih =>
      intro k q hk H
      apply f_M_standsAt_3
      simp (disch := omega) only [a.tag, a.row_n, a.row_t, hr', show o + 280 + s - o = 280 + s by omega, ab_280, ai_add_nn, Int.toNat_natCast, true_and]
      rw [if_pos (by omega)]
      refine ⟨⟨by omega, by omega⟩, by omega, sp_houseAt (by omega) hs (by omega) (fun v e => ?_)⟩
      cases e
      simp (disch := omega) only [a.tag, a.row_n, a.row_t, hr', show o + 290 + 36 * s + 3 * k - o = 290 + 36 * s + 3 * k by omega, show o + 290 + 36 * s + 3 * k + 1 - o = 290 + 36 * s + 3 * k + 1 by omega, tn_0, tn_1, tn_2, tn_3, tn_4, tn_5, tn_6, tn_7, tn_8, tn_9, tn_10, tn_11, tn_12, ai_add_nn, ai_mul_nn, aa_1, aa_2, aa_3, aa_10, aa_36, aa_60, aa_180, aa_280, aa_290, aa_650, aa_950, aa_980, aa_1010, aa_2020, aa_4040, aa_100, aa_200, aa_300, aa_400, ab_1, ab_2, ab_3, ab_4, ab_20, ab_10, ab_280, am_2, am_3, am_5, am_10, am_12, am_36, am_100, am_1010, an_2, an_3, an_10, an_12, as_1, as_2, as_3, Int.toNat_natCast, q_lt, n_lt, q_le, n_le, q_eq, n_eq, q_nle, not_false_eq_true, not_true_eq_false, true_and, and_true, true_or, or_true, and_self, ↓reduceIte]
      simp only [stW, fst1, decide_eq_true_eq] at H
      by_cases c1 : w (290 + 36 * s + 3 * k) = side
      · rw [if_pos c1]
        by_cases c2 : w (290 + 36 * s + 3 * k + 1) = yards
        · rw [if_pos c2]; rw [if_pos ⟨c1, c2⟩] at H; exact H
        · rw [if_neg c2]; rw [if_neg (fun z => c2 z.2)] at H; exact ih _ _ (by omega) H
      · rw [if_neg c1]; rw [if_neg (fun z => c1 z.1)] at H; exact ih _ _ (by omega) H
  exact L (w (280 + s)).toNat 0 _ (by omega) H
theorem sp_isTaken {h : Hp} {r : Nat} {w : Nat → Int} (a : homesAt h r) (hw : HW h r w) {s : Nat} (hs : s < 10) (hn : 0 ≤ w (280 + s) ∧ w (280 + s) ≤ 12) {side yards : Int} {d mc ms : Nat} {R : PR} (hd : 1 ≤ d) {o5 o6 : Option AV} (H : R (some (xI (if stW w s side yards (w (280 + s)).toNat 0 = -1 then 0 else 1))) h) : Wp m_Homes_isTaken 0 [some (xR r), some (xI (s : Int)), some (xI side), some (xI yards), o5, o6] [] h d mc ms R := by
  have hq := (hw s hs).1
  apply f_Homes_isTaken_0
  have L : ∀ (j k : Nat) (q : Option AV), ((k + j : Nat) : Int) = w (280 + s) → R (some (xI (if stW w s side yards j k = -1 then 0 else 1))) h → Wp m_Homes_isTaken 3 [some (xR r), some (xI (s : Int)), some (xI side), some (xI yards), some (xI (k : Int)), q] [] h d mc ms R := by
    intro j
    induction j with
    | zero =>
      intro k q hk H
      apply f_Homes_isTaken_3
      simp (disch := omega) only [a.tag, a.count_n, a.count_t, a.side_n, a.side_t, a.yards_n, a.yards_t, a.number_n, a.number_t, ai_add_nn, ai_mul_nn, aa_1, aa_2, aa_3, aa_10, aa_36, aa_60, aa_180, aa_280, aa_290, aa_650, aa_950, aa_980, aa_1010, aa_2020, aa_4040, aa_100, aa_200, aa_300, aa_400, ab_1, ab_2, ab_3, ab_4, ab_20, ab_10, ab_280, am_2, am_3, am_5, am_10, am_12, am_36, am_100, am_1010, an_2, an_3, an_10, an_12, as_1, as_2, as_3, Int.toNat_natCast, q_lt, n_lt, q_le, n_le, q_eq, n_eq, q_nle, not_false_eq_true, not_true_eq_false, true_and, and_true, true_or, or_true, and_self, ↓reduceIte, hq]
      exact H
    | succ j ih =>
      intro k q hk H
      have hi := (hw s hs).2 k (by omega)
      apply f_Homes_isTaken_3
      rw [a.count_n, a.count_t, Int.toNat_natCast, hq, if_pos (by omega)]
      refine ⟨a.tag, ⟨rfl, by omega, by show (s : Int) < 10; omega⟩, hd, sp_slot hs (by omega) (fun v e => ?_)⟩
      cases e
      simp (disch := omega) only [a.tag, a.count_n, a.count_t, a.side_n, a.side_t, a.yards_n, a.yards_t, a.number_n, a.number_t, ai_add_nn, ai_mul_nn, aa_1, aa_2, aa_3, aa_10, aa_36, aa_60, aa_180, aa_280, aa_290, aa_650, aa_950, aa_980, aa_1010, aa_2020, aa_4040, aa_100, aa_200, aa_300, aa_400, ab_1, ab_2, ab_3, ab_4, ab_20, ab_10, ab_280, am_2, am_3, am_5, am_10, am_12, am_36, am_100, am_1010, an_2, an_3, an_10, an_12, as_1, as_2, as_3, Int.toNat_natCast, q_lt, n_lt, q_le, n_le, q_eq, n_eq, q_nle, not_false_eq_true, not_true_eq_false, true_and, and_true, true_or, or_true, and_self, ↓reduceIte, hi.1, hi.2.1]
      simp only [stW, fst1, decide_eq_true_eq] at H
      by_cases c1 : w (290 + 36 * s + 3 * k) = side
      · rw [if_pos c1]
        by_cases c2 : w (290 + 36 * s + 3 * k + 1) = yards
        · rw [if_pos c2]; rw [if_pos (show w (290 + 36 * s + 3 * k) = side ∧ w (290 + 36 * s + 3 * k + 1) = yards from ⟨c1, c2⟩), if_neg (by omega)] at H; exact H
        · rw [if_neg c2]; rw [if_neg (show ¬ (w (290 + 36 * s + 3 * k) = side ∧ w (290 + 36 * s + 3 * k + 1) = yards) from fun z => c2 z.2)] at H; exact ih _ _ (by omega) H
      · rw [if_neg c1]; rw [if_neg (show ¬ (w (290 + 36 * s + 3 * k) = side ∧ w (290 + 36 * s + 3 * k + 1) = yards) from fun z => c1 z.1)] at H; exact ih _ _ (by omega) H
  exact L (w (280 + s)).toNat 0 _ (by omega) H
def abW (w : Nat → Int) (s : Nat) (side yards : Int) : Nat → Int
  | 0 => 0
  | k + 1 => if w (290 + 36 * s + 3 * k) = side ∧ w (290 + 36 * s + 3 * k + 1) < yards then max (abW w s side yards k) (w (290 + 36 * s + 3 * k + 2)) else abW w s side yards k
def blW (w : Nat → Int) (s : Nat) (side yards : Int) : Nat → Int
  | 0 => 1000
  | k + 1 => if w (290 + 36 * s + 3 * k) = side ∧ ¬ w (290 + 36 * s + 3 * k + 1) < yards then min (blW w s side yards k) (w (290 + 36 * s + 3 * k + 2)) else blW w s side yards k
theorem abW_bd {w : Nat → Int} (hV : V w) {s : Nat} (hs : s < 10) (side yards : Int) : ∀ k : Nat, (k : Int) ≤ w (280 + s) → 0 ≤ abW w s side yards k ∧ abW w s side yards k ≤ 999 := by
  intro k
  induction k with
  | zero => intro _; simp only [abW]; omega
  | succ k ih =>
    intro hk
    have := ih (by omega)
    have := hV.hn hs (i := k) (by omega)
    simp only [abW]; split <;> omega
theorem blW_bd {w : Nat → Int} (hV : V w) {s : Nat} (hs : s < 10) (side yards : Int) : ∀ k : Nat, (k : Int) ≤ w (280 + s) → 1 ≤ blW w s side yards k ∧ blW w s side yards k ≤ 1000 := by
  intro k
  induction k with
  | zero => intro _; simp only [blW]; omega
  | succ k ih =>
    intro hk
    have := ih (by omega)
    have := hV.hn hs (i := k) (by omega)
    simp only [blW]; split <;> omega
def isB (w : Nat → Int) (k side yards : Int) : Prop := (0 ≤ k ∧ k < w 7) ∧ (0 ≤ side ∧ side ≤ 1) ∧ (0 ≤ yards ∧ yards ≤ 9999) ∧ w (280 + k.toNat) ≠ 12 ∧ stW w k.toNat side yards (w (280 + k.toNat)).toNat 0 = -1
def lsW (w : Nat → Int) (s : Nat) (side yards : Int) : Int := max (lowW (w 2) side yards) (abW w s side yards (w (280 + s)).toNat + 1)
def vlW (w : Nat → Int) (s : Nat) (side yards : Int) : Int := if lsW w s side yards % 2 = side then lsW w s side yards + 1 else lsW w s side yards
def wouldA (w : Nat → Int) (s : Nat) (side yards : Int) : Int := if vlW w s side yards < blW w s side yards (w (280 + s)).toNat then vlW w s side yards else -1
theorem sp_numberFor {h : Hp} {m : Nat} {w : Nat → Int} (a : RD h m w) (hV : V w) {k side yards : Int} {d mc ms : Nat} {R : PR} (hd : 2 ≤ d) {o4 o5 o6 o7 : Option AV} (H1 : isB w k side yards → R (some (xI (wouldA w k.toNat side yards))) h) (H2 : ¬ isB w k side yards → R (some (xI (-1))) h) : Wp m_M_numberFor 0 [some (xR m), some (xI k), some (xI side), some (xI yards), o4, o5, o6, o7] [] h d mc ms R := by
  have v0 := hV.1.1
  have v1 := hV.1.2.1
  have v2 := hV.1.2.2.1
  have v3 := hV.1.2.2.2.1
  have v4 := hV.1.2.2.2.2.1
  have v5 := hV.1.2.2.2.2.2.1
  have v6 := hV.1.2.2.2.2.2.2.1
  have v7 := hV.1.2.2.2.2.2.2.2.1
  have v8 := hV.1.2.2.2.2.2.2.2.2.1
  have v9 := hV.1.2.2.2.2.2.2.2.2.2
  apply f_M_numberFor_0
  refine ⟨⟨by omega, a.1.tag⟩, sp_isStreet a hV (by omega) (fun v e => ?_)⟩
  cases e
  by_cases c : 0 ≤ k ∧ k < w 7
  · rw [if_pos c, if_neg (by decide)]
    refine ⟨by omega, sp_isIn (fun v e => ?_)⟩
    cases e
    by_cases c1 : 0 ≤ side ∧ side ≤ 1
    · rw [if_pos c1, if_neg (by decide)]
      refine ⟨by omega, sp_isIn (fun v e => ?_)⟩
      cases e
      by_cases c2 : 0 ≤ yards ∧ yards ≤ 9999
      · rw [if_pos c2, if_neg (by decide)]
        obtain ⟨q, rfl⟩ : ∃ q : Nat, k = (q : Int) := ⟨k.toNat, by omega⟩
        have hn := hV.hs (s := q) (by omega)
        simp (disch := omega) only [a.1.tag, a.1.row_n, a.1.row_t, a.2, ai_add_nn, ai_mul_nn, aa_1, aa_2, aa_3, aa_10, aa_36, aa_60, aa_180, aa_280, aa_290, aa_650, aa_950, aa_980, aa_1010, aa_2020, aa_4040, aa_100, aa_200, aa_300, aa_400, ab_1, ab_2, ab_3, ab_4, ab_20, ab_10, ab_280, am_2, am_3, am_5, am_10, am_12, am_36, am_100, am_1010, an_2, an_3, an_10, an_12, as_1, as_2, as_3, Int.toNat_natCast]
        refine ⟨trivial, ⟨trivial, by omega, by omega⟩, ?_⟩
        by_cases c3 : w (280 + q) = 12
        · rw [if_pos c3]; exact H2 (fun z => z.2.2.2.1 c3)
        · rw [if_neg c3]
          refine ⟨⟨by omega, trivial⟩, sp_standsAt (o := 0) a.1 (by omega) (fun p hp => by rw [Nat.zero_add]; exact a.2 p hp) (by omega) hn (by omega) (fun v e => ?_)⟩
          cases e
          by_cases c4 : stW w q side yards (w (280 + q)).toNat 0 = -1
          · rw [if_pos c4]
            have H := H1 ⟨c, c1, c2, c3, c4⟩
            rw [Int.toNat_natCast] at H
            refine ⟨⟨by omega, a.1.tag⟩, sp_mlowOf a hV c1 c2 (fun v e => ?_)⟩
            cases e
            have hb := lowW_bd (st := w 2) (by omega) c1 c2
            have L : ∀ (j i : Nat) (o : Option AV), ((i + j : Nat) : Int) = w (280 + q) → Wp m_M_numberFor 73 [some (xR m), some (xI (q : Int)), some (xI side), some (xI yards), some (xI (max (lowW (w 2) side yards) (abW w q side yards i + 1))), some (xI (blW w q side yards i)), some (xI (i : Int)), o] [] h d mc ms R := by
              intro j
              induction j with
              | zero =>
                intro i o hi
                have b1 := abW_bd hV (s := q) (by omega) side yards i (by omega)
                have b2 := blW_bd hV (s := q) (by omega) side yards i (by omega)
                apply f_M_numberFor_73
                obtain rfl : i = (w (280 + q)).toNat := by omega
                unfold wouldA vlW lsW at H
                have l1 : 1 ≤ max (lowW (w 2) side yards) (abW w q side yards (w (280 + q)).toNat + 1) ∧ max (lowW (w 2) side yards) (abW w q side yards (w (280 + q)).toNat + 1) ≤ 20000 := by omega
                generalize max (lowW (w 2) side yards) (abW w q side yards (w (280 + q)).toNat + 1) = ls at H l1 ⊢
                generalize blW w q side yards (w (280 + q)).toNat = bl at H b2 ⊢
                simp (disch := omega) only [a.1.tag, a.1.row_n, a.1.row_t, a.2, tn_0, tn_1, tn_2, tn_3, tn_4, tn_5, tn_6, tn_7, tn_8, tn_9, tn_10, tn_11, tn_12, ai_add_nn, ai_mul_nn, aa_1, aa_2, aa_3, aa_10, aa_36, aa_60, aa_180, aa_280, aa_290, aa_650, aa_950, aa_980, aa_1010, aa_2020, aa_4040, aa_100, aa_200, aa_300, aa_400, ab_1, ab_2, ab_3, ab_4, ab_20, ab_10, ab_280, am_2, am_3, am_5, am_10, am_12, am_36, am_100, am_1010, an_2, an_3, an_10, an_12, as_1, as_2, as_3, Int.toNat_natCast, q_lt, n_lt, q_le, n_le, q_eq, n_eq, q_nle, not_false_eq_true, not_true_eq_false, true_and, and_true, true_or, or_true, and_self, ↓reduceIte]
                rw [ai_rem_eq (by omega) (by omega) (by omega) (by omega), ai_add_eq (by omega) (by omega)]
                by_cases d1 : ls % 2 = side
                · rw [if_pos d1]; rw [if_pos d1] at H
                  by_cases d2 : ls + 1 < bl
                  · rw [if_pos d2]; rw [if_pos d2] at H; exact H
                  · rw [if_neg d2]; rw [if_neg d2] at H; exact H
                · rw [if_neg d1]; rw [if_neg d1] at H
                  by_cases d2 : ls < bl
                  · rw [if_pos d2]; rw [if_pos d2] at H; exact H
                  · rw [if_neg d2]; rw [if_neg d2] at H; exact H
              | succ j ih =>
                intro i o hi
                have b1 := abW_bd hV (s := q) (by omega) side yards i (by omega)
                have b2 := blW_bd hV (s := q) (by omega) side yards i (by omega)
                have b3 := hV.hn (s := q) (by omega) (i := i) (by omega)
                apply f_M_numberFor_73
                simp (disch := omega) only [a.1.tag, a.1.row_n, a.1.row_t, aa_280, Int.toNat_natCast, a.2, true_and]
                rw [if_pos (by omega)]
                refine ⟨⟨by omega, by omega⟩, by omega, sp_houseAt0 (by omega) (by omega) (fun v e => ?_)⟩
                cases e
                simp (disch := omega) only [a.1.tag, a.1.row_n, a.1.row_t, a.2, tn_0, tn_1, tn_2, tn_3, tn_4, tn_5, tn_6, tn_7, tn_8, tn_9, tn_10, tn_11, tn_12, ai_add_nn, ai_mul_nn, aa_1, aa_2, aa_3, aa_10, aa_36, aa_60, aa_180, aa_280, aa_290, aa_650, aa_950, aa_980, aa_1010, aa_2020, aa_4040, aa_100, aa_200, aa_300, aa_400, ab_1, ab_2, ab_3, ab_4, ab_20, ab_10, ab_280, am_2, am_3, am_5, am_10, am_12, am_36, am_100, am_1010, an_2, an_3, an_10, an_12, as_1, as_2, as_3, Int.toNat_natCast, q_lt, n_lt, q_le, n_le, q_eq, n_eq, q_nle, not_false_eq_true, not_true_eq_false, true_and, and_true, true_or, or_true, and_self, ↓reduceIte]
                have t := ih (i + 1) (some (xI ((290 + 36 * q + 3 * i : Nat) : Int))) (by omega)
                simp only [abW, blW] at t
                by_cases c1 : w (290 + 36 * q + 3 * i) = side
                · rw [if_pos c1]
                  by_cases c2 : w (290 + 36 * q + 3 * i + 1) < yards
                  · rw [if_pos c2]
                    rw [if_pos ⟨c1, c2⟩, if_neg (fun z => z.2 c2)] at t
                    rw [ai_add_eq (by omega) (by omega)]
                    refine sp_greater (fun v e => ?_)
                    cases e
                    rw [show max (max (lowW (w 2) side yards) (abW w q side yards i + 1)) (w (290 + 36 * q + 3 * i + 2) + 1) = max (lowW (w 2) side yards) (max (abW w q side yards i) (w (290 + 36 * q + 3 * i + 2)) + 1) by omega]
                    exact t
                  · rw [if_neg c2]
                    rw [if_neg (fun z => c2 z.2), if_pos ⟨c1, c2⟩] at t
                    refine sp_lesser (fun v e => ?_)
                    cases e
                    exact t
                · rw [if_neg c1]
                  rw [if_neg (fun z => c1 z.1), if_neg (fun z => c1 z.1)] at t
                  exact t
            have z := L (w (280 + q)).toNat 0 o7 (by omega)
            simp only [abW, blW] at z
            rw [show max (lowW (w 2) side yards) (0 + 1) = lowW (w 2) side yards by omega] at z
            exact z
          · rw [if_neg c4]; exact H2 (fun z => c4 z.2.2.2.2)
      · rw [if_neg c2, if_pos rfl]; exact H2 (fun z => c2 z.2.2.1)
    · rw [if_neg c1, if_pos rfl]; exact H2 (fun z => c1 z.2.1)
  · rw [if_neg c, if_pos rfl]; exact H2 (fun z => c z.1)
theorem sp_mwould {h : Hp} {m : Nat} {w : Nat → Int} (a : RD h m w) (hV : V w) {k side yards : Int} {d mc ms : Nat} {R : PR} (hd : 3 ≤ d) (H1 : isB w k side yards → R (some (xI (wouldA w k.toNat side yards))) h) (H2 : ¬ isB w k side yards → R (some (xI (-1))) h) : Wp m_M_would 0 [some (xR m), some (xI k), some (xI side), some (xI yards)] [] h d mc ms R := by
  apply f_M_would_0
  refine ⟨⟨by omega, a.1.tag⟩, sp_numberFor a hV (by omega) (fun z v e => ?_) (fun z v e => ?_)⟩
  · cases e; exact H1 z
  · cases e; exact H2 z
theorem ai_and1 {v : Int} (h1 : 0 ≤ v) (h2 : v < 2147483648) : ai_and v 1 = v % 2 := by
  obtain ⟨n, rfl⟩ : ∃ n : Nat, v = (n : Int) := ⟨v.toNat, by omega⟩
  have := ai_and_nat (x := n) (y := 1) (by omega) (by decide)
  rw [Nat.and_one_is_mod] at this
  rw [show ((1 : Nat) : Int) = 1 from rfl] at this
  rw [this]; omega
theorem sp_isOfSide {side v : Int} (h1 : 0 ≤ v) (h2 : v < 2147483648) {h : Hp} {d mc ms : Nat} {R : PR} (H : R (some (xI (if v % 2 = side then 0 else 1))) h) : Wp m_Numbering_isOfSide 0 [some (xI side), some (xI v)] [] h d mc ms R := by
  apply f_Numbering_isOfSide_0
  rw [ai_and1 h1 h2]
  by_cases c : v % 2 = side
  · rw [if_pos c]; rw [if_pos c] at H; exact ⟨by simp, H⟩
  · rw [if_neg c]; rw [if_neg c] at H; exact ⟨by simp, H⟩
theorem mxI (a b : Int) : (if a < b then b else a) = max a b := by split <;> omega
theorem mnI (a b : Int) : (if b < a then b else a) = min a b := by split <;> omega
theorem sp_fitting {h : Hp} {r : Nat} {w : Nat → Int} (a : homesAt h r) (hw : HW h r w) (hV : V w) {s : Nat} (hs : s < 10) {side yards : Int} (c1 : 0 ≤ side ∧ side ≤ 1) (c2 : 0 ≤ yards ∧ yards ≤ 9999) {d mc ms : Nat} {R : PR} (hd : 2 ≤ d) {o5 o6 o7 o8 : Option AV} (H : R (some (xI (wouldA w s side yards))) h) : Wp m_Numbering_fitting 0 [some (xR r), some (xI (s : Int)), some (xI side), some (xI yards), some (xI (w 2)), o5, o6, o7, o8] [] h d mc ms R := by
  have v2 := hV.1.2.2.1
  have hn := hV.hs hs
  have hq := (hw s hs).1
  have hb := lowW_bd (st := w 2) (by omega) c1 c2
  apply f_Numbering_fitting_0
  have L : ∀ (j k : Nat) (q : Option AV), ((k + j : Nat) : Int) = w (280 + s) → Wp m_Numbering_fitting 11 [some (xR r), some (xI (s : Int)), some (xI side), some (xI yards), some (xI (w 2)), some (xI (abW w s side yards k)), some (xI (blW w s side yards k)), some (xI (k : Int)), q] [] h d mc ms R := by
    intro j
    induction j with
    | zero =>
      intro k q hk
      have g1 := abW_bd hV hs side yards k (by omega)
      have g2 := blW_bd hV hs side yards k (by omega)
      apply f_Numbering_fitting_11
      simp (disch := omega) only [a.tag, a.count_n, a.count_t, a.side_n, a.side_t, a.yards_n, a.yards_t, a.number_n, a.number_t, ai_add_nn, ai_mul_nn, aa_1, aa_2, aa_3, aa_10, aa_36, aa_60, aa_180, aa_280, aa_290, aa_650, aa_950, aa_980, aa_1010, aa_2020, aa_4040, aa_100, aa_200, aa_300, aa_400, ab_1, ab_2, ab_3, ab_4, ab_20, ab_10, ab_280, am_2, am_3, am_5, am_10, am_12, am_36, am_100, am_1010, an_2, an_3, an_10, an_12, as_1, as_2, as_3, Int.toNat_natCast, q_lt, n_lt, q_le, n_le, q_eq, n_eq, q_nle, not_false_eq_true, not_true_eq_false, true_and, and_true, true_or, or_true, and_self, ↓reduceIte, hq, mxI]
      rw [ai_add_eq (by omega) (by omega), ai_add_eq (by omega) (by omega)]
      obtain rfl : k = (w (280 + s)).toNat := by omega
      unfold wouldA vlW lsW at H
      have l3 : lowW (w 2) side yards % 2 ≠ side := by unfold lowW; omega
      generalize hlow : lowW (w 2) side yards = low at *
      generalize abW w s side yards (w (280 + s)).toNat = ab at *
      generalize blW w s side yards (w (280 + s)).toNat = bl at *
      refine sp_isOfSide (by omega) (by omega) (fun v e => ?_)
      cases e
      by_cases d1 : (ab + 1) % 2 = side
      · rw [if_pos d1, if_pos rfl]
        refine sp_clowOf (by omega) c1 c2 (fun v e => ?_)
        rw [hlow] at e
        cases e
        rw [show (if max low (ab + 1) % 2 = side then max low (ab + 1) + 1 else max low (ab + 1)) = max (ab + 2) low by split <;> omega] at H
        by_cases d2 : max (ab + 2) low < bl
        · rw [if_pos d2]; rw [if_pos d2] at H; exact H
        · rw [if_neg d2]; rw [if_neg d2] at H; exact H
      · rw [if_neg d1, if_neg (by decide)]
        refine sp_clowOf (by omega) c1 c2 (fun v e => ?_)
        rw [hlow] at e
        cases e
        rw [show (if max low (ab + 1) % 2 = side then max low (ab + 1) + 1 else max low (ab + 1)) = max (ab + 1) low by split <;> omega] at H
        by_cases d2 : max (ab + 1) low < bl
        · rw [if_pos d2]; rw [if_pos d2] at H; exact H
        · rw [if_neg d2]; rw [if_neg d2] at H; exact H
    | succ j ih =>
      intro k q hk
      have hi := (hw s hs).2 k (by omega)
      have g1 := abW_bd hV hs side yards k (by omega)
      have g2 := blW_bd hV hs side yards k (by omega)
      have t := ih (k + 1) (some (xI ((12 * s + k : Nat) : Int))) (by omega)
      simp only [abW, blW] at t
      apply f_Numbering_fitting_11
      rw [a.count_n, a.count_t, Int.toNat_natCast, hq, if_pos (by omega)]
      refine ⟨a.tag, ⟨rfl, by omega, by show (s : Int) < 10; omega⟩, by omega, sp_slot hs (by omega) (fun v e => ?_)⟩
      cases e
      simp (disch := omega) only [a.tag, a.count_n, a.count_t, a.side_n, a.side_t, a.yards_n, a.yards_t, a.number_n, a.number_t, ai_add_nn, ai_mul_nn, aa_1, aa_2, aa_3, aa_10, aa_36, aa_60, aa_180, aa_280, aa_290, aa_650, aa_950, aa_980, aa_1010, aa_2020, aa_4040, aa_100, aa_200, aa_300, aa_400, ab_1, ab_2, ab_3, ab_4, ab_20, ab_10, ab_280, am_2, am_3, am_5, am_10, am_12, am_36, am_100, am_1010, an_2, an_3, an_10, an_12, as_1, as_2, as_3, Int.toNat_natCast, q_lt, n_lt, q_le, n_le, q_eq, n_eq, q_nle, not_false_eq_true, not_true_eq_false, true_and, and_true, true_or, or_true, and_self, ↓reduceIte, hi.1, hi.2.1, hi.2.2, mxI, mnI]
      by_cases c1 : w (290 + 36 * s + 3 * k) = side
      · rw [if_pos c1]
        by_cases c2 : w (290 + 36 * s + 3 * k + 1) < yards
        · rw [if_pos c2]
          rw [if_pos ⟨c1, c2⟩, if_neg (fun z => z.2 c2)] at t
          exact t
        · rw [if_neg c2]
          rw [if_neg (fun z => c2 z.2), if_pos ⟨c1, c2⟩] at t
          exact t
      · rw [if_neg c1]
        rw [if_neg (fun z => c1 z.1), if_neg (fun z => c1 z.1)] at t
        exact t
  exact L (w (280 + s)).toNat 0 _ (by omega)
theorem sp_cwould {h : Hp} {x : Nat} {w : Nat → Int} (s : sAt h x) (a : TR h (x + 43) w) (hV : V w) {k side yards : Int} {d mc ms : Nat} {R : PR} (hd : 3 ≤ d) (H1 : isB w k side yards → R (some (xI (wouldA w k.toNat side yards))) h) (H2 : ¬ isB w k side yards → R (some (xI (-1))) h) : Wp m_S_would 0 [some (xR x), some (xI k), some (xI side), some (xI yards)] [] h d mc ms R := by
  have v0 := hV.1.1
  have v1 := hV.1.2.1
  have v2 := hV.1.2.2.1
  have v3 := hV.1.2.2.2.1
  have v4 := hV.1.2.2.2.2.1
  have v5 := hV.1.2.2.2.2.2.1
  have v6 := hV.1.2.2.2.2.2.2.1
  have v7 := hV.1.2.2.2.2.2.2.2.1
  have v8 := hV.1.2.2.2.2.2.2.2.2.1
  have v9 := hV.1.2.2.2.2.2.2.2.2.2
  have hT := a.1.1
  have hR := a.1.2.1
  have b1 : NW h (x + 43 + 7) w (w 7) 180 := a.1.2.2.1
  have b2 : NW h (x + 43 + 10) w (w 6) 60 := a.1.2.2.2.1
  have b3 : NW h (x + 43 + 13) w (w 8) 650 := a.1.2.2.2.2.1
  have hw : HW h (x + 43 + 18) w := a.1.2.2.2.2.2.2.1
  have h7 : hpC h (x + 43) 7 = w 9 := a.1.2.2.2.2.2.2.2
  apply f_S_would_0
  rw [s.now_n, hT.streets_n]
  refine ⟨s.tag, hT.tag, ⟨by omega, hT.streets_a.tag⟩, sp_holds hT.streets_a.tag b1.1 (fun v e => ?_)⟩
  cases e
  by_cases c : 0 ≤ k ∧ k < w 7
  · rw [if_pos c, if_neg (by decide)]
    by_cases c1 : 0 ≤ side ∧ side ≤ 1
    · rw [if_neg (by omega), if_pos (by omega)]
      by_cases c2 : 0 ≤ yards ∧ yards ≤ 9999
      · rw [if_neg (by omega), if_neg (by omega)]
        obtain ⟨q, rfl⟩ : ∃ q : Nat, k = (q : Int) := ⟨k.toNat, by omega⟩
        have hn := hV.hs (s := q) (by omega)
        have hq := (hw q (by omega)).1
        rw [Int.toNat_natCast] at H1
        simp only [s.tag, s.now_n, hT.tag, hT.homes_n, hT.homes_a.tag, hT.homes_a.count_n, hT.homes_a.count_t, hT.rules_n, hT.rules_a.tag, hR.2.2.1, Int.toNat_natCast, hq, true_and]
        refine ⟨⟨by omega, by omega⟩, ?_⟩
        by_cases c3 : w (280 + q) = 12
        · rw [if_neg (by omega)]; exact H2 (fun z => z.2.2.2.1 (by rw [Int.toNat_natCast]; exact c3))
        · rw [if_pos (by omega)]
          refine ⟨⟨by omega, trivial⟩, sp_isTaken hT.homes_a hw (by omega) hn (by omega) (fun v e => ?_)⟩
          cases e
          by_cases c4 : stW w q side yards (w (280 + q)).toNat 0 = -1
          · rw [if_pos c4, if_pos rfl]
            have H := H1 ⟨c, c1, c2, by rw [Int.toNat_natCast]; exact c3, by rw [Int.toNat_natCast]; exact c4⟩
            simp only [s.tag, s.now_n, hT.tag, hT.homes_n, hT.rules_n, hT.rules_a.tag, hR.2.2.1, true_and]
            refine ⟨by omega, sp_fitting hT.homes_a hw hV (by omega) c1 c2 (by omega) (fun v e => ?_)⟩
            cases e
            exact H
          · rw [if_neg c4, if_neg (by decide)]; exact H2 (fun z => c4 (by have := z.2.2.2.2; rw [Int.toNat_natCast] at this; exact this))
      · by_cases c5 : yards < 0
        · rw [if_pos c5]; exact H2 (fun z => c2 z.2.2.1)
        · rw [if_neg c5, if_pos (by omega)]; exact H2 (fun z => c2 z.2.2.1)
    · by_cases c5 : side < 0
      · rw [if_pos c5]; exact H2 (fun z => c1 z.2.1)
      · rw [if_neg c5, if_neg (by omega)]; exact H2 (fun z => c1 z.2.1)
  · rw [if_neg c, if_pos rfl]; exact H2 (fun z => c z.1)
/-! gaps -/
def nuW (w : Nat → Int) (s : Nat) (side v : Int) : Nat → Nat → Int := fst1 (fun i => decide (w (290 + 36 * s + 3 * i) = side ∧ w (290 + 36 * s + 3 * i + 2) = v))
theorem sp_hasNumber {h : Hp} {m : Nat} {w : Nat → Int} (a : RD h m w) (hV : V w) {s : Nat} (hs : s < 10) {side v : Int} {d mc ms : Nat} {R : PR} (hd : 1 ≤ d) {o4 o5 : Option AV} (H : R (some (xI (if nuW w s side v (w (280 + s)).toNat 0 = -1 then 0 else 1))) h) : Wp m_M_hasNumber 0 [some (xR m), some (xI (s : Int)), some (xI side), some (xI v), o4, o5] [] h d mc ms R := by
  have hn := hV.hs hs
  apply f_M_hasNumber_0
  have L : ∀ (j k : Nat) (q : Option AV), ((k + j : Nat) : Int) = w (280 + s) → R (some (xI (if nuW w s side v j k = -1 then 0 else 1))) h → Wp m_M_hasNumber 3 [some (xR m), some (xI (s : Int)), some (xI side), some (xI v), some (xI (k : Int)), q] [] h d mc ms R := by
    intro j
    induction j with
    | zero =>
      intro k q hk H
      apply f_M_hasNumber_3
      simp (disch := omega) only [a.1.tag, a.1.row_n, a.1.row_t, a.2, tn_0, tn_1, tn_2, tn_3, tn_4, tn_5, tn_6, tn_7, tn_8, tn_9, tn_10, tn_11, tn_12, ai_add_nn, ai_mul_nn, aa_1, aa_2, aa_3, aa_10, aa_36, aa_60, aa_180, aa_280, aa_290, aa_650, aa_950, aa_980, aa_1010, aa_2020, aa_4040, aa_100, aa_200, aa_300, aa_400, ab_1, ab_2, ab_3, ab_4, ab_20, ab_10, ab_280, am_2, am_3, am_5, am_10, am_12, am_36, am_100, am_1010, an_2, an_3, an_10, an_12, as_1, as_2, as_3, Int.toNat_natCast, q_lt, n_lt, q_le, n_le, q_eq, n_eq, q_nle, not_false_eq_true, not_true_eq_false, true_and, and_true, true_or, or_true, and_self, ↓reduceIte]
      exact H
    | succ j ih =>
      intro k q hk H
      apply f_M_hasNumber_3
      simp (disch := omega) only [a.1.tag, a.1.row_n, a.1.row_t, aa_280, Int.toNat_natCast, a.2, true_and]
      rw [if_pos (by omega)]
      refine ⟨⟨by omega, by omega⟩, by omega, sp_houseAt0 (by omega) (by omega) (fun v e => ?_)⟩
      cases e
      simp (disch := omega) only [a.1.tag, a.1.row_n, a.1.row_t, a.2, tn_0, tn_1, tn_2, tn_3, tn_4, tn_5, tn_6, tn_7, tn_8, tn_9, tn_10, tn_11, tn_12, ai_add_nn, ai_mul_nn, aa_1, aa_2, aa_3, aa_10, aa_36, aa_60, aa_180, aa_280, aa_290, aa_650, aa_950, aa_980, aa_1010, aa_2020, aa_4040, aa_100, aa_200, aa_300, aa_400, ab_1, ab_2, ab_3, ab_4, ab_20, ab_10, ab_280, am_2, am_3, am_5, am_10, am_12, am_36, am_100, am_1010, an_2, an_3, an_10, an_12, as_1, as_2, as_3, Int.toNat_natCast, q_lt, n_lt, q_le, n_le, q_eq, n_eq, q_nle, not_false_eq_true, not_true_eq_false, true_and, and_true, true_or, or_true, and_self, ↓reduceIte]
      simp only [nuW, fst1, decide_eq_true_eq] at H
      by_cases c1 : w (290 + 36 * s + 3 * k) = side
      · rw [if_pos c1]
        by_cases c2 : w (290 + 36 * s + 3 * k + 2) = v
        · rw [if_pos c2]; rw [if_pos (show w (290 + 36 * s + 3 * k) = side ∧ w (290 + 36 * s + 3 * k + 2) = v from ⟨c1, c2⟩), if_neg (by omega)] at H; exact H
        · rw [if_neg c2]; rw [if_neg (show ¬ (w (290 + 36 * s + 3 * k) = side ∧ w (290 + 36 * s + 3 * k + 2) = v) from fun z => c2 z.2)] at H; exact ih _ _ (by omega) H
      · rw [if_neg c1]; rw [if_neg (show ¬ (w (290 + 36 * s + 3 * k) = side ∧ w (290 + 36 * s + 3 * k + 2) = v) from fun z => c1 z.1)] at H; exact ih _ _ (by omega) H
  exact L (w (280 + s)).toNat 0 _ (by omega) H
def cntB (u : Nat → Bool) (n : Nat) : Int := sumN (fun t => if u t then 1 else 0) n
theorem cntB_bd (u : Nat → Bool) (n : Nat) : 0 ≤ cntB u n ∧ cntB u n ≤ n := by
  have := sumN_bd (f := fun t => if u t then 1 else 0) (c := 1) (fun i => by split <;> omega) n
  unfold cntB; omega
theorem cntB_succ (u : Nat → Bool) (n : Nat) : cntB u (n + 1) = cntB u n + if u n then 1 else 0 := rfl
def gapN (u : Nat → Bool) : Nat → Int
  | 0 => 0
  | n + 1 => if u n then (n : Int) - cntB u n else gapN u n
theorem gapN_zero {u : Nat → Bool} : ∀ n, (∀ t, t < n → u t = false) → gapN u n = 0 ∧ cntB u n = 0 := by
  intro n
  induction n with
  | zero => intro _; exact ⟨rfl, rfl⟩
  | succ n ih =>
    intro h
    have := ih (fun t ht => h t (by omega))
    simp only [gapN, cntB_succ, h n (by omega)]
    simpa using this
theorem gapN_top {u : Nat → Bool} {t : Nat} (ht : u t = true) : ∀ n, t < n → (∀ t', t < t' → t' < n → u t' = false) → gapN u n = (t : Int) + 1 - cntB u n := by
  intro n
  induction n with
  | zero => intro h; omega
  | succ n ih =>
    intro h1 h2
    simp only [gapN, cntB_succ]
    by_cases e : n = t
    · subst e; rw [if_pos ht, if_pos ht]; omega
    · have := h2 n (by omega) (by omega)
      rw [this]
      have := ih (by omega) (fun t' g1 g2 => h2 t' g1 (by omega))
      simpa using this
theorem gapN_bd {u : Nat → Bool} : ∀ n : Nat, 0 ≤ gapN u n ∧ gapN u n ≤ n := by
  intro n
  induction n with
  | zero => simp [gapN]
  | succ n ih =>
    have := cntB_bd u n
    simp only [gapN]; split <;> omega
def usW (w : Nat → Int) (s : Nat) (side : Int) (k : Nat) : Nat → Bool := fun t => decide (nuW w s side (1 + side + 2 * (t : Int)) k 0 ≠ -1)
def gapsA (w : Nat → Int) (s : Nat) (side : Int) : Int := gapN (usW w s side (w (280 + s)).toNat) (500 - side.toNat)
def isG (w : Nat → Int) (k side : Int) : Prop := (0 ≤ k ∧ k < w 7) ∧ (0 ≤ side ∧ side ≤ 1)
theorem sp_mgaps {h : Hp} {m : Nat} {w : Nat → Int} (a : RD h m w) (hV : V w) {k side : Int} {d mc ms : Nat} {R : PR} (hd : 3 ≤ d) {o3 o4 o5 : Option AV} (H1 : isG w k side → R (some (xI (gapsA w k.toNat side))) h) (H2 : ¬ isG w k side → R (some (xI (-1))) h) : Wp m_M_gaps 0 [some (xR m), some (xI k), some (xI side), o3, o4, o5] [] h d mc ms R := by
  have v0 := hV.1.1
  have v1 := hV.1.2.1
  have v2 := hV.1.2.2.1
  have v3 := hV.1.2.2.2.1
  have v4 := hV.1.2.2.2.2.1
  have v5 := hV.1.2.2.2.2.2.1
  have v6 := hV.1.2.2.2.2.2.2.1
  have v7 := hV.1.2.2.2.2.2.2.2.1
  have v8 := hV.1.2.2.2.2.2.2.2.2.1
  have v9 := hV.1.2.2.2.2.2.2.2.2.2
  apply f_M_gaps_0
  refine ⟨⟨by omega, a.1.tag⟩, sp_isStreet a hV (by omega) (fun v e => ?_)⟩
  cases e
  by_cases c : 0 ≤ k ∧ k < w 7
  · rw [if_pos c, if_neg (by decide)]
    refine ⟨by omega, sp_isIn (fun v e => ?_)⟩
    cases e
    by_cases c1 : 0 ≤ side ∧ side ≤ 1
    · rw [if_pos c1, if_neg (by decide)]
      have H := H1 ⟨c, c1⟩
      obtain ⟨q, rfl⟩ : ∃ q : Nat, k = (q : Int) := ⟨k.toNat, by omega⟩
      rw [Int.toNat_natCast] at H
      unfold gapsA at H
      have L : ∀ (j t : Nat), t + j = 500 - side.toNat → Wp m_M_gaps 29 [some (xR m), some (xI (q : Int)), some (xI side), some (xI (gapN (usW w q side (w (280 + q)).toNat) t)), some (xI ((t : Int) - cntB (usW w q side (w (280 + q)).toNat) t)), some (xI (1 + side + 2 * (t : Int)))] [] h d mc ms R := by
        intro j
        induction j with
        | zero =>
          intro t ht
          apply f_M_gaps_29
          rw [if_pos (by omega)]
          rw [show 500 - side.toNat = t by omega] at H
          exact H
        | succ j ih =>
          intro t ht
          have b1 := cntB_bd (usW w q side (w (280 + q)).toNat) t
          apply f_M_gaps_29
          rw [if_neg (by omega)]
          refine ⟨⟨by omega, a.1.tag⟩, sp_hasNumber a hV (by omega) (by omega) (fun v e => ?_)⟩
          cases e
          have z := ih (t + 1) (by omega)
          simp only [gapN, cntB_succ] at z
          rw [ai_add_eq (by omega) (by omega), ai_add_eq (by omega) (by omega)]
          rw [show 1 + side + 2 * ((t + 1 : Nat) : Int) = 1 + side + 2 * (t : Int) + 2 by omega] at z
          have hu : usW w q side (w (280 + q)).toNat t = decide (nuW w q side (1 + side + 2 * (t : Int)) (w (280 + q)).toNat 0 ≠ -1) := rfl
          by_cases c2 : nuW w q side (1 + side + 2 * (t : Int)) (w (280 + q)).toNat 0 = -1
          · rw [if_pos c2, if_pos rfl]
            rw [hu, decide_eq_false (fun z => z c2)] at z
            rw [if_neg (by decide), if_neg (by decide)] at z
            rw [show ((t + 1 : Nat) : Int) - (cntB (usW w q side (w (280 + q)).toNat) t + 0) = (t : Int) - cntB (usW w q side (w (280 + q)).toNat) t + 1 by omega] at z
            exact z
          · rw [if_neg c2, if_neg (by decide)]
            rw [hu, decide_eq_true c2] at z
            rw [if_pos rfl, if_pos rfl] at z
            rw [show ((t + 1 : Nat) : Int) - (cntB (usW w q side (w (280 + q)).toNat) t + 1) = (t : Int) - cntB (usW w q side (w (280 + q)).toNat) t by omega] at z
            exact z
      rw [ai_add_eq (by omega) (by omega)]
      have z := L (500 - side.toNat) 0 (by omega)
      rw [show 1 + side + 2 * ((0 : Nat) : Int) = 1 + side by omega] at z
      exact z
    · rw [if_neg c1, if_pos rfl]; exact H2 (fun z => c1 z.2)
  · rw [if_neg c, if_pos rfl]; exact H2 (fun z => c z.1)
theorem fst1_none {p : Nat → Bool} {j k : Nat} : fst1 p j k = -1 ↔ ∀ i, k ≤ i → i < k + j → p i = false := by
  rcases fst1_cases p j k with ⟨e, q⟩ | ⟨i, h1, h2, h3, h4, _⟩
  · exact ⟨fun _ => q, fun _ => e⟩
  · exact ⟨fun z => by omega, fun z => by rw [z i h1 h2] at h3; exact absurd h3 (by decide)⟩
theorem sp_isFirstWith {h : Hp} {r : Nat} {w : Nat → Int} (a : homesAt h r) (hw : HW h r w) (hV : V w) {s i : Nat} (hs : s < 10) (hi : (i : Int) < w (280 + s)) {d mc ms : Nat} {R : PR} (hd : 1 ≤ d) {o3 o4 o5 : Option AV} (H : R (some (xI (if nuW w s (w (290 + 36 * s + 3 * i)) (w (290 + 36 * s + 3 * i + 2)) i 0 = -1 then 1 else 0))) h) : Wp m_Numbering_isFirstWith 0 [some (xR r), some (xI (s : Int)), some (xI (i : Int)), o3, o4, o5] [] h d mc ms R := by
  have hn := hV.hs hs
  have g := (hw s hs).2 i hi
  apply f_Numbering_isFirstWith_0
  refine ⟨hd, sp_slot hs (by omega) (fun v e => ?_)⟩
  cases e
  have L : ∀ (j k : Nat) (q : Option AV), k + j = i → R (some (xI (if nuW w s (w (290 + 36 * s + 3 * i)) (w (290 + 36 * s + 3 * i + 2)) j k = -1 then 1 else 0))) h → Wp m_Numbering_isFirstWith 9 [some (xR r), some (xI (s : Int)), some (xI (i : Int)), some (xI ((12 * s + i : Nat) : Int)), some (xI (k : Int)), q] [] h d mc ms R := by
    intro j
    induction j with
    | zero =>
      intro k q hk H
      apply f_Numbering_isFirstWith_9
      rw [if_neg (by omega)]
      exact ⟨by simp, H⟩
    | succ j ih =>
      intro k q hk H
      have g2 := (hw s hs).2 k (by omega)
      apply f_Numbering_isFirstWith_9
      rw [if_pos (by omega)]
      refine ⟨hd, sp_slot hs (by omega) (fun v e => ?_)⟩
      cases e
      simp (disch := omega) only [a.tag, a.count_n, a.count_t, a.side_n, a.side_t, a.yards_n, a.yards_t, a.number_n, a.number_t, ai_add_nn, ai_mul_nn, aa_1, aa_2, aa_3, aa_10, aa_36, aa_60, aa_180, aa_280, aa_290, aa_650, aa_950, aa_980, aa_1010, aa_2020, aa_4040, aa_100, aa_200, aa_300, aa_400, ab_1, ab_2, ab_3, ab_4, ab_20, ab_10, ab_280, am_2, am_3, am_5, am_10, am_12, am_36, am_100, am_1010, an_2, an_3, an_10, an_12, as_1, as_2, as_3, Int.toNat_natCast, q_lt, n_lt, q_le, n_le, q_eq, n_eq, q_nle, not_false_eq_true, not_true_eq_false, true_and, and_true, true_or, or_true, and_self, ↓reduceIte, g.1, g.2.2, g2.1, g2.2.2]
      simp only [nuW, fst1, decide_eq_true_eq] at H
      by_cases c1 : w (290 + 36 * s + 3 * k) = w (290 + 36 * s + 3 * i)
      · rw [if_pos c1]
        by_cases c2 : w (290 + 36 * s + 3 * k + 2) = w (290 + 36 * s + 3 * i + 2)
        · rw [if_pos c2]; rw [if_pos (show w (290 + 36 * s + 3 * k) = w (290 + 36 * s + 3 * i) ∧ w (290 + 36 * s + 3 * k + 2) = w (290 + 36 * s + 3 * i + 2) from ⟨c1, c2⟩), if_neg (by omega)] at H; exact H
        · rw [if_neg c2]; rw [if_neg (show ¬ (w (290 + 36 * s + 3 * k) = w (290 + 36 * s + 3 * i) ∧ w (290 + 36 * s + 3 * k + 2) = w (290 + 36 * s + 3 * i + 2)) from fun z => c2 z.2)] at H; exact ih _ _ (by omega) H
      · rw [if_neg c1]; rw [if_neg (show ¬ (w (290 + 36 * s + 3 * k) = w (290 + 36 * s + 3 * i) ∧ w (290 + 36 * s + 3 * k + 2) = w (290 + 36 * s + 3 * i + 2)) from fun z => c1 z.1)] at H; exact ih _ _ (by omega) H
  exact L i 0 _ (by omega) H
def grW (w : Nat → Int) (s : Nat) (side : Int) : Nat → Int
  | 0 => 0
  | k + 1 => if w (290 + 36 * s + 3 * k) = side ∧ ¬ w (290 + 36 * s + 3 * k + 2) % 2 = side then max (grW w s side k) (w (290 + 36 * s + 3 * k + 2)) else grW w s side k
def ucW (w : Nat → Int) (s : Nat) (side : Int) : Nat → Int
  | 0 => 0
  | k + 1 => if w (290 + 36 * s + 3 * k) = side ∧ ¬ w (290 + 36 * s + 3 * k + 2) % 2 = side then ucW w s side k + (if nuW w s side (w (290 + 36 * s + 3 * k + 2)) k 0 = -1 then 1 else 0) else ucW w s side k
theorem cntB_or {u u' : Nat → Bool} {a : Nat} (h : ∀ t, u' t = (u t || decide (t = a))) : ∀ n, cntB u' n = cntB u n + if a < n ∧ u a = false then 1 else 0 := by
  intro n
  induction n with
  | zero => rw [if_neg (by omega)]; rfl
  | succ n ih =>
    simp only [cntB_succ, ih, h n]
    by_cases e : n = a
    · subst e
      cases hu : u n <;> simp
    · rw [decide_eq_false e, Bool.or_false]
      by_cases c : a < n
      · cases hu : u a <;> simp [c, show a < n + 1 by omega] <;> omega
      · rw [if_neg (fun z => c z.1), if_neg (show ¬ (a < n + 1 ∧ u a = false) from fun z => by omega)]; omega
theorem cntB_ext {u u' : Nat → Bool} (h : ∀ t, u' t = u t) (n : Nat) : cntB u' n = cntB u n := by rw [show u' = u from funext h]
theorem usW_succ (w : Nat → Int) (s : Nat) (side : Int) (k t : Nat) : usW w s side (k + 1) t = (usW w s side k t || decide (w (290 + 36 * s + 3 * k) = side ∧ w (290 + 36 * s + 3 * k + 2) = 1 + side + 2 * (t : Int))) := by
  unfold usW
  by_cases c : nuW w s side (1 + side + 2 * (t : Int)) k 0 = -1
  · by_cases c2 : w (290 + 36 * s + 3 * k) = side ∧ w (290 + 36 * s + 3 * k + 2) = 1 + side + 2 * (t : Int)
    · have : ¬ nuW w s side (1 + side + 2 * (t : Int)) (k + 1) 0 = -1 := fun z => by
        have := fst1_none.mp z k (by omega) (by omega)
        rw [decide_eq_true c2] at this; exact absurd this (by decide)
      simp [this, c2]
    · have : nuW w s side (1 + side + 2 * (t : Int)) (k + 1) 0 = -1 := fst1_none.mpr (fun i h1 h2 => by
        rcases Nat.lt_or_ge i k with z | z
        · exact fst1_none.mp c i h1 (by omega)
        · rw [show i = k by omega]; exact decide_eq_false c2)
      simp [this, c, c2]
  · have : ¬ nuW w s side (1 + side + 2 * (t : Int)) (k + 1) 0 = -1 := fun z => c (fst1_none.mpr (fun i h1 h2 => fst1_none.mp z i h1 (by omega)))
    simp [this, c]
theorem gaps_inv {w : Nat → Int} (hV : V w) {s : Nat} (hs : s < 10) {side : Int} (c1 : 0 ≤ side ∧ side ≤ 1) : ∀ k : Nat, (k : Int) ≤ w (280 + s) → ucW w s side k = cntB (usW w s side k) (500 - side.toNat) ∧ (((∀ t, t < 500 - side.toNat → usW w s side k t = false) ∧ grW w s side k = 0) ∨ ∃ t, t < 500 - side.toNat ∧ usW w s side k t = true ∧ grW w s side k = 1 + side + 2 * (t : Int) ∧ ∀ t', t < t' → t' < 500 - side.toNat → usW w s side k t' = false) := by
  intro k
  induction k with
  | zero =>
    intro _
    have e : ∀ t, usW w s side 0 t = false := fun t => decide_eq_false (fun z => z rfl)
    exact ⟨((gapN_zero _ (fun t _ => e t)).2).symm, Or.inl ⟨fun t _ => e t, rfl⟩⟩
  | succ k ih =>
    intro hk
    obtain ⟨i1, i2⟩ := ih (by omega)
    have b := hV.hn hs (i := k) (by omega)
    simp only [ucW, grW]
    by_cases c : w (290 + 36 * s + 3 * k) = side ∧ ¬ w (290 + 36 * s + 3 * k + 2) % 2 = side
    · rw [if_pos c, if_pos c]
      obtain ⟨t0, e0⟩ : ∃ t0 : Nat, w (290 + 36 * s + 3 * k + 2) = 1 + side + 2 * (t0 : Int) := ⟨((w (290 + 36 * s + 3 * k + 2) - 1 - side) / 2).toNat, by omega⟩
      have ht0 : t0 < 500 - side.toNat := by omega
      have es : ∀ t, usW w s side (k + 1) t = (usW w s side k t || decide (t = t0)) := fun t => by
        rw [usW_succ, e0]
        congr 1
        simp only [decide_eq_decide]
        constructor
        · rintro ⟨_, z⟩; omega
        · rintro rfl; exact ⟨c.1, rfl⟩
      have e1 : (nuW w s side (w (290 + 36 * s + 3 * k + 2)) k 0 = -1) ↔ usW w s side k t0 = false := by
        unfold usW; rw [e0]; simp
      refine ⟨?_, ?_⟩
      · rw [cntB_or es, i1]
        by_cases c2 : usW w s side k t0 = false
        · rw [if_pos (e1.mpr c2), if_pos ⟨ht0, c2⟩]
        · rw [if_neg (fun z => c2 (e1.mp z)), if_neg (fun z => c2 z.2)]
      · right
        rcases i2 with ⟨g1, g2⟩ | ⟨t, g1, g2, g3, g4⟩
        · refine ⟨t0, ht0, by rw [es]; simp, by rw [g2]; omega, fun t' h1 h2 => ?_⟩
          rw [es, g1 t' h2, decide_eq_false (by omega)]; rfl
        · by_cases c3 : t0 ≤ t
          · refine ⟨t, g1, by rw [es, g2]; rfl, by omega, fun t' h1 h2 => ?_⟩
            rw [es, g4 t' h1 h2, decide_eq_false (by omega)]; rfl
          · refine ⟨t0, ht0, by rw [es]; simp, by omega, fun t' h1 h2 => ?_⟩
            rw [es, g4 t' (by omega) h2, decide_eq_false (by omega)]; rfl
    · rw [if_neg c, if_neg c]
      have es : ∀ t, usW w s side (k + 1) t = usW w s side k t := fun t => by
        rw [usW_succ, decide_eq_false (fun z => c ⟨z.1, by omega⟩), Bool.or_false]
      refine ⟨by rw [cntB_ext es]; exact i1, ?_⟩
      rcases i2 with ⟨g1, g2⟩ | ⟨t, g1, g2, g3, g4⟩
      · exact Or.inl ⟨fun t ht => by rw [es]; exact g1 t ht, g2⟩
      · exact Or.inr ⟨t, g1, by rw [es]; exact g2, g3, fun t' h1 h2 => by rw [es]; exact g4 t' h1 h2⟩
theorem ucW_bd (w : Nat → Int) (s : Nat) (side : Int) : ∀ k : Nat, 0 ≤ ucW w s side k ∧ ucW w s side k ≤ k := by
  intro k
  induction k with
  | zero => simp [ucW]
  | succ k ih => simp only [ucW]; split <;> (try split) <;> omega
theorem grW_bd {w : Nat → Int} (hV : V w) {s : Nat} (hs : s < 10) (side : Int) : ∀ k : Nat, (k : Int) ≤ w (280 + s) → 0 ≤ grW w s side k ∧ grW w s side k ≤ 999 := by
  intro k
  induction k with
  | zero => intro _; simp [grW]
  | succ k ih =>
    intro hk
    have := ih (by omega)
    have := hV.hn hs (i := k) (by omega)
    simp only [grW]; split <;> omega
theorem gapsA_eq {w : Nat → Int} (hV : V w) {s : Nat} (hs : s < 10) {side : Int} (c1 : 0 ≤ side ∧ side ≤ 1) : gapsA w s side = if grW w s side (w (280 + s)).toNat = 0 then 0 else (grW w s side (w (280 + s)).toNat + 1 - side) / 2 - ucW w s side (w (280 + s)).toNat := by
  have hn := hV.hs hs
  obtain ⟨i1, i2⟩ := gaps_inv hV hs c1 (w (280 + s)).toNat (by omega)
  unfold gapsA
  rcases i2 with ⟨g1, g2⟩ | ⟨t, g1, g2, g3, g4⟩
  · rw [if_pos g2]; exact (gapN_zero _ g1).1
  · rw [if_neg (by omega), gapN_top g2 _ g1 g4, i1, g3]; omega
theorem sp_unused {h : Hp} {r : Nat} {w : Nat → Int} (a : homesAt h r) (hw : HW h r w) (hV : V w) {s : Nat} (hs : s < 10) {side : Int} (c1 : 0 ≤ side ∧ side ≤ 1) {d mc ms : Nat} {R : PR} (hd : 2 ≤ d) {o3 o4 o5 o6 o7 : Option AV} (H : R (some (xI (gapsA w s side))) h) : Wp m_Numbering_unused 0 [some (xR r), some (xI (s : Int)), some (xI side), o3, o4, o5, o6, o7] [] h d mc ms R := by
  have hn := hV.hs hs
  have hq := (hw s hs).1
  rw [gapsA_eq hV hs c1] at H
  apply f_Numbering_unused_0
  have L : ∀ (j k : Nat) (q1 q2 : Option AV), ((k + j : Nat) : Int) = w (280 + s) → Wp m_Numbering_unused 8 [some (xR r), some (xI (s : Int)), some (xI side), some (xI (grW w s side k)), some (xI (ucW w s side k)), some (xI (k : Int)), q1, q2] [] h d mc ms R := by
    intro j
    induction j with
    | zero =>
      intro k q1 q2 hk
      have g1 := grW_bd hV hs side k (by omega)
      have g2 := ucW_bd w s side k
      rw [show (w (280 + s)).toNat = k by omega] at H
      apply f_Numbering_unused_8
      simp (disch := omega) only [a.tag, a.count_n, a.count_t, a.side_n, a.side_t, a.yards_n, a.yards_t, a.number_n, a.number_t, ai_add_nn, ai_mul_nn, aa_1, aa_2, aa_3, aa_10, aa_36, aa_60, aa_180, aa_280, aa_290, aa_650, aa_950, aa_980, aa_1010, aa_2020, aa_4040, aa_100, aa_200, aa_300, aa_400, ab_1, ab_2, ab_3, ab_4, ab_20, ab_10, ab_280, am_2, am_3, am_5, am_10, am_12, am_36, am_100, am_1010, an_2, an_3, an_10, an_12, as_1, as_2, as_3, Int.toNat_natCast, q_lt, n_lt, q_le, n_le, q_eq, n_eq, q_nle, not_false_eq_true, not_true_eq_false, true_and, and_true, true_or, or_true, and_self, ↓reduceIte, hq]
      generalize grW w s side k = g at *
      generalize ucW w s side k = u at *
      by_cases d1 : g = 0
      · rw [if_pos d1]; rw [if_pos d1] at H; exact H
      · rw [if_neg d1]; rw [if_neg d1] at H
        rw [ai_add_eq (by omega) (by omega), ai_sub_eq (a := g + 1) (b := side) (by omega) (by omega), ai_div_eq (by omega) (by omega) (by omega) (by omega), ai_sub_eq (by omega) (by omega)]
        exact H
    | succ j ih =>
      intro k q1 q2 hk
      have g1 := grW_bd hV hs side k (by omega)
      have g2 := ucW_bd w s side k
      have hi := (hw s hs).2 k (by omega)
      have hb := hV.hn hs (i := k) (by omega)
      have t := ih (k + 1) (some (xI ((12 * s + k : Nat) : Int))) (some (xI (w (290 + 36 * s + 3 * k + 2)))) (by omega)
      simp only [grW, ucW] at t
      apply f_Numbering_unused_8
      rw [a.count_n, a.count_t, Int.toNat_natCast, hq, if_pos (by omega)]
      refine ⟨a.tag, ⟨rfl, by omega, by show (s : Int) < 10; omega⟩, by omega, sp_slot hs (by omega) (fun v e => ?_)⟩
      cases e
      simp (disch := omega) only [a.tag, a.count_n, a.count_t, a.side_n, a.side_t, a.yards_n, a.yards_t, a.number_n, a.number_t, ai_add_nn, ai_mul_nn, aa_1, aa_2, aa_3, aa_10, aa_36, aa_60, aa_180, aa_280, aa_290, aa_650, aa_950, aa_980, aa_1010, aa_2020, aa_4040, aa_100, aa_200, aa_300, aa_400, ab_1, ab_2, ab_3, ab_4, ab_20, ab_10, ab_280, am_2, am_3, am_5, am_10, am_12, am_36, am_100, am_1010, an_2, an_3, an_10, an_12, as_1, as_2, as_3, Int.toNat_natCast, q_lt, n_lt, q_le, n_le, q_eq, n_eq, q_nle, not_false_eq_true, not_true_eq_false, true_and, and_true, true_or, or_true, and_self, ↓reduceIte, hi.1, hi.2.1, hi.2.2, mxI]
      by_cases d1 : w (290 + 36 * s + 3 * k) = side
      · rw [if_pos d1]
        refine sp_isOfSide (by omega) (by omega) (fun v e => ?_)
        cases e
        by_cases d2 : w (290 + 36 * s + 3 * k + 2) % 2 = side
        · rw [if_pos d2, if_pos rfl]
          rw [if_neg (fun z => z.2 d2), if_neg (fun z => z.2 d2)] at t
          exact t
        · rw [if_neg d2, if_neg (by decide)]
          rw [if_pos ⟨d1, d2⟩, if_pos ⟨d1, d2⟩] at t
          refine sp_isFirstWith a hw hV hs (by omega) (by omega) (fun v e => ?_)
          cases e
          rw [d1]
          rw [ai_add_eq (by omega) (by omega), ai_add_eq (by omega) (by omega)]
          by_cases d3 : nuW w s side (w (290 + 36 * s + 3 * k + 2)) k 0 = -1
          · rw [if_pos d3, if_neg (by decide)]; rw [if_pos d3] at t; exact t
          · rw [if_neg d3, if_pos rfl]; rw [if_neg d3] at t; exact t
      · rw [if_neg d1]
        rw [if_neg (fun z => d1 z.1), if_neg (fun z => d1 z.1)] at t
        exact t
  exact L (w (280 + s)).toNat 0 _ _ (by omega)
theorem sp_cgaps {h : Hp} {x : Nat} {w : Nat → Int} (s : sAt h x) (a : TR h (x + 43) w) (hV : V w) {k side : Int} {d mc ms : Nat} {R : PR} (hd : 3 ≤ d) (H1 : isG w k side → R (some (xI (gapsA w k.toNat side))) h) (H2 : ¬ isG w k side → R (some (xI (-1))) h) : Wp m_S_gaps 0 [some (xR x), some (xI k), some (xI side)] [] h d mc ms R := by
  have v0 := hV.1.1
  have v1 := hV.1.2.1
  have v2 := hV.1.2.2.1
  have v3 := hV.1.2.2.2.1
  have v4 := hV.1.2.2.2.2.1
  have v5 := hV.1.2.2.2.2.2.1
  have v6 := hV.1.2.2.2.2.2.2.1
  have v7 := hV.1.2.2.2.2.2.2.2.1
  have v8 := hV.1.2.2.2.2.2.2.2.2.1
  have v9 := hV.1.2.2.2.2.2.2.2.2.2
  have hT := a.1.1
  have hR := a.1.2.1
  have b1 : NW h (x + 43 + 7) w (w 7) 180 := a.1.2.2.1
  have b2 : NW h (x + 43 + 10) w (w 6) 60 := a.1.2.2.2.1
  have b3 : NW h (x + 43 + 13) w (w 8) 650 := a.1.2.2.2.2.1
  have hw : HW h (x + 43 + 18) w := a.1.2.2.2.2.2.2.1
  have h7 : hpC h (x + 43) 7 = w 9 := a.1.2.2.2.2.2.2.2
  apply f_S_gaps_0
  rw [s.now_n, hT.streets_n]
  refine ⟨s.tag, hT.tag, ⟨by omega, hT.streets_a.tag⟩, sp_holds hT.streets_a.tag b1.1 (fun v e => ?_)⟩
  cases e
  by_cases c : 0 ≤ k ∧ k < w 7
  · rw [if_pos c, if_neg (by decide)]
    by_cases c1 : 0 ≤ side ∧ side ≤ 1
    · rw [if_neg (by omega), if_pos (by omega), s.now_n, hT.homes_n]
      have H := H1 ⟨c, c1⟩
      obtain ⟨q, rfl⟩ : ∃ q : Nat, k = (q : Int) := ⟨k.toNat, by omega⟩
      rw [Int.toNat_natCast] at H
      refine ⟨s.tag, hT.tag, by omega, sp_unused hT.homes_a hw hV (by omega) c1 (by omega) (fun v e => ?_)⟩
      cases e; exact H
    · by_cases c5 : side < 0
      · rw [if_pos c5]; exact H2 (fun z => c1 z.2)
      · rw [if_neg c5, if_neg (by omega)]; exact H2 (fun z => c1 z.2)
  · rw [if_neg c, if_pos rfl]; exact H2 (fun z => c z.1)
