/-! ===== house, at ===== -/
def isH (w : Nat → Int) (s i : Int) : Prop := (0 ≤ s ∧ s < w 7) ∧ 0 ≤ i ∧ i < w (280 + s.toNat)
def lowW (st side yards : Int) : Int := 2 * (yards / st) + 1 + side
def befW (w : Nat → Int) (s : Nat) (side yards : Int) (n : Nat) : Int := sumN (fun i => if w (290 + 36 * s + 3 * i) = side ∧ w (290 + 36 * s + 3 * i + 1) < yards then 1 else 0) n
theorem befW_bd (w : Nat → Int) (s : Nat) (side yards : Int) (n : Nat) : 0 ≤ befW w s side yards n ∧ befW w s side yards n ≤ n := by
  have := sumN_bd (f := fun i => if w (290 + 36 * s + 3 * i) = side ∧ w (290 + 36 * s + 3 * i + 1) < yards then 1 else 0) (c := 1) (fun i => by split <;> omega) n
  unfold befW; omega
theorem V.hs {w : Nat → Int} (hV : V w) {s : Nat} (hs : s < 10) : 0 ≤ w (280 + s) ∧ w (280 + s) ≤ 12 := (hV.2.2.2.2.2.2.1 s hs).1
theorem V.hn {w : Nat → Int} (hV : V w) {s i : Nat} (hs : s < 10) (hi : (i : Int) < w (280 + s)) : (0 ≤ w (290 + 36 * s + 3 * i) ∧ w (290 + 36 * s + 3 * i) ≤ 1) ∧ (0 ≤ w (290 + 36 * s + 3 * i + 1) ∧ w (290 + 36 * s + 3 * i + 1) ≤ 9999) ∧ (1 ≤ w (290 + 36 * s + 3 * i + 2) ∧ w (290 + 36 * s + 3 * i + 2) ≤ 999) := by
  have := (hV.2.2.2.2.2.2.1 s hs).2.2.1 i hi
  omega
theorem lowW_bd {st side yards : Int} (h1 : 1 ≤ st) (h2 : 0 ≤ side ∧ side ≤ 1) (h3 : 0 ≤ yards ∧ yards ≤ 9999) : 0 ≤ yards / st ∧ yards / st ≤ 9999 ∧ 1 ≤ lowW st side yards ∧ lowW st side yards ≤ 20000 := by
  have q1 : 0 ≤ yards / st := Int.ediv_nonneg (by omega) (by omega)
  have q2 : yards / st ≤ yards := Int.ediv_le_self _ (by omega)
  unfold lowW; omega
theorem sp_clowOf {st side yards : Int} (h1 : 1 ≤ st ∧ st ≤ 99) (h2 : 0 ≤ side ∧ side ≤ 1) (h3 : 0 ≤ yards ∧ yards ≤ 9999) {h : Hp} {d mc ms : Nat} {R : PR} (H : R (some (xI (lowW st side yards))) h) : Wp m_Numbering_lowOf 0 [some (xI side), some (xI yards), some (xI st)] [] h d mc ms R := by
  have hb := lowW_bd (st := st) (by omega) h2 h3
  apply f_Numbering_lowOf_0
  rw [if_neg (by omega), ai_div_eq (by omega) (by omega) (by omega) (by omega)]
  simp (disch := omega) only [ai_mul_eq, ai_add_eq]
  refine ⟨by omega, ?_⟩
  rw [show yards / st * 2 + 1 + side = lowW st side yards by unfold lowW; omega]
  exact H
theorem sp_mlowOf {h : Hp} {m : Nat} {w : Nat → Int} (a : RD h m w) (hV : V w) {side yards : Int} (h2 : 0 ≤ side ∧ side ≤ 1) (h3 : 0 ≤ yards ∧ yards ≤ 9999) {d mc ms : Nat} {R : PR} (H : R (some (xI (lowW (w 2) side yards))) h) : Wp m_M_lowOf 0 [some (xR m), some (xI side), some (xI yards)] [] h d mc ms R := by
  have v2 := hV.1.2.2.1
  have hb := lowW_bd (st := w 2) (by omega) h2 h3
  apply f_M_lowOf_0
  simp (disch := omega) only [a.1.tag, a.1.row_n, a.1.row_t, a.2, tn_0, tn_1, tn_2, tn_3, tn_4, tn_5, tn_6, tn_7, tn_8, tn_9, tn_10, tn_11, tn_12, ai_add_nn, ai_mul_nn, aa_1, aa_2, aa_3, aa_10, aa_36, aa_60, aa_180, aa_280, aa_290, aa_650, aa_950, aa_980, aa_1010, aa_2020, aa_4040, aa_100, aa_200, aa_300, aa_400, ab_1, ab_2, ab_3, ab_4, ab_20, ab_10, am_2, am_3, am_5, am_10, am_12, am_36, am_100, am_1010, an_2, an_3, an_10, an_12, as_1, as_2, as_3, Int.toNat_natCast, q_lt, n_lt, q_le, n_le, q_eq, n_eq, q_nle, not_false_eq_true, not_true_eq_false, true_and, and_true, true_or, or_true, and_self, ↓reduceIte]
  rw [ai_div_eq (by omega) (by omega) (by omega) (by omega)]
  simp (disch := omega) only [ai_mul_eq, ai_add_eq]
  exact H
theorem sp_houseAt0 {s i : Nat} (hs : s < 10) (hi : i < 12) {h : Hp} {d mc ms : Nat} {R : PR} (H : R (some (xI ((290 + 36 * s + 3 * i : Nat) : Int))) h) : Wp m_M_houseAt 0 [some (xI (0 : Int)), some (xI (s : Int)), some (xI (i : Int))] [] h d mc ms R := by
  refine sp_houseAt (o := 0) (by omega) hs hi ?_
  rw [Nat.zero_add]; exact H
theorem sp_placeOf {h : Hp} {m : Nat} {w : Nat → Int} (a : RD h m w) (hV : V w) {s i : Nat} (hs : s < 10) (hi : (i : Int) < w (280 + s)) {d mc ms : Nat} (hd : 1 ≤ d) {R : PR} {o3 o4 o5 o6 : Option AV} (H : R (some (xI (befW w s (w (290 + 36 * s + 3 * i)) (w (290 + 36 * s + 3 * i + 1)) (w (280 + s)).toNat))) h) : Wp m_M_placeOf 0 [some (xR m), some (xI (s : Int)), some (xI (i : Int)), o3, o4, o5, o6] [] h d mc ms R := by
  have hn := hV.hs hs
  apply f_M_placeOf_0
  refine ⟨hd, sp_houseAt0 hs (by omega) (fun v e => ?_)⟩
  cases e
  have L : ∀ (j k : Nat) (o : Option AV), ((k + j : Nat) : Int) = w (280 + s) → Wp m_M_placeOf 13 [some (xR m), some (xI (s : Int)), some (xI (i : Int)), some (xI ((290 + 36 * s + 3 * i : Nat) : Int)), some (xI (befW w s (w (290 + 36 * s + 3 * i)) (w (290 + 36 * s + 3 * i + 1)) k)), some (xI (k : Int)), o] [] h d mc ms R := by
    intro j
    induction j with
    | zero =>
      intro k o hk
      apply f_M_placeOf_13
      simp (disch := omega) only [a.1.tag, a.1.row_n, a.1.row_t, a.2, tn_0, tn_1, tn_2, tn_3, tn_4, tn_5, tn_6, tn_7, tn_8, tn_9, tn_10, tn_11, tn_12, ai_add_nn, ai_mul_nn, aa_1, aa_2, aa_3, aa_10, aa_36, aa_60, aa_180, aa_280, aa_290, aa_650, aa_950, aa_980, aa_1010, aa_2020, aa_4040, aa_100, aa_200, aa_300, aa_400, ab_1, ab_2, ab_3, ab_4, ab_20, ab_10, am_2, am_3, am_5, am_10, am_12, am_36, am_100, am_1010, an_2, an_3, an_10, an_12, as_1, as_2, as_3, Int.toNat_natCast, q_lt, n_lt, q_le, n_le, q_eq, n_eq, q_nle, not_false_eq_true, not_true_eq_false, true_and, and_true, true_or, or_true, and_self, ↓reduceIte]
      rw [show (w (280 + s)).toNat = k by omega] at H
      exact H
    | succ j ih =>
      intro k o hk
      have hb := befW_bd w s (w (290 + 36 * s + 3 * i)) (w (290 + 36 * s + 3 * i + 1)) k
      apply f_M_placeOf_13
      simp (disch := omega) only [a.1.tag, a.1.row_n, a.1.row_t, aa_280, Int.toNat_natCast, a.2, true_and]
      rw [if_pos (by omega)]
      refine ⟨⟨by omega, by omega⟩, hd, sp_houseAt0 hs (by omega) (fun v e => ?_)⟩
      cases e
      simp (disch := omega) only [a.1.tag, a.1.row_n, a.1.row_t, a.2, tn_0, tn_1, tn_2, tn_3, tn_4, tn_5, tn_6, tn_7, tn_8, tn_9, tn_10, tn_11, tn_12, ai_add_nn, ai_mul_nn, aa_1, aa_2, aa_3, aa_10, aa_36, aa_60, aa_180, aa_280, aa_290, aa_650, aa_950, aa_980, aa_1010, aa_2020, aa_4040, aa_100, aa_200, aa_300, aa_400, ab_1, ab_2, ab_3, ab_4, ab_20, ab_10, am_2, am_3, am_5, am_10, am_12, am_36, am_100, am_1010, an_2, an_3, an_10, an_12, as_1, as_2, as_3, Int.toNat_natCast, q_lt, n_lt, q_le, n_le, q_eq, n_eq, q_nle, not_false_eq_true, not_true_eq_false, true_and, and_true, true_or, or_true, and_self, ↓reduceIte]
      have e1 : befW w s (w (290 + 36 * s + 3 * i)) (w (290 + 36 * s + 3 * i + 1)) (k + 1) = befW w s (w (290 + 36 * s + 3 * i)) (w (290 + 36 * s + 3 * i + 1)) k + if w (290 + 36 * s + 3 * k) = w (290 + 36 * s + 3 * i) ∧ w (290 + 36 * s + 3 * k + 1) < w (290 + 36 * s + 3 * i + 1) then 1 else 0 := rfl
      have := ih (k + 1) (some (xI ((290 + 36 * s + 3 * k : Nat) : Int))) (by omega)
      by_cases c1 : w (290 + 36 * s + 3 * k) = w (290 + 36 * s + 3 * i)
      · rw [if_pos c1]
        by_cases c2 : w (290 + 36 * s + 3 * k + 1) < w (290 + 36 * s + 3 * i + 1)
        · rw [if_pos c2, ai_add_eq (by omega) (by omega)]
          rw [e1, if_pos ⟨c1, c2⟩] at this
          exact this
        · rw [if_neg c2, ai_add_eq (by omega) (by omega)]
          rw [e1, if_neg (fun z => c2 z.2)] at this
          exact this
      · rw [if_neg c1, ai_add_eq (by omega) (by omega)]
        rw [e1, if_neg (fun z => c1 z.1)] at this
        exact this
  exact L (w (280 + s)).toNat 0 _ (by omega)
theorem sp_before {h : Hp} {r : Nat} {w : Nat → Int} (a : homesAt h r) (hw : HW h r w) (hV : V w) {s : Nat} (hs : s < 10) {side yards : Int} {d mc ms : Nat} (hd : 1 ≤ d) {R : PR} {o4 o5 o6 : Option AV} (H : R (some (xI (befW w s side yards (w (280 + s)).toNat))) h) : Wp m_Homes_before 0 [some (xR r), some (xI (s : Int)), some (xI side), some (xI yards), o4, o5, o6] [] h d mc ms R := by
  have hn := hV.hs hs
  have hq := (hw s hs).1
  apply f_Homes_before_0
  have L : ∀ (j k : Nat) (o : Option AV), ((k + j : Nat) : Int) = w (280 + s) → Wp m_Homes_before 6 [some (xR r), some (xI (s : Int)), some (xI side), some (xI yards), some (xI (befW w s side yards k)), some (xI (k : Int)), o] [] h d mc ms R := by
    intro j
    induction j with
    | zero =>
      intro k o hk
      apply f_Homes_before_6
      simp (disch := omega) only [a.tag, a.count_n, a.count_t, hq, ai_add_nn, ai_mul_nn, aa_1, aa_2, aa_3, aa_10, aa_36, aa_60, aa_180, aa_280, aa_290, aa_650, aa_950, aa_980, aa_1010, aa_2020, aa_4040, aa_100, aa_200, aa_300, aa_400, ab_1, ab_2, ab_3, ab_4, ab_20, ab_10, am_2, am_3, am_5, am_10, am_12, am_36, am_100, am_1010, an_2, an_3, an_10, an_12, as_1, as_2, as_3, Int.toNat_natCast, q_lt, n_lt, q_le, n_le, q_eq, n_eq, q_nle, not_false_eq_true, not_true_eq_false, true_and, and_true, true_or, or_true, and_self, ↓reduceIte]
      rw [show (w (280 + s)).toNat = k by omega] at H
      exact H
    | succ j ih =>
      intro k o hk
      have hb := befW_bd w s side yards k
      have hi := (hw s hs).2 k (by omega)
      apply f_Homes_before_6
      rw [a.count_n, a.count_t, Int.toNat_natCast, hq, if_pos (by omega)]
      refine ⟨a.tag, ⟨rfl, by omega, by show (s : Int) < 10; omega⟩, hd, sp_slot hs (by omega) (fun v e => ?_)⟩
      cases e
      simp (disch := omega) only [a.tag, a.side_n, a.side_t, a.yards_n, a.yards_t, hi.1, hi.2.1, ai_add_nn, ai_mul_nn, aa_1, aa_2, aa_3, aa_10, aa_36, aa_60, aa_180, aa_280, aa_290, aa_650, aa_950, aa_980, aa_1010, aa_2020, aa_4040, aa_100, aa_200, aa_300, aa_400, ab_1, ab_2, ab_3, ab_4, ab_20, ab_10, am_2, am_3, am_5, am_10, am_12, am_36, am_100, am_1010, an_2, an_3, an_10, an_12, as_1, as_2, as_3, Int.toNat_natCast, q_lt, n_lt, q_le, n_le, q_eq, n_eq, q_nle, not_false_eq_true, not_true_eq_false, true_and, and_true, true_or, or_true, and_self, ↓reduceIte]
      have e1 : befW w s side yards (k + 1) = befW w s side yards k + if w (290 + 36 * s + 3 * k) = side ∧ w (290 + 36 * s + 3 * k + 1) < yards then 1 else 0 := rfl
      have := ih (k + 1) (some (xI ((12 * s + k : Nat) : Int))) (by omega)
      by_cases c1 : w (290 + 36 * s + 3 * k) = side
      · rw [if_pos c1]
        by_cases c2 : w (290 + 36 * s + 3 * k + 1) < yards
        · rw [if_pos c2, ai_add_eq (by omega) (by omega)]
          rw [e1, if_pos ⟨c1, c2⟩] at this
          exact this
        · rw [if_neg c2]
          rw [e1, if_neg (fun z => c2 z.2), Int.add_zero] at this
          exact this
      · rw [if_neg c1]
        rw [e1, if_neg (fun z => c1 z.1), Int.add_zero] at this
        exact this
  exact L (w (280 + s)).toNat 0 _ (by omega)
theorem sp_cisHouse {h : Hp} {x : Nat} {w : Nat → Int} (s : sAt h x) (a : TR h (x + 43) w) (hV : V w) {k i : Int} {d mc ms : Nat} (hd : 1 ≤ d) {R : PR} (H1 : isH w k i → R (some (xI 1)) h) (H2 : ¬ isH w k i → R (some (xI 0)) h) : Wp m_S_isHouse 0 [some (xR x), some (xI k), some (xI i)] [] h d mc ms R := by
  have v7 := hV.1.2.2.2.2.2.2.2.1
  have hT := a.1.1
  have hR := a.1.2.1
  have b1 : NW h (x + 43 + 7) w (w 7) 180 := a.1.2.2.1
  have b2 : NW h (x + 43 + 10) w (w 6) 60 := a.1.2.2.2.1
  have b3 : NW h (x + 43 + 13) w (w 8) 650 := a.1.2.2.2.2.1
  have hw : HW h (x + 43 + 18) w := a.1.2.2.2.2.2.2.1
  have h7 : hpC h (x + 43) 7 = w 9 := a.1.2.2.2.2.2.2.2
  apply f_S_isHouse_0
  rw [s.now_n, hT.streets_n]
  refine ⟨s.tag, hT.tag, ⟨by omega, hT.streets_a.tag⟩, sp_holds hT.streets_a.tag b1.1 (fun v e => ?_)⟩
  cases e
  by_cases c : 0 ≤ k ∧ k < w 7
  · rw [if_pos c, if_neg (by decide)]
    by_cases c2 : i < 0
    · rw [if_pos c2]; exact ⟨by simp, H2 (fun z => by have := z.2; omega)⟩
    · rw [if_neg c2]
      obtain ⟨q, rfl⟩ : ∃ q : Nat, k = (q : Int) := ⟨k.toNat, by omega⟩
      simp (disch := omega) only [s.tag, s.now_n, s.past_n, hT.tag, hT.streets_n, hT.pool_n, hT.aliases_n, hT.rules_n, hT.homes_n, hT.streets_a.tag, hT.pool_a.tag, hT.aliases_a.tag, hT.rules_a.tag, hT.homes_a.tag, hT.homes_a.count_n, hT.homes_a.count_t, hT.homes_a.side_n, hT.homes_a.side_t, hT.homes_a.yards_n, hT.homes_a.yards_t, hT.homes_a.number_n, hT.homes_a.number_t, b1.1, b2.1, b3.1, h7, hR.1, hR.2.1, hR.2.2.1, hR.2.2.2.1, hR.2.2.2.2.1, hR.2.2.2.2.2.1, tn_0, tn_1, tn_2, tn_3, tn_4, tn_5, tn_6, tn_7, tn_8, tn_9, tn_10, tn_11, tn_12, ai_add_nn, ai_mul_nn, aa_1, aa_2, aa_3, aa_10, aa_36, aa_60, aa_180, aa_280, aa_290, aa_650, aa_950, aa_980, aa_1010, aa_2020, aa_4040, aa_100, aa_200, aa_300, aa_400, ab_1, ab_2, ab_3, ab_4, ab_20, ab_10, am_2, am_3, am_5, am_10, am_12, am_36, am_100, am_1010, an_2, an_3, an_10, an_12, as_1, as_2, as_3, Int.toNat_natCast, q_lt, n_lt, q_le, n_le, q_eq, n_eq, q_nle, not_false_eq_true, not_true_eq_false, true_and, and_true, true_or, or_true, and_self, ↓reduceIte, (hw q (by omega)).1]
      by_cases c3 : i < w (280 + q)
      · rw [if_pos c3]; exact H1 ⟨c, by omega, c3⟩
      · rw [if_neg c3]; exact H2 (fun z => c3 z.2.2)
  · rw [if_neg c, if_pos rfl]
    exact ⟨by simp, H2 (fun z => c z.1)⟩
theorem sp_misHouse {h : Hp} {m : Nat} {w : Nat → Int} (a : RD h m w) (hV : V w) {k i : Int} {d mc ms : Nat} (hd : 2 ≤ d) {R : PR} (H1 : isH w k i → R (some (xI 1)) h) (H2 : ¬ isH w k i → R (some (xI 0)) h) : Wp m_M_isHouse 0 [some (xR m), some (xI k), some (xI i)] [] h d mc ms R := by
  have v7 := hV.1.2.2.2.2.2.2.2.1
  apply f_M_isHouse_0
  refine ⟨⟨by omega, a.1.tag⟩, sp_isStreet a hV (by omega) (fun v e => ?_)⟩
  cases e
  by_cases c : 0 ≤ k ∧ k < w 7
  · rw [if_pos c, if_neg (by decide)]
    obtain ⟨q, rfl⟩ : ∃ q : Nat, k = (q : Int) := ⟨k.toNat, by omega⟩
    have hn := hV.hs (s := q) (by omega)
    simp (disch := omega) only [a.1.tag, a.1.row_n, a.1.row_t, a.2, aa_280, Int.toNat_natCast, ai_sub_eq, q_lt, n_lt, q_le, n_le, q_eq, n_eq, q_nle, not_false_eq_true, not_true_eq_false, true_and, and_true, true_or, or_true, and_self, ↓reduceIte]
    refine sp_isIn (fun v e => ?_)
    cases e
    by_cases c3 : 0 ≤ i ∧ i ≤ w (280 + q) - 1
    · rw [if_pos c3, if_neg (by decide)]; exact H1 ⟨c, c3.1, by rw [Int.toNat_natCast]; omega⟩
    · rw [if_neg c3, if_pos rfl]; exact H2 (fun z => c3 ⟨z.2.1, by have := z.2.2; rw [Int.toNat_natCast] at this; omega⟩)
  · rw [if_neg c, if_pos rfl]
    exact ⟨by simp, H2 (fun z => c z.1)⟩
def houseA (w : Nat → Int) (k i what : Int) : Int := if what = 0 then w (290 + 36 * k.toNat + 3 * i.toNat) else if what = 1 then w (290 + 36 * k.toNat + 3 * i.toNat + 1) else if what = 2 then w (290 + 36 * k.toNat + 3 * i.toNat + 2) else if what = 3 then lowW (w 2) (w (290 + 36 * k.toNat + 3 * i.toNat)) (w (290 + 36 * k.toNat + 3 * i.toNat + 1)) else if what = 4 then befW w k.toNat (w (290 + 36 * k.toNat + 3 * i.toNat)) (w (290 + 36 * k.toNat + 3 * i.toNat + 1)) (w (280 + k.toNat)).toNat else -1
theorem sp_mhouse {h : Hp} {m : Nat} {w : Nat → Int} (a : RD h m w) (hV : V w) {k i what : Int} {d mc ms : Nat} (hd : 3 ≤ d) {R : PR} {o : Option AV} (H1 : isH w k i → R (some (xI (houseA w k i what))) h) (H2 : ¬ isH w k i → R (some (xI (-1))) h) : Wp m_M_house 0 [some (xR m), some (xI k), some (xI i), some (xI what), o] [] h d mc ms R := by
  have v7 := hV.1.2.2.2.2.2.2.2.1
  apply f_M_house_0
  refine ⟨⟨by omega, a.1.tag⟩, sp_misHouse a hV (by omega) (fun z v e => ?_) (fun z v e => ?_)⟩
  · cases e
    rw [if_neg (by decide)]
    have H := H1 z
    obtain ⟨⟨z1, z2⟩, z3, z4⟩ := z
    obtain ⟨q, rfl⟩ : ∃ q : Nat, k = (q : Int) := ⟨k.toNat, by omega⟩
    obtain ⟨p, rfl⟩ : ∃ p : Nat, i = (p : Int) := ⟨i.toNat, by omega⟩
    rw [Int.toNat_natCast] at z4
    have hn := hV.hs (s := q) (by omega)
    have hh := hV.hn (s := q) (i := p) (by omega) z4
    refine ⟨by omega, sp_houseAt0 (by omega) (by omega) (fun v e => ?_)⟩
    cases e
    unfold houseA at H
    rw [Int.toNat_natCast, Int.toNat_natCast] at H
    by_cases c0 : what = 0
    · rw [if_pos (by omega)]; rw [if_pos c0] at H; subst c0
      have e0 : ai_add ((290 + 36 * q + 3 * p : Nat) : Int) 0 = ((290 + 36 * q + 3 * p : Nat) : Int) := by rw [ai_add_eq (by omega) (by omega)]; omega
      simp (disch := omega) only [e0, a.1.tag, a.1.row_n, a.1.row_t, a.2, tn_0, tn_1, tn_2, tn_3, tn_4, tn_5, tn_6, tn_7, tn_8, tn_9, tn_10, tn_11, tn_12, ai_add_nn, ai_mul_nn, aa_1, aa_2, aa_3, aa_10, aa_36, aa_60, aa_180, aa_280, aa_290, aa_650, aa_950, aa_980, aa_1010, aa_2020, aa_4040, aa_100, aa_200, aa_300, aa_400, ab_1, ab_2, ab_3, ab_4, ab_20, ab_10, am_2, am_3, am_5, am_10, am_12, am_36, am_100, am_1010, an_2, an_3, an_10, an_12, as_1, as_2, as_3, Int.toNat_natCast, q_lt, n_lt, q_le, n_le, q_eq, n_eq, q_nle, not_false_eq_true, not_true_eq_false, true_and, and_true, true_or, or_true, and_self, ↓reduceIte]; exact H
    rw [if_neg (by omega)]; rw [if_neg c0] at H
    by_cases c1 : what = 1
    · rw [if_pos (by omega)]; rw [if_pos c1] at H; subst c1
      simp (disch := omega) only [a.1.tag, a.1.row_n, a.1.row_t, a.2, tn_0, tn_1, tn_2, tn_3, tn_4, tn_5, tn_6, tn_7, tn_8, tn_9, tn_10, tn_11, tn_12, ai_add_nn, ai_mul_nn, aa_1, aa_2, aa_3, aa_10, aa_36, aa_60, aa_180, aa_280, aa_290, aa_650, aa_950, aa_980, aa_1010, aa_2020, aa_4040, aa_100, aa_200, aa_300, aa_400, ab_1, ab_2, ab_3, ab_4, ab_20, ab_10, am_2, am_3, am_5, am_10, am_12, am_36, am_100, am_1010, an_2, an_3, an_10, an_12, as_1, as_2, as_3, Int.toNat_natCast, q_lt, n_lt, q_le, n_le, q_eq, n_eq, q_nle, not_false_eq_true, not_true_eq_false, true_and, and_true, true_or, or_true, and_self, ↓reduceIte]; exact H
    rw [if_neg (by omega)]; rw [if_neg c1] at H
    by_cases c2 : what = 2
    · rw [if_pos (by omega)]; rw [if_pos c2] at H; subst c2
      simp (disch := omega) only [a.1.tag, a.1.row_n, a.1.row_t, a.2, tn_0, tn_1, tn_2, tn_3, tn_4, tn_5, tn_6, tn_7, tn_8, tn_9, tn_10, tn_11, tn_12, ai_add_nn, ai_mul_nn, aa_1, aa_2, aa_3, aa_10, aa_36, aa_60, aa_180, aa_280, aa_290, aa_650, aa_950, aa_980, aa_1010, aa_2020, aa_4040, aa_100, aa_200, aa_300, aa_400, ab_1, ab_2, ab_3, ab_4, ab_20, ab_10, am_2, am_3, am_5, am_10, am_12, am_36, am_100, am_1010, an_2, an_3, an_10, an_12, as_1, as_2, as_3, Int.toNat_natCast, q_lt, n_lt, q_le, n_le, q_eq, n_eq, q_nle, not_false_eq_true, not_true_eq_false, true_and, and_true, true_or, or_true, and_self, ↓reduceIte]; exact H
    rw [if_neg (by omega)]; rw [if_neg c2] at H
    by_cases c3 : what = 3
    · rw [if_pos (by omega)]; rw [if_pos c3] at H
      simp (disch := omega) only [a.1.tag, a.1.row_n, a.1.row_t, a.2, tn_0, tn_1, tn_2, tn_3, tn_4, tn_5, tn_6, tn_7, tn_8, tn_9, tn_10, tn_11, tn_12, ai_add_nn, ai_mul_nn, aa_1, aa_2, aa_3, aa_10, aa_36, aa_60, aa_180, aa_280, aa_290, aa_650, aa_950, aa_980, aa_1010, aa_2020, aa_4040, aa_100, aa_200, aa_300, aa_400, ab_1, ab_2, ab_3, ab_4, ab_20, ab_10, am_2, am_3, am_5, am_10, am_12, am_36, am_100, am_1010, an_2, an_3, an_10, an_12, as_1, as_2, as_3, Int.toNat_natCast, q_lt, n_lt, q_le, n_le, q_eq, n_eq, q_nle, not_false_eq_true, not_true_eq_false, true_and, and_true, true_or, or_true, and_self, ↓reduceIte]
      exact sp_mlowOf a hV (by omega) (by omega) (fun v e => by cases e; exact H)
    rw [if_neg (by omega)]; rw [if_neg c3] at H
    by_cases c4 : what = 4
    · rw [if_pos (by omega)]; rw [if_pos c4] at H
      exact ⟨⟨by omega, a.1.tag⟩, sp_placeOf a hV (by omega) z4 (by omega) (fun v e => by cases e; exact H)⟩
    rw [if_neg (by omega)]; rw [if_neg c4] at H
    exact H
  · cases e
    rw [if_pos rfl]; exact H2 z
theorem sp_chouse {h : Hp} {x : Nat} {w : Nat → Int} (s : sAt h x) (a : TR h (x + 43) w) (hV : V w) {k i what : Int} {d mc ms : Nat} (hd : 3 ≤ d) {R : PR} {o4 o5 o6 : Option AV} (H1 : isH w k i → R (some (xI (houseA w k i what))) h) (H2 : ¬ isH w k i → R (some (xI (-1))) h) : Wp m_S_house 0 [some (xR x), some (xI k), some (xI i), some (xI what), o4, o5, o6] [] h d mc ms R := by
  have v7 := hV.1.2.2.2.2.2.2.2.1
  have v2 := hV.1.2.2.1
  have hT := a.1.1
  have hR := a.1.2.1
  have b1 : NW h (x + 43 + 7) w (w 7) 180 := a.1.2.2.1
  have b2 : NW h (x + 43 + 10) w (w 6) 60 := a.1.2.2.2.1
  have b3 : NW h (x + 43 + 13) w (w 8) 650 := a.1.2.2.2.2.1
  have hw : HW h (x + 43 + 18) w := a.1.2.2.2.2.2.2.1
  have h7 : hpC h (x + 43) 7 = w 9 := a.1.2.2.2.2.2.2.2
  apply f_S_house_0
  refine ⟨⟨by omega, s.tag⟩, sp_cisHouse s a hV (by omega) (fun z v e => ?_) (fun z v e => ?_)⟩
  · cases e
    rw [if_neg (by decide)]
    have H := H1 z
    obtain ⟨⟨z1, z2⟩, z3, z4⟩ := z
    obtain ⟨q, rfl⟩ : ∃ q : Nat, k = (q : Int) := ⟨k.toNat, by omega⟩
    obtain ⟨p, rfl⟩ : ∃ p : Nat, i = (p : Int) := ⟨i.toNat, by omega⟩
    rw [Int.toNat_natCast] at z4
    have hn := hV.hs (s := q) (by omega)
    have hh := hV.hn (s := q) (i := p) (by omega) z4
    have hi := (hw q (by omega)).2 p z4
    refine ⟨by omega, sp_slot (by omega) (by omega) (fun v e => ?_)⟩
    cases e
    unfold houseA at H
    rw [Int.toNat_natCast, Int.toNat_natCast] at H
    rw [s.now_n, hT.homes_n, hT.rules_n, hT.homes_a.side_n, hT.homes_a.yards_n, hT.homes_a.number_n, hT.homes_a.side_t, hT.homes_a.yards_t, hT.homes_a.number_t, Int.toNat_natCast, hi.1, hi.2.1, hi.2.2]
    refine ⟨s.tag, hT.tag, hT.homes_a.tag, ⟨rfl, by omega, by show ((12 * q + p : Nat) : Int) < 120; omega⟩, s.tag, hT.tag, hT.homes_a.tag, ⟨rfl, by omega, by show ((12 * q + p : Nat) : Int) < 120; omega⟩, ?_⟩
    by_cases c0 : what = 0
    · rw [if_pos (by omega)]; rw [if_pos c0] at H; exact H
    rw [if_neg (by omega)]; rw [if_neg c0] at H
    by_cases c1 : what = 1
    · rw [if_pos (by omega)]; rw [if_pos c1] at H; exact H
    rw [if_neg (by omega)]; rw [if_neg c1] at H
    by_cases c2 : what = 2
    · rw [if_pos (by omega)]; rw [if_pos c2] at H
      exact ⟨s.tag, hT.tag, hT.homes_a.tag, ⟨rfl, by omega, by show ((12 * q + p : Nat) : Int) < 120; omega⟩, H⟩
    rw [if_neg (by omega)]; rw [if_neg c2] at H
    by_cases c3 : what = 3
    · rw [if_pos (by omega), hR.2.2.1]; rw [if_pos c3] at H
      exact ⟨s.tag, hT.tag, hT.rules_a.tag, by omega, sp_clowOf v2 (by omega) (by omega) (fun v e => by cases e; exact H)⟩
    rw [if_neg (by omega)]; rw [if_neg c3] at H
    by_cases c4 : what = 4
    · rw [if_pos (by omega)]; rw [if_pos c4] at H
      exact ⟨s.tag, hT.tag, ⟨by omega, hT.homes_a.tag⟩, sp_before hT.homes_a hw hV (by omega) (by omega) (fun v e => by cases e; exact H)⟩
    rw [if_neg (by omega)]; rw [if_neg c4] at H
    exact H
  · cases e
    rw [if_pos rfl]; exact H2 z
/-- the first place from k on (j more) where it holds; none -/
def fst1 (p : Nat → Bool) : Nat → Nat → Int
  | 0, _ => -1
  | j + 1, k => if p k then (k : Int) else fst1 p j (k + 1)
def atA (w : Nat → Int) (s : Nat) (v : Int) : Int := fst1 (fun i => decide (w (290 + 36 * s + 3 * i + 2) = v)) (w (280 + s)).toNat 0
theorem sp_mat {h : Hp} {m : Nat} {w : Nat → Int} (a : RD h m w) (hV : V w) {k n : Int} {d mc ms : Nat} (hd : 3 ≤ d) {R : PR} {o : Option AV} (H : R (some (xI (if 0 ≤ k ∧ k < w 7 then atA w k.toNat n else -1))) h) : Wp m_M_at 0 [some (xR m), some (xI k), some (xI n), o] [] h d mc ms R := by
  have v7 := hV.1.2.2.2.2.2.2.2.1
  apply f_M_at_0
  refine ⟨⟨by omega, a.1.tag⟩, sp_isStreet a hV (by omega) (fun v e => ?_)⟩
  cases e
  by_cases c : 0 ≤ k ∧ k < w 7
  · rw [if_pos c, if_neg (by decide)]
    rw [if_pos c] at H
    obtain ⟨q, rfl⟩ : ∃ q : Nat, k = (q : Int) := ⟨k.toNat, by omega⟩
    rw [Int.toNat_natCast] at H
    have hn := hV.hs (s := q) (by omega)
    have L : ∀ j i : Nat, ((i + j : Nat) : Int) = w (280 + q) → R (some (xI (fst1 (fun i => decide (w (290 + 36 * q + 3 * i + 2) = n)) j i))) h → Wp m_M_at 12 [some (xR m), some (xI (q : Int)), some (xI n), some (xI (i : Int))] [] h d mc ms R := by
      intro j
      induction j with
      | zero =>
        intro i hi H
        apply f_M_at_12
        simp (disch := omega) only [a.1.tag, a.1.row_n, a.1.row_t, a.2, tn_0, tn_1, tn_2, tn_3, tn_4, tn_5, tn_6, tn_7, tn_8, tn_9, tn_10, tn_11, tn_12, ai_add_nn, ai_mul_nn, aa_1, aa_2, aa_3, aa_10, aa_36, aa_60, aa_180, aa_280, aa_290, aa_650, aa_950, aa_980, aa_1010, aa_2020, aa_4040, aa_100, aa_200, aa_300, aa_400, ab_1, ab_2, ab_3, ab_4, ab_20, ab_10, am_2, am_3, am_5, am_10, am_12, am_36, am_100, am_1010, an_2, an_3, an_10, an_12, as_1, as_2, as_3, Int.toNat_natCast, q_lt, n_lt, q_le, n_le, q_eq, n_eq, q_nle, not_false_eq_true, not_true_eq_false, true_and, and_true, true_or, or_true, and_self, ↓reduceIte]
        exact H
      | succ j ih =>
        intro i hi H
        apply f_M_at_12
        simp (disch := omega) only [a.1.tag, a.1.row_n, a.1.row_t, aa_280, Int.toNat_natCast, a.2, true_and]
        rw [if_pos (by omega)]
        refine ⟨⟨by omega, by omega⟩, by omega, sp_houseAt0 (by omega) (by omega) (fun v e => ?_)⟩
        cases e
        simp (disch := omega) only [a.1.tag, a.1.row_n, a.1.row_t, a.2, tn_0, tn_1, tn_2, tn_3, tn_4, tn_5, tn_6, tn_7, tn_8, tn_9, tn_10, tn_11, tn_12, ai_add_nn, ai_mul_nn, aa_1, aa_2, aa_3, aa_10, aa_36, aa_60, aa_180, aa_280, aa_290, aa_650, aa_950, aa_980, aa_1010, aa_2020, aa_4040, aa_100, aa_200, aa_300, aa_400, ab_1, ab_2, ab_3, ab_4, ab_20, ab_10, am_2, am_3, am_5, am_10, am_12, am_36, am_100, am_1010, an_2, an_3, an_10, an_12, as_1, as_2, as_3, Int.toNat_natCast, q_lt, n_lt, q_le, n_le, q_eq, n_eq, q_nle, not_false_eq_true, not_true_eq_false, true_and, and_true, true_or, or_true, and_self, ↓reduceIte]
        simp only [fst1, decide_eq_true_eq] at H
        by_cases c1 : w (290 + 36 * q + 3 * i + 2) = n
        · rw [if_pos c1]; rw [if_pos c1] at H; exact H
        · rw [if_neg c1]; rw [if_neg c1] at H; exact ih (i + 1) (by omega) H
    exact L (w (280 + q)).toNat 0 (by omega) H
  · rw [if_neg c, if_pos rfl]
    rw [if_neg c] at H; exact H
theorem sp_cat {h : Hp} {x : Nat} {w : Nat → Int} (s : sAt h x) (a : TR h (x + 43) w) (hV : V w) {k n : Int} {d mc ms : Nat} (hd : 3 ≤ d) {R : PR} {o : Option AV} (H : R (some (xI (if 0 ≤ k ∧ k < w 7 then atA w k.toNat n else -1))) h) : Wp m_S_at 0 [some (xR x), some (xI k), some (xI n), o] [] h d mc ms R := by
  have v7 := hV.1.2.2.2.2.2.2.2.1
  have hT := a.1.1
  have hR := a.1.2.1
  have b1 : NW h (x + 43 + 7) w (w 7) 180 := a.1.2.2.1
  have b2 : NW h (x + 43 + 10) w (w 6) 60 := a.1.2.2.2.1
  have b3 : NW h (x + 43 + 13) w (w 8) 650 := a.1.2.2.2.2.1
  have hw : HW h (x + 43 + 18) w := a.1.2.2.2.2.2.2.1
  have h7 : hpC h (x + 43) 7 = w 9 := a.1.2.2.2.2.2.2.2
  apply f_S_at_0
  rw [s.now_n, hT.streets_n]
  refine ⟨s.tag, hT.tag, ⟨by omega, hT.streets_a.tag⟩, sp_holds hT.streets_a.tag b1.1 (fun v e => ?_)⟩
  cases e
  by_cases c : 0 ≤ k ∧ k < w 7
  · rw [if_pos c, if_neg (by decide)]
    rw [if_pos c] at H
    obtain ⟨q, rfl⟩ : ∃ q : Nat, k = (q : Int) := ⟨k.toNat, by omega⟩
    rw [Int.toNat_natCast] at H
    have hn := hV.hs (s := q) (by omega)
    have hq := (hw q (by omega)).1
    have L : ∀ j i : Nat, ((i + j : Nat) : Int) = w (280 + q) → R (some (xI (fst1 (fun i => decide (w (290 + 36 * q + 3 * i + 2) = n)) j i))) h → Wp m_S_at 18 [some (xR x), some (xI (q : Int)), some (xI n), some (xI (i : Int))] [] h d mc ms R := by
      intro j
      induction j with
      | zero =>
        intro i hi H
        apply f_S_at_18
        simp (disch := omega) only [s.tag, s.now_n, s.past_n, hT.tag, hT.streets_n, hT.pool_n, hT.aliases_n, hT.rules_n, hT.homes_n, hT.streets_a.tag, hT.pool_a.tag, hT.aliases_a.tag, hT.rules_a.tag, hT.homes_a.tag, hT.homes_a.count_n, hT.homes_a.count_t, hT.homes_a.side_n, hT.homes_a.side_t, hT.homes_a.yards_n, hT.homes_a.yards_t, hT.homes_a.number_n, hT.homes_a.number_t, b1.1, b2.1, b3.1, h7, hR.1, hR.2.1, hR.2.2.1, hR.2.2.2.1, hR.2.2.2.2.1, hR.2.2.2.2.2.1, tn_0, tn_1, tn_2, tn_3, tn_4, tn_5, tn_6, tn_7, tn_8, tn_9, tn_10, tn_11, tn_12, ai_add_nn, ai_mul_nn, aa_1, aa_2, aa_3, aa_10, aa_36, aa_60, aa_180, aa_280, aa_290, aa_650, aa_950, aa_980, aa_1010, aa_2020, aa_4040, aa_100, aa_200, aa_300, aa_400, ab_1, ab_2, ab_3, ab_4, ab_20, ab_10, am_2, am_3, am_5, am_10, am_12, am_36, am_100, am_1010, an_2, an_3, an_10, an_12, as_1, as_2, as_3, Int.toNat_natCast, q_lt, n_lt, q_le, n_le, q_eq, n_eq, q_nle, not_false_eq_true, not_true_eq_false, true_and, and_true, true_or, or_true, and_self, ↓reduceIte, hq]
        exact H
      | succ j ih =>
        intro i hi H
        have hj := ((hw q (by omega)).2 i (by omega)).2.2
        apply f_S_at_18
        simp only [s.tag, s.now_n, hT.tag, hT.homes_n, hT.homes_a.tag, hT.homes_a.count_n, hT.homes_a.count_t, hT.homes_a.number_n, hT.homes_a.number_t, Int.toNat_natCast, hq, true_and]
        rw [if_pos (by omega)]
        refine ⟨⟨by omega, by omega⟩, by omega, sp_slot (by omega) (by omega) (fun v e => ?_)⟩
        cases e
        simp (disch := omega) only [s.tag, s.now_n, s.past_n, hT.tag, hT.streets_n, hT.pool_n, hT.aliases_n, hT.rules_n, hT.homes_n, hT.streets_a.tag, hT.pool_a.tag, hT.aliases_a.tag, hT.rules_a.tag, hT.homes_a.tag, hT.homes_a.count_n, hT.homes_a.count_t, hT.homes_a.side_n, hT.homes_a.side_t, hT.homes_a.yards_n, hT.homes_a.yards_t, hT.homes_a.number_n, hT.homes_a.number_t, b1.1, b2.1, b3.1, h7, hR.1, hR.2.1, hR.2.2.1, hR.2.2.2.1, hR.2.2.2.2.1, hR.2.2.2.2.2.1, tn_0, tn_1, tn_2, tn_3, tn_4, tn_5, tn_6, tn_7, tn_8, tn_9, tn_10, tn_11, tn_12, ai_add_nn, ai_mul_nn, aa_1, aa_2, aa_3, aa_10, aa_36, aa_60, aa_180, aa_280, aa_290, aa_650, aa_950, aa_980, aa_1010, aa_2020, aa_4040, aa_100, aa_200, aa_300, aa_400, ab_1, ab_2, ab_3, ab_4, ab_20, ab_10, am_2, am_3, am_5, am_10, am_12, am_36, am_100, am_1010, an_2, an_3, an_10, an_12, as_1, as_2, as_3, Int.toNat_natCast, q_lt, n_lt, q_le, n_le, q_eq, n_eq, q_nle, not_false_eq_true, not_true_eq_false, true_and, and_true, true_or, or_true, and_self, ↓reduceIte, hj]
        simp only [fst1, decide_eq_true_eq] at H
        by_cases c1 : w (290 + 36 * q + 3 * i + 2) = n
        · rw [if_pos c1]; rw [if_pos c1] at H; exact H
        · rw [if_neg c1]; rw [if_neg c1] at H; exact ih (i + 1) (by omega) H
    exact L (w (280 + q)).toNat 0 (by omega) H
  · rw [if_neg c, if_pos rfl]
    rw [if_neg c] at H; exact H
