/-! ===== houses of a side lined up, on both sides; ordered ===== -/
def hW (w : Nat → Int) (s : Nat) : Nat → Nat → Int := fun c i => w (290 + 36 * s + 3 * i + c)
theorem V.gv {w : Nat → Int} (hV : V w) {s : Nat} (hs : s < 10) : GV (hW w s) (w (280 + s)).toNat := by
  have hn := hV.hs hs
  refine ⟨by omega, fun i hi => ?_, fun i j hi hj e1 e2 => ?_⟩
  · exact hV.hn hs (i := i) (by omega)
  · exact (hV.2.2.2.2.2.2.1 s hs).2.2.2 i j (by omega) (by omega) e1 e2
def Sls (m : Nat) : Nat → Nat → Prop := fun r p => (r = m ∧ p = 30) ∨ r = m + 16
theorem Sls_SM {m : Nat} {h h' : Hp} (f : FrP (Sls m) h h') : FrP (SM m) h h' := f.wk (fun r p z => by
  rcases z with ⟨z1, z2⟩ | z
  · exact Or.inl ⟨z1, Or.inr (Or.inr z2)⟩
  · exact Or.inr (Or.inr (by omega)))
theorem sp_laysSide {h : Hp} {m : Nat} {w : Nat → Int} (a : RD h m w) (hV : V w) {s : Nat} (hs : s < 10) {side : Int} {d mc ms : Nat} {R : PR} (hd : 2 ≤ d) {o3 : Option AV}
    (H : ∀ h', FrP (Sls m) h h' → hpC h' m 30 = szG (hW w s) (w (280 + s)).toNat side → (∀ r : Nat, (r : Int) < szG (hW w s) (w (280 + s)).toNat side → hpC h' (m + 16) r = (orG (hW w s) (w (280 + s)).toNat side r : Int)) → R none h') :
    Wp m_M_laysSide 0 [some (xR m), some (xI (s : Int)), some (xI side), o3] [] h d mc ms R := by
  have hn := hV.hs hs
  have hG := hV.gv hs
  apply f_M_laysSide_0
  refine ⟨a.1.tag, fun g1 e1 => ?_⟩
  have L2 : ∀ (j k : Nat) (g : Hp), ((k + j : Nat) : Int) = w (280 + s) → FrP (Sls m) h g → hpC g m 30 = szG (hW w s) (w (280 + s)).toNat side → (∀ i, i < k → hW w s 0 i = side → hpC g (m + 16) (rkG (hW w s) (w (280 + s)).toNat side (hW w s 1 i)).toNat = (i : Int)) → Wp m_M_laysSide 54 [some (xR m), some (xI (s : Int)), some (xI side), some (xI (k : Int))] [] g d mc ms R := by
    intro j
    induction j with
    | zero =>
      intro k g hk f c1 c2
      have a := a.fr (Sls_SM f)
      apply f_M_laysSide_54
      simp (disch := omega) only [a.1.tag, a.1.row_n, a.1.row_t, a.2, tn_0, tn_1, tn_2, tn_3, tn_4, tn_5, tn_6, tn_7, tn_8, tn_9, tn_10, tn_11, tn_12, ai_add_nn, ai_mul_nn, aa_1, aa_2, aa_3, aa_10, aa_36, aa_60, aa_180, aa_280, aa_290, aa_650, aa_950, aa_980, aa_1010, aa_2020, aa_4040, aa_100, aa_200, aa_300, aa_400, ab_1, ab_2, ab_3, ab_4, ab_20, ab_10, ab_280, am_2, am_3, am_5, am_10, am_12, am_36, am_100, am_1010, an_2, an_3, an_10, an_12, as_1, as_2, as_3, Int.toNat_natCast, q_lt, n_lt, q_le, n_le, q_eq, n_eq, q_nle, not_false_eq_true, not_true_eq_false, true_and, and_true, true_or, or_true, and_self, ↓reduceIte]
      refine H g f c1 (fun r hr => ?_)
      obtain ⟨q1, q2, q3⟩ := orG_spec hG hr
      have := c2 _ (show orG (hW w s) (w (280 + s)).toNat side r < k by omega) q2
      rw [q3, Int.toNat_natCast] at this
      exact this
    | succ j ih =>
      intro k g hk f c1 c2
      have a := a.fr (Sls_SM f)
      apply f_M_laysSide_54
      simp (disch := omega) only [a.1.tag, a.1.row_n, a.1.row_t, aa_280, Int.toNat_natCast, a.2, true_and]
      rw [if_pos (by omega)]
      refine ⟨⟨by omega, by omega⟩, by omega, sp_houseAt0 hs (by omega) (fun v e => ?_)⟩
      cases e
      simp (disch := omega) only [a.1.tag, a.1.row_n, a.1.row_t, a.1.order_n, a.1.order_t, a.2, ai_add_nn, ai_mul_nn, aa_1, aa_2, aa_3, aa_10, aa_36, aa_60, aa_180, aa_280, aa_290, aa_650, aa_950, aa_980, aa_1010, aa_2020, aa_4040, aa_100, aa_200, aa_300, aa_400, ab_1, ab_2, ab_3, ab_4, ab_20, ab_10, ab_280, am_2, am_3, am_5, am_10, am_12, am_36, am_100, am_1010, an_2, an_3, an_10, an_12, as_1, as_2, as_3, Int.toNat_natCast, q_lt, n_lt, q_le, n_le, q_eq, n_eq, q_nle, not_false_eq_true, not_true_eq_false, true_and, and_true, true_or, or_true, and_self, ↓reduceIte]
      by_cases c : w (290 + 36 * s + 3 * k) = side
      · rw [if_pos c]
        refine sp_placeOf a hV hs (by omega) (by omega) (fun v e => ?_)
        cases e
        rw [c]
        have eq : befW w s side (w (290 + 36 * s + 3 * k + 1)) (w (280 + s)).toNat = rkG (hW w s) (w (280 + s)).toNat side (hW w s 1 k) := rfl
        rw [eq]
        have b1 := rkG_bd (hW w s) (w (280 + s)).toNat side (hW w s 1 k)
        have b2 := rkG_sz hG (side := side) (i := k) (by omega) c
        have b3 := szG_bd (hW w s) (w (280 + s)).toNat side
        rw [a.1.order_t]
        refine ⟨⟨rfl, by omega, by show rkG (hW w s) (w (280 + s)).toNat side (hW w s 1 k) < 12; omega⟩, fun g2 e2 => ?_⟩
        subst e2
        refine ih (k + 1) _ (by omega) (f.tr (FrP.up (Or.inr rfl))) (by rw [hpC_ne (Or.inl (by omega))]; exact c1) (fun i hi hsd => ?_)
        by_cases ei : i = k
        · subst ei; rw [hpC_same]
        · rw [hpC_ne (Or.inr (fun z => ei ?_))]
          · exact c2 i (by omega) hsd
          · have b4 := rkG_bd (hW w s) (w (280 + s)).toNat side (hW w s 1 i)
            exact rkG_inj hG (side := side) (by omega) (by omega) hsd c (by omega)
      · rw [if_neg c]
        refine ih (k + 1) g (by omega) f c1 (fun i hi hsd => ?_)
        by_cases ei : i = k
        · subst ei; exact absurd hsd c
        · exact c2 i (by omega) hsd
  have L1 : ∀ (j k : Nat) (g : Hp), ((k + j : Nat) : Int) = w (280 + s) → FrP (Sls m) h g → hpC g m 30 = szG (hW w s) k side → Wp m_M_laysSide 7 [some (xR m), some (xI (s : Int)), some (xI side), some (xI (k : Int))] [] g d mc ms R := by
    intro j
    induction j with
    | zero =>
      intro k g hk f c1
      have a := a.fr (Sls_SM f)
      apply f_M_laysSide_7
      simp (disch := omega) only [a.1.tag, a.1.row_n, a.1.row_t, a.2, tn_0, tn_1, tn_2, tn_3, tn_4, tn_5, tn_6, tn_7, tn_8, tn_9, tn_10, tn_11, tn_12, ai_add_nn, ai_mul_nn, aa_1, aa_2, aa_3, aa_10, aa_36, aa_60, aa_180, aa_280, aa_290, aa_650, aa_950, aa_980, aa_1010, aa_2020, aa_4040, aa_100, aa_200, aa_300, aa_400, ab_1, ab_2, ab_3, ab_4, ab_20, ab_10, ab_280, am_2, am_3, am_5, am_10, am_12, am_36, am_100, am_1010, an_2, an_3, an_10, an_12, as_1, as_2, as_3, Int.toNat_natCast, q_lt, n_lt, q_le, n_le, q_eq, n_eq, q_nle, not_false_eq_true, not_true_eq_false, true_and, and_true, true_or, or_true, and_self, ↓reduceIte]
      obtain rfl : k = (w (280 + s)).toNat := by omega
      exact L2 (w (280 + s)).toNat 0 g (by omega) f c1 (fun i hi => by omega)
    | succ j ih =>
      intro k g hk f c1
      have a := a.fr (Sls_SM f)
      have b := szG_bd (hW w s) k side
      apply f_M_laysSide_7
      simp (disch := omega) only [a.1.tag, a.1.row_n, a.1.row_t, aa_280, Int.toNat_natCast, a.2, true_and]
      rw [if_pos (by omega)]
      refine ⟨⟨by omega, by omega⟩, by omega, sp_houseAt0 hs (by omega) (fun v e => ?_)⟩
      cases e
      simp (disch := omega) only [a.1.tag, a.1.row_n, a.1.row_t, a.2, tn_0, tn_1, tn_2, tn_3, tn_4, tn_5, tn_6, tn_7, tn_8, tn_9, tn_10, tn_11, tn_12, ai_add_nn, ai_mul_nn, aa_1, aa_2, aa_3, aa_10, aa_36, aa_60, aa_180, aa_280, aa_290, aa_650, aa_950, aa_980, aa_1010, aa_2020, aa_4040, aa_100, aa_200, aa_300, aa_400, ab_1, ab_2, ab_3, ab_4, ab_20, ab_10, ab_280, am_2, am_3, am_5, am_10, am_12, am_36, am_100, am_1010, an_2, an_3, an_10, an_12, as_1, as_2, as_3, Int.toNat_natCast, q_lt, n_lt, q_le, n_le, q_eq, n_eq, q_nle, not_false_eq_true, not_true_eq_false, true_and, and_true, true_or, or_true, and_self, ↓reduceIte]
      have e2 : szG (hW w s) (k + 1) side = szG (hW w s) k side + if w (290 + 36 * s + 3 * k) = side then 1 else 0 := rfl
      by_cases c : w (290 + 36 * s + 3 * k) = side
      · rw [if_pos c]
        rw [if_pos c] at e2
        intro g2 e3
        subst e3
        refine ih (k + 1) _ (by omega) (f.tr (FrP.up (Or.inl ⟨rfl, rfl⟩))) ?_
        rw [hpC_same, c1, ai_add_eq (by omega) (by omega), e2]
      · rw [if_neg c]
        rw [if_neg c] at e2
        exact ih (k + 1) g (by omega) f (by rw [c1, e2]; omega)
  subst e1
  exact L1 (w (280 + s)).toNat 0 _ (by omega) (FrP.up (Or.inl ⟨rfl, rfl⟩)) (by rw [hpC_same]; rfl)
theorem sp_numberNow {h : Hp} {m : Nat} {w : Nat → Int} (a : RD h m w) (hV : V w) {s i : Nat} (hs : s < 10) {q : Nat} (hq : hpC h (m + 16) i = (q : Int)) (hi : i < 12) (hq2 : (q : Int) < w (280 + s)) {d mc ms : Nat} {R : PR} (hd : 1 ≤ d) (H : R (some (xI (hW w s 2 q))) h) : Wp m_M_numberNow 0 [some (xR m), some (xI (s : Int)), some (xI (i : Int))] [] h d mc ms R := by
  have hn := hV.hs hs
  apply f_M_numberNow_0
  simp (disch := omega) only [a.1.tag, a.1.order_n, a.1.order_t, Int.toNat_natCast, hq, q_lt, n_lt, q_le, n_le, q_eq, n_eq, q_nle, not_false_eq_true, not_true_eq_false, true_and, and_true, true_or, or_true, and_self, ↓reduceIte]
  refine sp_houseAt0 hs (by omega) (fun v e => ?_)
  cases e
  simp (disch := omega) only [a.1.tag, a.1.row_n, a.1.row_t, a.2, tn_0, tn_1, tn_2, tn_3, tn_4, tn_5, tn_6, tn_7, tn_8, tn_9, tn_10, tn_11, tn_12, ai_add_nn, ai_mul_nn, aa_1, aa_2, aa_3, aa_10, aa_36, aa_60, aa_180, aa_280, aa_290, aa_650, aa_950, aa_980, aa_1010, aa_2020, aa_4040, aa_100, aa_200, aa_300, aa_400, ab_1, ab_2, ab_3, ab_4, ab_20, ab_10, ab_280, am_2, am_3, am_5, am_10, am_12, am_36, am_100, am_1010, an_2, an_3, an_10, an_12, as_1, as_2, as_3, Int.toNat_natCast, q_lt, n_lt, q_le, n_le, q_eq, n_eq, q_nle, not_false_eq_true, not_true_eq_false, true_and, and_true, true_or, or_true, and_self, ↓reduceIte]
  exact H
theorem sp_lowHere {h : Hp} {m : Nat} {w : Nat → Int} (a : RD h m w) (hV : V w) {s i : Nat} (hs : s < 10) {q : Nat} (hq : hpC h (m + 16) i = (q : Int)) (hi : i < 12) (hq2 : (q : Int) < w (280 + s)) {d mc ms : Nat} {R : PR} (hd : 2 ≤ d) {o3 : Option AV} (H : R (some (xI (lowW (w 2) (hW w s 0 q) (hW w s 1 q)))) h) : Wp m_M_lowHere 0 [some (xR m), some (xI (s : Int)), some (xI (i : Int)), o3] [] h d mc ms R := by
  have hn := hV.hs hs
  have hb := hV.hn hs hq2
  apply f_M_lowHere_0
  simp (disch := omega) only [a.1.tag, a.1.order_n, a.1.order_t, Int.toNat_natCast, hq, q_lt, n_lt, q_le, n_le, q_eq, n_eq, q_nle, not_false_eq_true, not_true_eq_false, true_and, and_true, true_or, or_true, and_self, ↓reduceIte]
  refine sp_houseAt0 hs (by omega) (fun v e => ?_)
  cases e
  simp (disch := omega) only [a.1.tag, a.1.row_n, a.1.row_t, a.2, tn_0, tn_1, tn_2, tn_3, tn_4, tn_5, tn_6, tn_7, tn_8, tn_9, tn_10, tn_11, tn_12, ai_add_nn, ai_mul_nn, aa_1, aa_2, aa_3, aa_10, aa_36, aa_60, aa_180, aa_280, aa_290, aa_650, aa_950, aa_980, aa_1010, aa_2020, aa_4040, aa_100, aa_200, aa_300, aa_400, ab_1, ab_2, ab_3, ab_4, ab_20, ab_10, ab_280, am_2, am_3, am_5, am_10, am_12, am_36, am_100, am_1010, an_2, an_3, an_10, an_12, as_1, as_2, as_3, Int.toNat_natCast, q_lt, n_lt, q_le, n_le, q_eq, n_eq, q_nle, not_false_eq_true, not_true_eq_false, true_and, and_true, true_or, or_true, and_self, ↓reduceIte]
  refine sp_mlowOf a hV hb.1 hb.2.1 (fun v e => ?_)
  cases e
  exact H
/-- the class's Numbering -/
def numAt (h : Hp) (r : Nat) : Prop := (hpT h r).1 = 4 ∧ hpC h r 0 = ((r + 1 : Nat) : Int) ∧ hpC h r 2 = ((r + 2 : Nat) : Int) ∧ hpC h r 3 = ((r + 3 : Nat) : Int) ∧ hpC h r 4 = ((r + 4 : Nat) : Int) ∧ hpC h r 5 = ((r + 5 : Nat) : Int) ∧ hpC h r 6 = ((r + 6 : Nat) : Int) ∧ hpT h (r + 1) = (20, 12) ∧ hpT h (r + 2) = (20, 12) ∧ hpT h (r + 3) = (20, 12) ∧ hpT h (r + 4) = (20, 12) ∧ hpT h (r + 5) = (20, 13) ∧ hpT h (r + 6) = (20, 13)
theorem numAt.tag {h : Hp} {r : Nat} (a : numAt h r) : (hpT h r).1 = 4 := a.1
theorem numAt.due_n {h : Hp} {r : Nat} (a : numAt h r) : Int.toNat (hpC h r 0) = r + 1 := by rw [a.2.1, Int.toNat_natCast]
theorem numAt.row_n {h : Hp} {r : Nat} (a : numAt h r) : Int.toNat (hpC h r 2) = r + 2 := by rw [a.2.2.1, Int.toNat_natCast]
theorem numAt.low_n {h : Hp} {r : Nat} (a : numAt h r) : Int.toNat (hpC h r 3) = r + 3 := by rw [a.2.2.2.1, Int.toNat_natCast]
theorem numAt.own_n {h : Hp} {r : Nat} (a : numAt h r) : Int.toNat (hpC h r 4) = r + 4 := by rw [a.2.2.2.2.1, Int.toNat_natCast]
theorem numAt.few_n {h : Hp} {r : Nat} (a : numAt h r) : Int.toNat (hpC h r 5) = r + 5 := by rw [a.2.2.2.2.2.1, Int.toNat_natCast]
theorem numAt.next_n {h : Hp} {r : Nat} (a : numAt h r) : Int.toNat (hpC h r 6) = r + 6 := by rw [a.2.2.2.2.2.2.1, Int.toNat_natCast]
theorem numAt.due_t {h : Hp} {r : Nat} (a : numAt h r) : hpT h (r + 1) = (20, 12) := a.2.2.2.2.2.2.2.1
theorem numAt.row_t {h : Hp} {r : Nat} (a : numAt h r) : hpT h (r + 2) = (20, 12) := a.2.2.2.2.2.2.2.2.1
theorem numAt.low_t {h : Hp} {r : Nat} (a : numAt h r) : hpT h (r + 3) = (20, 12) := a.2.2.2.2.2.2.2.2.2.1
theorem numAt.own_t {h : Hp} {r : Nat} (a : numAt h r) : hpT h (r + 4) = (20, 12) := a.2.2.2.2.2.2.2.2.2.2.1
theorem numAt.few_t {h : Hp} {r : Nat} (a : numAt h r) : hpT h (r + 5) = (20, 13) := a.2.2.2.2.2.2.2.2.2.2.2.1
theorem numAt.next_t {h : Hp} {r : Nat} (a : numAt h r) : hpT h (r + 6) = (20, 13) := a.2.2.2.2.2.2.2.2.2.2.2.2
/-- what Numbering writes while it only answers -/
def SN (r : Nat) : Nat → Nat → Prop := fun q p => (q = r ∧ p = 1) ∨ (r + 1 ≤ q ∧ q ≤ r + 6)
theorem numAt.fr {h h' : Hp} {r : Nat} (a : numAt h r) (f : FrP (SN r) h h') : numAt h' r := by
  have no : ∀ p, p ≠ 1 → ¬ SN r r p := fun p hp z => by rcases z with ⟨_, z⟩ | z <;> omega
  refine ⟨by rw [f.2.1]; exact a.1, ?_, ?_, ?_, ?_, ?_, ?_, ?_, ?_, ?_, ?_, ?_, ?_⟩
  · rw [f.2.2 r 0 (no 0 (by omega))]; exact a.2.1
  · rw [f.2.2 r 2 (no 2 (by omega))]; exact a.2.2.1
  · rw [f.2.2 r 3 (no 3 (by omega))]; exact a.2.2.2.1
  · rw [f.2.2 r 4 (no 4 (by omega))]; exact a.2.2.2.2.1
  · rw [f.2.2 r 5 (no 5 (by omega))]; exact a.2.2.2.2.2.1
  · rw [f.2.2 r 6 (no 6 (by omega))]; exact a.2.2.2.2.2.2.1
  · rw [f.2.1]; exact a.due_t
  · rw [f.2.1]; exact a.row_t
  · rw [f.2.1]; exact a.low_t
  · rw [f.2.1]; exact a.own_t
  · rw [f.2.1]; exact a.few_t
  · rw [f.2.1]; exact a.next_t
theorem homes_fr {h h' : Hp} {r : Nat} {w : Nat → Int} {S : Nat → Nat → Prop} (a : homesAt h r) (hw : HW h r w) (f : FrP S h h') (hS : ∀ q p, r ≤ q → q ≤ r + 4 → ¬ S q p) : homesAt h' r ∧ HW h' r w := by
  refine ⟨a.fr f (hS _ _ (by omega) (by omega)) (hS _ _ (by omega) (by omega)) (hS _ _ (by omega) (by omega)) (hS _ _ (by omega) (by omega)), fun s hs => ?_⟩
  rw [f.2.2 _ _ (hS _ _ (by omega) (by omega))]
  refine ⟨(hw s hs).1, fun i hi => ?_⟩
  rw [f.2.2 _ _ (hS _ _ (by omega) (by omega)), f.2.2 _ _ (hS _ _ (by omega) (by omega)), f.2.2 _ _ (hS _ _ (by omega) (by omega))]
  exact (hw s hs).2 i hi
def loS (g : Nat → Nat → Int) (n : Nat) (st side : Int) (i : Nat) : Int := g 1 (orG g n side i) / st
def owV (st side y v : Int) : Int := if ¬ v % 2 = side ∧ lowW st side y ≤ v then (v - 1 - side) / 2 else -1
def owS (g : Nat → Nat → Int) (n : Nat) (st side : Int) (i : Nat) : Int := owV st side (g 1 (orG g n side i)) (g 2 (orG g n side i))
theorem sp_stepOf {side v : Int} (h1 : 0 ≤ side ∧ side ≤ 1) (h2 : 1 + side ≤ v) (h3 : v < 100000) {h : Hp} {d mc ms : Nat} {R : PR} (H : R (some (xI ((v - 1 - side) / 2))) h) : Wp m_Numbering_stepOf 0 [some (xI side), some (xI v)] [] h d mc ms R := by
  apply f_Numbering_stepOf_0
  rw [ai_sub_eq (a := v) (by omega) (by omega), ai_sub_eq (a := v - 1) (by omega) (by omega), ai_div_eq (by omega) (by omega) (by omega) (by omega)]
  exact ⟨by decide, H⟩
def Slu (r : Nat) : Nat → Nat → Prop := fun q p => (q = r ∧ p = 1) ∨ (r + 2 ≤ q ∧ q ≤ r + 4)
theorem Slu_SN {r : Nat} {h h' : Hp} (f : FrP (Slu r) h h') : FrP (SN r) h h' := f.wk (fun q p z => by
  rcases z with z | z
  · exact Or.inl z
  · exact Or.inr (by omega))
theorem sp_lineUp {h : Hp} {r r1 : Nat} {w : Nat → Int} (nu : numAt h r) (a : homesAt h r1) (hw : HW h r1 w) (hV : V w) (hx : r + 7 ≤ r1) {s : Nat} (hs : s < 10) {st side : Int} (hst : 1 ≤ st ∧ st ≤ 99) (hsd : 0 ≤ side ∧ side ≤ 1) {d mc ms : Nat} {R : PR} (hd : 2 ≤ d) {o5 o6 o7 o8 o9 : Option AV}
    (H : ∀ h', FrP (Slu r) h h' → hpC h' r 1 = szG (hW w s) (w (280 + s)).toNat side → (∀ i : Nat, (i : Int) < szG (hW w s) (w (280 + s)).toNat side → hpC h' (r + 2) i = (orG (hW w s) (w (280 + s)).toNat side i : Int) ∧ hpC h' (r + 3) i = loS (hW w s) (w (280 + s)).toNat st side i ∧ hpC h' (r + 4) i = owS (hW w s) (w (280 + s)).toNat st side i) → R none h') :
    Wp m_Numbering_lineUp 0 [some (xR r), some (xR r1), some (xI (s : Int)), some (xI side), some (xI st), o5, o6, o7, o8, o9] [] h d mc ms R := by
  have hn := hV.hs hs
  have hG := hV.gv hs
  apply f_Numbering_lineUp_0
  refine ⟨nu.tag, fun g1 e1 => ?_⟩
  have hS : ∀ q p, r1 ≤ q → q ≤ r1 + 4 → ¬ Slu r q p := fun q p h1 h2 z => by rcases z with ⟨z, _⟩ | z <;> omega
  have L : ∀ (j k : Nat) (g : Hp) (o6 o7 o8 o9 : Option AV), ((k + j : Nat) : Int) = w (280 + s) → FrP (Slu r) h g → hpC g r 1 = szG (hW w s) k side → (∀ i, i < k → hW w s 0 i = side → hpC g (r + 2) (rkG (hW w s) (w (280 + s)).toNat side (hW w s 1 i)).toNat = (i : Int) ∧ hpC g (r + 3) (rkG (hW w s) (w (280 + s)).toNat side (hW w s 1 i)).toNat = hW w s 1 i / st ∧ hpC g (r + 4) (rkG (hW w s) (w (280 + s)).toNat side (hW w s 1 i)).toNat = owV st side (hW w s 1 i) (hW w s 2 i)) → Wp m_Numbering_lineUp 8 [some (xR r), some (xR r1), some (xI (s : Int)), some (xI side), some (xI st), some (xI (k : Int)), o6, o7, o8, o9] [] g d mc ms R := by
    intro j
    induction j with
    | zero =>
      intro k g o6 o7 o8 o9 hk f c1 c2
      obtain ⟨a, hw⟩ := homes_fr a hw f hS
      have hq := (hw s hs).1
      apply f_Numbering_lineUp_8
      simp (disch := omega) only [a.tag, a.count_n, a.count_t, a.side_n, a.side_t, a.yards_n, a.yards_t, a.number_n, a.number_t, ai_add_nn, ai_mul_nn, aa_1, aa_2, aa_3, aa_10, aa_36, aa_60, aa_180, aa_280, aa_290, aa_650, aa_950, aa_980, aa_1010, aa_2020, aa_4040, aa_100, aa_200, aa_300, aa_400, ab_1, ab_2, ab_3, ab_4, ab_20, ab_10, ab_280, am_2, am_3, am_5, am_10, am_12, am_36, am_100, am_1010, an_2, an_3, an_10, an_12, as_1, as_2, as_3, Int.toNat_natCast, q_lt, n_lt, q_le, n_le, q_eq, n_eq, q_nle, not_false_eq_true, not_true_eq_false, true_and, and_true, true_or, or_true, and_self, ↓reduceIte, hq]
      obtain rfl : k = (w (280 + s)).toNat := by omega
      refine H g f c1 (fun i hi => ?_)
      obtain ⟨q1, q2, q3⟩ := orG_spec hG hi
      have := c2 _ q1 q2
      rw [q3, Int.toNat_natCast] at this
      exact this
    | succ j ih =>
      intro k g o6 o7 o8 o9 hk f c1 c2
      have nu := nu.fr (Slu_SN f)
      obtain ⟨a, hw⟩ := homes_fr a hw f hS
      have hq := (hw s hs).1
      have hi := (hw s hs).2 k (by omega)
      have hb := hV.hn hs (i := k) (by omega)
      have bz := szG_bd (hW w s) k side
      have e2 : szG (hW w s) (k + 1) side = szG (hW w s) k side + if w (290 + 36 * s + 3 * k) = side then 1 else 0 := rfl
      apply f_Numbering_lineUp_8
      rw [a.count_n, a.count_t, Int.toNat_natCast, hq, if_pos (by omega)]
      refine ⟨a.tag, ⟨rfl, by omega, by show (s : Int) < 10; omega⟩, by omega, sp_slot hs (by omega) (fun v e => ?_)⟩
      cases e
      rw [a.side_n, a.side_t, Int.toNat_natCast, hi.1]
      refine ⟨a.tag, ⟨rfl, by omega, by show ((12 * s + k : Nat) : Int) < 120; omega⟩, ?_⟩
      by_cases c : w (290 + 36 * s + 3 * k) = side
      · rw [if_pos c]
        rw [if_pos c] at e2
        refine ⟨nu.tag, nu.tag, fun g2 e3 => ?_⟩
        have f2 : FrP (Slu r) g g2 := by subst e3; exact FrP.up (Or.inl ⟨rfl, rfl⟩)
        have z1 : hpC g2 r 1 = szG (hW w s) (k + 1) side := by subst e3; rw [hpC_same, c1, ai_add_eq (by omega) (by omega), e2]
        have z2 : ∀ q p, r + 1 ≤ q → hpC g2 q p = hpC g q p := fun q p h1 => by subst e3; rw [hpC_ne (Or.inl (by omega))]
        clear e3
        have nu2 := nu.fr (Slu_SN f2)
        obtain ⟨a2, hw2⟩ := homes_fr a hw f2 hS
        have hi2 := (hw2 s hs).2 k (by omega)
        rw [a2.yards_n, a2.yards_t, hi2.2.1]
        refine ⟨a2.tag, ⟨rfl, by omega, by show ((12 * s + k : Nat) : Int) < 120; omega⟩, ⟨by omega, a2.tag⟩, sp_before a2 hw2 hV hs (by omega) (fun v e => ?_)⟩
        cases e
        have eq : befW w s side (w (290 + 36 * s + 3 * k + 1)) (w (280 + s)).toNat = rkG (hW w s) (w (280 + s)).toNat side (hW w s 1 k) := rfl
        rw [eq]
        have b1 := rkG_bd (hW w s) (w (280 + s)).toNat side (hW w s 1 k)
        have b2 := rkG_sz hG (side := side) (i := k) (by omega) c
        have b3 := szG_bd (hW w s) (w (280 + s)).toNat side
        obtain ⟨rk, er⟩ : ∃ rk : Nat, rkG (hW w s) (w (280 + s)).toNat side (hW w s 1 k) = (rk : Int) := ⟨(rkG (hW w s) (w (280 + s)).toNat side (hW w s 1 k)).toNat, by omega⟩
        rw [er]
        have lb := lowW_bd (st := st) (by omega) hsd hb.2.1
        have lq : 1 + side ≤ lowW st side (w (290 + 36 * s + 3 * k + 1)) := by unfold lowW; omega
        rw [a2.yards_n, a2.yards_t, Int.toNat_natCast, hi2.2.1]
        refine ⟨a2.tag, ⟨rfl, by omega, by show ((12 * s + k : Nat) : Int) < 120; omega⟩, by omega, sp_clowOf hst hsd hb.2.1 (fun v e => ?_)⟩
        cases e
        simp only [a2.number_n, a2.number_t, nu2.row_n, nu2.row_t, Int.toNat_natCast, hi2.2.2]
        refine ⟨a2.tag, ⟨trivial, by omega, by omega⟩, nu2.tag, ⟨trivial, by omega, by omega⟩, fun g3 e3 => ?_⟩
        have f3 : FrP (Slu r) g2 g3 := by subst e3; exact FrP.up (Or.inr (by omega))
        have z3 : hpC g3 (r + 2) rk = (k : Int) ∧ ∀ q p, (q ≠ r + 2 ∨ p ≠ rk) → hpC g3 q p = hpC g2 q p := by subst e3; exact ⟨hpC_same _ _ _ _, fun q p z => hpC_ne z⟩
        clear e3
        have nu3 := nu2.fr (Slu_SN f3)
        rw [nu3.low_n]
        refine ⟨nu3.tag, by omega, sp_stepOf hsd lq (by omega) (fun v e => ?_)⟩
        cases e
        rw [nu3.low_t]
        refine ⟨⟨rfl, by omega, by show (rk : Int) < 12; omega⟩, fun g4 e3 => ?_⟩
        have f4 : FrP (Slu r) g3 g4 := by subst e3; exact FrP.up (Or.inr (by omega))
        have z4 : hpC g4 (r + 3) rk = hW w s 1 k / st ∧ ∀ q p, (q ≠ r + 3 ∨ p ≠ rk) → hpC g4 q p = hpC g3 q p := by
          subst e3
          refine ⟨?_, fun q p z => hpC_ne z⟩
          rw [hpC_same]
          show (lowW st side (w (290 + 36 * s + 3 * k + 1)) - 1 - side) / 2 = w (290 + 36 * s + 3 * k + 1) / st
          unfold lowW; omega
        clear e3
        have nu4 := nu3.fr (Slu_SN f4)
        rw [nu4.own_n]
        have fin : ∀ g5 : Hp, g5 = hpU g4 (r + 4) rk (owV st side (w (290 + 36 * s + 3 * k + 1)) (w (290 + 36 * s + 3 * k + 2))) → ∀ o6 o7 o8 o9 : Option AV, Wp m_Numbering_lineUp 8 [some (xR r), some (xR r1), some (xI (s : Int)), some (xI side), some (xI st), some (xI ((k + 1 : Nat) : Int)), o6, o7, o8, o9] [] g5 d mc ms R := by
          intro g5 e3 o6 o7 o8 o9
          have f5 : FrP (Slu r) g4 g5 := by subst e3; exact FrP.up (Or.inr (by omega))
          have z5 : hpC g5 (r + 4) rk = owV st side (hW w s 1 k) (hW w s 2 k) ∧ ∀ q p, (q ≠ r + 4 ∨ p ≠ rk) → hpC g5 q p = hpC g4 q p := by subst e3; exact ⟨hpC_same _ _ _ _, fun q p z => hpC_ne z⟩
          clear e3
          refine ih (k + 1) g5 _ _ _ _ (by omega) (f.tr (f2.tr (f3.tr (f4.tr f5)))) ?_ (fun i hi hsi => ?_)
          · rw [z5.2 _ _ (Or.inl (by omega)), z4.2 _ _ (Or.inl (by omega)), z3.2 _ _ (Or.inl (by omega))]; exact z1
          · by_cases ei : i = k
            · subst ei
              rw [er, Int.toNat_natCast]
              refine ⟨?_, ?_, z5.1⟩
              · rw [z5.2 _ _ (Or.inl (by omega)), z4.2 _ _ (Or.inl (by omega))]; exact z3.1
              · rw [z5.2 _ _ (Or.inl (by omega))]; exact z4.1
            · have b4 := rkG_bd (hW w s) (w (280 + s)).toNat side (hW w s 1 i)
              have ne : (rkG (hW w s) (w (280 + s)).toNat side (hW w s 1 i)).toNat ≠ rk := fun z => ei (rkG_inj hG (side := side) (by omega) (by omega) hsi c (by omega))
              rw [z5.2 _ _ (Or.inl (by omega)), z4.2 _ _ (Or.inl (by omega)), z3.2 _ _ (Or.inr ne), z2 _ _ (by omega)]
              rw [z5.2 _ _ (Or.inl (by omega)), z4.2 _ _ (Or.inr ne), z3.2 _ _ (Or.inl (by omega)), z2 _ _ (by omega)]
              rw [z5.2 _ _ (Or.inr ne), z4.2 _ _ (Or.inl (by omega)), z3.2 _ _ (Or.inl (by omega)), z2 _ _ (by omega)]
              exact c2 i (by omega) hsi
        refine ⟨nu4.tag, by omega, sp_isOfSide (by omega) (by omega) (fun v e => ?_)⟩
        cases e
        rw [nu4.own_t]
        by_cases d1 : w (290 + 36 * s + 3 * k + 2) % 2 = side
        · rw [if_pos d1, if_pos rfl]
          refine ⟨⟨rfl, by omega, by show (rk : Int) < 12; omega⟩, fun g5 e3 => ?_⟩
          rw [ab_1 (by omega)]
          refine fin g5 ?_ _ _ _ _
          rw [e3, owV, if_neg (fun z => z.1 d1)]
        · rw [if_neg d1, if_neg (by decide)]
          by_cases d2 : w (290 + 36 * s + 3 * k + 2) < lowW st side (w (290 + 36 * s + 3 * k + 1))
          · rw [if_pos d2]
            refine ⟨⟨rfl, by omega, by show (rk : Int) < 12; omega⟩, fun g5 e3 => ?_⟩
            rw [ab_1 (by omega)]
            refine fin g5 ?_ _ _ _ _
            rw [e3, owV, if_neg (fun z => by omega)]
          · rw [if_neg d2]
            refine ⟨by omega, sp_stepOf hsd (by omega) (by omega) (fun v e => ?_)⟩
            cases e
            rw [nu4.own_t]
            refine ⟨⟨rfl, by omega, by show (rk : Int) < 12; omega⟩, fun g5 e3 => ?_⟩
            rw [ab_1 (by omega)]
            refine fin g5 ?_ _ _ _ _
            rw [e3, owV, if_pos ⟨d1, by omega⟩]
      · rw [if_neg c]
        rw [if_neg c] at e2
        rw [ab_1 (by omega)]
        refine ih (k + 1) g _ _ _ _ (by omega) f (by rw [c1, e2]; omega) (fun i hi hsi => ?_)
        by_cases ei : i = k
        · subst ei; exact absurd hsi c
        · exact c2 i (by omega) hsi
  have f1 : FrP (Slu r) h g1 := by subst e1; exact FrP.up (Or.inl ⟨rfl, rfl⟩)
  exact L (w (280 + s)).toNat 0 g1 _ _ _ _ (by omega) f1 (by subst e1; rw [hpC_same]; rfl) (fun i hi => by omega)
/-! ordered -/
theorem owV_le {st side y v : Int} (hsd : 0 ≤ side ∧ side ≤ 1) (hv : 1 ≤ v ∧ v ≤ 999) : -1 ≤ owV st side y v ∧ owV st side y v ≤ (999 - 1 - side) / 2 := by
  unfold owV; split <;> omega
def ordP (g : Nat → Nat → Int) (n : Nat) (st side : Int) : Nat → Nat → Int → Bool
  | 0, _, _ => true
  | j + 1, i, p => if p < owS g n st side i then ordP g n st side j (i + 1) (owS g n st side i) else false
def ordA (g : Nat → Nat → Int) (n : Nat) (st : Int) : Int := if ordP g n st 0 (szG g n 0).toNat 0 (-1) = true ∧ ordP g n st 1 (szG g n 1).toNat 0 (-1) = true then 1 else 0
theorem SN_st {h h' : Hp} {r : Nat} (f : FrP (SN r) h h') : FrP (SN r) h h' := f
theorem sp_isInOrder {h : Hp} {r r1 : Nat} {w : Nat → Int} (nu : numAt h r) (a : homesAt h r1) (hw : HW h r1 w) (hV : V w) (hx : r + 7 ≤ r1) {s : Nat} (hs : s < 10) {st : Int} (hst : 1 ≤ st ∧ st ≤ 99) {d mc ms : Nat} {R : PR} (hd : 3 ≤ d) {o4 o5 o6 : Option AV}
    (H : ∀ h', FrP (SN r) h h' → R (some (xI (ordA (hW w s) (w (280 + s)).toNat st))) h') :
    Wp m_Numbering_isInOrder 0 [some (xR r), some (xR r1), some (xI (s : Int)), some (xI st), o4, o5, o6] [] h d mc ms R := by
  have hn := hV.hs hs
  have hG := hV.gv hs
  have hS : ∀ q p, r1 ≤ q → q ≤ r1 + 4 → ¬ SN r q p := fun q p h1 h2 z => by rcases z with ⟨z, _⟩ | z <;> omega
  apply f_Numbering_isInOrder_0
  have side : ∀ (sd : Int) (g : Hp) (o5 o6 : Option AV), (0 ≤ sd ∧ sd ≤ 1) → FrP (SN r) h g → (∀ (g' : Hp) (o5 o6 : Option AV), FrP (SN r) h g' → ordP (hW w s) (w (280 + s)).toNat st sd (szG (hW w s) (w (280 + s)).toNat sd).toNat 0 (-1) = true → Wp m_Numbering_isInOrder 3 [some (xR r), some (xR r1), some (xI (s : Int)), some (xI st), some (xI (sd + 1)), o5, o6] [] g' d mc ms R) → (∀ g' : Hp, FrP (SN r) h g' → ordP (hW w s) (w (280 + s)).toNat st sd (szG (hW w s) (w (280 + s)).toNat sd).toNat 0 (-1) = false → R (some (xI 0)) g') → Wp m_Numbering_isInOrder 3 [some (xR r), some (xR r1), some (xI (s : Int)), some (xI st), some (xI sd), o5, o6] [] g d mc ms R := by
    intro sd g o5 o6 hsd f Y N
    have nu := nu.fr f
    obtain ⟨a, hw⟩ := homes_fr a hw f hS
    have bz := szG_bd (hW w s) (w (280 + s)).toNat sd
    apply f_Numbering_isInOrder_3
    rw [if_pos (by omega)]
    refine ⟨⟨by omega, nu.tag⟩, sp_lineUp nu a hw hV hx hs hst hsd (by omega) (fun g1 f1 c1 c2 _ => ?_)⟩
    have nu1 := nu.fr (Slu_SN f1)
    have f2 := f.tr (Slu_SN f1)
    generalize hsz : szG (hW w s) (w (280 + s)).toNat sd = sz at *
    have L : ∀ (j i : Nat) (p : Int), ((i + j : Nat) : Int) = sz → (∀ (g' : Hp) (o5 o6 : Option AV), FrP (SN r) h g' → ordP (hW w s) (w (280 + s)).toNat st sd j i p = true → Wp m_Numbering_isInOrder 3 [some (xR r), some (xR r1), some (xI (s : Int)), some (xI st), some (xI (sd + 1)), o5, o6] [] g' d mc ms R) → (∀ g' : Hp, FrP (SN r) h g' → ordP (hW w s) (w (280 + s)).toNat st sd j i p = false → R (some (xI 0)) g') → Wp m_Numbering_isInOrder 24 [some (xR r), some (xR r1), some (xI (s : Int)), some (xI st), some (xI sd), some (xI p), some (xI (i : Int))] [] g1 d mc ms R := by
      intro j
      induction j with
      | zero =>
        intro i p hi Y N
        apply f_Numbering_isInOrder_24
        rw [c1, if_neg (by omega), ai_add_eq (by omega) (by omega)]
        exact ⟨nu1.tag, Y g1 _ _ f2 rfl⟩
      | succ j ih =>
        intro i p hi Y N
        have e := (c2 i (by omega)).2.2
        apply f_Numbering_isInOrder_24
        rw [c1, if_pos (by omega), nu1.own_n, nu1.own_t, Int.toNat_natCast, e]
        refine ⟨nu1.tag, nu1.tag, ⟨rfl, by omega, by show (i : Int) < 12; omega⟩, ?_⟩
        simp only [ordP] at Y N
        by_cases c : p < owS (hW w s) (w (280 + s)).toNat st sd i
        · rw [if_pos c]
          rw [if_pos c] at Y N
          rw [ab_1 (by omega)]
          exact ⟨nu1.tag, ⟨rfl, by omega, by show (i : Int) < 12; omega⟩, ih (i + 1) _ (by omega) Y N⟩
        · rw [if_neg c]
          rw [if_neg c] at Y N
          exact ⟨by simp, N g1 f2 rfl⟩
    exact L sz.toNat 0 (-1) (by omega) Y N
  refine side 0 h _ _ (by omega) FrP.rf (fun g o5 o6 f e1 => ?_) (fun g f e1 => ?_)
  · refine side 1 g _ _ (by omega) f (fun g2 o5 o6 f2 e2 => ?_) (fun g2 f2 e2 => ?_)
    · apply f_Numbering_isInOrder_3
      rw [if_neg (by omega)]
      have := H g2 f2
      rw [ordA, if_pos ⟨e1, e2⟩] at this
      exact ⟨by simp, this⟩
    · have := H g2 f2
      rw [ordA, if_neg (fun z => by rw [e2] at z; exact absurd z.2 (by decide))] at this
      exact this
  · have := H g f
    rw [ordA, if_neg (fun z => by rw [e1] at z; exact absurd z.1 (by decide))] at this
    exact this
theorem sp_cordered {h : Hp} {x : Nat} {w : Nat → Int} (s : sAt h x) (a : TR h (x + 43) w) (hV : V w) (nu : numAt h (x + 36)) {k : Int} {d mc ms : Nat} {R : PR} (hd : 4 ≤ d) (H1 : (0 ≤ k ∧ k < w 7) → ∀ h', FrP (SN (x + 36)) h h' → R (some (xI (ordA (hW w k.toNat) (w (280 + k.toNat)).toNat (w 2)))) h') (H2 : ¬ (0 ≤ k ∧ k < w 7) → R (some (xI (-1))) h) : Wp m_S_ordered 0 [some (xR x), some (xI k)] [] h d mc ms R := by
  have v0 := hV.1.1
  have v1 := hV.1.2.1
  have v2 := hV.1.2.2.1
  have v3 := hV.1.2.2.2.1
  have v4 := hV.1.2.2.2.2.1
  have v5 := hV.1.2.2.2.2.2.1
  have v6 := hV.1.2.2.2.2.2.2.1
  have v7 := hV.1.2.2.2.2.2.2.2.1
  have v8 := hV.1.2.2.2.2.2.2.2.2.1
  have v9 := hV.1.2.2.2.2.2.2.2.2.2
  have hT := a.1.1
  have hR := a.1.2.1
  have b1 : NW h (x + 43 + 7) w (w 7) 180 := a.1.2.2.1
  have b2 : NW h (x + 43 + 10) w (w 6) 60 := a.1.2.2.2.1
  have b3 : NW h (x + 43 + 13) w (w 8) 650 := a.1.2.2.2.2.1
  have hw : HW h (x + 43 + 18) w := a.1.2.2.2.2.2.2.1
  have h7 : hpC h (x + 43) 7 = w 9 := a.1.2.2.2.2.2.2.2
  apply f_S_ordered_0
  rw [s.now_n, hT.streets_n]
  refine ⟨s.tag, hT.tag, ⟨by omega, hT.streets_a.tag⟩, sp_holds hT.streets_a.tag b1.1 (fun v e => ?_)⟩
  cases e
  by_cases c : 0 ≤ k ∧ k < w 7
  · rw [if_pos c, if_neg (by decide)]
    have H := H1 c
    obtain ⟨q, rfl⟩ : ∃ q : Nat, k = (q : Int) := ⟨k.toNat, by omega⟩
    rw [Int.toNat_natCast] at H
    rw [s.now_n, hT.homes_n, hT.rules_n, hR.2.2.1, s.numbering_n]
    refine ⟨s.tag, s.tag, hT.tag, s.tag, hT.tag, hT.rules_a.tag, ⟨by omega, nu.tag⟩, sp_isInOrder nu hT.homes_a hw hV (by omega) (by omega) (by omega) (by omega) (fun h' f v e => ?_)⟩
    cases e
    have := H h' f
    unfold ordA at *
    by_cases z : ordP (hW w q) (w (280 + q)).toNat (w 2) 0 (szG (hW w q) (w (280 + q)).toNat 0).toNat 0 (-1) = true ∧ ordP (hW w q) (w (280 + q)).toNat (w 2) 1 (szG (hW w q) (w (280 + q)).toNat 1).toNat 0 (-1) = true
    · rw [if_pos z] at *; rw [if_neg (by decide)]; exact this
    · rw [if_neg z] at *; rw [if_pos rfl]; exact this
  · rw [if_neg c, if_pos rfl]; exact H2 c
theorem sp_mordered {h : Hp} {m : Nat} {w : Nat → Int} (a : RD h m w) (hV : V w) {k : Int} {d mc ms : Nat} {R : PR} (hd : 4 ≤ d) {o2 o3 o4 o5 : Option AV} (H1 : (0 ≤ k ∧ k < w 7) → ∀ h', FrP (SM m) h h' → R (some (xI (ordA (hW w k.toNat) (w (280 + k.toNat)).toNat (w 2)))) h') (H2 : ¬ (0 ≤ k ∧ k < w 7) → R (some (xI (-1))) h) : Wp m_M_ordered 0 [some (xR m), some (xI k), o2, o3, o4, o5] [] h d mc ms R := by
  have v0 := hV.1.1
  have v1 := hV.1.2.1
  have v2 := hV.1.2.2.1
  have v3 := hV.1.2.2.2.1
  have v4 := hV.1.2.2.2.2.1
  have v5 := hV.1.2.2.2.2.2.1
  have v6 := hV.1.2.2.2.2.2.2.1
  have v7 := hV.1.2.2.2.2.2.2.2.1
  have v8 := hV.1.2.2.2.2.2.2.2.2.1
  have v9 := hV.1.2.2.2.2.2.2.2.2.2
  apply f_M_ordered_0
  refine ⟨⟨by omega, a.1.tag⟩, sp_isStreet a hV (by omega) (fun v e => ?_)⟩
  cases e
  by_cases c : 0 ≤ k ∧ k < w 7
  · rw [if_pos c, if_neg (by decide)]
    have H := H1 c
    obtain ⟨s, rfl⟩ : ∃ q : Nat, k = (q : Int) := ⟨k.toNat, by omega⟩
    rw [Int.toNat_natCast] at H
    have hs : s < 10 := by omega
    have hn := hV.hs hs
    have hG := hV.gv hs
    have side : ∀ (sd : Int) (g : Hp) (o3 o4 o5 : Option AV), (0 ≤ sd ∧ sd ≤ 1) → FrP (SM m) h g → (∀ (g' : Hp) (o3 o4 o5 : Option AV), FrP (SM m) h g' → ordP (hW w s) (w (280 + s)).toNat (w 2) sd (szG (hW w s) (w (280 + s)).toNat sd).toNat 0 (-1) = true → Wp m_M_ordered 12 [some (xR m), some (xI (s : Int)), some (xI (sd + 1)), o3, o4, o5] [] g' d mc ms R) → (∀ g' : Hp, FrP (SM m) h g' → ordP (hW w s) (w (280 + s)).toNat (w 2) sd (szG (hW w s) (w (280 + s)).toNat sd).toNat 0 (-1) = false → R (some (xI 0)) g') → Wp m_M_ordered 12 [some (xR m), some (xI (s : Int)), some (xI sd), o3, o4, o5] [] g d mc ms R := by
      intro sd g o3 o4 o5 hsd f Y N
      have a := a.fr f
      have bz := szG_bd (hW w s) (w (280 + s)).toNat sd
      apply f_M_ordered_12
      rw [if_pos (by omega)]
      refine ⟨⟨by omega, a.1.tag⟩, sp_laysSide a hV hs (by omega) (fun g1 f1 c1 c2 _ => ?_)⟩
      have a1 := a.fr (Sls_SM f1)
      have f2 := f.tr (Sls_SM f1)
      have os : ∀ i : Nat, (i : Int) < szG (hW w s) (w (280 + s)).toNat sd → orG (hW w s) (w (280 + s)).toNat sd i < (w (280 + s)).toNat ∧ hW w s 0 (orG (hW w s) (w (280 + s)).toNat sd i) = sd := fun i hi => ⟨(orG_spec hG hi).1, (orG_spec hG hi).2.1⟩
      generalize hsz : szG (hW w s) (w (280 + s)).toNat sd = sz at *
      have L : ∀ (j i : Nat) (p l : Int) (o5 : Option AV), ((i + j : Nat) : Int) = sz → ((p = -1 ∧ l = 0) ∨ (0 ≤ p ∧ l = 1 + sd + 2 * p)) → (∀ (g' : Hp) (o3 o4 o5 : Option AV), FrP (SM m) h g' → ordP (hW w s) (w (280 + s)).toNat (w 2) sd j i p = true → Wp m_M_ordered 12 [some (xR m), some (xI (s : Int)), some (xI (sd + 1)), o3, o4, o5] [] g' d mc ms R) → (∀ g' : Hp, FrP (SM m) h g' → ordP (hW w s) (w (280 + s)).toNat (w 2) sd j i p = false → R (some (xI 0)) g') → Wp m_M_ordered 28 [some (xR m), some (xI (s : Int)), some (xI sd), some (xI l), some (xI (i : Int)), o5] [] g1 d mc ms R := by
        intro j
        induction j with
        | zero =>
          intro i p l o5 hi hp Y N
          apply f_M_ordered_28
          rw [c1, if_neg (by omega), ai_add_eq (by omega) (by omega)]
          exact ⟨a1.1.tag, Y g1 _ _ _ f2 rfl⟩
        | succ j ih =>
          intro i p l o5 hi hp Y N
          obtain ⟨q1, q2⟩ := os i (by omega)
          have hb := hV.hn hs (i := orG (hW w s) (w (280 + s)).toNat sd i) (by omega)
          have hb2 : 1 ≤ hW w s 2 (orG (hW w s) (w (280 + s)).toNat sd i) ∧ hW w s 2 (orG (hW w s) (w (280 + s)).toNat sd i) ≤ 999 := hb.2.2
          have hb3 : 0 ≤ hW w s 1 (orG (hW w s) (w (280 + s)).toNat sd i) ∧ hW w s 1 (orG (hW w s) (w (280 + s)).toNat sd i) ≤ 9999 := hb.2.1
          have lb := lowW_bd (st := w 2) (by omega) hsd hb3
          have lq : 1 + sd ≤ lowW (w 2) sd (hW w s 1 (orG (hW w s) (w (280 + s)).toNat sd i)) := by unfold lowW; omega
          apply f_M_ordered_28
          rw [c1, if_pos (by omega)]
          refine ⟨a1.1.tag, ⟨by omega, a1.1.tag⟩, sp_numberNow a1 hV hs (c2 i (by omega)) (by omega) (by omega) (by omega) (fun v e => ?_)⟩
          cases e
          refine ⟨by decide, ?_⟩
          have ho : owS (hW w s) (w (280 + s)).toNat (w 2) sd i = owV (w 2) sd (hW w s 1 (orG (hW w s) (w (280 + s)).toNat sd i)) (hW w s 2 (orG (hW w s) (w (280 + s)).toNat sd i)) := rfl
          unfold owV at ho
          simp only [ordP] at Y N
          generalize owS (hW w s) (w (280 + s)).toNat (w 2) sd i = ow at *
          generalize hW w s 2 (orG (hW w s) (w (280 + s)).toNat sd i) = v at *
          rw [ai_rem_eq (by omega) (by omega) (by omega) (by omega)]
          by_cases d1 : v % 2 = sd
          · rw [if_pos d1]
            rw [if_neg (fun z => z.1 d1)] at ho
            rw [if_neg (by omega)] at N
            exact N g1 f2 rfl
          · rw [if_neg d1, if_neg (by omega)]
            refine ⟨⟨by omega, a1.1.tag⟩, sp_lowHere a1 hV hs (c2 i (by omega)) (by omega) (by omega) (by omega) (fun v2 e => ?_)⟩
            rw [q2] at e
            cases e
            generalize lowW (w 2) sd (hW w s 1 (orG (hW w s) (w (280 + s)).toNat sd i)) = lo at *
            by_cases d2 : v < lo
            · rw [if_pos d2]
              rw [if_neg (fun z => by omega)] at ho
              rw [if_neg (by omega)] at N
              exact N g1 f2 rfl
            · rw [if_neg d2]
              rw [if_pos ⟨d1, by omega⟩] at ho
              by_cases d3 : l < v
              · rw [if_pos d3]
                rw [if_pos (by omega)] at Y N
                rw [ab_1 (by omega)]
                exact ih (i + 1) ow v _ (by omega) (Or.inr (by omega)) Y N
              · rw [if_neg d3]
                rw [if_neg (by omega)] at N
                exact N g1 f2 rfl
      exact L sz.toNat 0 (-1) 0 _ (by omega) (Or.inl ⟨rfl, rfl⟩) Y N
    refine side 0 h _ _ _ (by omega) FrP.rf (fun g o3 o4 o5 f e1 => ?_) (fun g f e1 => ?_)
    · refine side 1 g _ _ _ (by omega) f (fun g2 o3 o4 o5 f2 e2 => ?_) (fun g2 f2 e2 => ?_)
      · apply f_M_ordered_12
        rw [if_neg (by omega)]
        have := H g2 f2
        rw [ordA, if_pos ⟨e1, e2⟩] at this
        exact this
      · have := H g2 f2
        rw [ordA, if_neg (fun z => by rw [e2] at z; exact absurd z.2 (by decide))] at this
        exact this
    · have := H g f
      rw [ordA, if_neg (fun z => by rw [e1] at z; exact absurd z.1 (by decide))] at this
      exact this
  · rw [if_neg c, if_pos rfl]; exact H2 c
