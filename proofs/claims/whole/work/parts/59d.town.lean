/-! ===== towns change: houses, years ===== -/
theorem TR.ho {h h' : Hp} {t : Nat} {w v : Nat → Int} (hV : V w) (a : TR h t w) (F : FrP (SD t) h h') (E : eqC h h' t (t + 18)) (L : ∀ p, (p < 280 ∨ 650 ≤ p) → w p = v p) (hw : HW h' (t + 18) v) : TR h' t v := by
  have hV0 := hV
  obtain ⟨⟨v0, v1, v2, v3, v4, v5, v6, v7, v8, v9⟩, w1, w2, w3, w4, w5, w6, w7⟩ := hV
  obtain ⟨⟨a1, a2, a3, a4, a5, a6, a7, a8⟩, b1, b2, b3, b4⟩ := a
  have eR : eqR w v := fun p hp _ _ => L p (by omega)
  have e7 := L 7 (by omega)
  have e6 := L 6 (by omega)
  have e8 := L 8 (by omega)
  have N7 := NW.ext (v := v) (fun k hk i hi => L _ (by omega)) (a3.eq (E.sub (by omega) (by omega)))
  have N10 := NW.ext (v := v) (fun k hk i hi => L _ (by omega)) (a4.eq (E.sub (by omega) (by omega)))
  have N13 := NW.ext (v := v) (fun k hk i hi => L _ (by omega)) (a5.eq (E.sub (by omega) (by omega)))
  have S7 := NS.ext hV0 eR w4 (fun k hk i hi => L _ (by omega)) (b1.eq (E.sub (by omega) (by omega)))
  have S10 := NS.ext hV0 eR w3 (fun k hk i hi => L _ (by omega)) (b2.eq (E.sub (by omega) (by omega)))
  have S13 := NS.ext hV0 eR w5 (fun k hk i hi => L _ (by omega)) (b3.eq (E.sub (by omega) (by omega)))
  rw [e7] at N7 S7
  rw [e6] at N10 S10
  rw [e8] at N13 S13
  exact ⟨⟨a1.fd F, (a2.eq (E.sub (by omega) (by omega))).ext hV0 eR, N7, N10, N13, fun k hk => by rw [E.C _ _ (by omega) (by omega), a6 k (by omega), L _ (by omega)], hw, by rw [E.C _ _ (by omega) (by omega), a8]; exact L 9 (by omega)⟩, S7, S10, S13, fun k hk => by rw [E.C _ _ (by omega) (by omega), b4 k (by omega), L _ (by omega)]⟩
/-- a town with other houses of one street is one -/
theorem V.ho {w v : Nat → Int} (hV : V w) {s : Nat} (hs : s < 10) (L : ∀ p, (p < 280 ∨ 650 ≤ p) → v p = w p) (L1 : ∀ q, q < 10 → q ≠ s → v (280 + q) = w (280 + q) ∧ ∀ p, 290 + 36 * q ≤ p → p < 326 + 36 * q → v p = w p)
    (H1 : 0 ≤ v (280 + s) ∧ v (280 + s) ≤ 12) (H2 : w 7 ≤ (s : Int) → v (280 + s) = 0) (H3 : ∀ i : Nat, (i : Int) < v (280 + s) → (v (290 + 36 * s + 3 * i) = 0 ∨ v (290 + 36 * s + 3 * i) = 1) ∧ (0 ≤ v (290 + 36 * s + 3 * i + 1) ∧ v (290 + 36 * s + 3 * i + 1) ≤ 9999) ∧ (1 ≤ v (290 + 36 * s + 3 * i + 2) ∧ v (290 + 36 * s + 3 * i + 2) ≤ 999))
    (H4 : ∀ i j : Nat, (i : Int) < v (280 + s) → (j : Int) < v (280 + s) → v (290 + 36 * s + 3 * i) = v (290 + 36 * s + 3 * j) → v (290 + 36 * s + 3 * i + 1) = v (290 + 36 * s + 3 * j + 1) → i = j) : V v := by
  obtain ⟨⟨v0, v1, v2, v3, v4, v5, v6, v7, v8, v9⟩, w1, w2, w3, w4, w5, w6, w7⟩ := hV
  refine ⟨⟨by rw [L 0 (by omega)]; exact v0, by rw [L 1 (by omega)]; exact v1, by rw [L 2 (by omega)]; exact v2, by rw [L 3 (by omega)]; exact v3, by rw [L 4 (by omega)]; exact v4, by rw [L 5 (by omega)]; exact v5, by rw [L 6 (by omega)]; exact v6, by rw [L 7 (by omega)]; exact v7, by rw [L 8 (by omega)]; exact v8, by rw [L 9 (by omega)]; exact v9⟩, fun j hj => ?_, fun j hj i hi => ?_, fun j hj => ?_, fun j hj => ?_, fun j hj => ?_, fun q hq => ?_, fun j hj => ?_⟩
  · rw [L _ (by omega)]; exact w1 j hj
  · rw [L 5 (by omega)] at hj
    rw [L _ (by omega)]; exact w2 j hj i hi
  · rw [L 6 (by omega)] at hj
    exact okN_ext (fun i hi => (L _ (by omega)).symm) (w3 j hj)
  · rw [L 7 (by omega)] at hj
    exact okN_ext (fun i hi => (L _ (by omega)).symm) (w4 j hj)
  · rw [L 8 (by omega)] at hj
    exact okN_ext (fun i hi => (L _ (by omega)).symm) (w5 j hj)
  · rw [L 7 (by omega)]
    by_cases c : q = s
    · subst c; exact ⟨H1, H2, H3, H4⟩
    · obtain ⟨z1, z2, z3, z4⟩ := w6 q hq
      obtain ⟨l1, l2⟩ := L1 q hq c
      rw [l1]
      refine ⟨z1, z2, fun i hi => ?_, fun i j hi hj => ?_⟩
      · rw [l2 _ (by omega) (by omega), l2 _ (by omega) (by omega), l2 _ (by omega) (by omega)]; exact z3 i hi
      · rw [l2 _ (by omega) (by omega), l2 _ (by omega) (by omega), l2 _ (by omega) (by omega), l2 _ (by omega) (by omega)]; exact z4 i j hi hj
  · rw [L 8 (by omega)] at hj
    rw [L (950 + j) (by omega), L (980 + j) (by omega), L 7 (by omega)]; exact w7 j hj
/-! a house is built -/
def bldW (w : Nat → Int) (s : Nat) (sd y v : Int) : Nat → Int := fun p => if p = 280 + s then w p + 1 else if p = 290 + 36 * s + 3 * (w (280 + s)).toNat then sd else if p = 290 + 36 * s + 3 * (w (280 + s)).toNat + 1 then y else if p = 290 + 36 * s + 3 * (w (280 + s)).toNat + 2 then v else w p
theorem bldW_c (w : Nat → Int) (s : Nat) (sd y v : Int) : bldW w s sd y v (280 + s) = w (280 + s) + 1 := by unfold bldW; rw [if_pos rfl]
theorem bldW_o {w : Nat → Int} {s : Nat} {sd y v : Int} {p : Nat} (h : p ≠ 280 + s) (h2 : p < 290 + 36 * s + 3 * (w (280 + s)).toNat ∨ 290 + 36 * s + 3 * (w (280 + s)).toNat + 3 ≤ p) : bldW w s sd y v p = w p := by unfold bldW; rw [if_neg h, if_neg (by omega), if_neg (by omega), if_neg (by omega)]
theorem bldW_n {w : Nat → Int} {s : Nat} (hs : s < 10) {sd y v : Int} : bldW w s sd y v (290 + 36 * s + 3 * (w (280 + s)).toNat) = sd ∧ bldW w s sd y v (290 + 36 * s + 3 * (w (280 + s)).toNat + 1) = y ∧ bldW w s sd y v (290 + 36 * s + 3 * (w (280 + s)).toNat + 2) = v := by
  unfold bldW
  refine ⟨?_, ?_, ?_⟩
  · rw [if_neg (by omega), if_pos rfl]
  · rw [if_neg (by omega), if_neg (by omega), if_pos rfl]
  · rw [if_neg (by omega), if_neg (by omega), if_neg (by omega), if_pos rfl]
theorem bldW_V {w : Nat → Int} (hV : V w) {s : Nat} (hs : (s : Int) < w 7) (hc : w (280 + s) < 12) {sd y v : Int} (h1 : sd = 0 ∨ sd = 1) (h2 : 0 ≤ y ∧ y ≤ 9999) (h3 : 1 ≤ v ∧ v ≤ 999) (nt : ∀ i : Nat, (i : Int) < w (280 + s) → ¬ (w (290 + 36 * s + 3 * i) = sd ∧ w (290 + 36 * s + 3 * i + 1) = y)) : V (bldW w s sd y v) := by
  have v7 := hV.1.2.2.2.2.2.2.2.1
  have hs10 : s < 10 := by omega
  have w6 := hV.2.2.2.2.2.2.1
  obtain ⟨z1, z2, z3, z4⟩ := w6 s hs10
  obtain ⟨n1, n2, n3⟩ := bldW_n (w := w) hs10 (sd := sd) (y := y) (v := v)
  have old : ∀ i : Nat, (i : Int) < w (280 + s) → ∀ e, e < 3 → bldW w s sd y v (290 + 36 * s + 3 * i + e) = w (290 + 36 * s + 3 * i + e) := fun i hi e he => bldW_o (by omega) (by omega)
  refine hV.ho hs10 (fun p hp => bldW_o (by omega) (by omega)) (fun q hq hne => ⟨bldW_o (by omega) (by omega), fun p p1 p2 => bldW_o (by omega) (by omega)⟩) (by rw [bldW_c]; omega) (fun z => by omega) (fun i hi => ?_) (fun i j hi hj e1 e2 => ?_)
  · rw [bldW_c] at hi
    by_cases c : (i : Int) < w (280 + s)
    · have o0 := old i c 0 (by omega)
      rw [Nat.add_zero] at o0
      rw [o0, old i c 1 (by omega), old i c 2 (by omega)]; exact z3 i c
    · rw [show i = (w (280 + s)).toNat by omega, n1, n2, n3]; exact ⟨h1, h2, h3⟩
  · rw [bldW_c] at hi hj
    by_cases c : (i : Int) < w (280 + s)
    · have o0 := old i c 0 (by omega)
      rw [Nat.add_zero] at o0
      rw [o0] at e1
      rw [old i c 1 (by omega)] at e2
      by_cases d : (j : Int) < w (280 + s)
      · have p0 := old j d 0 (by omega)
        rw [Nat.add_zero] at p0
        rw [p0] at e1
        rw [old j d 1 (by omega)] at e2
        exact z4 i j c d e1 e2
      · rw [show j = (w (280 + s)).toNat by omega] at e1 e2
        rw [n1] at e1
        rw [n2] at e2
        exact absurd ⟨e1, e2⟩ (nt i c)
    · by_cases d : (j : Int) < w (280 + s)
      · have p0 := old j d 0 (by omega)
        rw [Nat.add_zero] at p0
        rw [p0, show i = (w (280 + s)).toNat by omega, n1] at e1
        rw [old j d 1 (by omega), show i = (w (280 + s)).toNat by omega, n2] at e2
        exact absurd ⟨e1.symm, e2.symm⟩ (nt j d)
      · omega
theorem sp_Hadd {h : Hp} {t : Nat} {w : Nat → Int} (a : TR h t w) (hV : V w) {s : Nat} (hs : (s : Int) < w 7) (hc : w (280 + s) < 12) {sd y v : Int} {d mc ms : Nat} {R : PR} (hd1 : 1 ≤ d) {o5 : Option AV} (H : ∀ h', FrP (SD t) h h' → TR h' t (bldW w s sd y v) → R none h') : Wp m_Homes_add 0 [some (xR (t + 18)), some (xI (s : Int)), some (xI sd), some (xI y), some (xI v), o5] [] h d mc ms R := by
  have v0 := hV.1.1
  have v1 := hV.1.2.1
  have v2 := hV.1.2.2.1
  have v3 := hV.1.2.2.2.1
  have v4 := hV.1.2.2.2.2.1
  have v5 := hV.1.2.2.2.2.2.1
  have v6 := hV.1.2.2.2.2.2.2.1
  have v7 := hV.1.2.2.2.2.2.2.2.1
  have v8 := hV.1.2.2.2.2.2.2.2.2.1
  have v9 := hV.1.2.2.2.2.2.2.2.2.2
  have hT := a.1.1
  have hA := hT.homes_a
  have hw : HW h (t + 18) w := a.1.2.2.2.2.2.2.1
  have hb := hV.hs (s := s) (by omega)
  obtain ⟨c, ec⟩ : ∃ c : Nat, w (280 + s) = (c : Int) := ⟨(w (280 + s)).toNat, by omega⟩
  have h1 : hpC h (t + 18 + 1) s = (c : Int) := by rw [← ec]; exact (hw s (by omega)).1
  apply f_Homes_add_0
  rw [hA.count_n, hA.count_t, Int.toNat_natCast, h1, if_pos (by omega)]
  refine ⟨hA.tag, ⟨rfl, by omega, by show (s : Int) < 10; omega⟩, hA.tag, ⟨rfl, by omega, by show (s : Int) < 10; omega⟩, by omega, sp_slot (by omega) (by omega) (fun v1 e => ?_)⟩
  cases e
  simp (disch := omega) only [forall_eq, hpT_up, hpC_o1, hpC_o2, hA.tag, hA.count_n, hA.side_n, hA.yards_n, hA.number_n, hA.count_t, hA.side_t, hA.yards_t, hA.number_t, h1, ab_1, Int.toNat_natCast, q_lt, n_lt, q_le, n_le, q_eq, n_eq, q_nle, not_false_eq_true, not_true_eq_false, true_and, and_true, true_or, or_true, and_self, ↓reduceIte]
  refine H _ ?_ ?_
  · refine ⟨rfl, rfl, fun q p hq => ?_⟩
    unfold SD at hq
    rw [hpC_ne (by omega), hpC_ne (by omega), hpC_ne (by omega), hpC_ne (by omega)]
  · refine a.ho hV ⟨rfl, rfl, fun q p hq => ?_⟩ (fun q h1 h2 => ⟨rfl, fun p => ?_⟩) (fun p hp => (bldW_o (by omega) (by omega)).symm) (fun q hq => ?_)
    · unfold SD at hq
      rw [hpC_ne (by omega), hpC_ne (by omega), hpC_ne (by omega), hpC_ne (by omega)]
    · rw [hpC_o1 (by omega), hpC_o1 (by omega), hpC_o1 (by omega), hpC_o1 (by omega)]
    · obtain ⟨k1, k2⟩ := hw q hq
      have tn : (w (280 + s)).toNat = c := by omega
      obtain ⟨n1, n2, n3⟩ := bldW_n (w := w) (s := s) (by omega) (sd := sd) (y := y) (v := v)
      rw [tn] at n1 n2 n3
      by_cases e : q = s
      · subst e
        refine ⟨by rw [hpC_same, bldW_c]; omega, fun i hi => ?_⟩
        rw [bldW_c] at hi
        by_cases ei : i = c
        · subst ei
          refine ⟨?_, ?_, ?_⟩ <;> simp (disch := omega) only [hpC_o1, hpC_o2, hpC_same, n1, n2, n3]
        · obtain ⟨z1, z2, z3⟩ := k2 i (by omega)
          refine ⟨?_, ?_, ?_⟩
          · simp (disch := omega) only [hpC_o1, hpC_o2, bldW_o]; exact z1
          · simp (disch := omega) only [hpC_o1, hpC_o2, bldW_o]; exact z2
          · simp (disch := omega) only [hpC_o1, hpC_o2, bldW_o]; exact z3
      · have hbq := hV.hs (s := q) hq
        refine ⟨by simp (disch := omega) only [hpC_o1, hpC_o2, bldW_o]; exact k1, fun i hi => ?_⟩
        rw [bldW_o (by omega) (by omega)] at hi
        obtain ⟨z1, z2, z3⟩ := k2 i hi
        refine ⟨?_, ?_, ?_⟩
        · simp (disch := omega) only [hpC_o1, hpC_o2, bldW_o]; exact z1
        · simp (disch := omega) only [hpC_o1, hpC_o2, bldW_o]; exact z2
        · simp (disch := omega) only [hpC_o1, hpC_o2, bldW_o]; exact z3
/-! a house is torn down -/
def terW (w : Nat → Int) (s i : Nat) : Nat → Int := fun p => if p = 280 + s then w p - 1 else if 290 + 36 * s + 3 * i ≤ p ∧ p + 3 < 290 + 36 * s + 3 * (w (280 + s)).toNat then w (p + 3) else w p
theorem terW_c (w : Nat → Int) (s i : Nat) : terW w s i (280 + s) = w (280 + s) - 1 := by unfold terW; rw [if_pos rfl]
theorem terW_o {w : Nat → Int} {s i p : Nat} (h : p ≠ 280 + s) (h2 : p < 290 + 36 * s + 3 * i ∨ 290 + 36 * s + 3 * (w (280 + s)).toNat ≤ p + 3) : terW w s i p = w p := by unfold terW; rw [if_neg h, if_neg (by omega)]
theorem terW_h {w : Nat → Int} {s i j e : Nat} (hs : s < 10) (hj : ((j + 1 : Nat) : Int) < w (280 + s)) (he : e < 3) : terW w s i (290 + 36 * s + 3 * j + e) = if i ≤ j then w (290 + 36 * s + 3 * (j + 1) + e) else w (290 + 36 * s + 3 * j + e) := by
  unfold terW
  rw [if_neg (by omega)]
  by_cases c : i ≤ j
  · rw [if_pos c, if_pos (by omega)]; congr 1; omega
  · rw [if_neg c, if_neg (by omega)]
theorem terW_V {w : Nat → Int} (hV : V w) {s i : Nat} (hs : (s : Int) < w 7) (hi : (i : Int) < w (280 + s)) : V (terW w s i) := by
  have v7 := hV.1.2.2.2.2.2.2.2.1
  have hs10 : s < 10 := by omega
  obtain ⟨z1, z2, z3, z4⟩ := hV.2.2.2.2.2.2.1 s hs10
  have T : ∀ j e, ((j + 1 : Nat) : Int) < w (280 + s) → e < 3 → terW w s i (290 + 36 * s + 3 * j + e) = w (290 + 36 * s + 3 * (if i ≤ j then j + 1 else j) + e) := fun j e h1 h2 => by
    rw [terW_h hs10 h1 h2]
    by_cases c : i ≤ j
    · rw [if_pos c, if_pos c]
    · rw [if_neg c, if_neg c]
  have T0 : ∀ j, ((j + 1 : Nat) : Int) < w (280 + s) → terW w s i (290 + 36 * s + 3 * j) = w (290 + 36 * s + 3 * (if i ≤ j then j + 1 else j)) := fun j h1 => T j 0 h1 (by omega)
  refine hV.ho hs10 (fun p hp => terW_o (by omega) (by omega)) (fun q hq hne => ⟨terW_o (by omega) (by omega), fun p p1 p2 => terW_o (by omega) (by omega)⟩) (by rw [terW_c]; omega) (fun z => by omega) (fun j hj => ?_) (fun j k hj hk e1 e2 => ?_)
  · rw [terW_c] at hj
    rw [T0 j (by omega), T j 1 (by omega) (by omega), T j 2 (by omega) (by omega)]
    exact z3 _ (by split <;> omega)
  · rw [terW_c] at hj hk
    rw [T0 j (by omega), T0 k (by omega)] at e1
    rw [T j 1 (by omega) (by omega), T k 1 (by omega) (by omega)] at e2
    have := z4 _ _ (by split <;> omega) (by split <;> omega) e1 e2
    split at this <;> split at this <;> omega
theorem sp_Hdrop {h : Hp} {t : Nat} {w : Nat → Int} (a : TR h t w) (hV : V w) {s i : Nat} (hs : (s : Int) < w 7) (hi : (i : Int) < w (280 + s)) {d mc ms : Nat} {R : PR} (hd1 : 1 ≤ d) {o3 o4 : Option AV} (H : ∀ h', FrP (SD t) h h' → TR h' t (terW w s i) → R none h') : Wp m_Homes_drop 0 [some (xR (t + 18)), some (xI (s : Int)), some (xI (i : Int)), o3, o4] [] h d mc ms R := by
  have v0 := hV.1.1
  have v1 := hV.1.2.1
  have v2 := hV.1.2.2.1
  have v3 := hV.1.2.2.2.1
  have v4 := hV.1.2.2.2.2.1
  have v5 := hV.1.2.2.2.2.2.1
  have v6 := hV.1.2.2.2.2.2.2.1
  have v7 := hV.1.2.2.2.2.2.2.2.1
  have v8 := hV.1.2.2.2.2.2.2.2.2.1
  have v9 := hV.1.2.2.2.2.2.2.2.2.2
  have hT := a.1.1
  have hA := hT.homes_a
  have hw : HW h (t + 18) w := a.1.2.2.2.2.2.2.1
  have hb := hV.hs (s := s) (by omega)
  obtain ⟨c, ec⟩ : ∃ c : Nat, w (280 + s) = (c : Int) := ⟨(w (280 + s)).toNat, by omega⟩
  have h1 : hpC h (t + 18 + 1) s = (c : Int) := by rw [← ec]; exact (hw s (by omega)).1
  apply f_Homes_drop_0
  refine ⟨by omega, sp_slot (by omega) (by omega) (fun v1 e => ?_)⟩
  cases e
  have e1 : ai_sub (ai_sub (c : Int) (i : Int)) 1 = ((c - i - 1 : Nat) : Int) := by rw [ai_sub_eq (a := (c : Int)) (b := (i : Int)) (by omega) (by omega), ai_sub_eq (by omega) (by omega)]; omega
  simp (disch := omega) only [forall_eq, hpT_up, hpT_cp, hpC_o1, hpC_o2, hpC_co, hA.tag, hA.count_n, hA.side_n, hA.yards_n, hA.number_n, hA.count_t, hA.side_t, hA.yards_t, hA.number_t, h1, e1, ab_1, as_1, Int.toNat_natCast, q_lt, n_lt, q_le, n_le, q_eq, n_eq, q_nle, not_false_eq_true, not_true_eq_false, true_and, and_true, true_or, or_true, and_self, ↓reduceIte]
  have F : ∀ {g : Hp}, g = hpU (hpY (hpY (hpY h (t + 18 + 2) (12 * s + i + 1) (t + 18 + 2) (12 * s + i) (c - i - 1)) (t + 18 + 3) (12 * s + i + 1) (t + 18 + 3) (12 * s + i) (c - i - 1)) (t + 18 + 4) (12 * s + i + 1) (t + 18 + 4) (12 * s + i) (c - i - 1)) (t + 18 + 1) s ((c - 1 : Nat) : Int) → FrP (SD t) h g := fun e => by
    subst e
    refine ⟨rfl, rfl, fun q p hq => ?_⟩
    unfold SD at hq
    rw [hpC_ne (by omega), hpC_co (by omega), hpC_co (by omega), hpC_co (by omega)]
  refine H _ (F rfl) (a.ho hV (F rfl) (fun q h1 h2 => ⟨rfl, fun p => ?_⟩) (fun p hp => (terW_o (by omega) (by omega)).symm) (fun q hq => ?_))
  · rw [hpC_o1 (by omega), hpC_co (by omega), hpC_co (by omega), hpC_co (by omega)]
  · obtain ⟨k1, k2⟩ := hw q hq
    have hbq := hV.hs (s := q) hq
    by_cases e : q = s
    · subst e
      refine ⟨by rw [hpC_same, terW_c]; omega, fun j hj => ?_⟩
      rw [terW_c] at hj
      have T := fun e he => terW_h (w := w) (i := i) (j := j) (e := e) (s := q) (by omega) (by omega) he
      have T0 := T 0 (by omega)
      rw [Nat.add_zero, Nat.add_zero] at T0
      rw [Nat.add_zero] at T0
      rw [T0, T 1 (by omega), T 2 (by omega)]
      simp (disch := omega) only [hpC_o1, hpC_co, hpC_cm]
      by_cases cc : i ≤ j
      · obtain ⟨z1, z2, z3⟩ := k2 (j + 1) (by omega)
        simp only [if_pos cc, if_pos (show 12 * q + i ≤ 12 * q + j ∧ 12 * q + j < 12 * q + i + (c - i - 1) by omega)]
        exact ⟨z1, z2, z3⟩
      · obtain ⟨z1, z2, z3⟩ := k2 j (by omega)
        simp only [if_neg cc, if_neg (show ¬ (12 * q + i ≤ 12 * q + j ∧ 12 * q + j < 12 * q + i + (c - i - 1)) by omega)]
        exact ⟨z1, z2, z3⟩
    · refine ⟨by simp (disch := omega) only [hpC_o1, hpC_o2, hpC_co, terW_o]; exact k1, fun j hj => ?_⟩
      rw [terW_o (by omega) (by omega)] at hj
      obtain ⟨z1, z2, z3⟩ := k2 j hj
      rw [terW_o (by omega) (by omega), terW_o (by omega) (by omega), terW_o (by omega) (by omega)]
      simp (disch := omega) only [hpC_o1, hpC_co, hpC_cm]
      simp only [if_neg (show ¬ (12 * s + i ≤ 12 * q + j ∧ 12 * q + j < 12 * s + i + (c - i - 1)) by omega)]
      exact ⟨z1, z2, z3⟩
