/-! ===== the reference's acts: numbers, carry ===== -/
theorem sp_mrenum {h : Hp} {m : Nat} {w : Nat → Int} {b : Nat → Nat} {n : Nat} {K : List Nat} {cnt : Nat} {U : Nat → Nat → Int} {ik : Nat → Bool} {iw : Nat → Nat → Int} (c : MS h m w b n K cnt U ik iw) (hV : V w) (h20 : cnt ≤ 20) {s : Int} {d mc ms : Nat} {R : PR} (hd : 6 ≤ d) {o2 o3 : Option AV} (H1 : (0 ≤ s ∧ s < w 7) → fewA (hW w s.toNat) (w (280 + s.toNat)).toNat (w 2) ≠ -1 → ∀ h', MS h' m (rnmW w s.toNat) b n K (min (cnt + 1) 20) (stU w U) ik iw → FrM h h' m → KM h h' m 5 → R (some (xI (fewA (hW w s.toNat) (w (280 + s.toNat)).toNat (w 2)))) h') (H2 : ¬ ((0 ≤ s ∧ s < w 7) ∧ fewA (hW w s.toNat) (w (280 + s.toNat)).toNat (w 2) ≠ -1) → ∀ h', MS h' m w b n K cnt U ik iw → FrM h h' m → KM h h' m 2 → R (some (xI (-1))) h') : Wp m_M_renumber 0 [some (xR m), some (xI s), o2, o3] [] h d mc ms R := by
  have v7 := hV.1.2.2.2.2.2.2.2.1
  have v2 := hV.1.2.2.1
  have ref : ∀ g (o2 o3 : Option AV), MS g m w b n K cnt U ik iw → FrM h g m → KM h g m 5 → ¬ ((0 ≤ s ∧ s < w 7) ∧ fewA (hW w s.toNat) (w (280 + s.toNat)).toNat (w 2) ≠ -1) → Wp m_M_renumber 17 [some (xR m), some (xI s), o2, o3] [xI (-1)] g d mc ms R := fun g o2 o3 cg fg kg z => by
    apply f_M_renumber_17
    rw [if_pos rfl]
    refine ⟨⟨by omega, cg.1.1.tag⟩, sp_mref cg (i := 2) (by omega) (fun g2 c2 f2 k2 v e => ?_)⟩
    cases e
    exact H2 z g2 c2 (fg.tr f2) (kg.tr k2)
  apply f_M_renumber_0
  refine ⟨⟨by omega, c.1.1.tag⟩, sp_isStreet c.1 hV (by omega) (fun v e => ?_)⟩
  cases e
  by_cases hs : 0 ≤ s ∧ s < w 7
  · rw [if_pos hs, if_neg (by decide)]
    have H1 := H1 hs
    obtain ⟨s', rfl⟩ : ∃ q : Nat, s = (q : Int) := ⟨s.toNat, by omega⟩
    rw [Int.toNat_natCast] at H1 ref
    have hs10 : s' < 10 := by omega
    have hb := hV.hs hs10
    refine ⟨⟨by omega, c.1.1.tag⟩, sp_laysThen c.1 hV hs10 (by omega) (fun g f row v e => ?_)⟩
    have ev := xI_inj e
    clear e
    obtain ⟨cg, fg, kg⟩ := c.q f
    by_cases c0 : v = -1
    · rw [c0]; exact ref g _ _ cg fg kg (fun z => z.2 (by rw [← ev]; exact c0))
    have hne : fewA (hW w s') (w (280 + s')).toNat (w 2) ≠ -1 := by rw [← ev]; exact c0
    have H1 := H1 hne
    have row := row hne
    rw [← ev] at H1
    apply f_M_renumber_17
    rw [if_neg c0]
    refine ⟨⟨by omega, cg.1.1.tag⟩, sp_mrem cg hV h20 (by omega) (fun g2 c2 f2 k2 o2 _ _ => ?_)⟩
    have hrow : ∀ q, q < (w (280 + s')).toNat → hpC g2 (m + 19) q = thenA (hW w s') (w (280 + s')).toNat (w 2) q := fun q hq => by rw [o2 _ _ (by omega)]; exact row q hq
    obtain ⟨z, hz⟩ : ∃ z : Nat, w (280 + s') = (z : Int) := ⟨(w (280 + s')).toNat, by omega⟩
    have nz : (w (280 + s')).toNat = z := by omega
    unfold rnmW at H1
    generalize hT : thenA (hW w s') (w (280 + s')).toNat (w 2) = T at *
    rw [nz] at H1 hrow
    have L : ∀ (j k : Nat) (g3 : Hp), k + j = z → FrP (Srow m) g2 g3 → (∀ p, p < 1010 → hpC g3 (m + 1) p = rneW w s' T k p) → Wp m_M_renumber 35 [some (xR m), some (xI (s' : Int)), some (xI v), some (xI (k : Int))] [] g3 d mc ms R := by
      intro j
      induction j with
      | zero =>
        intro k g3 hk f3 r3
        have a3 := c2.1.1.fo f3 (Srow_off m)
        obtain rfl : k = z := by omega
        apply f_M_renumber_35
        rw [aa_280 (by omega), Int.toNat_natCast, a3.row_n, a3.row_t, r3 _ (by omega), rneW_o (by omega), hz, if_neg (by omega)]
        obtain ⟨c4, f4, k4⟩ := c2.row f3 r3
        exact ⟨a3.tag, ⟨rfl, by omega, by show ((280 + s' : Nat) : Int) < 24240; omega⟩, H1 g3 c4 ((fg.tr f2).tr f4) ((kg.tr k2).tr k4)⟩
      | succ j ih =>
        intro k g3 hk f3 r3
        have a3 := c2.1.1.fo f3 (Srow_off m)
        have h19 : hpC g3 (m + 19) k = T k := by rw [f3.2.2 _ _ (by unfold Srow; omega)]; exact hrow k (by omega)
        apply f_M_renumber_35
        rw [aa_280 (by omega), Int.toNat_natCast, a3.row_n, a3.row_t, r3 _ (by omega), rneW_o (by omega), hz, if_pos (by omega), ab_1 (by omega)]
        refine ⟨a3.tag, ⟨rfl, by omega, by show ((280 + s' : Nat) : Int) < 24240; omega⟩, a3.tag, by omega, sp_houseAt0 (by omega) (by omega) (fun v3 e => ?_)⟩
        cases e
        rw [ab_2 (by omega), Int.toNat_natCast (290 + 36 * s' + 3 * k + 2), Int.toNat_natCast k, a3.thenOf_n, a3.thenOf_t, h19, a3.row_t]
        refine ⟨a3.tag, ⟨rfl, by omega, by show (k : Int) < 12; omega⟩, ⟨rfl, by omega, by show ((290 + 36 * s' + 3 * k + 2 : Nat) : Int) < 24240; omega⟩, fun g4 e4 => ?_⟩
        have f4 : FrP (Srow m) g3 g4 := by subst e4; exact FrP.up ⟨rfl, by omega⟩
        refine ih (k + 1) g4 (by omega) (f3.tr f4) (fun p hp => ?_)
        subst e4
        rw [rneW_succ]
        by_cases e : p = 290 + 36 * s' + 3 * k + 2
        · rw [if_pos e, e, hpC_same]
        · rw [if_neg e, hpC_o2 e]; exact r3 p hp
    exact L z 0 g2 (by omega) FrP.rf (fun p hp => by rw [rneW_zero]; exact c2.1.2 p hp)
  · rw [if_neg hs, if_pos rfl]
    exact ref h _ _ c FrP.rf KM.rf (fun z => hs z.1)
theorem sp_mcarry {h : Hp} {m : Nat} {w : Nat → Int} {b : Nat → Nat} {n : Nat} {K : List Nat} {cnt : Nat} {U : Nat → Nat → Int} {ik : Nat → Bool} {iw : Nat → Nat → Int} (c : MS h m w b n K cnt U ik iw) (hV : V w) (h20 : cnt ≤ 20) {d mc ms : Nat} {R : PR} (hd : 7 ≤ d) {o1 o2 : Option AV} (H1 : plC w ≠ -1 → bhW w ≤ 30 → ∀ h', MS h' m (crW w) b n K (min (cnt + 1) 20) (stU w U) ik iw → FrM h h' m → KM h h' m 5 → R (some (xI (popc (plC w).toNat : Int))) h') (H2 : ¬ (plC w ≠ -1 ∧ bhW w ≤ 30) → ∀ h', MS h' m w b n K cnt U ik iw → FrM h h' m → KM h h' m 2 → R (some (xI (-1))) h') : Wp m_M_carry 0 [some (xR m), o1, o2] [] h d mc ms R := by
  have v7 := hV.1.2.2.2.2.2.2.2.1
  have v6 := hV.1.2.2.2.2.2.2.1
  have v8 := hV.1.2.2.2.2.2.2.2.2.1
  have ref : ∀ g, MS g m w b n K cnt U ik iw → FrM h g m → KM h g m 5 → ¬ (plC w ≠ -1 ∧ bhW w ≤ 30) → (1 ≤ d ∧ (hpT g m).1 = 12) ∧ Wp m_M_refuses 0 [some (xR m), some (xI (2 : Int))] [] g (d - 1) 0 0 (fun rv h4 => ∀ v4 : Int, rv = some (xI v4) → R (some (xI v4)) h4) := fun g cg fg kg z => by
    refine ⟨⟨by omega, cg.1.1.tag⟩, sp_mref cg (i := 2) (by omega) (fun g2 c2 f2 k2 v e => ?_)⟩
    cases e
    exact H2 z g2 c2 (fg.tr f2) (kg.tr k2)
  apply f_M_carry_0
  refine ⟨⟨by omega, c.1.1.tag⟩, sp_plans c.1 hV (by omega) (fun g pc f pp e28 bs v e => ?_)⟩
  have ev := xI_inj e
  clear e
  obtain ⟨cg, fg, kg⟩ := c.q f
  have hpc := plC_eq pp
  subst hpc
  by_cases c0 : plC w = -1
  · rw [if_pos c0] at ev
    rw [if_pos ev]; exact ref g cg fg kg (fun z => z.1 c0)
  rw [if_neg c0] at ev
  rw [if_neg (by omega), cg.1.1.row_n, cg.1.1.row_t, tn_8, cg.1.2 8 (by omega)]
  refine ⟨cg.1.1.tag, ⟨rfl, by omega, by decide⟩, ?_⟩
  obtain ⟨q, hq, q1024⟩ : ∃ q : Nat, plC w = (q : Int) ∧ q < 1024 := by
    rcases plP_bd hV (plC_spec w) with z | ⟨q, z1, z2, _⟩
    · exact absurd z c0
    · exact ⟨q, z1, z2⟩
  have inv := fun (hb : bhW w ≤ 30) k (hk : k ≤ (w 7).toNat) => crW_inv hV c0 hb (k := k) hk
  unfold crW at H1
  unfold bhW at H1 ref inv
  simp only [hq, Int.toNat_natCast] at H1 ref inv e28
  have gn : ∀ k, k < (w 7).toNat → q.testBit k = true → hpC g (m + 15) k = ((gnN w k : Nat) : Int) ∧ ((gnN w k : Nat) : Int) < w 6 := fun k hk hb => by
    have gb := gnW_bd hV hq (t := k) hk hb
    rw [bsM_gn bs hq hk]
    show gnW w k = (((gnW w k).toNat : Nat) : Int) ∧ (((gnW w k).toNat : Nat) : Int) < w 6
    omega
  have tail : behF w q (gnN w) (w 7).toNat ≤ 30 → ∀ (i1 : Int), (1 ≤ d ∧ (hpT g m).1 = 12) ∧ Wp m_M_keeps 0 [some (xR m), none] [] g (d - 1) 0 0 (fun rv h1 => rv = none → Wp m_M_carry 93 [some (xR m), some (xI i1), some (xI (0 : Int))] [] h1 d mc ms R) := fun hb i1 => by
    have inv := inv hb
    have H1 := H1 (by omega) hb
    refine ⟨⟨by omega, cg.1.1.tag⟩, sp_mrem cg hV h20 (by omega) (fun g2 c2 f2 k2 o2 o2' _ => ?_)⟩
    have L : ∀ (j k : Nat) (g3 : Hp) (o1 : Option AV), k + j = (w 7).toNat → FrP (Srow m) g2 g3 → RD g3 m (crF w q (gnN w) k) → Wp m_M_carry 93 [some (xR m), o1, some (xI (k : Int))] [] g3 d mc ms R := by
      intro j
      induction j with
      | zero =>
        intro k g3 o1 hk f3 a3
        have e7 : crF w q (gnN w) k 7 = w 7 := (inv k (by omega)).1.2.2 7 (by omega) (by omega)
        have x28 : hpC g3 m 28 = (q : Int) := by rw [f3.2.2 _ _ (by unfold Srow; omega), o2' _ (by omega)]; exact e28
        apply f_M_carry_93
        rw [a3.1.row_n, a3.1.row_t, tn_7, a3.2 7 (by omega), e7, if_neg (by omega), x28]
        refine ⟨a3.1.tag, ⟨rfl, by omega, by decide⟩, a3.1.tag, by omega, sp_mbits (by omega) (fun v e => ?_)⟩
        have ev := xI_inj e
        rw [ev]
        rw [show k = (w 7).toNat by omega] at a3
        obtain ⟨c4, f4, k4⟩ := c2.row f3 a3.2
        exact H1 g3 c4 ((fg.tr f2).tr f4) ((kg.tr k2).tr k4)
      | succ j ih =>
        intro k g3 o1 hk f3 a3
        obtain ⟨⟨i1, i2, i3⟩, i4⟩ := inv k (by omega)
        have e7 : crF w q (gnN w) k 7 = w 7 := i3 7 (by omega) (by omega)
        have e6 : crF w q (gnN w) k 6 = w 6 := i3 6 (by omega) (by omega)
        have x28 : hpC g3 m 28 = (q : Int) := by rw [f3.2.2 _ _ (by unfold Srow; omega), o2' _ (by omega)]; exact e28
        apply f_M_carry_93
        rw [a3.1.row_n, a3.1.row_t, tn_7, a3.2 7 (by omega), e7, if_pos (by omega), x28, ai_bit (by omega) (by omega), ab_1 (by omega)]
        refine ⟨a3.1.tag, ⟨rfl, by omega, by decide⟩, a3.1.tag, ?_⟩
        by_cases hb : q.testBit k = true
        · obtain ⟨g15, g6⟩ := gn k (by omega) hb
          have x15 : hpC g3 (m + 15) k = ((gnN w k : Nat) : Int) := by rw [f3.2.2 _ _ (by unfold Srow; omega), o2 _ _ (by omega)]; exact g15
          rw [if_pos hb, if_pos rfl, a3.1.best_n, a3.1.best_t, Int.toNat_natCast, x15]
          refine ⟨a3.1.tag, ⟨rfl, by omega, by show (k : Int) < 10; omega⟩, ⟨by omega, a3.1.tag⟩, sp_renames a3 i1 (by omega) (by omega) (i4 (by omega) hb) (by omega) (fun g4 f4 a4 _ => ?_)⟩
          have er : rnW (crF w q (gnN w) k) k (gnN w k) = crF w q (gnN w) (k + 1) := by simp only [crF]; rw [if_pos hb]
          rw [er] at a4
          exact ih (k + 1) g4 _ (by omega) (f3.tr f4) a4
        · rw [if_neg hb, if_neg (by decide)]
          have er : crF w q (gnN w) k = crF w q (gnN w) (k + 1) := by simp only [crF]; rw [if_neg hb]
          rw [er] at a3
          exact ih (k + 1) g3 _ (by omega) f3 a3
    exact L (w 7).toNat 0 g2 _ (by omega) FrP.rf c2.1
  have B : ∀ (j k : Nat), k + j = (w 7).toNat → Wp m_M_carry 23 [some (xR m), some (xI (behF w q (gnN w) k)), some (xI (k : Int))] [] g d mc ms R := by
    intro j
    induction j with
    | zero =>
      intro k hk
      obtain rfl : k = (w 7).toNat := by omega
      apply f_M_carry_23
      rw [cg.1.1.row_n, cg.1.1.row_t, tn_7, cg.1.2 7 (by omega), if_neg (by omega)]
      refine ⟨cg.1.1.tag, ⟨rfl, by omega, by decide⟩, ?_⟩
      by_cases c1 : 30 < behF w q (gnN w) (w 7).toNat
      · rw [if_pos c1]; exact ref g cg fg kg (fun z => by have := z.2; omega)
      · rw [if_neg c1]; exact tail (by omega) _
    | succ j ih =>
      intro k hk
      have ih := ih (k + 1) (by omega)
      have bl := behF_le (w := w) (q := q) (f := gnN w) k
      apply f_M_carry_23
      rw [cg.1.1.row_n, cg.1.1.row_t, tn_7, cg.1.2 7 (by omega), if_pos (by omega), e28, ai_bit (by omega) (by omega), ab_1 (by omega)]
      refine ⟨cg.1.1.tag, ⟨rfl, by omega, by decide⟩, cg.1.1.tag, ?_⟩
      simp only [behF] at ih
      by_cases hb : q.testBit k = true
      · obtain ⟨g15, g6⟩ := gn k (by omega) hb
        rw [if_pos hb, if_pos rfl, cg.1.1.best_n, cg.1.1.best_t, Int.toNat_natCast, g15]
        rw [if_pos hb] at ih
        refine ⟨cg.1.1.tag, ⟨rfl, by omega, by show (k : Int) < 10; omega⟩, ⟨by omega, cg.1.1.tag⟩, sp_mownAlias cg.1 hV g6 (by omega) (fun v e => ?_)⟩
        have ev := xI_inj e
        clear e
        by_cases c1 : v = -1
        · rw [if_pos c1, ai_add_eq (by omega) (by omega)]
          rw [if_pos (by rw [← ev]; exact c1)] at ih
          exact ih
        · rw [if_neg c1, ai_add_eq (by omega) (by omega)]
          rw [if_neg (by rw [← ev]; exact c1)] at ih
          exact ih
      · rw [if_neg hb, if_neg (by decide)]
        rw [if_neg hb, Int.add_zero] at ih
        exact ih
  exact B (w 7).toNat 0 (by omega)
