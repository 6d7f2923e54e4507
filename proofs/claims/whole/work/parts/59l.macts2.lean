/-! ===== the reference's acts: houses, numbers, years, past, images, tape ===== -/
theorem wouldA_bd {w : Nat → Int} (hV : V w) {s sd y : Int} (iB : isB w s sd y) (hne : wouldA w s.toNat sd y ≠ -1) : 1 ≤ wouldA w s.toNat sd y ∧ wouldA w s.toNat sd y ≤ 999 := by
  obtain ⟨y1, y2, y3, y4, y5⟩ := iB
  have v7 := hV.1.2.2.2.2.2.2.2.1
  have v2 := hV.1.2.2.1
  have hb := hV.hs (s := s.toNat) (by omega)
  have l := lowW_bd (st := w 2) (by omega) y2 y3
  have bb := blW_bd hV (s := s.toNat) (by omega) sd y (w (280 + s.toNat)).toNat (by omega)
  have hl : 1 ≤ lsW w s.toNat sd y := by unfold lsW; omega
  unfold wouldA at hne ⊢
  by_cases c : vlW w s.toNat sd y < blW w s.toNat sd y (w (280 + s.toNat)).toNat
  · rw [if_pos c]
    have : lsW w s.toNat sd y ≤ vlW w s.toNat sd y := by unfold vlW; split <;> omega
    omega
  · rw [if_neg c] at hne; exact absurd rfl hne
theorem bldV {w : Nat → Int} (hV : V w) {s sd y : Int} (iB : isB w s sd y) (hne : wouldA w s.toNat sd y ≠ -1) : V (bldW w s.toNat sd y (wouldA w s.toNat sd y)) := by
  have wb := wouldA_bd hV iB hne
  obtain ⟨y1, y2, y3, y4, y5⟩ := iB
  have v7 := hV.1.2.2.2.2.2.2.2.1
  have hb := hV.hs (s := s.toNat) (by omega)
  refine bldW_V hV (by omega) (by omega) (by omega) y3 wb (fun i hi => ?_)
  have := fst1_none.1 y5 i (by omega) (by omega)
  intro z
  simp [z.1, z.2] at this
theorem sp_mbuild {h : Hp} {m : Nat} {w : Nat → Int} {b : Nat → Nat} {n : Nat} {K : List Nat} {cnt : Nat} {U : Nat → Nat → Int} {ik : Nat → Bool} {iw : Nat → Nat → Int} (c : MS h m w b n K cnt U ik iw) (hV : V w) (h20 : cnt ≤ 20) {s sd y : Int} {d mc ms : Nat} {R : PR} (hd : 3 ≤ d) {o4 o5 : Option AV} (H1 : isB w s sd y → wouldA w s.toNat sd y ≠ -1 → ∀ h', MS h' m (bldW w s.toNat sd y (wouldA w s.toNat sd y)) b n K (min (cnt + 1) 20) (stU w U) ik iw → FrM h h' m → KM h h' m 5 → R (some (xI (wouldA w s.toNat sd y))) h') (H2 : ¬ (isB w s sd y ∧ wouldA w s.toNat sd y ≠ -1) → ∀ h', MS h' m w b n K cnt U ik iw → FrM h h' m → KM h h' m 2 → R (some (xI (-1))) h') : Wp m_M_build 0 [some (xR m), some (xI s), some (xI sd), some (xI y), o4, o5] [] h d mc ms R := by
  have v7 := hV.1.2.2.2.2.2.2.2.1
  have ref : ¬ (isB w s sd y ∧ wouldA w s.toNat sd y ≠ -1) → (1 ≤ d ∧ (hpT h m).1 = 12) ∧ Wp m_M_refuses 0 [some (xR m), some (xI (2 : Int))] [] h (d - 1) 0 0 (fun rv h4 => ∀ v4 : Int, rv = some (xI v4) → R (some (xI v4)) h4) := fun z => by
    refine ⟨⟨by omega, c.1.1.tag⟩, sp_mref c (i := 2) (by omega) (fun g2 c2 f2 k2 v e => ?_)⟩
    cases e
    exact H2 z g2 c2 f2 k2
  apply f_M_build_0
  refine ⟨⟨by omega, c.1.1.tag⟩, sp_numberFor c.1 hV (by omega) (fun iB v e => ?_) (fun iB v e => ?_)⟩
  · have ev := xI_inj e
    clear e
    by_cases c0 : v = -1
    · rw [if_pos c0]; exact ref (fun z => z.2 (by rw [← ev]; exact c0))
    · rw [if_neg c0]
      have hne : wouldA w s.toNat sd y ≠ -1 := by rw [← ev]; exact c0
      have H1 := H1 iB hne
      obtain ⟨y1, y2, y3, y4, y5⟩ := iB
      obtain ⟨s', rfl⟩ : ∃ q : Nat, s = (q : Int) := ⟨s.toNat, by omega⟩
      rw [Int.toNat_natCast] at H1 y4 y5 ev hne
      rw [← ev] at H1
      have hb := hV.hs (s := s') (by omega)
      obtain ⟨z, hz⟩ : ∃ z : Nat, w (280 + s') = (z : Int) := ⟨(w (280 + s')).toNat, by omega⟩
      have nz : (w (280 + s')).toNat = z := by omega
      refine ⟨⟨by omega, c.1.1.tag⟩, sp_mrem c hV h20 (by omega) (fun g c2 f2 k2 _ _ _ => ?_)⟩
      have ag := c2.1.1
      rw [aa_280 (by omega), Int.toNat_natCast, ag.row_n, ag.row_t, c2.1.2 _ (by omega), hz]
      refine ⟨ag.tag, ⟨rfl, by omega, by show ((280 + s' : Nat) : Int) < 24240; omega⟩, by omega, sp_houseAt0 (by omega) (by omega) (fun v3 e => ?_)⟩
      cases e
      rw [ag.row_n, ag.row_t, Int.toNat_natCast, ab_1 (by omega), ab_2 (by omega), Int.toNat_natCast, Int.toNat_natCast]
      refine ⟨ag.tag, ⟨rfl, by omega, by show ((290 + 36 * s' + 3 * z : Nat) : Int) < 24240; omega⟩, fun g1 e1 => ?_⟩
      have q1 : FrP (Srow m) g g1 := by subst e1; exact FrP.up ⟨rfl, by omega⟩
      have a1 := ag.fo q1 (Srow_off m)
      rw [a1.row_n, a1.row_t]
      refine ⟨a1.tag, ⟨rfl, by omega, by show ((290 + 36 * s' + 3 * z + 1 : Nat) : Int) < 24240; omega⟩, fun g2 e2 => ?_⟩
      have q2 : FrP (Srow m) g1 g2 := by subst e2; exact FrP.up ⟨rfl, by omega⟩
      have a2 := a1.fo q2 (Srow_off m)
      rw [a2.row_n, a2.row_t]
      refine ⟨a2.tag, ⟨rfl, by omega, by show ((290 + 36 * s' + 3 * z + 2 : Nat) : Int) < 24240; omega⟩, fun g3 e3 => ?_⟩
      have q3 : FrP (Srow m) g2 g3 := by subst e3; exact FrP.up ⟨rfl, by omega⟩
      have a3 := a2.fo q3 (Srow_off m)
      have x3 : hpC g3 (m + 1) (280 + s') = (z : Int) := by
        subst e3; subst e2; subst e1
        rw [hpC_o2 (by omega), hpC_o2 (by omega), hpC_o2 (by omega), c2.1.2 _ (by omega), hz]
      rw [a3.row_n, a3.row_t, x3, ab_1 (by omega)]
      refine ⟨a3.tag, ⟨rfl, by omega, by show ((280 + s' : Nat) : Int) < 24240; omega⟩, ⟨rfl, by omega, by show ((280 + s' : Nat) : Int) < 24240; omega⟩, fun g4 e4 => ?_⟩
      have q4 : FrP (Srow m) g3 g4 := by subst e4; exact FrP.up ⟨rfl, by omega⟩
      have Q := ((q1.tr q2).tr q3).tr q4
      obtain ⟨c4, f4, k4⟩ := c2.row (w' := bldW w s' sd y v) Q (fun p hp => by
        subst e4; subst e3; subst e2; subst e1
        unfold bldW
        rw [nz]
        by_cases d1 : p = 280 + s'
        · subst d1; rw [hpC_same, if_pos rfl, hz]; omega
        rw [hpC_o2 d1, if_neg d1]
        by_cases d4 : p = 290 + 36 * s' + 3 * z + 2
        · rw [d4, hpC_same, if_neg (by omega), if_neg (by omega), if_pos rfl]
        rw [hpC_o2 d4]
        by_cases d3 : p = 290 + 36 * s' + 3 * z + 1
        · rw [d3, hpC_same, if_neg (by omega), if_pos rfl]
        rw [hpC_o2 d3]
        by_cases d2 : p = 290 + 36 * s' + 3 * z
        · rw [d2, hpC_same, if_pos rfl]
        rw [hpC_o2 d2, if_neg d2, if_neg d3, if_neg d4]
        exact c2.1.2 p hp)
      exact H1 g4 c4 (f2.tr f4) (k2.tr k4)
  · cases e
    rw [if_pos rfl]; exact ref (fun z => iB z.1)
theorem sp_mtear {h : Hp} {m : Nat} {w : Nat → Int} {b : Nat → Nat} {n : Nat} {K : List Nat} {cnt : Nat} {U : Nat → Nat → Int} {ik : Nat → Bool} {iw : Nat → Nat → Int} (c : MS h m w b n K cnt U ik iw) (hV : V w) (h20 : cnt ≤ 20) {s i : Int} {d mc ms : Nat} {R : PR} (hd : 3 ≤ d) {o3 o4 o5 : Option AV} (H1 : isH w s i → ∀ h', MS h' m (terW w s.toNat i.toNat) b n K (min (cnt + 1) 20) (stU w U) ik iw → FrM h h' m → KM h h' m 5 → R (some (xI (w (280 + s.toNat) - 1))) h') (H2 : ¬ isH w s i → ∀ h', MS h' m w b n K cnt U ik iw → FrM h h' m → KM h h' m 2 → R (some (xI (-1))) h') : Wp m_M_tear 0 [some (xR m), some (xI s), some (xI i), o3, o4, o5] [] h d mc ms R := by
  have v7 := hV.1.2.2.2.2.2.2.2.1
  apply f_M_tear_0
  refine ⟨⟨by omega, c.1.1.tag⟩, sp_misHouse c.1 hV (by omega) (fun iH v e => ?_) (fun iH v e => ?_)⟩
  · cases e
    rw [if_neg (by decide)]
    have H1 := H1 iH
    obtain ⟨y1, y2⟩ := iH
    obtain ⟨s', rfl⟩ : ∃ q : Nat, s = (q : Int) := ⟨s.toNat, by omega⟩
    obtain ⟨i', rfl⟩ : ∃ q : Nat, i = (q : Int) := ⟨i.toNat, by omega⟩
    simp only [Int.toNat_natCast] at H1 y2
    have hb := hV.hs (s := s') (by omega)
    obtain ⟨z, hz⟩ : ∃ z : Nat, w (280 + s') = (z : Int) := ⟨(w (280 + s')).toNat, by omega⟩
    have nz : (w (280 + s')).toNat = z := by omega
    refine ⟨⟨by omega, c.1.1.tag⟩, sp_mrem c hV h20 (by omega) (fun g c2 f2 k2 _ _ _ => ?_)⟩
    have ag := c2.1.1
    refine ⟨by omega, sp_houseAt0 (by omega) (by omega) (fun v3 e => ?_)⟩
    cases e
    rw [aa_280 (by omega), Int.toNat_natCast, ag.row_n, ag.row_t, c2.1.2 _ (by omega), hz, show ai_sub (z : Int) 1 = ((z - 1 : Nat) : Int) from by rw [ai_sub_eq (by omega) (by omega)]; omega]
    refine ⟨ag.tag, ⟨rfl, by omega, by show ((280 + s' : Nat) : Int) < 24240; omega⟩, by omega, sp_houseAt0 (by omega) (by omega) (fun v4 e => ?_)⟩
    cases e
    have L : ∀ (j q : Nat) (g2 : Hp) (o2 o3 : Option AV), q + j = 290 + 36 * s' + 3 * (z - 1) → 290 + 36 * s' + 3 * i' ≤ q → FrP (Srow m) g g2 → (∀ p, p < 1010 → hpC g2 (m + 1) p = if 290 + 36 * s' + 3 * i' ≤ p ∧ p < q then w (p + 3) else w p) → Wp m_M_tear 48 [some (xR m), some (xI (s' : Int)), o2, o3, some (xI ((290 + 36 * s' + 3 * (z - 1) : Nat) : Int)), some (xI (q : Int))] [] g2 d mc ms R := by
      intro j
      induction j with
      | zero =>
        intro q g2 o2 o3 hq hq2 f r
        have a2 := ag.fo f (Srow_off m)
        apply f_M_tear_48
        rw [if_neg (by omega), aa_280 (by omega), Int.toNat_natCast, a2.row_n, a2.row_t, r _ (by omega), if_neg (by omega), hz, ai_sub_eq (by omega) (by omega)]
        refine ⟨a2.tag, ⟨rfl, by omega, by show ((280 + s' : Nat) : Int) < 24240; omega⟩, ⟨rfl, by omega, by show ((280 + s' : Nat) : Int) < 24240; omega⟩, fun g3 e3 => ?_⟩
        have f3 : FrP (Srow m) g2 g3 := by subst e3; exact FrP.up ⟨rfl, by omega⟩
        have a3 := a2.fo f3 (Srow_off m)
        have x3 : hpC g3 (m + 1) (280 + s') = (z : Int) - 1 := by subst e3; rw [hpC_same]
        rw [a3.row_n, a3.row_t, x3]
        obtain ⟨c4, f4, k4⟩ := c2.row (w' := terW w s' i') (f.tr f3) (fun p hp => by
          unfold terW
          rw [nz]
          by_cases d1 : p = 280 + s'
          · subst d1; rw [if_pos rfl, hz]; exact x3
          · rw [if_neg d1]
            subst e3
            rw [hpC_o2 d1, r p hp]
            by_cases d2 : 290 + 36 * s' + 3 * i' ≤ p ∧ p < q
            · rw [if_pos d2, if_pos (by omega)]
            · rw [if_neg d2, if_neg (by omega)])
        have := H1 g3 c4 (f2.tr f4) (k2.tr k4)
        rw [hz] at this
        exact ⟨a3.tag, ⟨rfl, by omega, by show ((280 + s' : Nat) : Int) < 24240; omega⟩, this⟩
      | succ j ih =>
        intro q g2 o2 o3 hq hq2 f r
        have a2 := ag.fo f (Srow_off m)
        apply f_M_tear_48
        rw [if_pos (by omega), ab_3 (by omega), ab_1 (by omega), Int.toNat_natCast, Int.toNat_natCast, a2.row_n, a2.row_t, r (q + 3) (by omega), if_neg (by omega)]
        refine ⟨a2.tag, a2.tag, ⟨rfl, by omega, by show ((q + 3 : Nat) : Int) < 24240; omega⟩, ⟨rfl, by omega, by show (q : Int) < 24240; omega⟩, fun g3 e3 => ?_⟩
        have f3 : FrP (Srow m) g2 g3 := by subst e3; exact FrP.up ⟨rfl, by omega⟩
        refine ih (q + 1) g3 _ _ (by omega) (by omega) (f.tr f3) (fun p hp => ?_)
        subst e3
        by_cases d1 : p = q
        · subst d1; rw [hpC_same, if_pos (by omega)]
        · rw [hpC_o2 d1, r p hp]
          by_cases d2 : 290 + 36 * s' + 3 * i' ≤ p ∧ p < q
          · rw [if_pos d2, if_pos (by omega)]
          · rw [if_neg d2, if_neg (by omega)]
    exact L (290 + 36 * s' + 3 * (z - 1) - (290 + 36 * s' + 3 * i')) (290 + 36 * s' + 3 * i') g _ _ (by omega) (by omega) FrP.rf (fun p hp => by rw [if_neg (by omega)]; exact c2.1.2 p hp)
  · cases e
    rw [if_pos rfl]
    refine ⟨⟨by omega, c.1.1.tag⟩, sp_mref c (i := 2) (by omega) (fun g2 c2 f2 k2 v e => ?_)⟩
    cases e
    exact H2 iH g2 c2 f2 k2
theorem sp_myears {h : Hp} {m : Nat} {w : Nat → Int} {b : Nat → Nat} {n : Nat} {K : List Nat} {cnt : Nat} {U : Nat → Nat → Int} {ik : Nat → Bool} {iw : Nat → Nat → Int} (c : MS h m w b n K cnt U ik iw) (hV : V w) (h20 : cnt ≤ 20) {s : Int} {d mc ms : Nat} {R : PR} (hd : 3 ≤ d) {o2 : Option AV} (H1 : (1 ≤ s ∧ s ≤ 99) → w 9 + s ≤ 999 → ∀ h', MS h' m (yearsW w s) b n K (min (cnt + 1) 20) (stU w U) ik iw → FrM h h' m → KM h h' m 5 → R (some (xI (w 9 + s))) h') (H2 : ¬ ((1 ≤ s ∧ s ≤ 99) ∧ w 9 + s ≤ 999) → ∀ h', MS h' m w b n K cnt U ik iw → FrM h h' m → KM h h' m 2 → R (some (xI (-1))) h') : Wp m_M_years 0 [some (xR m), some (xI s), o2] [] h d mc ms R := by
  have v9 := hV.1.2.2.2.2.2.2.2.2.2
  have v8 := hV.1.2.2.2.2.2.2.2.2.1
  have ref : ¬ ((1 ≤ s ∧ s ≤ 99) ∧ w 9 + s ≤ 999) → (1 ≤ d ∧ (hpT h m).1 = 12) ∧ Wp m_M_refuses 0 [some (xR m), some (xI (2 : Int))] [] h (d - 1) 0 0 (fun rv h4 => ∀ v4 : Int, rv = some (xI v4) → R (some (xI v4)) h4) := fun z => by
    refine ⟨⟨by omega, c.1.1.tag⟩, sp_mref c (i := 2) (by omega) (fun g2 c2 f2 k2 v e => ?_)⟩
    cases e
    exact H2 z g2 c2 f2 k2
  apply f_M_years_0
  refine ⟨by omega, sp_isIn (fun v e => ?_)⟩
  cases e
  by_cases d1 : 1 ≤ s ∧ s ≤ 99
  · rw [if_pos d1, if_neg (by decide), c.1.1.row_n, c.1.1.row_t, tn_9, c.1.2 9 (by omega), ai_add_eq (by omega) (by omega)]
    refine ⟨c.1.1.tag, ⟨rfl, by omega, by decide⟩, ?_⟩
    by_cases d2 : 999 < w 9 + s
    · rw [if_pos d2]; exact ref (by omega)
    · rw [if_neg d2]
      have H1 := H1 d1 (by omega)
      have hV1 := yrW_V hV d1.1 (by omega : w 9 + s ≤ 999)
      obtain ⟨Vy, Ay⟩ := yearsW_AL hV d1.1 (by omega : w 9 + s ≤ 999)
      have y9 : yearsW w s 9 = w 9 + s := by rw [Ay.2.2 9 (by omega) (by omega), yrW_9]
      refine ⟨⟨by omega, c.1.1.tag⟩, sp_mrem c hV h20 (by omega) (fun g c2 f2 k2 _ _ _ => ?_)⟩
      rw [c2.1.1.row_n, c2.1.1.row_t, c2.1.2 9 (by omega), ai_add_eq (by omega) (by omega)]
      refine ⟨c2.1.1.tag, ⟨rfl, by omega, by decide⟩, ⟨rfl, by omega, by decide⟩, fun g1 e1 => ?_⟩
      have q1 : FrP (Srow m) g g1 := by subst e1; exact FrP.up ⟨rfl, by omega⟩
      have r1 : RD g1 m (yrW w s) := ⟨c2.1.1.fo q1 (Srow_off m), fun p hp => by
        subst e1
        by_cases e : p = 9
        · subst e; rw [hpC_same, yrW_9]
        · rw [hpC_o2 e, yrW_o e]; exact c2.1.2 p hp⟩
      have L : ∀ (f k : Nat) (u : Nat → Int) (g3 : Hp) (o1 : Option AV), u 8 - (k : Int) < (f : Int) → V u → yrF f u k = yearsW w s → FrP (Srow m) g g3 → RD g3 m u → Wp m_M_years 48 [some (xR m), o1, some (xI (k : Int))] [] g3 d mc ms R := by
        intro f
        induction f with
        | zero =>
          intro k u g3 o1 hu vu eu f3 a3
          have u8 := vu.1.2.2.2.2.2.2.2.2.1
          simp only [yrF] at eu
          apply f_M_years_48
          rw [a3.1.row_n, a3.1.row_t, tn_8, tn_9, a3.2 8 (by omega), a3.2 9 (by omega), if_neg (by omega), eu, y9]
          rw [eu] at a3
          obtain ⟨c4, f4, k4⟩ := c2.row f3 a3.2
          exact ⟨a3.1.tag, ⟨rfl, by omega, by decide⟩, a3.1.tag, ⟨rfl, by omega, by decide⟩, H1 g3 c4 (f2.tr f4) (k2.tr k4)⟩
        | succ f ih =>
          intro k u g3 o1 hu vu eu f3 a3
          have u8 := vu.1.2.2.2.2.2.2.2.2.1
          simp only [yrF] at eu
          apply f_M_years_48
          rw [a3.1.row_n, a3.1.row_t, tn_8, tn_9, a3.2 8 (by omega)]
          refine ⟨a3.1.tag, ⟨rfl, by omega, by decide⟩, ?_⟩
          by_cases d3 : (k : Int) < u 8
          · rw [if_pos d3] at eu ⊢
            refine ⟨⟨by omega, a3.1.tag⟩, sp_mLive a3 (by omega) (fun v e => ?_)⟩
            have ev := xI_inj e
            clear e
            by_cases d4 : u (980 + k) < u 9
            · rw [if_pos d4] at eu ev
              rw [if_pos ev]
              refine ⟨⟨by omega, a3.1.tag⟩, sp_dropsAlias a3 vu d3 (fun g4 f4 a4 _ => ?_)⟩
              exact ih k (dropW u k) g4 _ (by rw [dropW_8]; omega) (dropW_V vu d3) eu (f3.tr f4) a4
            · rw [if_neg d4] at eu ev
              rw [if_neg (by omega), ab_1 (by omega)]
              exact ih (k + 1) u g3 _ (by omega) vu eu f3 a3
          · rw [if_neg d3] at eu ⊢
            rw [a3.2 9 (by omega), eu, y9]
            rw [eu] at a3
            obtain ⟨c4, f4, k4⟩ := c2.row f3 a3.2
            exact ⟨a3.1.tag, ⟨rfl, by omega, by decide⟩, H1 g3 c4 (f2.tr f4) (k2.tr k4)⟩
      exact L 31 0 (yrW w s) g1 _ (by rw [yrW_o (by omega)]; omega) hV1 rfl q1 r1
  · rw [if_neg d1, if_pos rfl]; exact ref (fun z => d1 z.1)
