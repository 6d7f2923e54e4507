/-! ===== the reference's acts ===== -/
def Spa (m : Nat) : Nat → Nat → Prop := fun q p => (q = m ∧ p = 2) ∨ q = m + 1 ∨ q = m + 2
theorem Spa_off (m : Nat) : offM m (Spa m) := by
  intro p hp z
  rcases z with ⟨-, rfl⟩ | z
  · revert hp; decide
  · omega
/-- rows, count and images change -/
theorem MS.pa {h : Hp} {m : Nat} {w : Nat → Int} {b : Nat → Nat} {n : Nat} {K : List Nat} {cnt : Nat} {U : Nat → Nat → Int} {ik : Nat → Bool} {iw : Nat → Nat → Int} (c : MS h m w b n K cnt U ik iw) {h' : Hp} {w' : Nat → Int} {cnt' : Nat} {U' : Nat → Nat → Int} {ik' : Nat → Bool} {iw' : Nat → Nat → Int} (f : FrP (Spa m) h h') (r : ∀ p, p < 1010 → hpC h' (m + 1) p = w' p) (hc : hpC h' m 2 = (cnt' : Int)) (u : UR h' m cnt' U') (k7 : ∀ k, k < 2 → hpC h' (m + 2) k = if ik' k then 1 else 0) (k8 : ∀ k, k < 2 → ik' k = true → ∀ p, p < 1010 → hpC h' (m + 1) (2020 + 1010 * k + p) = iw' k p) : MS h' m w' b n K cnt' U' ik' iw' ∧ FrM h h' m ∧ KM h h' m 5 := by
  obtain ⟨c1, c2, c3, c4, c5, c6, c7, c8⟩ := c
  have no : ∀ q p, ((q = m ∧ p ≠ 2) ∨ m + 3 ≤ q) → hpC h' q p = hpC h q p := fun q p hq => f.2.2 q p (by unfold Spa; omega)
  exact ⟨⟨⟨c1.1.fo f (Spa_off m), r⟩, ⟨by rw [no _ _ (by omega)]; exact c2.1, c2.2.1, fun i hi => by rw [no _ _ (by omega)]; exact c2.2.2 i hi⟩, fun i hi => by rw [no _ _ (by omega)]; exact c3 i hi, ⟨by rw [no _ _ (by omega)]; exact c4.1, fun i hi => by rw [no _ _ (by omega)]; exact c4.2 i hi⟩, hc, u, k7, k8⟩, f.wk (fun q p z => by unfold Spa at z; omega), KM.of (fun p hp => no _ _ (by omega)) (fun p => no _ _ (by omega))⟩
theorem MS.row {h : Hp} {m : Nat} {w : Nat → Int} {b : Nat → Nat} {n : Nat} {K : List Nat} {cnt : Nat} {U : Nat → Nat → Int} {ik : Nat → Bool} {iw : Nat → Nat → Int} (c : MS h m w b n K cnt U ik iw) {h' : Hp} {w' : Nat → Int} (f : FrP (Srow m) h h') (r : ∀ p, p < 1010 → hpC h' (m + 1) p = w' p) : MS h' m w' b n K cnt U ik iw ∧ FrM h h' m ∧ KM h h' m 5 := by
  have no : ∀ q p, ¬ (q = m + 1 ∧ p < 1010) → hpC h' q p = hpC h q p := f.2.2
  obtain ⟨c1, c2, c3, c4, c5, c6, c7, c8⟩ := id c
  exact c.pa (f.wk (fun q p z => Or.inr (Or.inl z.1))) r (by rw [no _ _ (by omega)]; exact c5) (fun i hi p hp => by rw [no _ _ (by omega)]; exact c6 i hi p hp) (fun k hk => by rw [no _ _ (by omega)]; exact c7 k hk) (fun k hk z p hp => by rw [no _ _ (by omega)]; exact c8 k hk z p hp)
theorem sp_mrem {h : Hp} {m : Nat} {w : Nat → Int} {b : Nat → Nat} {n : Nat} {K : List Nat} {cnt : Nat} {U : Nat → Nat → Int} {ik : Nat → Bool} {iw : Nat → Nat → Int} (c : MS h m w b n K cnt U ik iw) (hV : V w) (h20 : cnt ≤ 20) {d mc ms : Nat} {R : PR} (hd : 1 ≤ d) {o1 : Option AV} (H : ∀ h', MS h' m w b n K (min (cnt + 1) 20) (stU w U) ik iw → FrM h h' m → KM h h' m 5 → (∀ q p, m + 2 ≤ q → hpC h' q p = hpC h q p) → (∀ p, p ≠ 2 → hpC h' m p = hpC h m p) → R none h') : Wp m_M_keeps 0 [some (xR m), o1] [] h d mc ms R := by
  obtain ⟨c1, c2, c3, c4, c5, c6, c7, c8⟩ := id c
  refine sp_keeps c1 hV c5 h20 c6 hd (fun g f e u => ?_)
  have no : ∀ q p, ¬ Skp m q p → hpC g q p = hpC h q p := f.2.2
  obtain ⟨r1, r2, r3⟩ := c.pa (w' := w) (ik' := ik) (iw' := iw) (f.wk (fun q p z => by unfold Skp at z; unfold Spa; omega)) (fun p hp => by rw [no _ _ (by unfold Skp; omega)]; exact c1.2 p hp) e u (fun k hk => by rw [no _ _ (by unfold Skp; omega)]; exact c7 k hk) (fun k hk z p hp => by rw [no _ _ (by unfold Skp; omega)]; exact c8 k hk z p hp)
  exact H g r1 r2 r3 (fun q p hq => no _ _ (by unfold Skp; omega)) (fun p hp => no _ _ (by unfold Skp; omega))
/-- a refused act -/
theorem sp_mref {h : Hp} {m : Nat} {w : Nat → Int} {b : Nat → Nat} {n : Nat} {K : List Nat} {cnt : Nat} {U : Nat → Nat → Int} {ik : Nat → Bool} {iw : Nat → Nat → Int} (c : MS h m w b n K cnt U ik iw) {i : Nat} (hi : i < 5) {d mc ms : Nat} {R : PR} (H : ∀ h', MS h' m w b n K cnt U ik iw → FrM h h' m → KM h h' m i → R (some (xI (-1))) h') : Wp m_M_refuses 0 [some (xR m), some (xI (i : Int))] [] h d mc ms R := by
  obtain ⟨r1, r2⟩ := c.rf i (ai_add (hpC h (m + 3) i) 1)
  exact sp_refuses c.1.1 hi (H _ r1 r2 KM.up)
theorem sp_mref0 {h : Hp} {m : Nat} {w : Nat → Int} {b : Nat → Nat} {n : Nat} {K : List Nat} {cnt : Nat} {U : Nat → Nat → Int} {ik : Nat → Bool} {iw : Nat → Nat → Int} (c : MS h m w b n K cnt U ik iw) {i : Nat} (hi : i < 5) {d mc ms : Nat} {R : PR} (H : ∀ h', MS h' m w b n K cnt U ik iw → FrM h h' m → KM h h' m i → R (some (xI 0)) h') : Wp m_M_isRefused 0 [some (xR m), some (xI (i : Int))] [] h d mc ms R := by
  obtain ⟨r1, r2⟩ := c.rf i (ai_add (hpC h (m + 3) i) 1)
  exact sp_isRefused c.1.1 hi (H _ r1 r2 KM.up)
theorem FrM.tr {h h' h'' : Hp} {m : Nat} (a : FrM h h' m) (b : FrM h' h'' m) : FrM h h'' m := FrP.tr a b
/-- the reference renames -/
theorem sp_renames {h : Hp} {m : Nat} {w : Nat → Int} (a : RD h m w) (hV : V w) {s k : Nat} (hs : (s : Int) < w 7) (hk : (k : Int) < w 6) (hR : rnR w s k) {d mc ms : Nat} {R : PR} (hd : 2 ≤ d) {o3 o4 o5 : Option AV} (H : ∀ h', FrP (Srow m) h h' → RD h' m (rnW w s k) → R none h') : Wp m_M_renames 0 [some (xR m), some (xI (s : Int)), some (xI (k : Int)), o3, o4, o5] [] h d mc ms R := by
  have v0 := hV.1.1
  have v1 := hV.1.2.1
  have v2 := hV.1.2.2.1
  have v3 := hV.1.2.2.2.1
  have v4 := hV.1.2.2.2.2.1
  have v5 := hV.1.2.2.2.2.2.1
  have v6 := hV.1.2.2.2.2.2.2.1
  have v7 := hV.1.2.2.2.2.2.2.2.1
  have v8 := hV.1.2.2.2.2.2.2.2.2.1
  have v9 := hV.1.2.2.2.2.2.2.2.2.2
  obtain ⟨d1, d2, d3⟩ := drpW_V hV hR
  have d8 := d1.1.2.2.2.2.2.2.2.2.1
  have after : ∀ (u : Nat → Int) (g : Hp) (o3 : Option AV), u = drpW w (ownW w s (wordW w (60 + 10 * k)) (w 8).toNat 0) → FrP (Srow m) h g → RD g m u → Wp m_M_renames 29 [some (xR m), some (xI (s : Int)), some (xI (k : Int)), o3, some (xI (u 8)), some (xI 0)] [] g d mc ms R := by
    intro u g o3 hu fg ag
    rw [← hu] at d2 d8
    have er : rnW w s k = stpW (addW u s) s k := by unfold rnW; rw [hu]
    rw [er] at H
    obtain ⟨c8, hc8⟩ : ∃ c8 : Nat, u 8 = (c8 : Int) := ⟨(u 8).toNat, by omega⟩
    have n8 : (u 8).toNat = c8 := by omega
    have rA : ∀ i, i < 10 → stpW (addW u s) s k (650 + 10 * c8 + i) = u (180 + 10 * s + i) := fun i hi => by
      rw [stpW_o (by omega), ← n8, addW_new hi]
    have rB : ∀ i, i < 10 → stpW (addW u s) s k (180 + 10 * s + i) = u (60 + 10 * k + i) := fun i hi => by
      rw [stpW_new hi, addW_low (by omega) (by omega)]
    have rC : ∀ p, ¬ (650 + 10 * c8 ≤ p ∧ p < 660 + 10 * c8) → ¬ (180 + 10 * s ≤ p ∧ p < 190 + 10 * s) → p ≠ 950 + c8 → p ≠ 980 + c8 → p ≠ 8 → stpW (addW u s) s k p = u p := fun p h1 h2 h3 h4 h5 => by
      rw [stpW_o (by omega)]
      unfold addW
      rw [n8, if_neg h5, if_neg h1, if_neg h3, if_neg h4]
    have rD : stpW (addW u s) s k (950 + c8) = (s : Int) := by rw [stpW_o (by omega), ← n8, addW_of (by omega)]
    have rE : stpW (addW u s) s k (980 + c8) = u 9 + u 1 := by rw [stpW_o (by omega), ← n8, addW_to (by omega)]
    have r8 : stpW (addW u s) s k 8 = u 8 + 1 := by rw [stpW_o (by omega), addW_8]
    have u91 : (0 ≤ u 9 ∧ u 9 ≤ 999) ∧ (0 ≤ u 1 ∧ u 1 ≤ 99) := by
      rw [hu, d3 9 (by omega) (by omega), d3 1 (by omega) (by omega)]
      have := hV.1.2.2.2.2.2.2.2.2.2
      have := hV.1.2.1
      omega
    rw [hc8]
    have L : ∀ (j i : Nat) (g : Hp), i + j = 10 → FrP (Srow m) h g → (∀ p, p < 1010 → hpC g (m + 1) p = if (650 + 10 * c8 ≤ p ∧ p < 650 + 10 * c8 + i) ∨ (180 + 10 * s ≤ p ∧ p < 180 + 10 * s + i) then stpW (addW u s) s k p else u p) → Wp m_M_renames 29 [some (xR m), some (xI (s : Int)), some (xI (k : Int)), o3, some (xI (c8 : Int)), some (xI (i : Int))] [] g d mc ms R := by
      intro j
      induction j with
      | zero =>
        intro i g hi f r
        obtain rfl : i = 10 := by omega
        have ag := a.1.fo f (Srow_off m)
        apply f_M_renames_29
        rw [if_neg (by decide), aa_950 (by omega), aa_980 (by omega), Int.toNat_natCast, Int.toNat_natCast, ag.row_n, ag.row_t]
        refine ⟨ag.tag, ⟨rfl, by omega, by show ((950 + c8 : Nat) : Int) < 24240; omega⟩, fun g1 e1 => ?_⟩
        have f1 : FrP (Srow m) g g1 := by subst e1; exact FrP.up ⟨rfl, by omega⟩
        have a1 := ag.fo f1 (Srow_off m)
        have q9 : hpC g1 (m + 1) 9 = u 9 := by subst e1; rw [hpC_o2 (by omega), r 9 (by omega), if_neg (by omega)]
        have q1 : hpC g1 (m + 1) 1 = u 1 := by subst e1; rw [hpC_o2 (by omega), r 1 (by omega), if_neg (by omega)]
        rw [a1.row_n, a1.row_t, tn_9, tn_1, q9, q1, ai_add_eq (by omega) (by omega)]
        refine ⟨a1.tag, a1.tag, ⟨rfl, by omega, by decide⟩, a1.tag, ⟨rfl, by omega, by decide⟩, ⟨rfl, by omega, by show ((980 + c8 : Nat) : Int) < 24240; omega⟩, fun g2 e2 => ?_⟩
        have f2 : FrP (Srow m) g1 g2 := by subst e2; exact FrP.up ⟨rfl, by omega⟩
        have a2 := a1.fo f2 (Srow_off m)
        have q8 : hpC g2 (m + 1) 8 = (c8 : Int) := by subst e2; subst e1; rw [hpC_o2 (by omega), hpC_o2 (by omega), r 8 (by omega), if_neg (by omega), hc8]
        rw [a2.row_n, a2.row_t, tn_8, q8, ab_1 (by omega)]
        refine ⟨a2.tag, ⟨rfl, by omega, by decide⟩, ⟨rfl, by omega, by decide⟩, fun g3 e3 => ?_⟩
        have f3 : FrP (Srow m) g2 g3 := by subst e3; exact FrP.up ⟨rfl, by omega⟩
        have F3 := ((f.tr f1).tr f2).tr f3
        refine H g3 F3 ⟨a.1.fo F3 (Srow_off m), fun p hp => ?_⟩
        subst e3; subst e2; subst e1
        by_cases e : p = 8
        · subst e; rw [hpC_same, r8, hc8]; omega
        rw [hpC_o2 e]
        by_cases e : p = 980 + c8
        · subst e; rw [hpC_same, rE]
        rw [hpC_o2 e]
        by_cases e : p = 950 + c8
        · subst e; rw [hpC_same, rD]
        rw [hpC_o2 e, r p hp]
        by_cases d : (650 + 10 * c8 ≤ p ∧ p < 650 + 10 * c8 + 10) ∨ (180 + 10 * s ≤ p ∧ p < 180 + 10 * s + 10)
        · rw [if_pos d]
        · rw [if_neg d, rC p (by omega) (by omega) (by omega) (by omega) (by omega)]
      | succ j ih =>
        intro i g hi f r
        have ag := a.1.fo f (Srow_off m)
        apply f_M_renames_29
        rw [if_pos (by omega), am_10 (by omega), am_10 (by omega), am_10 (by omega), aa_180 (by omega), aa_650 (by omega), aa_60 (by omega), ai_add_nn (by omega), ai_add_nn (by omega), ai_add_nn (by omega), Int.toNat_natCast, Int.toNat_natCast, Int.toNat_natCast, ag.row_n, ag.row_t, r (180 + 10 * s + i) (by omega), if_neg (by omega), ab_1 (by omega)]
        refine ⟨ag.tag, ag.tag, ⟨rfl, by omega, by show ((180 + 10 * s + i : Nat) : Int) < 24240; omega⟩, ⟨rfl, by omega, by show ((650 + 10 * c8 + i : Nat) : Int) < 24240; omega⟩, fun g1 e1 => ?_⟩
        have f1 : FrP (Srow m) g g1 := by subst e1; exact FrP.up ⟨rfl, by omega⟩
        have a1 := ag.fo f1 (Srow_off m)
        have qk : hpC g1 (m + 1) (60 + 10 * k + i) = u (60 + 10 * k + i) := by subst e1; rw [hpC_o2 (by omega), r _ (by omega), if_neg (by omega)]
        rw [a1.row_n, a1.row_t, qk]
        refine ⟨a1.tag, a1.tag, ⟨rfl, by omega, by show ((60 + 10 * k + i : Nat) : Int) < 24240; omega⟩, ⟨rfl, by omega, by show ((180 + 10 * s + i : Nat) : Int) < 24240; omega⟩, fun g2 e2 => ?_⟩
        have f2 : FrP (Srow m) g1 g2 := by subst e2; exact FrP.up ⟨rfl, by omega⟩
        refine ih (i + 1) g2 (by omega) ((f.tr f1).tr f2) (fun p hp => ?_)
        subst e2; subst e1
        by_cases e : p = 180 + 10 * s + i
        · subst e; rw [hpC_same, if_pos (by omega), rB i (by omega)]
        rw [hpC_o2 e]
        by_cases e : p = 650 + 10 * c8 + i
        · subst e; rw [hpC_same, if_pos (by omega), rA i (by omega)]
        rw [hpC_o2 e, r p hp]
        by_cases d : (650 + 10 * c8 ≤ p ∧ p < 650 + 10 * c8 + i) ∨ (180 + 10 * s ≤ p ∧ p < 180 + 10 * s + i)
        · rw [if_pos d, if_pos (by omega)]
        · rw [if_neg d, if_neg (by omega)]
    exact L 10 0 g (by omega) fg (fun p hp => by rw [if_neg (by omega)]; exact ag.2 p hp)
  apply f_M_renames_0
  refine ⟨⟨by omega, a.1.tag⟩, sp_mownAlias a hV hk (by omega) (fun v e => ?_)⟩
  have ev := xI_inj e
  clear e
  by_cases c : v = -1
  · rw [if_pos c, a.1.row_n, a.1.row_t, tn_8, a.2 8 (by omega)]
    refine ⟨a.1.tag, ⟨rfl, by omega, by decide⟩, ?_⟩
    exact after w h _ (by unfold drpW; rw [if_pos (by rw [← ev]; exact c)]) FrP.rf a
  · rw [if_neg c]
    obtain ⟨i, i1, i2⟩ := ownW_bd (w := w) (s := s) (W := wordW w (60 + 10 * k)) (by rw [← ev]; exact c)
    rw [i1] at ev
    rw [ev]
    refine ⟨⟨by omega, a.1.tag⟩, sp_dropsAlias a hV i2 (fun g f ag _ => ?_)⟩
    rw [ag.1.row_n, ag.1.row_t, tn_8, ag.2 8 (by omega)]
    refine ⟨ag.1.tag, ⟨rfl, by omega, by decide⟩, ?_⟩
    exact after (dropW w i) g _ (by unfold drpW; rw [i1, if_neg (by omega), Int.toNat_natCast]) f ag
theorem sp_mtake {h : Hp} {m : Nat} {w : Nat → Int} {b : Nat → Nat} {n : Nat} {K : List Nat} {cnt : Nat} {U : Nat → Nat → Int} {ik : Nat → Bool} {iw : Nat → Nat → Int} (c : MS h m w b n K cnt U ik iw) (hV : V w) (h20 : cnt ≤ 20) {s k : Int} {d mc ms : Nat} {R : PR} (hd : 6 ≤ d) (H1 : whyA w s k = 0 → ∀ h', MS h' m (rnW w s.toNat k.toNat) b n K (min (cnt + 1) 20) (stU w U) ik iw → FrM h h' m → KM h h' m 5 → R (some (xI (rnW w s.toNat k.toNat 8))) h') (H2 : whyA w s k ≠ 0 → ∀ h', MS h' m w b n K cnt U ik iw → FrM h h' m → KM h h' m 2 → R (some (xI (-1))) h') : Wp m_M_take 0 [some (xR m), some (xI s), some (xI k)] [] h d mc ms R := by
  apply f_M_take_0
  refine ⟨⟨by omega, c.1.1.tag⟩, sp_mwhy c.1 hV (by omega) (fun g f v e => ?_)⟩
  have ev := xI_inj e
  clear e
  obtain ⟨cg, fg, kg⟩ := c.q f
  by_cases c0 : v = 0
  · rw [if_pos c0]
    rw [ev] at c0
    obtain ⟨y1, y2, y3⟩ := why0 c0
    refine ⟨⟨by omega, cg.1.1.tag⟩, sp_mrem cg hV h20 (by omega) (fun g2 c2 f2 k2 _ _ _ => ?_)⟩
    have H1 := H1 c0
    obtain ⟨s', rfl⟩ : ∃ q : Nat, s = (q : Int) := ⟨s.toNat, by omega⟩
    obtain ⟨k', rfl⟩ : ∃ q : Nat, k = (q : Int) := ⟨k.toNat, by omega⟩
    simp only [Int.toNat_natCast] at H1
    refine ⟨⟨by omega, c2.1.1.tag⟩, sp_renames c2.1 hV y1.2 y2.2 (Or.inr y3) (by omega) (fun g3 f3 a3 _ => ?_)⟩
    obtain ⟨c3, fm3, km3⟩ := c2.row f3 a3.2
    rw [a3.1.row_n, a3.1.row_t, tn_8, a3.2 8 (by omega)]
    exact ⟨a3.1.tag, ⟨rfl, by omega, by decide⟩, H1 g3 c3 ((fg.tr f2).tr fm3) ((kg.tr k2).tr km3)⟩
  · rw [if_neg c0]
    refine ⟨⟨by omega, cg.1.1.tag⟩, sp_mref cg (i := 2) (by omega) (fun g2 c2 f2 k2 v e => ?_)⟩
    cases e
    exact H2 (by rw [← ev]; exact c0) g2 c2 (fg.tr f2) (kg.tr k2)
