/-! ===== the class's acts ===== -/
theorem sp_remember {h : Hp} {x : Nat} {w : Nat → Int} {b : Nat → Nat} {n : Nat} {K : List Nat} {A : Nat → Nat} {nx cnt : Nat} {U : Nat → Nat → Int} {ik : Nat → Bool} {iw : Nat → Nat → Int} (c : CS h x w b n K A nx cnt U ik iw) (hV : V w) {d : Nat} {R : PR} (hd : 5 ≤ d) (H : ∀ h' A', CS h' x w b n K A' ((nx + 1) % 20) (min (cnt + 1) 20) (stU w U) ik iw → FrC h h' x → KO h h' x 5 → (hpC h' (x + 30) 2 = 0 ∧ hpC h' (x + 30) 3 = 0) → (∀ q p, (x + 30 ≤ q ∧ q ≤ x + 42) → ¬ (q = x + 30 ∧ (p = 2 ∨ p = 3)) → hpC h' q p = hpC h q p) → R none h') : Wp m_S_remember 0 [some (xR x)] [] h d 23 682 R := by
  obtain ⟨c1, c2, c3, c4, c5, c6, c7, c8, c9, c10, c11⟩ := c
  apply f_S_remember_0
  rw [c1.past_n, c1.now_n]
  refine ⟨c1.tag, c1.tag, ⟨by omega, by decide, by decide, c8.1.1⟩, sp_store c8 c7 hV c11 (by omega) (fun g A' F cp _ => ?_)⟩
  have E : ∀ q, q < x + 66 ∨ (x + 69 ≤ q ∧ q ≤ x + 89) → hpT g q = hpT h q ∧ ∀ p, hpC g q p = hpC h q p := F.2
  have eC : eqC h g x (x + 65) := fun q h1 h2 => E q (by omega)
  have s1 : sAt g x := by
    obtain ⟨p1, p2, p3, p4, p5, p6, p7, p8, p9, p10⟩ := c1
    exact ⟨by rw [eC.T _ (by omega) (by omega)]; exact p1, by rw [eC.C _ _ (by omega) (by omega)]; exact p2, by rw [eC.C _ _ (by omega) (by omega)]; exact p3, by rw [eC.C _ _ (by omega) (by omega)]; exact p4, by rw [eC.C _ _ (by omega) (by omega)]; exact p5, by rw [eC.C _ _ (by omega) (by omega)]; exact p6, by rw [eC.C _ _ (by omega) (by omega)]; exact p7, by rw [eC.C _ _ (by omega) (by omega)]; exact p8, by rw [eC.C _ _ (by omega) (by omega)]; exact p9, by rw [eC.C _ _ (by omega) (by omega)]; exact p10⟩
  have tg : (hpT g (x + 30)).1 = 6 := by rw [eC.T _ (by omega) (by omega)]; exact c5.1.tag
  rw [s1.planner_n]
  refine ⟨s1.tag, ⟨by omega, tg⟩, ?_⟩
  apply f_Planner_forget_0
  refine ⟨tg, by simp, fun g1 e1 => ⟨by subst e1; exact tg, by simp, fun g2 e2 _ => ?_⟩⟩
  have o2 : ∀ q p, ¬ (q = x + 30 ∧ (p = 2 ∨ p = 3)) → hpC g2 q p = hpC g q p := fun q p hq => by subst e2; subst e1; rw [hpC_ne (by omega), hpC_ne (by omega)]
  have z2 : hpC g2 (x + 30) 2 = 0 := by subst e2; subst e1; rw [hpC_o2 (by decide), hpC_same]
  have z3 : hpC g2 (x + 30) 3 = 0 := by subst e2; rw [hpC_same]
  have T2 : hpT g2 = hpT g := by subst e2; subst e1; rfl
  have N2 : g2.1 = g.1 := by subst e2; subst e1; rfl
  clear e1 e2
  have e30 : ∀ q, q ≠ x + 30 → hpT g2 q = hpT g q ∧ ∀ p, hpC g2 q p = hpC g q p := fun q hq => ⟨by rw [T2], fun p => o2 q p (by omega)⟩
  have E2 : ∀ q, q ≠ x + 30 → (q < x + 66 ∨ (x + 69 ≤ q ∧ q ≤ x + 89)) → hpT g2 q = hpT h q ∧ ∀ p, hpC g2 q p = hpC h q p := fun q h1 h2 => ⟨(e30 q h1).1.trans (E q h2).1, fun p => ((e30 q h1).2 p).trans ((E q h2).2 p)⟩
  have a1 : eqC h g2 x (x + 29) := fun q h1 h2 => E2 q (by omega) (by omega)
  have a2 : eqC h g2 (x + 31) (x + 65) := fun q h1 h2 => E2 q (by omega) (by omega)
  have pl : plAt g2 (x + 30) := by
    obtain ⟨p1, p2, p3, p4, p5, p6, p7, p8, p9, p10, p11⟩ := c5.1
    have oo : ∀ p, ¬ (p = 2 ∨ p = 3) → hpC g2 (x + 30) p = hpC h (x + 30) p := fun p hp => by rw [o2 _ _ (by omega), (E _ (by omega)).2]
    exact ⟨by rw [T2]; exact tg, by rw [oo _ (by omega)]; exact p2, by rw [oo _ (by omega)]; exact p3, by rw [oo _ (by omega)]; exact p4, by rw [oo _ (by omega)]; exact p5, by rw [oo _ (by omega)]; exact p6, by rw [a2.T _ (by omega) (by omega)]; exact p7, by rw [a2.T _ (by omega) (by omega)]; exact p8, by rw [a2.T _ (by omega) (by omega)]; exact p9, by rw [a2.T _ (by omega) (by omega)]; exact p10, by rw [a2.T _ (by omega) (by omega)]; exact p11⟩
  have s2 : sAt g2 x := by
    obtain ⟨p1, p2, p3, p4, p5, p6, p7, p8, p9, p10⟩ := c1
    exact ⟨by rw [a1.T _ (by omega) (by omega)]; exact p1, by rw [a1.C _ _ (by omega) (by omega)]; exact p2, by rw [a1.C _ _ (by omega) (by omega)]; exact p3, by rw [a1.C _ _ (by omega) (by omega)]; exact p4, by rw [a1.C _ _ (by omega) (by omega)]; exact p5, by rw [a1.C _ _ (by omega) (by omega)]; exact p6, by rw [a1.C _ _ (by omega) (by omega)]; exact p7, by rw [a1.C _ _ (by omega) (by omega)]; exact p8, by rw [a1.C _ _ (by omega) (by omega)]; exact p9, by rw [a1.C _ _ (by omega) (by omega)]; exact p10⟩
  have tp : TPc g2 x b n := by
    obtain ⟨⟨q1, q2, q3, q4, q5, q6⟩, t2, t3, t4⟩ := c2
    exact ⟨⟨by rw [a1.T _ (by omega) (by omega)]; exact q1, by rw [a1.C _ _ (by omega) (by omega)]; exact q2, by rw [a1.C _ _ (by omega) (by omega)]; exact q3, by rw [a1.T _ (by omega) (by omega)]; exact q4, by rw [a1.T _ (by omega) (by omega)]; exact q5, fun i hi => by rw [a1.C _ _ (by omega) (by omega)]; exact q6 i hi⟩, by rw [a1.C _ _ (by omega) (by omega)]; exact t2, t3, fun i hi => by rw [a1.C _ _ (by omega) (by omega)]; exact t4 i hi⟩
  have ea : earAt g2 (x + 28) (x + 29) := ⟨by rw [a1.T _ (by omega) (by omega)]; exact c4.1, by rw [a1.C _ _ (by omega) (by omega)]; exact c4.2.1, by rw [a1.T _ (by omega) (by omega)]; exact c4.2.2.1, c4.2.2.2⟩
  have nu : numAt g2 (x + 36) := by
    obtain ⟨n1, n2, n3, n4, n5, n6, n7, n8, n9, n10, n11, n12, n13⟩ := c6
    exact ⟨by rw [a2.T _ (by omega) (by omega)]; exact n1, by rw [a2.C _ _ (by omega) (by omega)]; exact n2, by rw [a2.C _ _ (by omega) (by omega)]; exact n3, by rw [a2.C _ _ (by omega) (by omega)]; exact n4, by rw [a2.C _ _ (by omega) (by omega)]; exact n5, by rw [a2.C _ _ (by omega) (by omega)]; exact n6, by rw [a2.C _ _ (by omega) (by omega)]; exact n7, by rw [a2.T _ (by omega) (by omega)]; exact n8, by rw [a2.T _ (by omega) (by omega)]; exact n9, by rw [a2.T _ (by omega) (by omega)]; exact n10, by rw [a2.T _ (by omega) (by omega)]; exact n11, by rw [a2.T _ (by omega) (by omega)]; exact n12, by rw [a2.T _ (by omega) (by omega)]; exact n13⟩
  refine H g2 A' ⟨s2, tp, c3.eq (a1.sub (by omega) (by omega)), ea, ⟨pl, fun z => absurd z2 z, fun z => absurd z3 z⟩, nu, c7.eq (a2.sub (by omega) (by omega)), cp.fr (fun q h1 h2 => e30 q (by omega)) ⟨by omega, fun q h1 h2 => e30 q (by omega)⟩, by rw [(E2 _ (by omega) (by omega)).1]; exact c9, by unfold heC; rw [a1.C _ _ (by omega) (by omega)]; exact c10, by have := F.1; omega⟩ ⟨by have := F.1; omega, fun q hq => E2 q (by omega) (by omega)⟩ (KO.of (fun p hp => a1.C _ _ (by omega) (by omega)) (fun p => (E2 _ (by omega) (by omega)).2 p)) ⟨z2, z3⟩ (fun q p hq hne => by rw [o2 q p (by omega), (E q (by omega)).2])
/-- the town now changes -/
theorem CS.now {h h' : Hp} {x : Nat} {w v : Nat → Int} {b : Nat → Nat} {n : Nat} {K : List Nat} {A : Nat → Nat} {nx cnt : Nat} {U : Nat → Nat → Int} {ik : Nat → Bool} {iw : Nat → Nat → Int} (c : CS h x w b n K A nx cnt U ik iw) (z : hpC h (x + 30) 2 = 0 ∧ hpC h (x + 30) 3 = 0) (f : FrP (SD (x + 43)) h h') (t : TR h' (x + 43) v) : CS h' x v b n K A nx cnt U ik iw ∧ FrC h h' x ∧ KO h h' x 5 ∧ (hpC h' (x + 30) 2 = 0 ∧ hpC h' (x + 30) 3 = 0) ∧ ∀ q p, (q < x + 43 ∨ x + 66 ≤ q) → hpC h' q p = hpC h q p := by
  have no : ∀ q p, (q < x + 43 ∨ x + 66 ≤ q) → ¬ SD (x + 43) q p := fun q p hq y => by unfold SD at y; omega
  have oC : ∀ q p, (q < x + 43 ∨ x + 66 ≤ q) → hpC h' q p = hpC h q p := fun q p hq => f.2.2 q p (no q p hq)
  have e : ∀ q, (q < x + 43 ∨ x + 66 ≤ q) → hpT h' q = hpT h q ∧ ∀ p, hpC h' q p = hpC h q p := fun q hq => ⟨by rw [f.2.1], fun p => oC q p hq⟩
  obtain ⟨c1, c2, c3, c4, c5, c6, c7, c8, c9, c10, c11⟩ := c
  have a1 : eqC h h' x (x + 42) := fun q h1 h2 => e q (by omega)
  have s2 : sAt h' x := c1.fr f (fun p hp => no _ _ (by omega))
  have tp : TPc h' x b n := ⟨c2.1.fr f.2.1 (fun r p hr => oC _ _ (by omega)), by rw [oC _ _ (by omega)]; exact c2.2.1, c2.2.2.1, fun i hi => by rw [oC _ _ (by omega)]; exact c2.2.2.2 i hi⟩
  have ea : earAt h' (x + 28) (x + 29) := ⟨by rw [f.2.1]; exact c4.1, by rw [oC _ _ (by omega)]; exact c4.2.1, by rw [f.2.1]; exact c4.2.2.1, c4.2.2.2⟩
  have pl : plAt h' (x + 30) := by
    obtain ⟨p1, p2, p3, p4, p5, p6, p7⟩ := c5.1
    exact ⟨by rw [f.2.1]; exact p1, by rw [oC _ _ (by omega)]; exact p2, by rw [oC _ _ (by omega)]; exact p3, by rw [oC _ _ (by omega)]; exact p4, by rw [oC _ _ (by omega)]; exact p5, by rw [oC _ _ (by omega)]; exact p6, by rw [f.2.1]; exact p7⟩
  have nu : numAt h' (x + 36) := by
    obtain ⟨n1, n2, n3, n4, n5, n6, n7, n8⟩ := c6
    exact ⟨by rw [f.2.1]; exact n1, by rw [oC _ _ (by omega)]; exact n2, by rw [oC _ _ (by omega)]; exact n3, by rw [oC _ _ (by omega)]; exact n4, by rw [oC _ _ (by omega)]; exact n5, by rw [oC _ _ (by omega)]; exact n6, by rw [oC _ _ (by omega)]; exact n7, by rw [f.2.1]; exact n8⟩
  have z2 : hpC h' (x + 30) 2 = 0 := by rw [oC _ _ (by omega)]; exact z.1
  have z3 : hpC h' (x + 30) 3 = 0 := by rw [oC _ _ (by omega)]; exact z.2
  refine ⟨⟨s2, tp, c3.eq (a1.sub (by omega) (by omega)), ea, ⟨pl, fun y => absurd z2 y, fun y => absurd z3 y⟩, nu, t, c8.fr (fun q h1 h2 => e q (by omega)) ⟨by rw [f.1]; exact Nat.le_refl _, fun q h1 h2 => e q (by omega)⟩, by rw [f.2.1]; exact c9, by unfold heC; rw [oC _ _ (by omega)]; exact c10, by rw [f.1]; exact c11⟩, ⟨by rw [f.1]; exact Nat.le_refl _, fun q hq => e q (by omega)⟩, KO.of (fun p hp => oC _ _ (by omega)) (fun p => oC _ _ (by omega)), ⟨z2, z3⟩, oC⟩
theorem why0 {w : Nat → Int} {s k : Int} (h : whyA w s k = 0) : (0 ≤ s ∧ s < w 7) ∧ (0 ≤ k ∧ k < w 6) ∧ w 8 < 30 := by
  unfold whyA at h
  split at h
  · rename_i c
    refine ⟨c.1, c.2, ?_⟩
    split at h
    · split at h
      · split at h
        · split at h
          · assumption
          · omega
        · omega
      · omega
    · omega
  · omega
theorem sp_ctake {h : Hp} {x : Nat} {w : Nat → Int} {b : Nat → Nat} {n : Nat} {K : List Nat} {A : Nat → Nat} {nx cnt : Nat} {U : Nat → Nat → Int} {ik : Nat → Bool} {iw : Nat → Nat → Int} (c : CS h x w b n K A nx cnt U ik iw) (hV : V w) {s k : Int} {d mc ms : Nat} {R : PR} (hd : 7 ≤ d) (hmc : 23 ≤ mc) (hms : 682 ≤ ms) (H1 : whyA w s k = 0 → ∀ h' A', CS h' x (rnW w s.toNat k.toNat) b n K A' ((nx + 1) % 20) (min (cnt + 1) 20) (stU w U) ik iw → FrC h h' x → KO h h' x 5 → R (some (xI (rnW w s.toNat k.toNat 8))) h') (H2 : whyA w s k ≠ 0 → ∀ h', CS h' x w b n K A nx cnt U ik iw → FrC h h' x → KO h h' x 2 → R (some (xI (-1))) h') : Wp m_S_take 0 [some (xR x), some (xI s), some (xI k)] [] h d mc ms R := by
  apply f_S_take_0
  refine ⟨⟨by omega, c.1.tag⟩, sp_cwhy c.1 c.2.2.2.2.2.2.1 hV (by omega) (fun v e => ?_)⟩
  have ev := xI_inj e
  clear e
  by_cases c0 : v = 0
  · rw [if_pos c0]
    rw [ev] at c0
    obtain ⟨y1, y2, y3⟩ := why0 c0
    refine ⟨⟨by omega, by omega, by omega, c.1.tag⟩, sp_remember c hV (by omega) (fun g A' cg fc ko z _ _ => ?_)⟩
    obtain ⟨s', rfl⟩ : ∃ q : Nat, s = (q : Int) := ⟨s.toNat, by omega⟩
    obtain ⟨k', rfl⟩ : ∃ q : Nat, k = (q : Int) := ⟨k.toNat, by omega⟩
    have H1 := H1 c0
    simp only [Int.toNat_natCast] at H1
    have tr := cg.2.2.2.2.2.2.1
    rw [cg.1.now_n]
    refine ⟨cg.1.tag, ⟨by omega, tr.1.1.tag⟩, sp_rename tr hV y1.2 y2.2 (Or.inr y3) (by omega) (fun g2 f2 tr2 _ => ?_)⟩
    obtain ⟨c2, fc2, ko2, _⟩ := cg.now z f2 tr2
    have hT := tr2.1.1
    rw [c2.1.now_n, hT.aliases_n, tr2.1.2.2.2.2.1.1]
    exact ⟨c2.1.tag, hT.tag, hT.aliases_a.tag, H1 g2 A' c2 (fc.tr fc2) (ko.tr ko2)⟩
  · rw [if_neg c0]
    refine ⟨⟨by omega, c.1.tag⟩, sp_refuse (i := 2) c.1 c.2.2.2.2.2.2.2.2.1 (by omega) (fun v e => ?_)⟩
    cases e
    obtain ⟨r1, r2⟩ := c.rf 2 (ai_add (hpC h (x + 69) 2) 1)
    exact H2 (by rw [← ev]; exact c0) _ r1 r2 KO.up
theorem sp_cbuild {h : Hp} {x : Nat} {w : Nat → Int} {b : Nat → Nat} {n : Nat} {K : List Nat} {A : Nat → Nat} {nx cnt : Nat} {U : Nat → Nat → Int} {ik : Nat → Bool} {iw : Nat → Nat → Int} (c : CS h x w b n K A nx cnt U ik iw) (hV : V w) {s sd y : Int} {d mc ms : Nat} {R : PR} (hd : 6 ≤ d) (hmc : 23 ≤ mc) (hms : 682 ≤ ms) {o4 : Option AV} (H1 : isB w s sd y → wouldA w s.toNat sd y ≠ -1 → ∀ h' A', CS h' x (bldW w s.toNat sd y (wouldA w s.toNat sd y)) b n K A' ((nx + 1) % 20) (min (cnt + 1) 20) (stU w U) ik iw → FrC h h' x → KO h h' x 5 → R (some (xI (wouldA w s.toNat sd y))) h') (H2 : ¬ (isB w s sd y ∧ wouldA w s.toNat sd y ≠ -1) → ∀ h', CS h' x w b n K A nx cnt U ik iw → FrC h h' x → KO h h' x 2 → R (some (xI (-1))) h') : Wp m_S_build 0 [some (xR x), some (xI s), some (xI sd), some (xI y), o4] [] h d mc ms R := by
  have v7 := hV.1.2.2.2.2.2.2.2.1
  have ref : ¬ (isB w s sd y ∧ wouldA w s.toNat sd y ≠ -1) → (1 ≤ d ∧ (hpT h x).1 = 11) ∧ Wp m_S_refuse 0 [some (xR x), some (xI (2 : Int))] [] h (d - 1) 0 0 (fun rv h4 => ∀ v4 : Int, rv = some (xI v4) → R (some (xI v4)) h4) := fun z => by
    refine ⟨⟨by omega, c.1.tag⟩, sp_refuse (i := 2) c.1 c.2.2.2.2.2.2.2.2.1 (by omega) (fun v e => ?_)⟩
    cases e
    obtain ⟨r1, r2⟩ := c.rf 2 (ai_add (hpC h (x + 69) 2) 1)
    exact H2 z _ r1 r2 KO.up
  apply f_S_build_0
  refine ⟨⟨by omega, c.1.tag⟩, sp_cwould c.1 c.2.2.2.2.2.2.1 hV (by omega) (fun iB v e => ?_) (fun iB v e => ?_)⟩
  · have ev := xI_inj e
    clear e
    by_cases c0 : v = -1
    · rw [if_pos c0]; exact ref (fun z => z.2 (by rw [← ev]; exact c0))
    · rw [if_neg c0]
      have hne : wouldA w s.toNat sd y ≠ -1 := by rw [← ev]; exact c0
      have H1 := H1 iB hne
      obtain ⟨y1, y2, y3, y4, y5⟩ := iB
      obtain ⟨s', rfl⟩ : ∃ q : Nat, s = (q : Int) := ⟨s.toNat, by omega⟩
      rw [Int.toNat_natCast] at H1 y4 y5 ev hne
      have hb := hV.hs (s := s') (by omega)
      refine ⟨⟨by omega, by omega, by omega, c.1.tag⟩, sp_remember c hV (by omega) (fun g A' cg fc ko z _ _ => ?_)⟩
      have tr := cg.2.2.2.2.2.2.1
      rw [cg.1.now_n, tr.1.1.homes_n, ev]
      refine ⟨cg.1.tag, tr.1.1.tag, ⟨by omega, tr.1.1.homes_a.tag⟩, sp_Hadd tr hV y1.2 (by omega) (by omega) (fun g2 f2 tr2 _ => ?_)⟩
      obtain ⟨c2, fc2, ko2, _⟩ := cg.now z f2 tr2
      exact H1 g2 A' c2 (fc.tr fc2) (ko.tr ko2)
  · cases e
    rw [if_pos rfl]; exact ref (fun z => iB z.1)
theorem sp_ctear {h : Hp} {x : Nat} {w : Nat → Int} {b : Nat → Nat} {n : Nat} {K : List Nat} {A : Nat → Nat} {nx cnt : Nat} {U : Nat → Nat → Int} {ik : Nat → Bool} {iw : Nat → Nat → Int} (c : CS h x w b n K A nx cnt U ik iw) (hV : V w) {s i : Int} {d mc ms : Nat} {R : PR} (hd : 6 ≤ d) (hmc : 23 ≤ mc) (hms : 682 ≤ ms) (H1 : isH w s i → ∀ h' A', CS h' x (terW w s.toNat i.toNat) b n K A' ((nx + 1) % 20) (min (cnt + 1) 20) (stU w U) ik iw → FrC h h' x → KO h h' x 5 → R (some (xI (w (280 + s.toNat) - 1))) h') (H2 : ¬ isH w s i → ∀ h', CS h' x w b n K A nx cnt U ik iw → FrC h h' x → KO h h' x 2 → R (some (xI (-1))) h') : Wp m_S_tear 0 [some (xR x), some (xI s), some (xI i)] [] h d mc ms R := by
  have v7 := hV.1.2.2.2.2.2.2.2.1
  apply f_S_tear_0
  refine ⟨⟨by omega, c.1.tag⟩, sp_cisHouse c.1 c.2.2.2.2.2.2.1 hV (by omega) (fun iH v e => ?_) (fun iH v e => ?_)⟩
  · cases e
    rw [if_neg (by decide)]
    have H1 := H1 iH
    obtain ⟨y1, y2⟩ := iH
    obtain ⟨s', rfl⟩ : ∃ q : Nat, s = (q : Int) := ⟨s.toNat, by omega⟩
    obtain ⟨i', rfl⟩ : ∃ q : Nat, i = (q : Int) := ⟨i.toNat, by omega⟩
    simp only [Int.toNat_natCast] at H1 y2
    refine ⟨⟨by omega, by omega, by omega, c.1.tag⟩, sp_remember c hV (by omega) (fun g A' cg fc ko z _ _ => ?_)⟩
    have tr := cg.2.2.2.2.2.2.1
    rw [cg.1.now_n, tr.1.1.homes_n]
    refine ⟨cg.1.tag, tr.1.1.tag, ⟨by omega, tr.1.1.homes_a.tag⟩, sp_Hdrop tr hV y1.2 y2.2 (by omega) (fun g2 f2 tr2 _ => ?_)⟩
    obtain ⟨c2, fc2, ko2, _⟩ := cg.now z f2 tr2
    have hT := tr2.1.1
    have k1 := (tr2.1.2.2.2.2.2.2.1 s' (by omega)).1
    rw [c2.1.now_n, hT.homes_n, hT.homes_a.count_n, hT.homes_a.count_t, Int.toNat_natCast, k1, terW_c]
    exact ⟨c2.1.tag, hT.tag, hT.homes_a.tag, ⟨rfl, by omega, by show (s' : Int) < 10; omega⟩, H1 g2 A' c2 (fc.tr fc2) (ko.tr ko2)⟩
  · cases e
    rw [if_pos rfl]
    refine ⟨⟨by omega, c.1.tag⟩, sp_refuse (i := 2) c.1 c.2.2.2.2.2.2.2.2.1 (by omega) (fun v e => ?_)⟩
    cases e
    obtain ⟨r1, r2⟩ := c.rf 2 (ai_add (hpC h (x + 69) 2) 1)
    exact H2 iH _ r1 r2 KO.up
