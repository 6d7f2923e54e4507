/-! ===== the class's acts: renumber, years ===== -/
def rnmW (w : Nat → Int) (s : Nat) : Nat → Int := rneW w s (thenA (hW w s) (w (280 + s)).toNat (w 2)) (w (280 + s)).toNat
theorem rnmW_V {w : Nat → Int} (hV : V w) {s : Nat} (hs : s < 10) (hf : fewA (hW w s) (w (280 + s)).toNat (w 2) ≠ -1) : V (rnmW w s) := by
  have hb := hV.hs hs
  have v2 := hV.1.2.2.1
  exact rneW_V hV hs (by omega) (fun q hq => thenA_bd (hV.gv hs) (by omega) hf hq)
theorem sp_crenum {h : Hp} {x : Nat} {w : Nat → Int} {b : Nat → Nat} {n : Nat} {K : List Nat} {A : Nat → Nat} {nx cnt : Nat} {U : Nat → Nat → Int} {ik : Nat → Bool} {iw : Nat → Nat → Int} (c : CS h x w b n K A nx cnt U ik iw) (hV : V w) {s : Int} {d mc ms : Nat} {R : PR} {o2 o3 : Option AV} (hd : 7 ≤ d) (hmc : 23 ≤ mc) (hms : 682 ≤ ms) (H1 : (0 ≤ s ∧ s < w 7) → fewA (hW w s.toNat) (w (280 + s.toNat)).toNat (w 2) ≠ -1 → ∀ h' A', CS h' x (rnmW w s.toNat) b n K A' ((nx + 1) % 20) (min (cnt + 1) 20) (stU w U) ik iw → FrC h h' x → KO h h' x 5 → R (some (xI (fewA (hW w s.toNat) (w (280 + s.toNat)).toNat (w 2)))) h') (H2 : ¬ ((0 ≤ s ∧ s < w 7) ∧ fewA (hW w s.toNat) (w (280 + s.toNat)).toNat (w 2) ≠ -1) → ∀ h', CS h' x w b n K A nx cnt U ik iw → FrC h h' x → KO h h' x 2 → R (some (xI (-1))) h') : Wp m_S_renumber 0 [some (xR x), some (xI s), o2, o3] [] h d mc ms R := by
  have v7 := hV.1.2.2.2.2.2.2.2.1
  have v2 := hV.1.2.2.1
  have ref : ∀ g, CS g x w b n K A nx cnt U ik iw → FrC h g x → KO h g x 5 → ¬ ((0 ≤ s ∧ s < w 7) ∧ fewA (hW w s.toNat) (w (280 + s.toNat)).toNat (w 2) ≠ -1) → (1 ≤ d ∧ (hpT g x).1 = 11) ∧ Wp m_S_refuse 0 [some (xR x), some (xI (2 : Int))] [] g (d - 1) 0 0 (fun rv h4 => ∀ v4 : Int, rv = some (xI v4) → R (some (xI v4)) h4) := fun g c f k z => by
    refine ⟨⟨by omega, c.1.tag⟩, sp_refuse (i := 2) c.1 c.2.2.2.2.2.2.2.2.1 (by omega) (fun v e => ?_)⟩
    cases e
    obtain ⟨r1, r2⟩ := c.rf 2 (ai_add (hpC g (x + 69) 2) 1)
    exact H2 z _ r1 (f.tr r2) (k.tr KO.up)
  apply f_S_renumber_0
  refine ⟨⟨by omega, c.1.tag⟩, sp_cfewest c.1 c.2.2.2.2.2.2.1 hV c.2.2.2.2.2.1 (by omega) (fun hs g f row v e => ?_) (fun hs v e => ?_)⟩
  · have ev := xI_inj e
    clear e
    obtain ⟨cg, fc, ko⟩ := c.q f (fun q p z => Or.inr z)
    by_cases c0 : v = -1
    · rw [if_pos c0]; exact ref g cg fc ko (fun z => z.2 (by rw [← ev]; exact c0))
    · rw [if_neg c0]
      have hne : fewA (hW w s.toNat) (w (280 + s.toNat)).toNat (w 2) ≠ -1 := by rw [← ev]; exact c0
      have H1 := H1 hs hne
      have row := row hne
      obtain ⟨s', rfl⟩ : ∃ q : Nat, s = (q : Int) := ⟨s.toNat, by omega⟩
      rw [Int.toNat_natCast] at H1 row hne ev
      have hs10 : s' < 10 := by omega
      have hb := hV.hs hs10
      refine ⟨⟨by omega, by omega, by omega, cg.1.tag⟩, sp_remember cg hV (by omega) (fun g2 A' c2 fc2 ko2 z kp _ => ?_)⟩
      have hrow : ∀ q, q < (w (280 + s')).toNat → hpC g2 (x + 37) q = thenA (hW w s') (w (280 + s')).toNat (w 2) q := fun q hq => by rw [kp _ _ (by omega) (by omega)]; exact row q hq
      rw [← ev] at H1
      have V2 : ∀ k, k ≤ (w (280 + s')).toNat → V (rneW w s' (thenA (hW w s') (w (280 + s')).toNat (w 2)) k) := fun k hk => rneW_V hV hs10 (by omega) (fun q hq => thenA_bd (hV.gv hs10) (by omega) hne (by omega))
      have L : ∀ (j k : Nat) (g : Hp), k + j = (w (280 + s')).toNat → CS g x (rneW w s' (thenA (hW w s') (w (280 + s')).toNat (w 2)) k) b n K A' ((nx + 1) % 20) (min (cnt + 1) 20) (stU w U) ik iw → FrC h g x → KO h g x 5 → (hpC g (x + 30) 2 = 0 ∧ hpC g (x + 30) 3 = 0) → (∀ q, q < (w (280 + s')).toNat → hpC g (x + 37) q = thenA (hW w s') (w (280 + s')).toNat (w 2) q) → Wp m_S_renumber 23 [some (xR x), some (xI (s' : Int)), some (xI v), some (xI (k : Int))] [] g d (mc - 23) (ms - 682) R := by
        intro j
        induction j with
        | zero =>
          intro k g hk cg fg kg zg rg
          have tr := cg.2.2.2.2.2.2.1
          have hT := tr.1.1
          have k1 := (tr.1.2.2.2.2.2.2.1 s' (by omega)).1
          apply f_S_renumber_23
          rw [cg.1.now_n, hT.homes_n, hT.homes_a.count_n, hT.homes_a.count_t, Int.toNat_natCast, k1, rneW_o (by omega), if_neg (by omega)]
          refine ⟨cg.1.tag, hT.tag, hT.homes_a.tag, ⟨rfl, by omega, by show (s' : Int) < 10; omega⟩, ?_⟩
          rw [show k = (w (280 + s')).toNat by omega] at cg
          exact H1 g A' cg fg kg
        | succ j ih =>
          intro k g hk cg fg kg zg rg
          have tr := cg.2.2.2.2.2.2.1
          have hT := tr.1.1
          have k1 := (tr.1.2.2.2.2.2.2.1 s' (by omega)).1
          have nu := cg.2.2.2.2.2.1
          apply f_S_renumber_23
          rw [cg.1.now_n, hT.homes_n, hT.homes_a.count_n, hT.homes_a.count_t, hT.homes_a.number_n, Int.toNat_natCast, k1, rneW_o (by omega), if_pos (by omega)]
          refine ⟨cg.1.tag, hT.tag, hT.homes_a.tag, ⟨rfl, by omega, by show (s' : Int) < 10; omega⟩, cg.1.tag, hT.tag, hT.homes_a.tag, by omega, sp_slot hs10 (by omega) (fun v e => ?_)⟩
          cases e
          rw [cg.1.numbering_n, nu.due_n, nu.due_t, Int.toNat_natCast k, rg k (by omega), hT.homes_a.number_t, Int.toNat_natCast, ab_1 (by omega)]
          refine ⟨cg.1.tag, nu.tag, ⟨rfl, by omega, by show (k : Int) < 12; omega⟩, ⟨rfl, by omega, by show ((12 * s' + k : Nat) : Int) < 120; omega⟩, fun g1 e1 => ?_⟩
          subst e1
          obtain ⟨t1, f1⟩ := tr.num (V2 k (by omega)) (s := s') (i := k) hs10 (by rw [rneW_o (by omega)]; omega) (thenA (hW w s') (w (280 + s')).toNat (w 2) k)
          have ee : (fun p => if p = 290 + 36 * s' + 3 * k + 2 then thenA (hW w s') (w (280 + s')).toNat (w 2) k else rneW w s' (thenA (hW w s') (w (280 + s')).toNat (w 2)) k p) = rneW w s' (thenA (hW w s') (w (280 + s')).toNat (w 2)) (k + 1) := by funext p; exact rneW_succ.symm
          rw [ee] at t1
          obtain ⟨c3, fc3, ko3, z3, o3⟩ := cg.now zg f1 t1
          exact ih (k + 1) _ (by omega) c3 (fg.tr fc3) (kg.tr ko3) z3 (fun q hq => by rw [o3 _ _ (by omega)]; exact rg q hq)
      exact L (w (280 + s')).toNat 0 g2 (by omega) (by rw [rneW_zero]; exact c2) (fc.tr fc2) (ko.tr ko2) z hrow
  · cases e
    rw [if_pos rfl]; exact ref h c FrC.rf KO.rf (fun z => hs z.1)
theorem sp_isLive {h : Hp} {t : Nat} {w : Nat → Int} (a : TR h t w) (hV : V w) {k : Nat} (hk : (k : Int) < w 8) {d mc ms : Nat} {R : PR} (H : R (some (xI (if w (980 + k) < w 9 then 0 else 1))) h) : Wp m_Town_isLive 0 [some (xR t), some (xI (k : Int))] [] h d mc ms R := by
  have v8 := hV.1.2.2.2.2.2.2.2.2.1
  have hT := a.1.1
  have e1 := a.2.2.2.2 k (by omega)
  have e2 := a.1.2.2.2.2.2.2.2
  apply f_Town_isLive_0
  rw [hT.aliasLast_n, hT.aliasLast_t, Int.toNat_natCast, e1, e2]
  refine ⟨hT.tag, ⟨rfl, by omega, by show (k : Int) < 30; omega⟩, hT.tag, ?_⟩
  by_cases c : w (980 + k) < w 9
  · rw [if_pos c] at H ⊢
    exact ⟨by simp, H⟩
  · rw [if_neg c] at H ⊢
    exact ⟨by simp, H⟩
theorem rg_succ (j : Nat) : List.range' 0 (j + 1) = List.range' 0 j ++ [j] := by
  rw [List.range'_concat]; simp
theorem sp_pass {h : Hp} {t : Nat} {w : Nat → Int} (a : TR h t w) (hV : V w) {n : Int} (hn : 1 ≤ n) (hy : w 9 + n ≤ 999) {d mc ms : Nat} {R : PR} (hd : 3 ≤ d) {o2 : Option AV} (H : ∀ h', FrP (SD t) h h' → TR h' t (yearsW w n) → R none h') : Wp m_Town_pass 0 [some (xR t), some (xI n), o2] [] h d mc ms R := by
  have v8 := hV.1.2.2.2.2.2.2.2.2.1
  have v9 := hV.1.2.2.2.2.2.2.2.2.2
  have hT := a.1.1
  obtain ⟨Vy, Ay⟩ := yearsW_AL hV hn hy
  have hV1 := yrW_V hV hn hy
  apply f_Town_pass_0
  rw [a.1.2.2.2.2.2.2.2, ai_add_eq (by omega) (by omega)]
  refine ⟨hT.tag, hT.tag, fun g e => ?_⟩
  obtain ⟨t1, f1⟩ := a.yr hV n
  rw [← e] at t1 f1
  clear e
  have e8 : yrW w n 8 = w 8 := yrW_o (by omega)
  have hT1 := t1.1.1
  have n8 := t1.1.2.2.2.2.1.1
  rw [e8] at n8
  rw [hT1.aliases_n, n8]
  refine ⟨hT1.tag, hT1.aliases_a.tag, ?_⟩
  have L : ∀ (j : Nat) (g : Hp) (u : Nat → Int) (o1 : Option AV) (l2 : List Nat), l2 = (List.range' j ((w 8).toNat - j)).filter (lvB (yrW w n)) → j ≤ (w 8).toNat → FrP (SD t) h g → TR g t u → V u → AL (yrW w n) u (List.range' 0 j ++ l2) → Wp m_Town_pass 20 [some (xR t), o1, some (xI ((j : Int) - 1))] [] g d mc ms R := by
    intro j
    induction j with
    | zero =>
      intro g u o1 l2 hl hj f tr hu al
      apply f_Town_pass_20
      rw [if_pos (by omega)]
      subst hl
      refine H g f (tr.cong hu (AL.eq al ?_))
      exact Ay
    | succ j ih =>
      intro g u o1 l2 hl hj f tr hu al
      have al8 := al.1.1
      rw [rg_succ, List.append_assoc] at al
      simp only [List.length_append, List.length_range'] at al8
      have ek := (al.2.1 j (by simp only [List.length_append, List.length_range', List.length_cons, List.length_nil]; omega)).2.2
      rw [gA2 (by simp only [List.length_range']; omega)] at ek
      simp only [List.length_range', Nat.sub_self, List.singleton_append, List.getD_cons_zero] at ek
      have e9 : u 9 = yrW w n 9 := al.2.2 9 (by omega) (by omega)
      have er : (List.range' j ((w 8).toNat - j)) = j :: List.range' (j + 1) ((w 8).toNat - (j + 1)) := by
        rw [show (w 8).toNat - j = ((w 8).toNat - (j + 1)) + 1 by omega, List.range'_succ]
      apply f_Town_pass_20
      rw [show (((j + 1 : Nat) : Int) - 1) = (j : Int) by omega, if_neg (by omega), show ai_add (j : Int) (-1) = (j : Int) - 1 from by rw [ai_add_eq (by omega) (by omega)]; omega]
      refine ⟨⟨by omega, tr.1.1.tag⟩, sp_isLive tr hu (k := j) (by rw [al8]; omega) (fun v e => ?_)⟩
      have ev := xI_inj e
      clear e
      rw [ek, e9] at ev
      by_cases c : yrW w n (980 + j) < yrW w n 9
      · rw [if_pos c] at ev
        rw [if_pos ev]
        refine ⟨⟨by omega, tr.1.1.tag⟩, sp_Adrop tr hu (k := j) (by rw [al8]; omega) (by omega) (fun g2 f2 tr2 _ => ?_)⟩
        have al2 := AL.drop (l1 := List.range' 0 j) (y := j) (l2 := l2) al
        simp only [List.length_range'] at al2
        refine ih g2 _ _ l2 ?_ (by omega) (f.tr (Sal_SD f2)) tr2 (dropW_V hu (by rw [al8]; omega)) al2
        rw [er, List.filter_cons_of_neg (by unfold lvB; simp [c])]; exact hl
      · rw [if_neg c] at ev
        rw [if_neg (by omega)]
        refine ih g u _ (j :: l2) ?_ (by omega) f tr hu al
        rw [er, List.filter_cons_of_pos (by unfold lvB; simp [c]), hl]
  have := L (w 8).toNat g (yrW w n) (some (xI n)) [] (by simp) (Nat.le_refl _) f1 t1 hV1 (by rw [List.append_nil, ← e8]; exact AL.self (by rw [e8]; exact v8))
  rw [show (((w 8).toNat : Nat) : Int) - 1 = ai_sub (w 8) 1 from by rw [ai_sub_eq (by omega) (by omega)]; omega] at this
  exact this
theorem sp_cyears {h : Hp} {x : Nat} {w : Nat → Int} {b : Nat → Nat} {n : Nat} {K : List Nat} {A : Nat → Nat} {nx cnt : Nat} {U : Nat → Nat → Int} {ik : Nat → Bool} {iw : Nat → Nat → Int} (c : CS h x w b n K A nx cnt U ik iw) (hV : V w) {s : Int} {d mc ms : Nat} {R : PR} (hd : 6 ≤ d) (hmc : 23 ≤ mc) (hms : 682 ≤ ms) (H1 : (1 ≤ s ∧ s ≤ 99) → w 9 + s ≤ 999 → ∀ h' A', CS h' x (yearsW w s) b n K A' ((nx + 1) % 20) (min (cnt + 1) 20) (stU w U) ik iw → FrC h h' x → KO h h' x 5 → R (some (xI (w 9 + s))) h') (H2 : ¬ ((1 ≤ s ∧ s ≤ 99) ∧ w 9 + s ≤ 999) → ∀ h', CS h' x w b n K A nx cnt U ik iw → FrC h h' x → KO h h' x 2 → R (some (xI (-1))) h') : Wp m_S_years 0 [some (xR x), some (xI s)] [] h d mc ms R := by
  have v9 := hV.1.2.2.2.2.2.2.2.2.2
  have ref : ¬ ((1 ≤ s ∧ s ≤ 99) ∧ w 9 + s ≤ 999) → (1 ≤ d ∧ (hpT h x).1 = 11) ∧ Wp m_S_refuse 0 [some (xR x), some (xI (2 : Int))] [] h (d - 1) 0 0 (fun rv h4 => ∀ v4 : Int, rv = some (xI v4) → R (some (xI v4)) h4) := fun z => by
    refine ⟨⟨by omega, c.1.tag⟩, sp_refuse (i := 2) c.1 c.2.2.2.2.2.2.2.2.1 (by omega) (fun v e => ?_)⟩
    cases e
    obtain ⟨r1, r2⟩ := c.rf 2 (ai_add (hpC h (x + 69) 2) 1)
    exact H2 z _ r1 r2 KO.up
  apply f_S_years_0
  by_cases c1 : s < 1
  · rw [if_pos c1]; exact ref (by omega)
  rw [if_neg c1]
  by_cases c2 : 99 < s
  · rw [if_pos c2]; exact ref (by omega)
  rw [if_neg c2]
  have tr := c.2.2.2.2.2.2.1
  rw [c.1.now_n, tr.1.2.2.2.2.2.2.2, ai_add_eq (by omega) (by omega)]
  refine ⟨c.1.tag, tr.1.1.tag, ?_⟩
  by_cases c3 : 999 < w 9 + s
  · rw [if_pos c3]; exact ref (by omega)
  rw [if_neg c3]
  refine ⟨⟨by omega, by omega, by omega, c.1.tag⟩, sp_remember c hV (by omega) (fun g A' cg fc ko z _ _ => ?_)⟩
  have trg := cg.2.2.2.2.2.2.1
  rw [cg.1.now_n]
  refine ⟨cg.1.tag, ⟨by omega, trg.1.1.tag⟩, sp_pass trg hV (by omega) (by omega) (by omega) (fun g2 f2 tr2 _ => ?_)⟩
  obtain ⟨c2, fc2, ko2, _⟩ := cg.now z f2 tr2
  have e9 : yearsW w s 9 = w 9 + s := by rw [(yearsW_AL hV (by omega) (by omega)).2.2.2 9 (by omega) (by omega), yrW_9]
  rw [c2.1.now_n, tr2.1.2.2.2.2.2.2.2, e9]
  exact ⟨c2.1.tag, tr2.1.1.tag, H1 (by omega) (by omega) g2 A' c2 (fc.tr fc2) (ko.tr ko2)⟩
