/-! ===== the class reads statements: alias, house, pool ===== -/
theorem sp_Aadd0 {h : Hp} {t : Nat} {D : Nat → Int} (a : TR0 h t D) (hV : V D) (h30 : D 8 < 30) {s : Int} {v : Nat → Int} {W : Nat} (hv : wordW v 0 = W) {d mc ms : Nat} {R : PR} (hd1 : 2 ≤ d) (H : ∀ h', FrP (Sal t) h h' → TR0 h' t (nalW D v s) → R none h') : Wp m_Town_addAlias 0 [some (xR t), some (xL (W : Int)), none, some (xL ((0 : Nat) : Int)), none, some (xI s), some (xI (0 : Int))] [] h d mc ms R := by
  have v0 := hV.1.1
  have v1 := hV.1.2.1
  have v2 := hV.1.2.2.1
  have v3 := hV.1.2.2.2.1
  have v4 := hV.1.2.2.2.2.1
  have v5 := hV.1.2.2.2.2.2.1
  have v6 := hV.1.2.2.2.2.2.2.1
  have v7 := hV.1.2.2.2.2.2.2.2.1
  have v8 := hV.1.2.2.2.2.2.2.2.2.1
  have v9 := hV.1.2.2.2.2.2.2.2.2.2
  have hT := a.1
  have b3 : NW h (t + 13) D (D 8) 650 := a.2.2.2.2.1
  have h16 := a.2.2.2.2.2.1
  obtain ⟨n, hn⟩ : ∃ n : Nat, D 8 = (n : Int) := ⟨(D 8).toNat, by omega⟩
  have hc : hpC h (t + 13) 2 = (n : Int) := by rw [← hn]; exact b3.1
  have tn : (D 8).toNat = n := by omega
  apply f_Town_addAlias_0
  rw [hT.aliases_n]
  refine ⟨hT.tag, ⟨by omega, hT.aliases_a.tag⟩, sp_isFull hT.aliases_a hc (fun v e => ?_)⟩
  cases e
  rw [if_pos (show n < 30 by omega), if_pos rfl, hT.aliases_n, hT.aliasStreet_n, hT.aliasStreet_t, hc, Int.toNat_natCast]
  refine ⟨hT.tag, hT.tag, hT.aliases_a.tag, ⟨rfl, by omega, by show (n : Int) < 30; omega⟩, fun g1 e1 => ?_⟩
  have f1 : FrP (Sal t) h g1 := by subst e1; exact FrP.up (Or.inr (by omega))
  have y1 : hpC g1 (t + 16) n = s := by subst e1; rw [hpC_same]
  have o1 : ∀ q p, ¬ (q = t + 16 ∧ p = n) → hpC g1 q p = hpC h q p := fun q p hq => by subst e1; exact hpC_ne (by omega)
  clear e1
  have hT1 := hT.fd (Sal_SD f1)
  rw [hT1.aliases_n, hT1.aliasLast_n, hT1.aliasLast_t, o1 _ _ (by omega), hc, Int.toNat_natCast]
  refine ⟨hT1.tag, hT1.tag, hT1.aliases_a.tag, ⟨rfl, by omega, by show (n : Int) < 30; omega⟩, fun g2 e2 => ?_⟩
  have f2 : FrP (Sal t) h g2 := by subst e2; exact f1.tr (FrP.up (Or.inr (by omega)))
  have o2 : ∀ q p, ¬ (q = t + 17 ∧ p = n) → hpC g2 q p = hpC g1 q p := fun q p hq => by subst e2; exact hpC_ne (by omega)
  clear e2
  have hT2 := hT.fd (Sal_SD f2)
  rw [hT2.aliases_n]
  refine ⟨hT2.tag, ⟨by omega, hT2.aliases_a.tag⟩, sp_Nadd (n := n) hT2.aliases_a (by rw [o2 _ _ (by omega), o1 _ _ (by omega), hc]) (by omega) (by omega) (by omega) (fun g3 f3 c3 w3 z3 q3 _ => ?_)⟩
  have F3 : FrP (Sal t) h g3 := f2.tr (f3.wk (fun q p z => by unfold Snl at z; unfold Sal; omega))
  have E : eqC h g3 t (t + 12) := F3.eqC (fun q p h1 h2 z => by unfold Sal at z; omega)
  have E2 : eqC h g3 (t + 18) (t + 22) := F3.eqC (fun q p h1 h2 z => by unfold Sal at z; omega)
  have e8 : nalW D v s 8 = D 8 + 1 := upD_s _ _ _
  have e9 : nalW D v s (950 + n) = s := by unfold nalW; rw [upD_o (by omega), tn, upD_s]
  have L : ∀ p, p ≠ 8 → p ≠ 950 + n → (p < 650 + 10 * n ∨ 660 + 10 * n ≤ p) → nalW D v s p = D p := fun p h1 h2 h3 => by unfold nalW; rw [upD_o h1, tn, upD_o h2, ptW_o (by omega)]
  have N : ∀ i, i < 10 → nalW D v s (650 + 10 * n + i) = v i := fun i hi => by unfold nalW; rw [upD_o (by omega), tn, upD_o (by omega), ptW_n hi]
  have n8 : nalW D v s 8 = ((n + 1 : Nat) : Int) := by rw [e8]; omega
  have o16 : ∀ p, hpC g3 (t + 16) p = hpC g1 (t + 16) p := fun p => by rw [f3.2.2 _ _ (by unfold Snl; omega), o2 _ _ (by omega)]
  rw [hn] at b3
  refine H g3 F3 (TR0.al2 hV a (Sal_SD F3) (E.sub (by omega) (by omega)) E2 (E.C _ _ (by omega) (by omega)) (fun p h1 h2 => (L p h1 (by omega) (by omega)).symm) ?_ (fun q hq => ?_))
  · rw [n8]
    exact NW.add (v := v) b3 c3 w3 (fun p hp => by rw [(q3 p hp).1, o2 _ _ (by omega), o1 _ _ (by omega)]) N hv (fun q hq i hi => (L _ (by omega) (by omega) (by omega)).symm)
  · rw [n8] at hq
    rw [o16]
    by_cases e : q = n
    · subst e; rw [y1, e9]
    · rw [o1 _ _ (by omega), L _ (by omega) (by omega) (by omega)]; exact h16 q (by omega)
theorem sp_cali {h : Hp} {x : Nat} {b : Nat → Nat} {n e : Nat} {D : Nat → Int} {T G : Nat} (c : CG h x b n e D T G) (hV : V D) (h12 : D 8 ≤ 12) (k1 : kS b n e = 1) {d mc ms : Nat} {R : PR} (hd : 3 ≤ d) {o1 o2 : Option AV} (H : ∀ h' v, FrP (Scr2 x) h h' → OUTC h' x b n v (pAli b n e D T G) → R (some (xI v)) h') : Wp m_Reader_readAlias 0 [some (xR (x + 4)), o1, o2] [] h d mc ms R := by
  have v0 := hV.1.1
  have v1 := hV.1.2.1
  have v2 := hV.1.2.2.1
  have v3 := hV.1.2.2.2.1
  have v4 := hV.1.2.2.2.2.1
  have v5 := hV.1.2.2.2.2.2.1
  have v6 := hV.1.2.2.2.2.2.2.1
  have v7 := hV.1.2.2.2.2.2.2.2.1
  have v8 := hV.1.2.2.2.2.2.2.2.2.1
  have v9 := hV.1.2.2.2.2.2.2.2.2.2
  unfold pAli at H
  apply f_Reader_readAlias_0
  rw [c.1.1.draft_n, c.1.town.aliases_n, c.2.1.2.2.2.2.1.1]
  refine ⟨c.1.tag, c.1.town.tag, c.1.town.aliases_a.tag, ?_⟩
  by_cases z : D 8 = 12
  · rw [if_neg (by omega)]
    rw [if_pos z] at H
    exact sp_failsB c.1 (by decide) (by omega) (fun h' f cf => H h' 0 f ⟨rfl, cf⟩)
  rw [if_pos (by omega)]
  rw [if_neg z] at H
  refine ⟨⟨by omega, c.1.tag⟩, sp_stpG c (Or.inl k1) (by omega) (fun g1 f1 c1 _ => ?_)⟩
  refine ⟨⟨by omega, c1.1.tag⟩, sp_isNewName c1 hV (by omega) (fun nm nk v ee => ?_) (fun nm nk g2 f2 cf v ee => ?_) (fun nm g2 f2 cf v ee => ?_)⟩
  · have ev := xI_inj ee
    rw [if_pos nm, if_neg nk] at H
    unfold pAl2 at H
    rw [if_neg (by omega), c1.1.w nm]
    refine ⟨c1.1.tag, ⟨by omega, c1.1.tag⟩, sp_stpG c1 (Or.inl nm.1) (by omega) (fun g2 f2 c2 _ => ?_)⟩
    have F2 := f1.tr f2
    rw [c2.1.o]
    refine ⟨c2.1.tag, ?_⟩
    by_cases y : oS b n (tE b n (tE b n e)) = 11
    · rw [if_pos y]
      rw [if_pos y] at H
      unfold pAl3 at H
      have k2 : kS b n (tE b n (tE b n e)) = 1 := by
        by_cases q : kS b n (tE b n (tE b n e)) = 1
        · exact q
        · rw [oS_0 q] at y; omega
      refine ⟨⟨by omega, c2.1.tag⟩, sp_stpG c2 (Or.inl k2) (by omega) (fun g3 f3 c3 _ => ?_)⟩
      have F3 := F2.tr f3
      refine ⟨⟨by omega, c3.1.tag⟩, sp_isStreetName c3 hV (by omega) (fun nm3 pl v ee => ?_) (fun nm3 pl g4 f4 cf v ee => ?_) (fun nm3 g4 f4 cf v ee => ?_)⟩
      · have ev := xI_inj ee
        rw [if_pos nm3, if_neg pl] at H
        rw [if_neg (by omega), c3.1.1.draft_n, c3.1.w nm3, c3.1.town.streets_n]
        refine ⟨c3.1.tag, c3.1.tag, c3.1.town.tag, c3.1.tag, ⟨by omega, c3.1.town.streets_a.tag⟩, sp_placeOfN (W := wS b n (tE b n (tE b n (tE b n e)))) c3.1.town.streets_a c3.2.1.2.2.1 (by omega) (by omega) (fun v ee => ?_)⟩
        have ev := xI_inj ee
        rw [ev]
        refine ⟨⟨by omega, c3.1.town.tag⟩, sp_Aadd0 (v := tV b n (tE b n e)) c3.2.1 hV (by omega) (tV_ok c1.1.le nm).2 (by omega) (fun g4 f4 t4 _ => ⟨by simp, ?_⟩)⟩
        have F4 := Sal_SD f4
        refine H g4 1 (F3.tr (SD_2 F4)) ⟨rfl, _, rfl, Or.inl nm3.1, c3.up F4 t4 (c3.2.2.2.eq (fun p => f4.2.2 _ _ (by unfold Sal; omega)) ?_)⟩
        unfold nalW
        rw [upD_o (by omega), upD_o (by omega), ptW_o (by omega)]
      · have ev := xI_inj ee
        rw [if_pos nm3, if_pos pl] at H
        rw [if_pos ev]
        exact ⟨by simp, H g4 0 (F3.tr f4) ⟨rfl, cf⟩⟩
      · have ev := xI_inj ee
        rw [if_neg nm3] at H
        rw [if_pos ev]
        exact ⟨by simp, H g4 0 (F3.tr f4) ⟨rfl, cf⟩⟩
    · rw [if_neg y]
      rw [if_neg y] at H
      exact sp_failsB c2.1 (by decide) (by omega) (fun h' f cf => H h' 0 (F2.tr f) ⟨rfl, cf⟩)
  · have ev := xI_inj ee
    rw [if_pos nm, if_pos nk] at H
    rw [if_pos ev]
    exact ⟨by simp, H g2 0 (f1.tr f2) ⟨rfl, cf⟩⟩
  · have ev := xI_inj ee
    rw [if_neg nm] at H
    rw [if_pos ev]
    exact ⟨by simp, H g2 0 (f1.tr f2) ⟨rfl, cf⟩⟩
theorem sp_Hadd0 {h : Hp} {t : Nat} {w : Nat → Int} (a : TR0 h t w) (hV : V w) {s : Nat} (hs : s < 10) (hc : w (280 + s) < 12) {sd y v : Int} {d mc ms : Nat} {R : PR} (hd1 : 1 ≤ d) {o5 : Option AV} (H : ∀ h', FrP (SD t) h h' → (∀ q p, q < t + 18 → hpC h' q p = hpC h q p) → TR0 h' t (bldW w s sd y v) → R none h') : Wp m_Homes_add 0 [some (xR (t + 18)), some (xI (s : Int)), some (xI sd), some (xI y), some (xI v), o5] [] h d mc ms R := by
  have v0 := hV.1.1
  have v1 := hV.1.2.1
  have v2 := hV.1.2.2.1
  have v3 := hV.1.2.2.2.1
  have v4 := hV.1.2.2.2.2.1
  have v5 := hV.1.2.2.2.2.2.1
  have v6 := hV.1.2.2.2.2.2.2.1
  have v7 := hV.1.2.2.2.2.2.2.2.1
  have v8 := hV.1.2.2.2.2.2.2.2.2.1
  have v9 := hV.1.2.2.2.2.2.2.2.2.2
  have hT := a.1
  have hA := hT.homes_a
  have hw : HW h (t + 18) w := a.2.2.2.2.2.2.1
  have hb := hV.hs (s := s) (by omega)
  obtain ⟨c, ec⟩ : ∃ c : Nat, w (280 + s) = (c : Int) := ⟨(w (280 + s)).toNat, by omega⟩
  have h1 : hpC h (t + 18 + 1) s = (c : Int) := by rw [← ec]; exact (hw s (by omega)).1
  apply f_Homes_add_0
  rw [hA.count_n, hA.count_t, Int.toNat_natCast, h1, if_pos (by omega)]
  refine ⟨hA.tag, ⟨rfl, by omega, by show (s : Int) < 10; omega⟩, hA.tag, ⟨rfl, by omega, by show (s : Int) < 10; omega⟩, by omega, sp_slot (by omega) (by omega) (fun v1 e => ?_)⟩
  cases e
  simp (disch := omega) only [forall_eq, hpT_up, hpC_o1, hpC_o2, hA.tag, hA.count_n, hA.side_n, hA.yards_n, hA.number_n, hA.count_t, hA.side_t, hA.yards_t, hA.number_t, h1, ab_1, Int.toNat_natCast, q_lt, n_lt, q_le, n_le, q_eq, n_eq, q_nle, not_false_eq_true, not_true_eq_false, true_and, and_true, true_or, or_true, and_self, ↓reduceIte]
  refine H _ ?_ (fun q p hq => ?_) ?_
  · refine ⟨rfl, rfl, fun q p hq => ?_⟩
    unfold SD at hq
    rw [hpC_ne (by omega), hpC_ne (by omega), hpC_ne (by omega), hpC_ne (by omega)]
  · rw [hpC_o1 (by omega), hpC_o1 (by omega), hpC_o1 (by omega), hpC_o1 (by omega)]
  · refine TR0.ho2 hV a ⟨rfl, rfl, fun q p hq => ?_⟩ (fun q h1 h2 => ⟨rfl, fun p => ?_⟩) (fun p hp => (bldW_o (by omega) (by omega)).symm) (fun q hq => ?_)
    · unfold SD at hq
      rw [hpC_ne (by omega), hpC_ne (by omega), hpC_ne (by omega), hpC_ne (by omega)]
    · rw [hpC_o1 (by omega), hpC_o1 (by omega), hpC_o1 (by omega), hpC_o1 (by omega)]
    · obtain ⟨k1, k2⟩ := hw q hq
      have tn : (w (280 + s)).toNat = c := by omega
      obtain ⟨n1, n2, n3⟩ := bldW_n (w := w) (s := s) (by omega) (sd := sd) (y := y) (v := v)
      rw [tn] at n1 n2 n3
      by_cases e : q = s
      · subst e
        refine ⟨by rw [hpC_same, bldW_c]; omega, fun i hi => ?_⟩
        rw [bldW_c] at hi
        by_cases ei : i = c
        · subst ei
          refine ⟨?_, ?_, ?_⟩ <;> simp (disch := omega) only [hpC_o1, hpC_o2, hpC_same, n1, n2, n3]
        · obtain ⟨z1, z2, z3⟩ := k2 i (by omega)
          refine ⟨?_, ?_, ?_⟩
          · simp (disch := omega) only [hpC_o1, hpC_o2, bldW_o]; exact z1
          · simp (disch := omega) only [hpC_o1, hpC_o2, bldW_o]; exact z2
          · simp (disch := omega) only [hpC_o1, hpC_o2, bldW_o]; exact z3
      · have hbq := hV.hs (s := q) hq
        refine ⟨by simp (disch := omega) only [hpC_o1, hpC_o2, bldW_o]; exact k1, fun i hi => ?_⟩
        rw [bldW_o (by omega) (by omega)] at hi
        obtain ⟨z1, z2, z3⟩ := k2 i hi
        refine ⟨?_, ?_, ?_⟩
        · simp (disch := omega) only [hpC_o1, hpC_o2, bldW_o]; exact z1
        · simp (disch := omega) only [hpC_o1, hpC_o2, bldW_o]; exact z2
        · simp (disch := omega) only [hpC_o1, hpC_o2, bldW_o]; exact z3
theorem sp_cho3 {h : Hp} {x : Nat} {b : Nat → Nat} {n e : Nat} {D : Nat → Int} {T G : Nat} (c : CG h x b n e D T G) (hV : V D) (k1 : kS b n e = 1) {s : Nat} (hs : (s : Int) < D 7) (hc : D (280 + s) < 12) {sd : Int} {d mc ms : Nat} {R : PR} (hd : 3 ≤ d) {o2 o3 o4 : Option AV} (H : ∀ h' v, FrP (Scr2 x) h h' → OUTC h' x b n v (pHo3 b n (tE b n e) D T G s sd) → R (some (xI v)) h') : Wp m_Reader_readHouse 93 [some (xR (x + 4)), some (xI (s : Int)), o2, o3, o4] [xI sd] h d mc ms R := by
  have v0 := hV.1.1
  have v1 := hV.1.2.1
  have v2 := hV.1.2.2.1
  have v3 := hV.1.2.2.2.1
  have v4 := hV.1.2.2.2.2.1
  have v5 := hV.1.2.2.2.2.2.1
  have v6 := hV.1.2.2.2.2.2.2.1
  have v7 := hV.1.2.2.2.2.2.2.2.1
  have v8 := hV.1.2.2.2.2.2.2.2.2.1
  have v9 := hV.1.2.2.2.2.2.2.2.2.2
  have hb := hV.hs (s := s) (by omega)
  unfold pHo3 at H
  apply f_Reader_readHouse_93
  refine ⟨⟨by omega, c.1.tag⟩, sp_stpG c (Or.inl k1) (by omega) (fun g1 f1 c1 _ => ?_)⟩
  refine ⟨⟨by omega, c1.1.tag⟩, sp_isNumber c1.1 (by omega) (fun nu v ee => ?_) (fun nu g3 f3 cf v ee => ?_)⟩
  · have ev := xI_inj ee
    rw [if_neg (by omega)]
    rw [if_pos nu] at H
    refine ⟨⟨by omega, c1.1.tag⟩, sp_cnumber c1.1 nu (fun v ee => ?_)⟩
    have ev := xI_inj ee
    rw [ev, c1.1.1.draft_n, c1.1.town.homes_n]
    clear ev ee
    refine ⟨c1.1.tag, c1.1.town.tag, ⟨by omega, c1.1.town.homes_a.tag⟩, sp_isTaken c1.1.town.homes_a c1.2.1.2.2.2.2.2.2.1 (by omega) hb (by omega) (fun v ee => ?_)⟩
    have ev := xI_inj ee
    clear ee
    by_cases z : stW D s sd (nuV b n (tE b n e)) (D (280 + s)).toNat 0 = -1
    · rw [if_pos z] at ev H
      rw [if_pos ev]
      unfold pHo4 at H
      refine ⟨⟨by omega, c1.1.tag⟩, sp_stpG c1 (Or.inr (Or.inl nu.1)) (by omega) (fun g2 f2 c2 _ => ?_)⟩
      have F2 := f1.tr f2
      refine ⟨⟨by omega, c2.1.tag⟩, sp_isNumber c2.1 (by omega) (fun nu2 v ee => ?_) (fun nu2 g3 f3 cf v ee => ?_)⟩
      · have ev := xI_inj ee
        rw [if_neg (by omega)]
        rw [if_pos nu2] at H
        refine ⟨⟨by omega, c2.1.tag⟩, sp_cnumber c2.1 nu2 (fun v ee => ?_)⟩
        have ev := xI_inj ee
        clear ee
        by_cases y : v < 1
        · rw [if_pos y]
          rw [if_neg (by omega)] at H
          exact sp_failsB c2.1 (by decide) (by omega) (fun h' f cf => H h' 0 (F2.tr f) ⟨rfl, cf⟩)
        rw [if_neg y]
        by_cases u : 999 < v
        · rw [if_pos u]
          rw [if_neg (by omega)] at H
          exact sp_failsB c2.1 (by decide) (by omega) (fun h' f cf => H h' 0 (F2.tr f) ⟨rfl, cf⟩)
        rw [if_neg u, c2.1.1.draft_n, c2.1.town.homes_n]
        rw [if_pos (by omega)] at H
        refine ⟨c2.1.tag, c2.1.town.tag, ⟨by omega, c2.1.town.homes_a.tag⟩, sp_Hadd0 c2.2.1 hV (by omega) hc (by omega) (fun g3 f3 n3 t3 _ => ⟨by simp, ?_⟩)⟩
        rw [ev] at t3
        refine H g3 1 (F2.tr (SD_2 f3)) ⟨rfl, _, rfl, Or.inr nu2.1, c2.up f3 t3 (c2.2.2.2.eq (fun p => n3 _ _ (by omega)) ?_)⟩
        rw [bldW_o (by omega) (by omega)]
      · have ev := xI_inj ee
        rw [if_neg nu2] at H
        rw [if_pos ev]
        exact ⟨by simp, H g3 0 (F2.tr f3) ⟨rfl, cf⟩⟩
    · rw [if_neg z] at ev H
      rw [if_neg (by omega)]
      exact sp_failsB c1.1 (by decide) (by omega) (fun h' f cf => H h' 0 (f1.tr f) ⟨rfl, cf⟩)
  · have ev := xI_inj ee
    rw [if_neg nu] at H
    rw [if_pos ev]
    exact ⟨by simp, H g3 0 (f1.tr f3) ⟨rfl, cf⟩⟩
theorem sp_chou {h : Hp} {x : Nat} {b : Nat → Nat} {n e : Nat} {D : Nat → Int} {T G : Nat} (c : CG h x b n e D T G) (hV : V D) (k1 : kS b n e = 1) {d mc ms : Nat} {R : PR} (hd : 3 ≤ d) {o1 o2 o3 o4 : Option AV} (H : ∀ h' v, FrP (Scr2 x) h h' → OUTC h' x b n v (pHou b n e D T G) → R (some (xI v)) h') : Wp m_Reader_readHouse 0 [some (xR (x + 4)), o1, o2, o3, o4] [] h d mc ms R := by
  have v0 := hV.1.1
  have v1 := hV.1.2.1
  have v2 := hV.1.2.2.1
  have v3 := hV.1.2.2.2.1
  have v4 := hV.1.2.2.2.2.1
  have v5 := hV.1.2.2.2.2.2.1
  have v6 := hV.1.2.2.2.2.2.2.1
  have v7 := hV.1.2.2.2.2.2.2.2.1
  have v8 := hV.1.2.2.2.2.2.2.2.2.1
  have v9 := hV.1.2.2.2.2.2.2.2.2.2
  unfold pHou at H
  apply f_Reader_readHouse_0
  refine ⟨⟨by omega, c.1.tag⟩, sp_stpG c (Or.inl k1) (by omega) (fun g1 f1 c1 _ => ?_)⟩
  refine ⟨⟨by omega, c1.1.tag⟩, sp_isStreetName c1 hV (by omega) (fun nm pl v ee => ?_) (fun nm pl g4 f4 cf v ee => ?_) (fun nm g4 f4 cf v ee => ?_)⟩
  · have ev := xI_inj ee
    rw [if_pos nm, if_neg pl] at H
    rw [if_neg (by omega), c1.1.1.draft_n, c1.1.w nm, c1.1.town.streets_n]
    refine ⟨c1.1.tag, c1.1.town.tag, c1.1.tag, ⟨by omega, c1.1.town.streets_a.tag⟩, sp_placeOfN (W := wS b n (tE b n e)) c1.1.town.streets_a c1.2.1.2.2.1 (by omega) (by omega) (fun v ee => ?_)⟩
    have ev := xI_inj ee
    clear ee
    obtain ⟨s, hs1, hs2, _⟩ := plW_bd pl
    rw [hs1] at ev H
    rw [Int.toNat_natCast] at H
    have hw := (c1.2.1.2.2.2.2.2.2.1 s (by omega)).1
    have hb := hV.hs (s := s) (by omega)
    rw [ev, Int.toNat_natCast, c1.1.1.draft_n, c1.1.town.homes_n, c1.1.town.homes_a.count_n, c1.1.town.homes_a.count_t, hw]
    refine ⟨c1.1.tag, c1.1.town.tag, c1.1.town.homes_a.tag, ⟨rfl, by omega, by show (s : Int) < 10; omega⟩, ?_⟩
    by_cases z : D (280 + s) = 12
    · rw [if_pos z] at H
      rw [if_neg (by omega)]
      exact sp_failsB c1.1 (by decide) (by omega) (fun h' f cf => H h' 0 (f1.tr f) ⟨rfl, cf⟩)
    rw [if_neg z] at H
    rw [if_pos (by omega)]
    unfold pHo2 at H
    refine ⟨⟨by omega, c1.1.tag⟩, sp_stpG c1 (Or.inl nm.1) (by omega) (fun g2 f2 c2 _ => ?_)⟩
    have F2 := f1.tr f2
    have k2 : oS b n (tE b n (tE b n e)) = 8 ∨ oS b n (tE b n (tE b n e)) = 9 → kS b n (tE b n (tE b n e)) = 1 := fun y => by
      by_cases q : kS b n (tE b n (tE b n e)) = 1
      · exact q
      · rw [oS_0 q] at y; omega
    rw [c2.1.o]
    refine ⟨c2.1.tag, ?_⟩
    by_cases y8 : oS b n (tE b n (tE b n e)) = 8
    · rw [if_pos (Or.inl y8), y8] at H
      rw [if_pos y8, if_pos y8]
      exact ⟨c2.1.tag, sp_cho3 c2 hV (k2 (Or.inl y8)) hs2 (by omega) (by omega) (fun h' v f ou => H h' v (F2.tr f) ou)⟩
    rw [if_neg y8]
    refine ⟨c2.1.tag, ?_⟩
    by_cases y9 : oS b n (tE b n (tE b n e)) = 9
    · rw [if_pos (Or.inr y9), y9] at H
      rw [if_pos y9, if_neg y8]
      exact ⟨c2.1.tag, sp_cho3 c2 hV (k2 (Or.inr y9)) hs2 (by omega) (by omega) (fun h' v f ou => H h' v (F2.tr f) ou)⟩
    rw [if_neg (by omega)] at H
    rw [if_neg y9]
    exact sp_failsB c2.1 (by decide) (by omega) (fun h' f cf => H h' 0 (F2.tr f) ⟨rfl, cf⟩)
  · have ev := xI_inj ee
    rw [if_pos nm, if_pos pl] at H
    rw [if_pos ev]
    exact ⟨by simp, H g4 0 (f1.tr f4) ⟨rfl, cf⟩⟩
  · have ev := xI_inj ee
    rw [if_neg nm] at H
    rw [if_pos ev]
    exact ⟨by simp, H g4 0 (f1.tr f4) ⟨rfl, cf⟩⟩
/-- the pool; the sign that ends it is read, too -/
def OUTP (h : Hp) (x : Nat) (b : Nat → Nat) (n : Nat) (v : Int) : PO → Prop
  | .inl (f, p) => v = 0 ∧ CF h x b n f p
  | .inr (e', D', T', G') => v = 1 ∧ ∃ e1, tS b n e1 = e' ∧ kS b n e1 = 3 ∧ CG h x b n e1 D' T' G'
theorem sp_cpo26 {h : Hp} {x : Nat} {b : Nat → Nat} {n : Nat} {T G : Nat} {d mc ms : Nat} {R : PR} (hd : 3 ≤ d) : ∀ (f i e : Nat) (D : Nat → Int) (g : Hp), f + i = 13 → V D → (i : Int) ≤ D 6 → FrP (Scr2 x) h g → CG g x b n e D T G → (i = 0 → tR b n e = 1) → (∀ h' v, FrP (Scr2 x) h h' → OUTP h' x b n v (pPoF b n T G f e D) → R (some (xI v)) h') → kS b n e ≠ 3 → Wp m_Reader_readPool 26 [some (xR (x + 4)), some (xI (i : Int))] [] g d mc ms R
  | 0, i, e, D, g, hf, hV, hi, _, _, _, _, _ => by
    have := hV.1.2.2.2.2.2.2.1
    omega
  | f + 1, i, e, D, g, hf, hV, hi, fr, c, h0, H, k3 => by
    have v0 := hV.1.1
    have v1 := hV.1.2.1
    have v2 := hV.1.2.2.1
    have v3 := hV.1.2.2.2.1
    have v4 := hV.1.2.2.2.2.1
    have v5 := hV.1.2.2.2.2.2.1
    have v6 := hV.1.2.2.2.2.2.2.1
    have v7 := hV.1.2.2.2.2.2.2.2.1
    have v8 := hV.1.2.2.2.2.2.2.2.2.1
    have v9 := hV.1.2.2.2.2.2.2.2.2.2
    simp only [pPoF] at H
    rw [if_neg k3] at H
    obtain ⟨k, hk⟩ : ∃ k : Nat, D 6 = (k : Int) := ⟨(D 6).toNat, by omega⟩
    have hc : hpC g (x + 5 + 10) 2 = (k : Int) := by rw [← hk]; exact c.2.1.2.2.2.1.1
    apply f_Reader_readPool_26
    refine ⟨⟨by omega, c.1.tag⟩, sp_isNewName c hV (by omega) (fun nm nk v ee => ?_) (fun nm nk g2 f2 cf v ee => ?_) (fun nm g2 f2 cf v ee => ?_)⟩
    · have ev := xI_inj ee
      rw [if_pos nm, if_neg nk] at H
      rw [if_neg (by omega), c.1.1.draft_n, c.1.town.pool_n]
      refine ⟨c.1.tag, c.1.town.tag, ⟨by omega, c.1.town.pool_a.tag⟩, sp_isFull c.1.town.pool_a hc (fun v ee => ?_)⟩
      have ev := xI_inj ee
      by_cases z : D 6 = 12
      · rw [if_pos z] at H
        rw [if_neg (by omega)] at ev
        rw [if_neg (by omega)]
        exact sp_failsB c.1 (by decide) (by omega) (fun h' f cf => H h' 0 (fr.tr f) ⟨rfl, cf⟩)
      · rw [if_neg z] at H
        rw [if_pos (by omega)] at ev
        rw [if_pos ev, c.1.1.draft_n, c.1.w nm, c.1.town.pool_n]
        refine ⟨c.1.tag, c.1.town.tag, c.1.tag, ⟨by omega, c.1.town.pool_a.tag⟩, sp_Nadd (n := k) c.1.town.pool_a hc (by omega) (by omega) (by omega) (fun g2 f2 q1 q2 q3 q4 _ => ?_)⟩
        have F : FrP (SD (x + 5)) g g2 := f2.wk (fun q p z => by unfold Snl at z; unfold SD; omega)
        have hv := tV_ok c.1.le nm
        have e6 : npW D (tV b n e) 6 = D 6 + 1 := upD_s _ _ _
        have V2 := npW_V hV hv.1 (by omega)
        have c2 : CG g2 x b n e (npW D (tV b n e)) T G := by
          refine c.up F (TR0.po2 hV c.2.1 F (f2.eqC (fun q p h1 h2 z => by unfold Snl at z; omega)) (f2.eqC (fun q p h1 h2 z => by unfold Snl at z; omega)) (f2.2.2 _ _ (by unfold Snl; omega)) (fun p h1 h2 => ?_) ?_) (c.2.2.2.eq (fun p => f2.2.2 _ _ (by unfold Snl; omega)) ?_)
          · unfold npW; rw [upD_o h1, ptW_o (by omega)]
          · rw [e6]
            have a3 := c.2.1.2.2.2.1
            rw [hk] at a3 ⊢
            exact NW.add (v := tV b n e) a3 q1 q2 (fun p hp => (q4 p hp).1) (fun i hi => by unfold npW; rw [upD_o (by omega), hk, Int.toNat_natCast, ptW_n hi]) hv.2 (fun q hq i hi => by unfold npW; rw [upD_o (by omega), ptW_o (by omega)])
          · unfold npW; rw [upD_o (by omega), ptW_o (by omega)]
        have fr2 := fr.tr (SD_2 F)
        rw [ab_1 (by omega)]
        apply f_Reader_readPool_2
        rw [if_neg (by omega)]
        refine ⟨⟨by omega, c2.1.tag⟩, sp_stpG c2 (Or.inl nm.1) (by omega) (fun g3 f3 c3 _ => ?_)⟩
        rw [if_pos (by omega), c3.1.k]
        refine ⟨c3.1.tag, ?_⟩
        have fr3 := fr2.tr f3
        by_cases y : kS b n (tE b n e) = 3
        · rw [if_pos y]
          refine ⟨by simp, H g3 1 fr3 ?_⟩
          have f0 : f ≠ 0 := by omega
          obtain ⟨f', rfl⟩ : ∃ f', f = f' + 1 := ⟨f - 1, by omega⟩
          simp only [pPoF]
          rw [if_pos y]
          exact ⟨rfl, _, rfl, y, c3⟩
        · rw [if_neg y]
          exact sp_cpo26 hd f (i + 1) (tE b n e) _ g3 (by omega) V2 (by rw [e6]; omega) fr3 c3 (fun z => by omega) H y
    · have ev := xI_inj ee
      rw [if_pos nm, if_pos nk] at H
      rw [if_pos ev]
      exact ⟨by simp, H g2 0 (fr.tr f2) ⟨rfl, cf⟩⟩
    · have ev := xI_inj ee
      rw [if_neg nm] at H
      rw [if_pos ev]
      exact ⟨by simp, H g2 0 (fr.tr f2) ⟨rfl, cf⟩⟩
theorem sp_cpoo {h : Hp} {x : Nat} {b : Nat → Nat} {n e : Nat} {D : Nat → Int} {T G : Nat} (c : CG h x b n e D T G) (hV : V D) (k1 : kS b n e = 1) {d mc ms : Nat} {R : PR} (hd : 3 ≤ d) {o1 : Option AV} (H : ∀ h' v, FrP (Scr2 x) h h' → OUTP h' x b n v (pPoo b n e D T G) → R (some (xI v)) h') : Wp m_Reader_readPool 0 [some (xR (x + 4)), o1] [] h d mc ms R := by
  have v0 := hV.1.1
  have v1 := hV.1.2.1
  have v2 := hV.1.2.2.1
  have v3 := hV.1.2.2.2.1
  have v4 := hV.1.2.2.2.2.1
  have v5 := hV.1.2.2.2.2.2.1
  have v6 := hV.1.2.2.2.2.2.2.1
  have v7 := hV.1.2.2.2.2.2.2.2.1
  have v8 := hV.1.2.2.2.2.2.2.2.2.1
  have v9 := hV.1.2.2.2.2.2.2.2.2.2
  unfold pPoo at H
  apply f_Reader_readPool_0
  apply f_Reader_readPool_2
  rw [if_neg (by decide)]
  refine ⟨⟨by omega, c.1.tag⟩, sp_stpG c (Or.inl k1) (by omega) (fun g f c1 _ => ?_)⟩
  rw [if_neg (by decide)]
  by_cases z : tR b n (tE b n e) = 1
  · rw [if_pos z] at H
    exact sp_cpo26 (h := h) hd 13 0 (tE b n e) D g (by omega) hV (by omega) f c1 (fun _ => z) H (fun y => by have := kS_3.1 y; omega)
  · rw [if_neg z] at H
    have nn : ¬ nmS b n (tE b n e) := fun y => z (kS_1.1 y.1).1
    apply f_Reader_readPool_26
    refine ⟨⟨by omega, c1.1.tag⟩, sp_isNewName c1 hV (by omega) (fun nm nk v ee => absurd nm nn) (fun nm nk g2 f2 cf v ee => absurd nm nn) (fun nm g2 f2 cf v ee => ?_)⟩
    have ev := xI_inj ee
    rw [if_pos ev]
    exact ⟨by simp, H g2 0 (f.tr f2) ⟨rfl, cf⟩⟩
