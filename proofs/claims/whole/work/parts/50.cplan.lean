/-! ===== the class's plan ===== -/
def lbit (v : Int) (b : Nat) : Bool := (BitVec.ofInt 64 v).getLsbD b
theorem lbit_zero (b : Nat) : lbit 0 b = false := by unfold lbit; simp
theorem lbit_get {v : Int} {b : Nat} (hb : b < 64) : al_cmp (al_and (al_shr v (b : Int)) ((1 : Nat) : Int)) ((1 : Nat) : Int) = 0 ↔ lbit v b = true := by
  rw [al_cmp_eq]
  unfold al_and al_shr lbit
  rw [Int64.ofInt_toInt]
  have e : (Int64.ofInt v >>> ((Int32.ofInt (b : Int)).toInt64 &&& 63)).toBitVec = (BitVec.ofInt 64 v).sshiftRight b := by
    rw [Int64.toBitVec_shiftRight, BitVec.sshiftRight_eq', al_sh_ok b hb, Int64.toBitVec_ofInt]
  rw [← Int64.toInt_toBitVec, Int64.toBitVec_and, e, show (Int64.ofInt ((1 : Nat) : Int)).toBitVec = 1#64 from by decide, BitVec.and_one_eq_setWidth_ofBool_getLsbD, BitVec.getLsbD_sshiftRight, if_pos (show b + 0 < 64 by omega), Nat.add_zero]
  cases (BitVec.ofInt 64 v).getLsbD b <;> decide
theorem lbit_or {v : Int} {b c : Nat} (hb : b < 64) (hc : c < 64) : lbit (al_or v (al_shl ((1 : Nat) : Int) (b : Int))) c = (lbit v c || decide (c = b)) := by
  unfold al_or al_shl lbit
  rw [Int64.ofInt_toInt]
  have e0 : ∀ y : Int64, BitVec.ofInt 64 y.toInt = y.toBitVec := fun y => by rw [← Int64.toBitVec_ofInt, Int64.ofInt_toInt]
  rw [e0, Int64.toBitVec_or, BitVec.getLsbD_or, Int64.toBitVec_ofInt, Int64.toBitVec_shiftLeft, BitVec.shiftLeft_eq', al_sh_ok b hb, show (Int64.ofInt ((1 : Nat) : Int)).toBitVec = 1#64 from by decide, BitVec.getLsbD_shiftLeft, BitVec.getLsbD_one]
  congr 1
  by_cases z : c = b
  · subst z; simp [hc]
  · rw [decide_eq_false z]
    by_cases y : c < b
    · simp [y]
    · have : ¬ c - b = 0 := by omega
      simp [this]
theorem div64 {u : Nat} (hu : u < 4096) : ai_div (u : Int) 64 = ((u / 64 : Nat) : Int) := by
  rw [ai_div_eq (by omega) (by omega) (by omega) (by omega)]; omega
theorem rem64 {u : Nat} (hu : u < 4096) : ai_rem (u : Int) 64 = ((u % 64 : Nat) : Int) := by
  rw [ai_rem_eq (by omega) (by omega) (by omega) (by omega)]; omega
/-! takers -/
def tkC (h : Hp) (r : Nat) (w : Nat → Int) : Prop := ∀ k : Nat, (k : Int) < w 6 → ∃ X : Nat, X < 1024 ∧ hpC h (r + 3) k = (X : Int) ∧ ∀ s, s < (w 7).toNat → X.testBit s = mayW w s k
def rvC (h : Hp) (r : Nat) (w : Nat → Int) : Prop := ∀ k : Nat, (k : Int) < w 6 → ∃ X : Nat, X < 4096 ∧ hpC h (r + 4) k = (X : Int) ∧ ∀ x, x < (w 6).toNat → X.testBit x = rvW w k x
theorem mayW_iff {w : Nat → Int} {s k : Nat} : mayW w s k = true ↔ plW w 180 (w 7) (wordW w (60 + 10 * k)) = -1 ∧ (∀ t, t < (w 7).toNat → 0 < alW w (60 + 10 * k) (180 + 10 * t) → t = s) ∧ ∀ b, b < (w 8).toNat → (¬ w (980 + b) < w 9 ∧ 0 < alW w (60 + 10 * k) (650 + 10 * b)) → w (950 + b) = (s : Int) := by
  unfold mayW laW llW
  rw [decide_eq_true_eq, fst1_none, fst1_none]
  constructor
  · rintro ⟨h1, h2, h3⟩
    refine ⟨h1, fun t ht al => ?_, fun b hb al => ?_⟩
    · have := of_decide_eq_false (h2 t (by omega) (by omega))
      apply Classical.byContradiction
      intro z
      exact this ⟨by omega, al⟩
    · have := of_decide_eq_false (h3 b (by omega) (by omega))
      apply Classical.byContradiction
      intro z
      exact this ⟨al.1, z, al.2⟩
  · rintro ⟨h1, h2, h3⟩
    refine ⟨h1, fun t _ ht => decide_eq_false (fun z => ?_), fun b _ hb => decide_eq_false (fun z => ?_)⟩
    · have := h2 t (by omega) z.2
      exact z.1 (by omega)
    · exact z.2.1 (h3 b (by omega) ⟨z.1, z.2.2⟩)
theorem one_bit (X s t : Nat) : (X &&& 2 ^ s).testBit t = (X.testBit t && decide (t = s)) := by
  rw [Nat.testBit_and, Nat.testBit_two_pow]
  by_cases c : s = t
  · subst c; simp
  · simp [c, show ¬ t = s from fun z => c z.symm]
theorem sp_learnTakers {h : Hp} {r t : Nat} {w : Nat → Int} (pl : plAt h r) (a : TR h t w) (hV : V w) (hx : r + 6 ≤ t) (h4 : hpC h r 4 = w 7) (h5 : hpC h r 5 = w 6) {d mc ms : Nat} {R : PR} (hd : 5 ≤ d) {o2 o3 o4 o5 : Option AV} (H : ∀ h', FrP (fun q _ => q = r + 3) h h' → tkC h' r w → R none h') : Wp m_Planner_learnTakers 0 [some (xR r), some (xR t), o2, o3, o4, o5] [] h d mc ms R := by
  have v0 := hV.1.1
  have v1 := hV.1.2.1
  have v2 := hV.1.2.2.1
  have v3 := hV.1.2.2.2.1
  have v4 := hV.1.2.2.2.2.1
  have v5 := hV.1.2.2.2.2.2.1
  have v6 := hV.1.2.2.2.2.2.2.1
  have v7 := hV.1.2.2.2.2.2.2.2.1
  have v8 := hV.1.2.2.2.2.2.2.2.2.1
  have v9 := hV.1.2.2.2.2.2.2.2.2.2
  have p10 : 2 ^ (w 7).toNat ≤ 1024 := Nat.pow_le_pow_right (n := 2) (by decide) (show (w 7).toNat ≤ 10 by omega)
  have pp : 0 < 2 ^ (w 7).toNat := Nat.pow_pos (by decide)
  have e7 : w 7 = ((w 7).toNat : Int) := by omega
  have es : ai_sub (ai_shl 1 (w 7)) 1 = ((2 ^ (w 7).toNat - 1 : Nat) : Int) := by
    rw [e7, ai_shl_one _ (by omega), ← e7, as_1 (by omega) (by omega)]
  have F : ∀ g, FrP (fun q _ => q = r + 3) h g → plAt g r ∧ TR g t w ∧ hpC g r 4 = w 7 ∧ hpC g r 5 = w 6 := fun g f => ⟨pl.fr (f.wk (fun q p z => Or.inr (by omega))), a.eq (f.eqC (fun q p h1 h2 z => by omega)), by rw [f.2.2 _ _ (by omega)]; exact h4, by rw [f.2.2 _ _ (by omega)]; exact h5⟩
  apply f_Planner_learnTakers_0
  have L : ∀ (j k : Nat) (g : Hp) (o3 o4 o5 : Option AV), ((k + j : Nat) : Int) = w 6 → FrP (fun q _ => q = r + 3) h g → (∀ u : Nat, u < k → ∃ X : Nat, X < 1024 ∧ hpC g (r + 3) u = (X : Int) ∧ ∀ s, s < (w 7).toNat → X.testBit s = mayW w s u) → Wp m_Planner_learnTakers 2 [some (xR r), some (xR t), some (xI (k : Int)), o3, o4, o5] [] g d mc ms R := by
    intro j
    induction j with
    | zero =>
      intro k g o3 o4 o5 hk f c
      obtain ⟨pl, a, h4, h5⟩ := F g f
      apply f_Planner_learnTakers_2
      rw [h5, if_neg (by omega)]
      exact ⟨pl.tag, H g f (fun u hu => c u (by omega))⟩
    | succ j ih =>
      intro k g o3 o4 o5 hk f c
      obtain ⟨pl, a, h4, h5⟩ := F g f
      have hT := a.1.1
      have hR := a.1.2.1
      have b1 := a.1.2.2.1
      have b2 := a.1.2.2.2.1
      have b3 := a.1.2.2.2.2.1
      have hw := a.1.2.2.2.2.2.2.1
      have h7 := a.1.2.2.2.2.2.2.2
      have h16 := a.1.2.2.2.2.2.1
      have okk := hV.2.2.2.1 k (by omega)
      have put : ∀ (X : Nat) (o3 o4 o5 : Option AV), X < 1024 → (∀ s, s < (w 7).toNat → X.testBit s = mayW w s k) → Wp m_Planner_learnTakers 2 [some (xR r), some (xR t), some (xI ((k + 1 : Nat) : Int)), o3, o4, o5] [] (hpU g (r + 3) k (X : Int)) d mc ms R := fun X o3 o4 o5 hX hb => by
        refine ih (k + 1) _ _ _ _ (by omega) (f.tr (FrP.up rfl)) (fun u hu => ?_)
        by_cases e : u = k
        · subst e; exact ⟨X, hX, by rw [hpC_same], hb⟩
        · rw [hpC_ne (Or.inr e)]; exact c u (by omega)
      have A : ∀ (i b X : Nat) (o3 : Option AV), ((b + i : Nat) : Int) = w 8 → X < 1024 → (∀ s, s < (w 7).toNat → (X.testBit s = true ↔ plW w 180 (w 7) (wordW w (60 + 10 * k)) = -1 ∧ (∀ t, t < (w 7).toNat → 0 < alW w (60 + 10 * k) (180 + 10 * t) → t = s) ∧ ∀ b', b' < b → (¬ w (980 + b') < w 9 ∧ 0 < alW w (60 + 10 * k) (650 + 10 * b')) → w (950 + b') = (s : Int))) → Wp m_Planner_learnTakers 107 [some (xR r), some (xR t), some (xI (k : Int)), o3, some (xI (X : Int)), some (xI (b : Int))] [] g d mc ms R := by
        intro i
        induction i with
        | zero =>
          intro b X o3 hb hX q
          apply f_Planner_learnTakers_107
          rw [hT.aliases_n, b3.1, if_neg (by omega), pl.takers_n, pl.takers_t, Int.toNat_natCast, ab_1 (by omega)]
          refine ⟨hT.tag, hT.aliases_a.tag, pl.tag, ⟨rfl, by omega, by show (k : Int) < 12; omega⟩, fun g1 e1 => ?_⟩
          subst e1
          refine put X _ _ _ hX (fun s hs => ?_)
          have := q s hs
          rw [show b = (w 8).toNat by omega, ← mayW_iff] at this
          rw [Bool.eq_iff_iff]; exact this
        | succ i ih2 =>
          intro b X o3 hb hX q
          apply f_Planner_learnTakers_107
          rw [hT.aliases_n, b3.1, if_pos (by omega), pl.takers_n, pl.takers_t, Int.toNat_natCast, ab_1 (by omega), ab_1 (by omega)]
          refine ⟨hT.tag, hT.aliases_a.tag, ?_⟩
          by_cases c0 : X = 0
          · rw [if_pos (by omega)]
            refine ⟨pl.tag, ⟨rfl, by omega, by show (k : Int) < 12; omega⟩, fun g1 e1 => ?_⟩
            subst e1
            refine put X _ _ _ hX (fun s hs => ?_)
            rw [c0, Nat.zero_testBit]
            cases e : mayW w s k with
            | false => rfl
            | true =>
              rw [mayW_iff] at e
              have := (q s hs).mpr ⟨e.1, e.2.1, fun b' hb' => e.2.2 b' (by omega)⟩
              rw [c0, Nat.zero_testBit] at this; exact this
          · rw [if_neg (by omega)]
            have stay : ¬ (¬ w (980 + b) < w 9 ∧ 0 < alW w (60 + 10 * k) (650 + 10 * b)) → ∀ o3 : Option AV, Wp m_Planner_learnTakers 107 [some (xR r), some (xR t), some (xI (k : Int)), o3, some (xI (X : Int)), some (xI ((b + 1 : Nat) : Int))] [] g d mc ms R := fun z o3 => by
              refine ih2 (b + 1) X _ (by omega) hX (fun s hs => ?_)
              rw [q s hs]
              constructor
              · rintro ⟨q1, q2, q3⟩
                refine ⟨q1, q2, fun b' hb' al => ?_⟩
                by_cases e : b' = b
                · subst e; exact absurd al z
                · exact q3 b' (by omega) al
              · rintro ⟨q1, q2, q3⟩
                exact ⟨q1, q2, fun b' hb' => q3 b' (by omega)⟩
            refine ⟨⟨by omega, hT.tag⟩, sp_cLive a hV (by omega) (fun v e => ?_)⟩
            cases e
            by_cases c1 : w (980 + b) < w 9
            · rw [if_pos c1, if_pos rfl]; exact stay (fun z => z.1 c1) _
            · rw [if_neg c1, if_neg (by decide), hT.pool_n, hT.aliases_n]
              refine ⟨hT.tag, hT.tag, ⟨by omega, hT.tag⟩, sp_areAlike hT hR.1 hV hT.pool_a hT.aliases_a b2 b3 a.2.2.1 a.2.2.2.1 (by omega) (by omega) (by omega) (by omega) okk (hV.2.2.2.2.2.1 b (by omega)) (by omega) (fun v e => ?_)⟩
              cases e
              by_cases c2 : 0 < alW w (60 + 10 * k) (650 + 10 * b)
              · have v9' := (hV.2.2.2.2.2.2.2 b (by omega)).1
                obtain ⟨y, hy⟩ : ∃ y : Nat, w (950 + b) = (y : Int) := ⟨(w (950 + b)).toNat, by omega⟩
                have py : 2 ^ y ≤ 512 := Nat.pow_le_pow_right (n := 2) (by decide) (show y ≤ 9 by omega)
                rw [if_pos c2, if_neg (by decide), hT.aliasStreet_n, hT.aliasStreet_t, Int.toNat_natCast, h16 b (by omega), hy, ai_shl_one y (by omega), ai_and_nat (by omega) (by omega)]
                refine ⟨hT.tag, ⟨rfl, by omega, by show (b : Int) < 30; omega⟩, ih2 (b + 1) _ _ (by omega) (Nat.lt_of_le_of_lt Nat.and_le_left hX) (fun s hs => ?_)⟩
                rw [one_bit, Bool.and_eq_true, q s hs, decide_eq_true_eq]
                constructor
                · rintro ⟨⟨q1, q2, q3⟩, q4⟩
                  refine ⟨q1, q2, fun b' hb' al => ?_⟩
                  by_cases e : b' = b
                  · subst e; omega
                  · exact q3 b' (by omega) al
                · rintro ⟨q1, q2, q3⟩
                  exact ⟨⟨q1, q2, fun b' hb' => q3 b' (by omega)⟩, by have := q3 b (by omega) ⟨c1, c2⟩; omega⟩
              · rw [if_neg c2, if_pos rfl]; exact stay (fun z => c2 z.2) _
      have B : ∀ (i s X : Nat) (o3 : Option AV), ((s + i : Nat) : Int) = w 7 → X < 1024 → (∀ u, u < (w 7).toNat → (X.testBit u = true ↔ plW w 180 (w 7) (wordW w (60 + 10 * k)) = -1 ∧ ∀ t, t < s → 0 < alW w (60 + 10 * k) (180 + 10 * t) → t = u)) → Wp m_Planner_learnTakers 57 [some (xR r), some (xR t), some (xI (k : Int)), o3, some (xI (X : Int)), some (xI (s : Int))] [] g d mc ms R := by
        intro i
        induction i with
        | zero =>
          intro s X o3 hs hX q
          apply f_Planner_learnTakers_57
          rw [h4, if_neg (by omega)]
          refine ⟨pl.tag, A (w 8).toNat 0 X _ (by omega) hX (fun u hu => ?_)⟩
          rw [q u hu, show s = (w 7).toNat by omega]
          exact ⟨fun z => ⟨z.1, z.2, fun b' hb' => by omega⟩, fun z => ⟨z.1, z.2.1⟩⟩
        | succ i ih2 =>
          intro s X o3 hs hX q
          apply f_Planner_learnTakers_57
          rw [h4, if_pos (by omega), ab_1 (by omega)]
          refine ⟨pl.tag, ?_⟩
          by_cases c0 : X = 0
          · rw [if_pos (by omega)]
            refine A (w 8).toNat 0 X _ (by omega) hX (fun u hu => ?_)
            constructor
            · intro z; rw [c0, Nat.zero_testBit] at z; cases z
            · rintro ⟨q1, q2, _⟩
              exact (q u hu).mpr ⟨q1, fun t ht => q2 t (by omega)⟩
          · rw [if_neg (by omega), hT.pool_n, hT.streets_n]
            refine ⟨hT.tag, hT.tag, ⟨by omega, hT.tag⟩, sp_areAlike hT hR.1 hV hT.pool_a hT.streets_a b2 b1 a.2.2.1 a.2.1 (by omega) (by omega) (by omega) (by omega) okk (hV.2.2.2.2.1 s (by omega)) (by omega) (fun v e => ?_)⟩
            cases e
            by_cases c2 : 0 < alW w (60 + 10 * k) (180 + 10 * s)
            · have py : 2 ^ s ≤ 512 := Nat.pow_le_pow_right (n := 2) (by decide) (show s ≤ 9 by omega)
              rw [if_pos c2, if_neg (by decide), ai_shl_one s (by omega), ai_and_nat (by omega) (by omega)]
              refine ih2 (s + 1) _ _ (by omega) (Nat.lt_of_le_of_lt Nat.and_le_left hX) (fun u hu => ?_)
              rw [one_bit, Bool.and_eq_true, q u hu, decide_eq_true_eq]
              constructor
              · rintro ⟨⟨q1, q2⟩, q4⟩
                refine ⟨q1, fun t ht al => ?_⟩
                by_cases e : t = s
                · omega
                · exact q2 t (by omega) al
              · rintro ⟨q1, q2⟩
                exact ⟨⟨q1, fun t ht => q2 t (by omega)⟩, (q2 s (by omega) c2).symm⟩
            · rw [if_neg c2, if_pos rfl]
              refine ih2 (s + 1) X _ (by omega) hX (fun u hu => ?_)
              rw [q u hu]
              constructor
              · rintro ⟨q1, q2⟩
                refine ⟨q1, fun t ht al => ?_⟩
                by_cases e : t = s
                · subst e; exact absurd al c2
                · exact q2 t (by omega) al
              · rintro ⟨q1, q2⟩
                exact ⟨q1, fun t ht => q2 t (by omega)⟩
      apply f_Planner_learnTakers_2
      rw [h5, if_pos (by omega), hT.pool_n, hT.streets_n, hT.pool_a.word_n, hT.pool_a.word_t, Int.toNat_natCast, b2.2 k (by omega)]
      refine ⟨pl.tag, hT.tag, hT.tag, hT.pool_a.tag, ⟨rfl, by omega, by show (k : Int) < 12; omega⟩, ⟨by omega, hT.streets_a.tag⟩, sp_placeOfN hT.streets_a b1 (by omega) (by omega) (fun v e => ?_)⟩
      cases e
      by_cases c1 : plW w 180 (w 7) (wordW w (60 + 10 * k)) = -1
      · rw [if_pos c1, if_neg (by decide), h4, es]
        refine ⟨pl.tag, B (w 7).toNat 0 _ _ (by omega) (by omega) (fun u hu => ?_)⟩
        rw [Nat.testBit_two_pow_sub_one, decide_eq_true hu]
        exact ⟨fun _ => ⟨c1, fun t ht => by omega⟩, fun _ => rfl⟩
      · rw [if_neg c1, if_pos rfl]
        exact B (w 7).toNat 0 0 _ (by omega) (by omega) (fun u hu => ⟨fun z => (by rw [Nat.zero_testBit] at z; cases z), fun z => absurd z.1 c1⟩)
  exact L (w 6).toNat 0 h _ _ _ (by omega) FrP.rf (fun u hu => by omega)
/-! rivals -/
theorem sp_learnRivals {h : Hp} {r t : Nat} {w : Nat → Int} (pl : plAt h r) (a : TR h t w) (hV : V w) (hx : r + 6 ≤ t) (h5 : hpC h r 5 = w 6) {d mc ms : Nat} {R : PR} (hd : 5 ≤ d) {o2 o3 : Option AV} (H : ∀ h', FrP (fun q _ => q = r + 4) h h' → rvC h' r w → R none h') : Wp m_Planner_learnRivals 0 [some (xR r), some (xR t), o2, o3] [] h d mc ms R := by
  have v0 := hV.1.1
  have v1 := hV.1.2.1
  have v2 := hV.1.2.2.1
  have v3 := hV.1.2.2.2.1
  have v4 := hV.1.2.2.2.2.1
  have v5 := hV.1.2.2.2.2.2.1
  have v6 := hV.1.2.2.2.2.2.2.1
  have v7 := hV.1.2.2.2.2.2.2.2.1
  have v8 := hV.1.2.2.2.2.2.2.2.2.1
  have v9 := hV.1.2.2.2.2.2.2.2.2.2
  have F : ∀ g, FrP (fun q _ => q = r + 4) h g → plAt g r ∧ TR g t w ∧ hpC g r 5 = w 6 := fun g f => ⟨pl.fr (f.wk (fun q p z => Or.inr (by omega))), a.eq (f.eqC (fun q p h1 h2 z => by omega)), by rw [f.2.2 _ _ (by omega)]; exact h5⟩
  have L : ∀ (j s : Nat) (g : Hp) (o3 : Option AV), ((s + j : Nat) : Int) = w 6 → FrP (fun q _ => q = r + 4) h g → (∀ u : Nat, (u : Int) < w 6 → ∃ x : Nat, x < 4096 ∧ hpC g (r + 4) u = (x : Int) ∧ ∀ v, x.testBit v = (decide ((v : Int) < w 6) && (rvW w u v && (decide (u = v) || dnC s 0 u v)))) → Wp m_Planner_learnRivals 27 [some (xR r), some (xR t), some (xI (s : Int)), o3] [] g d mc ms R := by
    intro j
    induction j with
    | zero =>
      intro s g o3 hs f cc
      obtain ⟨pl, a, h5⟩ := F g f
      apply f_Planner_learnRivals_27
      rw [h5, if_neg (by omega)]
      refine ⟨pl.tag, H g f (fun u hu => ?_)⟩
      obtain ⟨x, x1, x2, x3⟩ := cc u hu
      refine ⟨x, x1, x2, fun v hv => ?_⟩
      rw [x3, decide_eq_true (show (v : Int) < w 6 by omega), show dnC s 0 u v = true from decide_eq_true (Or.inl (by omega))]; simp
    | succ j ih =>
      intro s g o3 hs f cc
      have I : ∀ (i q : Nat) (g : Hp), ((q + i : Nat) : Int) = w 6 → s < q → FrP (fun q _ => q = r + 4) h g → (∀ u : Nat, (u : Int) < w 6 → ∃ x : Nat, x < 4096 ∧ hpC g (r + 4) u = (x : Int) ∧ ∀ v, x.testBit v = (decide ((v : Int) < w 6) && (rvW w u v && (decide (u = v) || dnC s q u v)))) → Wp m_Planner_learnRivals 39 [some (xR r), some (xR t), some (xI (s : Int)), some (xI (q : Int))] [] g d mc ms R := by
        intro i
        induction i with
        | zero =>
          intro q g hq hsq f cc
          obtain ⟨pl, a, h5⟩ := F g f
          apply f_Planner_learnRivals_39
          rw [h5, if_neg (by omega), ab_1 (by omega)]
          refine ⟨pl.tag, ih (s + 1) g _ (by omega) f (fun u hu => ?_)⟩
          obtain ⟨x, x1, x2, x3⟩ := cc u hu
          refine ⟨x, x1, x2, fun v => ?_⟩
          rw [x3]
          by_cases c2 : (v : Int) < w 6
          · by_cases c3 : u = v
            · subst c3; simp
            · congr 2
              rw [decide_eq_false c3]
              simp only [Bool.false_or, dnC, decide_eq_decide]
              omega
          · rw [decide_eq_false c2]; rfl
        | succ i ih2 =>
          intro q g hq hsq f cc
          obtain ⟨pl, a, h5⟩ := F g f
          have hT := a.1.1
          have hR := a.1.2.1
          have b1 := a.1.2.2.1
          have b2 := a.1.2.2.2.1
          have b3 := a.1.2.2.2.2.1
          have hw := a.1.2.2.2.2.2.2.1
          have h7 := a.1.2.2.2.2.2.2.2
          have n1 := a.2.2.1
          apply f_Planner_learnRivals_39
          rw [h5, if_pos (by omega), ab_1 (by omega), hT.pool_n]
          refine ⟨pl.tag, hT.tag, hT.tag, ⟨by omega, hT.tag⟩, sp_areAlike hT hR.1 hV hT.pool_a hT.pool_a b2 b2 n1 n1 (by omega) (by omega) (by omega) (by omega) (hV.2.2.2.1 s (by omega)) (hV.2.2.2.1 q (by omega)) (by omega) (fun v e => ?_)⟩
          cases e
          by_cases c3 : 0 < alW w (60 + 10 * s) (60 + 10 * q)
          · have cl : rvW w s q = true := decide_eq_true c3
            rw [if_pos c3, if_neg (by decide)]
            obtain ⟨xs, s1, s2, s3⟩ := cc s (by omega)
            obtain ⟨xq, q1, q2, q3⟩ := cc q (by omega)
            have ps : 2 ^ s ≤ 2048 := Nat.pow_le_pow_right (n := 2) (by decide) (show s ≤ 11 by omega)
            have pq : 2 ^ q ≤ 2048 := Nat.pow_le_pow_right (n := 2) (by decide) (show q ≤ 11 by omega)
            rw [pl.rivals_n, pl.rivals_t, Int.toNat_natCast, s2, ai_shl_one q (by omega), ai_or_nat (by omega) (by omega)]
            refine ⟨pl.tag, ⟨rfl, by omega, by show (s : Int) < 12; omega⟩, ⟨rfl, by omega, by show (s : Int) < 12; omega⟩, fun g2 e2 => ?_⟩
            have f2 : FrP (fun q _ => q = r + 4) g g2 := by subst e2; exact FrP.up rfl
            have y1 : hpC g2 (r + 4) s = ((xs ||| 2 ^ q : Nat) : Int) := by subst e2; rw [hpC_same]
            have y2 : ∀ u, u ≠ s → hpC g2 (r + 4) u = hpC g (r + 4) u := fun u hu => by subst e2; rw [hpC_ne (Or.inr hu)]
            clear e2
            obtain ⟨pl2, _⟩ := F g2 (f.tr f2)
            rw [pl2.rivals_n, pl2.rivals_t, Int.toNat_natCast, y2 q (by omega), q2, ai_shl_one s (by omega), ai_or_nat (by omega) (by omega)]
            refine ⟨pl2.tag, ⟨rfl, by omega, by show (q : Int) < 12; omega⟩, ⟨rfl, by omega, by show (q : Int) < 12; omega⟩, fun g3 e3 => ?_⟩
            subst e3
            refine ih2 (q + 1) _ (by omega) (by omega) (f.tr (f2.tr (FrP.up rfl))) (fun u hu => ?_)
            by_cases e1 : u = q
            · subst e1
              refine ⟨xq ||| 2 ^ s, or_lt (n := 12) (by omega) (by omega), by rw [hpC_same], fun v => ?_⟩
              rw [or_bit, q3]
              by_cases e2 : v = s
              · subst e2
                rw [decide_eq_true (show (v : Int) < w 6 by omega), rvW_sym, cl, show dnC v (u + 1) u v = true from decide_eq_true (Or.inr (by omega))]; simp
              · rw [decide_eq_false e2, Bool.or_false]
                congr 3
                simp only [dnC, decide_eq_decide]
                omega
            · rw [hpC_ne (Or.inr e1)]
              by_cases e2 : u = s
              · subst e2
                refine ⟨xs ||| 2 ^ q, or_lt (n := 12) (by omega) (by omega), y1, fun v => ?_⟩
                rw [or_bit, s3]
                by_cases e3 : v = q
                · subst e3
                  rw [decide_eq_true (show (v : Int) < w 6 by omega), cl, show dnC u (v + 1) u v = true from decide_eq_true (Or.inr (by omega))]; simp
                · rw [decide_eq_false e3, Bool.or_false]
                  congr 3
                  simp only [dnC, decide_eq_decide]
                  omega
              · rw [y2 u e2]
                obtain ⟨x, x1, x2, x3⟩ := cc u hu
                refine ⟨x, x1, x2, fun v => ?_⟩
                rw [x3]
                congr 3
                simp only [dnC, decide_eq_decide]
                omega
          · have z : rvW w s q = false := decide_eq_false c3
            rw [if_neg c3, if_pos rfl]
            refine ih2 (q + 1) g (by omega) (by omega) f (fun u hu => ?_)
            obtain ⟨x, x1, x2, x3⟩ := cc u hu
            refine ⟨x, x1, x2, fun v => ?_⟩
            rw [x3]
            by_cases c4 : rvW w u v = true
            · have ne : ¬ (min u v = s ∧ max u v = q) := fun y => by
                rcases Nat.le_total u v with o | o
                · rw [show u = s by omega, show v = q by omega, z] at c4; cases c4
                · rw [show u = q by omega, show v = s by omega, rvW_sym, z] at c4; cases c4
              congr 3
              simp only [dnC, decide_eq_decide]
              omega
            · rw [show rvW w u v = false by simpa using c4]; simp
      obtain ⟨pl, a, h5⟩ := F g f
      apply f_Planner_learnRivals_27
      rw [h5, if_pos (by omega), ab_1 (by omega)]
      refine ⟨pl.tag, I ((w 6).toNat - (s + 1)) (s + 1) g (by omega) (by omega) f (fun u hu => ?_)⟩
      obtain ⟨x, x1, x2, x3⟩ := cc u hu
      refine ⟨x, x1, x2, fun v => ?_⟩
      rw [x3]
      by_cases c3 : u = v
      · subst c3; simp
      · congr 3
        simp only [dnC, decide_eq_decide]
        omega
  apply f_Planner_learnRivals_0
  have L0 : ∀ (j s : Nat) (g : Hp) (o3 : Option AV), ((s + j : Nat) : Int) = w 6 → FrP (fun q _ => q = r + 4) h g → (∀ u : Nat, u < s → hpC g (r + 4) u = ((2 ^ u : Nat) : Int)) → Wp m_Planner_learnRivals 2 [some (xR r), some (xR t), some (xI (s : Int)), o3] [] g d mc ms R := by
    intro j
    induction j with
    | zero =>
      intro s g o3 hs f c
      obtain ⟨pl, a, h5⟩ := F g f
      apply f_Planner_learnRivals_2
      rw [h5, if_neg (by omega)]
      refine ⟨pl.tag, L (w 6).toNat 0 g _ (by omega) f (fun u hu => ⟨2 ^ u, ?_, c u (by omega), fun v => ?_⟩)⟩
      · have pq : 2 ^ u ≤ 2048 := Nat.pow_le_pow_right (n := 2) (by decide) (show u ≤ 11 by omega)
        omega
      · rw [Nat.testBit_two_pow, show dnC 0 0 u v = false from decide_eq_false (by omega), Bool.or_false]
        by_cases e : u = v
        · subst e
          rw [rvW_self, decide_eq_true hu]; simp
        · rw [decide_eq_false e]; simp
    | succ j ih =>
      intro s g o3 hs f c
      obtain ⟨pl, a, h5⟩ := F g f
      apply f_Planner_learnRivals_2
      rw [h5, if_pos (by omega), pl.rivals_n, pl.rivals_t, Int.toNat_natCast, ab_1 (by omega), ai_shl_one s (by omega)]
      refine ⟨pl.tag, pl.tag, ⟨rfl, by omega, by show (s : Int) < 12; omega⟩, fun g1 e1 => ?_⟩
      subst e1
      refine ih (s + 1) _ _ (by omega) (f.tr (FrP.up rfl)) (fun u hu => ?_)
      by_cases e : u = s
      · subst e; rw [hpC_same]
      · rw [hpC_ne (Or.inr e)]; exact c u (by omega)
  exact L0 (w 6).toNat 0 h _ (by omega) FrP.rf (fun u hu => by omega)
