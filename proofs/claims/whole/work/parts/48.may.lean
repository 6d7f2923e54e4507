/-! ===== what a street may be named: the reference (gen48.py: the first three out of 43) ===== -/
theorem Stw_SA {m : Nat} {h h' : Hp} (f : FrP (Stw m) h h') : FrP (SA m) h h' := f.wk (fun r p z => by
  rcases z with z | z
  · exact Or.inl z
  · exact Or.inr (by omega))
theorem sp_misTakenA {h : Hp} {m : Nat} {w : Nat → Int} (a : RD h m w) (hV : V w) {k : Nat} (hk : (k : Int) < w 6) {d mc ms : Nat} {R : PR} (hd : 1 ≤ d) {o2 : Option AV} (H : ∀ h', FrP (SA m) h h' → R (some (xI (if plW w 180 (w 7) (wordW w (60 + 10 * k)) = -1 then 0 else 1))) h') : Wp m_M_isTaken 0 [some (xR m), some (xI (k : Int)), o2] [] h d mc ms R := by
  have v0 := hV.1.1
  have v1 := hV.1.2.1
  have v2 := hV.1.2.2.1
  have v3 := hV.1.2.2.2.1
  have v4 := hV.1.2.2.2.2.1
  have v5 := hV.1.2.2.2.2.2.1
  have v6 := hV.1.2.2.2.2.2.2.1
  have v7 := hV.1.2.2.2.2.2.2.2.1
  have v8 := hV.1.2.2.2.2.2.2.2.2.1
  have v9 := hV.1.2.2.2.2.2.2.2.2.2
  have hn := hV.2.2.2.1 k hk
  apply f_M_isTaken_0
  rw [am_10 (by omega), aa_60 (by omega)]
  refine ⟨⟨by omega, a.1.tag⟩, sp_takesWord a.1 (by omega) (a.rLen (by omega) hn) (fun h1 f1 c1 c2 _ => ?_)⟩
  have a1 := a.fr (Stw_SM f1)
  have at1 : atHand h1 m w (60 + 10 * k) := ⟨c1, fun i hi => by have := hn.spec.2.1; rw [c2 i hi, a.2 _ (by omega)]⟩
  have H := H h1 (Stw_SA f1)
  have L : ∀ (j i : Nat) (o1 : Option AV), ((i + j : Nat) : Int) = w 7 → R (some (xI (if fst1 (fun s => decide (wordW w (180 + 10 * s) = wordW w (60 + 10 * k))) j i = -1 then 0 else 1))) h1 → Wp m_M_isTaken 13 [some (xR m), o1, some (xI (i : Int))] [] h1 d mc ms R := by
    intro j
    induction j with
    | zero =>
      intro i o1 hi H
      have a := a1
      apply f_M_isTaken_13
      simp (disch := omega) only [a.1.tag, a.1.row_n, a.1.row_t, a.2, tn_0, tn_1, tn_2, tn_3, tn_4, tn_5, tn_6, tn_7, tn_8, tn_9, tn_10, tn_11, tn_12, ai_add_nn, ai_mul_nn, aa_1, aa_2, aa_3, aa_10, aa_36, aa_60, aa_180, aa_280, aa_290, aa_650, aa_950, aa_980, aa_1010, aa_2020, aa_4040, aa_100, aa_200, aa_300, aa_400, ab_1, ab_2, ab_3, ab_4, ab_20, ab_10, ab_280, am_2, am_3, am_5, am_10, am_12, am_36, am_100, am_1010, an_2, an_3, an_10, an_12, as_1, as_2, as_3, Int.toNat_natCast, q_lt, n_lt, q_le, n_le, q_eq, n_eq, q_nle, not_false_eq_true, not_true_eq_false, true_and, and_true, true_or, or_true, and_self, ↓reduceIte]
      exact H
    | succ j ih =>
      intro i o1 hi H
      apply f_M_isTaken_13
      rw [a1.1.row_n, a1.1.row_t, tn_7, a1.2 7 (by omega), if_pos (by omega), am_10 (by omega), aa_180 (by omega), ab_1 (by omega)]
      refine ⟨a1.1.tag, ⟨rfl, by omega, by decide⟩, ⟨by omega, a1.1.tag⟩, sp_isWord a1 (by omega) (hV.2.2.2.2.1 i (by omega)) hn at1 (fun v e => ?_)⟩
      cases e
      by_cases c : wordW w (180 + 10 * i) = wordW w (60 + 10 * k)
      · rw [if_pos c, if_neg (by decide)]
        rw [show fst1 (fun s => decide (wordW w (180 + 10 * s) = wordW w (60 + 10 * k))) (j + 1) i = (i : Int) by simp only [fst1, decide_eq_true_eq]; rw [if_pos c], if_neg (by omega)] at H
        exact ⟨by simp, H⟩
      · rw [if_neg c, if_pos rfl]
        rw [show fst1 (fun s => decide (wordW w (180 + 10 * s) = wordW w (60 + 10 * k))) (j + 1) i = fst1 (fun s => decide (wordW w (180 + 10 * s) = wordW w (60 + 10 * k))) j (i + 1) by simp only [fst1, decide_eq_true_eq]; rw [if_neg c]] at H
        exact ih (i + 1) _ (by omega) H
  exact L (w 7).toNat 0 _ (by omega) H
theorem sp_isLikeAnotherA {h : Hp} {m : Nat} {w : Nat → Int} (a : RD h m w) (hV : V w) {s : Int} {k : Nat} (hk : (k : Int) < w 6) {d mc ms : Nat} {R : PR} (hd : 4 ≤ d) {o3 : Option AV} (H : ∀ h', FrP (SA m) h h' → R (some (xI (if laW w s k (w 7).toNat 0 = -1 then 0 else 1))) h') : Wp m_M_isLikeAnother 0 [some (xR m), some (xI s), some (xI (k : Int)), o3] [] h d mc ms R := by
  have v0 := hV.1.1
  have v1 := hV.1.2.1
  have v2 := hV.1.2.2.1
  have v3 := hV.1.2.2.2.1
  have v4 := hV.1.2.2.2.2.1
  have v5 := hV.1.2.2.2.2.2.1
  have v6 := hV.1.2.2.2.2.2.2.1
  have v7 := hV.1.2.2.2.2.2.2.2.1
  have v8 := hV.1.2.2.2.2.2.2.2.2.1
  have v9 := hV.1.2.2.2.2.2.2.2.2.2
  have hn := hV.2.2.2.1 k hk
  apply f_M_isLikeAnother_0
  have L : ∀ (j i : Nat) (g : Hp), ((i + j : Nat) : Int) = w 7 → FrP (SA m) h g → (∀ h', FrP (SA m) h h' → R (some (xI (if laW w s k j i = -1 then 0 else 1))) h') → Wp m_M_isLikeAnother 2 [some (xR m), some (xI s), some (xI (k : Int)), some (xI (i : Int))] [] g d mc ms R := by
    intro j
    induction j with
    | zero =>
      intro i g hi f H
      have a := a.fr (SA_SM f)
      apply f_M_isLikeAnother_2
      simp (disch := omega) only [a.1.tag, a.1.row_n, a.1.row_t, a.2, tn_0, tn_1, tn_2, tn_3, tn_4, tn_5, tn_6, tn_7, tn_8, tn_9, tn_10, tn_11, tn_12, ai_add_nn, ai_mul_nn, aa_1, aa_2, aa_3, aa_10, aa_36, aa_60, aa_180, aa_280, aa_290, aa_650, aa_950, aa_980, aa_1010, aa_2020, aa_4040, aa_100, aa_200, aa_300, aa_400, ab_1, ab_2, ab_3, ab_4, ab_20, ab_10, ab_280, am_2, am_3, am_5, am_10, am_12, am_36, am_100, am_1010, an_2, an_3, an_10, an_12, as_1, as_2, as_3, Int.toNat_natCast, q_lt, n_lt, q_le, n_le, q_eq, n_eq, q_nle, not_false_eq_true, not_true_eq_false, true_and, and_true, true_or, or_true, and_self, ↓reduceIte]
      exact H g f
    | succ j ih =>
      intro i g hi f H
      have a := a.fr (SA_SM f)
      apply f_M_isLikeAnother_2
      rw [a.1.row_n, a.1.row_t, tn_7, a.2 7 (by omega), if_pos (by omega), am_10 (by omega), am_10 (by omega), aa_180 (by omega), aa_60 (by omega), ab_1 (by omega)]
      refine ⟨a.1.tag, ⟨rfl, by omega, by decide⟩, ?_⟩
      have no : ¬ (¬ (i : Int) = s ∧ 0 < alW w (60 + 10 * k) (180 + 10 * i)) → ∀ g, FrP (SA m) h g → Wp m_M_isLikeAnother 2 [some (xR m), some (xI s), some (xI (k : Int)), some (xI ((i + 1 : Nat) : Int))] [] g d mc ms R := fun z g f => by
        refine ih (i + 1) g (by omega) f ?_
        rw [show laW w s k (j + 1) i = laW w s k j (i + 1) by simp only [laW, fst1, decide_eq_true_eq]; rw [if_neg z]] at H
        exact H
      by_cases c : (i : Int) = s
      · rw [if_pos c]; exact no (fun z => z.1 c) g f
      · rw [if_neg c]
        refine ⟨⟨by omega, a.1.tag⟩, sp_alikeOfA a hV (by omega) hn (by omega) (hV.2.2.2.2.1 i (by omega)) (by omega) (fun g2 f2 v e => ?_)⟩
        cases e
        by_cases c2 : 0 < alW w (60 + 10 * k) (180 + 10 * i)
        · rw [if_pos c2]
          have := H g2 (f.tr f2)
          rw [show laW w s k (j + 1) i = (i : Int) by simp only [laW, fst1, decide_eq_true_eq]; rw [if_pos ⟨c, c2⟩], if_neg (by omega)] at this
          exact ⟨by simp, this⟩
        · rw [if_neg c2]; exact no (fun z => c2 z.2) g2 (f.tr f2)
  exact L (w 7).toNat 0 h (by omega) FrP.rf H
theorem sp_isLikeAliasA {h : Hp} {m : Nat} {w : Nat → Int} (a : RD h m w) (hV : V w) {s : Int} {k : Nat} (hk : (k : Int) < w 6) {d mc ms : Nat} {R : PR} (hd : 4 ≤ d) {o3 : Option AV} (H : ∀ h', FrP (SA m) h h' → R (some (xI (if llW w s k (w 8).toNat 0 = -1 then 0 else 1))) h') : Wp m_M_isLikeAlias 0 [some (xR m), some (xI s), some (xI (k : Int)), o3] [] h d mc ms R := by
  have v0 := hV.1.1
  have v1 := hV.1.2.1
  have v2 := hV.1.2.2.1
  have v3 := hV.1.2.2.2.1
  have v4 := hV.1.2.2.2.2.1
  have v5 := hV.1.2.2.2.2.2.1
  have v6 := hV.1.2.2.2.2.2.2.1
  have v7 := hV.1.2.2.2.2.2.2.2.1
  have v8 := hV.1.2.2.2.2.2.2.2.2.1
  have v9 := hV.1.2.2.2.2.2.2.2.2.2
  have hn := hV.2.2.2.1 k hk
  apply f_M_isLikeAlias_0
  have L : ∀ (j i : Nat) (g : Hp), ((i + j : Nat) : Int) = w 8 → FrP (SA m) h g → (∀ h', FrP (SA m) h h' → R (some (xI (if llW w s k j i = -1 then 0 else 1))) h') → Wp m_M_isLikeAlias 2 [some (xR m), some (xI s), some (xI (k : Int)), some (xI (i : Int))] [] g d mc ms R := by
    intro j
    induction j with
    | zero =>
      intro i g hi f H
      have a := a.fr (SA_SM f)
      apply f_M_isLikeAlias_2
      simp (disch := omega) only [a.1.tag, a.1.row_n, a.1.row_t, a.2, tn_0, tn_1, tn_2, tn_3, tn_4, tn_5, tn_6, tn_7, tn_8, tn_9, tn_10, tn_11, tn_12, ai_add_nn, ai_mul_nn, aa_1, aa_2, aa_3, aa_10, aa_36, aa_60, aa_180, aa_280, aa_290, aa_650, aa_950, aa_980, aa_1010, aa_2020, aa_4040, aa_100, aa_200, aa_300, aa_400, ab_1, ab_2, ab_3, ab_4, ab_20, ab_10, ab_280, am_2, am_3, am_5, am_10, am_12, am_36, am_100, am_1010, an_2, an_3, an_10, an_12, as_1, as_2, as_3, Int.toNat_natCast, q_lt, n_lt, q_le, n_le, q_eq, n_eq, q_nle, not_false_eq_true, not_true_eq_false, true_and, and_true, true_or, or_true, and_self, ↓reduceIte]
      exact H g f
    | succ j ih =>
      intro i g hi f H
      have a := a.fr (SA_SM f)
      apply f_M_isLikeAlias_2
      rw [a.1.row_n, a.1.row_t, tn_8, a.2 8 (by omega), if_pos (by omega), am_10 (by omega), am_10 (by omega), aa_650 (by omega), aa_60 (by omega), aa_950 (by omega), ab_1 (by omega)]
      have no : ¬ (¬ w (980 + i) < w 9 ∧ ¬ w (950 + i) = s ∧ 0 < alW w (60 + 10 * k) (650 + 10 * i)) → ∀ g, FrP (SA m) h g → Wp m_M_isLikeAlias 2 [some (xR m), some (xI s), some (xI (k : Int)), some (xI ((i + 1 : Nat) : Int))] [] g d mc ms R := fun z g f => by
        refine ih (i + 1) g (by omega) f ?_
        rw [show llW w s k (j + 1) i = llW w s k j (i + 1) by simp only [llW, fst1, decide_eq_true_eq]; rw [if_neg z]] at H
        exact H
      refine ⟨a.1.tag, ⟨rfl, by omega, by decide⟩, ⟨by omega, a.1.tag⟩, sp_mLive a (by omega) (fun v e => ?_)⟩
      cases e
      by_cases c : w (980 + i) < w 9
      · rw [if_pos c, if_pos rfl]; exact no (fun z => z.1 c) g f
      · rw [if_neg c, if_neg (by decide), a.1.row_n, a.1.row_t, Int.toNat_natCast, a.2 _ (by omega)]
        refine ⟨a.1.tag, ⟨rfl, by omega, by show ((950 + i : Nat) : Int) < 24240; omega⟩, ?_⟩
        by_cases c1 : w (950 + i) = s
        · rw [if_pos c1]; exact no (fun z => z.2.1 c1) g f
        · rw [if_neg c1]
          refine ⟨⟨by omega, a.1.tag⟩, sp_alikeOfA a hV (by omega) hn (by omega) (hV.2.2.2.2.2.1 i (by omega)) (by omega) (fun g2 f2 v e => ?_)⟩
          cases e
          by_cases c2 : 0 < alW w (60 + 10 * k) (650 + 10 * i)
          · rw [if_pos c2]
            have := H g2 (f.tr f2)
            rw [show llW w s k (j + 1) i = (i : Int) by simp only [llW, fst1, decide_eq_true_eq]; rw [if_pos ⟨c, c1, c2⟩], if_neg (by omega)] at this
            exact ⟨by simp, this⟩
          · rw [if_neg c2]; exact no (fun z => c2 z.2.2) g2 (f.tr f2)
  exact L (w 8).toNat 0 h (by omega) FrP.rf H
def mayW (w : Nat → Int) (s k : Nat) : Bool := decide (plW w 180 (w 7) (wordW w (60 + 10 * k)) = -1 ∧ laW w (s : Int) k (w 7).toNat 0 = -1 ∧ llW w (s : Int) k (w 8).toNat 0 = -1)
def rvW (w : Nat → Int) (k n : Nat) : Bool := decide (0 < alW w (60 + 10 * k) (60 + 10 * n))
theorem rvW_sym (w : Nat → Int) (k n : Nat) : rvW w k n = rvW w n k := by unfold rvW; rw [alW_sym]
theorem rvW_self (w : Nat → Int) (k : Nat) : rvW w k k = true := by
  refine decide_eq_true ?_
  unfold alW
  rw [if_pos rfl]
  split <;> omega
theorem nar_0 : ai_nar 23 0 = 0 := by decide
theorem nar_1 : ai_nar 23 1 = 1 := by decide
def myM (h : Hp) (m : Nat) (w : Nat → Int) : Prop := (∀ s k : Nat, (s : Int) < w 7 → (k : Int) < w 6 → hpC h (m + 12) (12 * s + k) = if mayW w s k then 1 else 0) ∧ ∀ k n : Nat, (k : Int) < w 6 → (n : Int) < w 6 → hpC h (m + 13) (12 * k + n) = if rvW w k n then 1 else 0
def Sly (m : Nat) : Nat → Nat → Prop := fun r p => SA m r p ∨ r = m + 12 ∨ r = m + 13
theorem Sly_SM {m : Nat} {h h' : Hp} (f : FrP (Sly m) h h') : FrP (SM m) h h' := f.wk (fun r p z => by
  rcases z with (⟨z1, z2⟩ | z) | z | z
  · exact Or.inl ⟨z1, Or.inl z2⟩
  · exact Or.inr (Or.inl (by omega))
  · exact Or.inr (Or.inr (by omega))
  · exact Or.inr (Or.inr (by omega)))
theorem SA_12 {m r : Nat} {h h' : Hp} (f : FrP (SA m) h h') (hr : r = m + 12 ∨ r = m + 13) (p : Nat) : hpC h' r p = hpC h r p := f.2.2 _ _ (fun z => by rcases z with ⟨z, _⟩ | z <;> omega)
theorem sp_laysMay {h : Hp} {m : Nat} {w : Nat → Int} (a : RD h m w) (hV : V w) {d mc ms : Nat} {R : PR} (hd : 5 ≤ d) {o1 o2 : Option AV} (H : ∀ h', FrP (Sly m) h h' → myM h' m w → R none h') : Wp m_M_laysMay 0 [some (xR m), o1, o2] [] h d mc ms R := by
  have v0 := hV.1.1
  have v1 := hV.1.2.1
  have v2 := hV.1.2.2.1
  have v3 := hV.1.2.2.2.1
  have v4 := hV.1.2.2.2.2.1
  have v5 := hV.1.2.2.2.2.2.1
  have v6 := hV.1.2.2.2.2.2.2.1
  have v7 := hV.1.2.2.2.2.2.2.2.1
  have v8 := hV.1.2.2.2.2.2.2.2.2.1
  have v9 := hV.1.2.2.2.2.2.2.2.2.2
  have a0 := a
  have wk : ∀ {g g' : Hp}, FrP (SA m) g g' → FrP (Sly m) g g' := fun f => f.wk (fun r p z => Or.inl z)
  apply f_M_laysMay_0
  have K : ∀ (j k : Nat) (g : Hp) (o2 : Option AV), ((k + j : Nat) : Int) = w 6 → FrP (Sly m) h g → (∀ s k : Nat, (s : Int) < w 7 → (k : Int) < w 6 → hpC g (m + 12) (12 * s + k) = if mayW w s k then 1 else 0) → (∀ u n : Nat, u < k → (n : Int) < w 6 → hpC g (m + 13) (12 * u + n) = if rvW w u n then 1 else 0) → Wp m_M_laysMay 82 [some (xR m), some (xI (k : Int)), o2] [] g d mc ms R := by
    intro j
    induction j with
    | zero =>
      intro k g o2 hk f c1 c2
      have a := a.fr (Sly_SM f)
      apply f_M_laysMay_82
      rw [a.1.row_n, a.1.row_t, tn_6, a.2 6 (by omega), if_neg (by omega)]
      exact ⟨a.1.tag, ⟨rfl, by omega, by decide⟩, H g f ⟨c1, fun u n hu hn => c2 u n (by omega) hn⟩⟩
    | succ j ih =>
      intro k g o2 hk f c1 c2
      have I : ∀ (i n : Nat) (g : Hp), ((n + i : Nat) : Int) = w 6 → FrP (Sly m) h g → (∀ s k : Nat, (s : Int) < w 7 → (k : Int) < w 6 → hpC g (m + 12) (12 * s + k) = if mayW w s k then 1 else 0) → (∀ u n' : Nat, (u < k ∧ (n' : Int) < w 6) ∨ (u = k ∧ n' < n) → hpC g (m + 13) (12 * u + n') = if rvW w u n' then 1 else 0) → Wp m_M_laysMay 95 [some (xR m), some (xI (k : Int)), some (xI (n : Int))] [] g d mc ms R := by
        intro i
        induction i with
        | zero =>
          intro n g hn f c1 c2
          have a := a0.fr (Sly_SM f)
          apply f_M_laysMay_95
          rw [a.1.row_n, a.1.row_t, tn_6, a.2 6 (by omega), if_neg (by omega), ab_1 (by omega)]
          refine ⟨a.1.tag, ⟨rfl, by omega, by decide⟩, ih (k + 1) g _ (by omega) f c1 (fun u n' hu hn' => c2 u n' ?_)⟩
          by_cases e : u = k
          · exact Or.inr ⟨e, by omega⟩
          · exact Or.inl ⟨by omega, hn'⟩
        | succ i ih2 =>
          intro n g hn f c1 c2
          have a := a0.fr (Sly_SM f)
          apply f_M_laysMay_95
          rw [a.1.row_n, a.1.row_t, a.1.poolAlike_n, tn_6, a.2 6 (by omega), if_pos (by omega), ab_1 (by omega), am_10 (by omega), am_10 (by omega), aa_60 (by omega), aa_60 (by omega), am_12 (by omega), ai_add_nn (by omega), nar_0, nar_1]
          refine ⟨a.1.tag, ⟨rfl, by omega, by decide⟩, a.1.tag, ⟨by omega, a.1.tag⟩, sp_alikeOfA a hV (by omega) (hV.2.2.2.1 k (by omega)) (by omega) (hV.2.2.2.1 n (by omega)) (by omega) (fun g2 f2 v e => ?_)⟩
          cases e
          have a2 := a.fr (SA_SM f2)
          have fin : ∀ v : Int, (v = if rvW w k n then 1 else 0) → Wp m_M_laysMay 95 [some (xR m), some (xI (k : Int)), some (xI ((n + 1 : Nat) : Int))] [] (hpU g2 (m + 13) (12 * k + n) v) d mc ms R := fun v hv => by
            refine ih2 (n + 1) _ (by omega) (f.tr ((wk f2).tr (FrP.up (Or.inr (Or.inr rfl))))) (fun s k' h1 h2 => ?_) (fun u n' hu => ?_)
            · rw [hpC_ne (Or.inl (by omega)), SA_12 f2 (Or.inl rfl)]; exact c1 s k' h1 h2
            · by_cases e : u = k ∧ n' = n
              · obtain ⟨rfl, rfl⟩ := e
                rw [hpC_same]; exact hv
              · rw [hpC_ne (Or.inr (by omega)), SA_12 f2 (Or.inr rfl)]
                refine c2 u n' ?_
                rcases hu with z | z
                · exact Or.inl z
                · exact Or.inr ⟨z.1, by omega⟩
          rw [a2.1.poolAlike_t, Int.toNat_natCast]
          by_cases c : 0 < alW w (60 + 10 * k) (60 + 10 * n)
          · rw [if_pos c]
            refine ⟨⟨rfl, by omega, by show ((12 * k + n : Nat) : Int) < 144; omega⟩, fun g3 e3 => ?_⟩
            subst e3
            exact fin 1 (by rw [show rvW w k n = true from decide_eq_true c]; rfl)
          · rw [if_neg c]
            refine ⟨⟨rfl, by omega, by show ((12 * k + n : Nat) : Int) < 144; omega⟩, fun g3 e3 => ?_⟩
            subst e3
            exact fin 0 (by rw [show rvW w k n = false from decide_eq_false c]; rfl)
      have a := a.fr (Sly_SM f)
      apply f_M_laysMay_82
      rw [a.1.row_n, a.1.row_t, tn_6, a.2 6 (by omega), if_pos (by omega)]
      refine ⟨a.1.tag, ⟨rfl, by omega, by decide⟩, I (w 6).toNat 0 g (by omega) f c1 (fun u n' hu => ?_)⟩
      rcases hu with z | z
      · exact c2 u n' z.1 z.2
      · omega
  have L : ∀ (j s : Nat) (g : Hp) (o2 : Option AV), ((s + j : Nat) : Int) = w 7 → FrP (Sly m) h g → (∀ u k : Nat, u < s → (k : Int) < w 6 → hpC g (m + 12) (12 * u + k) = if mayW w u k then 1 else 0) → Wp m_M_laysMay 2 [some (xR m), some (xI (s : Int)), o2] [] g d mc ms R := by
    intro j
    induction j with
    | zero =>
      intro s g o2 hs f c
      have a := a.fr (Sly_SM f)
      apply f_M_laysMay_2
      rw [a.1.row_n, a.1.row_t, tn_7, a.2 7 (by omega), if_neg (by omega)]
      exact ⟨a.1.tag, ⟨rfl, by omega, by decide⟩, K (w 6).toNat 0 g _ (by omega) f (fun u k hu hk => c u k (by omega) hk) (fun u n hu => by omega)⟩
    | succ j ih =>
      intro s g o2 hs f c
      have I : ∀ (i k : Nat) (g : Hp), ((k + i : Nat) : Int) = w 6 → FrP (Sly m) h g → (∀ u k' : Nat, (u < s ∧ (k' : Int) < w 6) ∨ (u = s ∧ k' < k) → hpC g (m + 12) (12 * u + k') = if mayW w u k' then 1 else 0) → Wp m_M_laysMay 15 [some (xR m), some (xI (s : Int)), some (xI (k : Int))] [] g d mc ms R := by
        intro i
        induction i with
        | zero =>
          intro k g hk f c
          have a := a0.fr (Sly_SM f)
          apply f_M_laysMay_15
          rw [a.1.row_n, a.1.row_t, tn_6, a.2 6 (by omega), if_neg (by omega), ab_1 (by omega)]
          refine ⟨a.1.tag, ⟨rfl, by omega, by decide⟩, ih (s + 1) g _ (by omega) f (fun u k' hu hk' => c u k' ?_)⟩
          by_cases e : u = s
          · exact Or.inr ⟨e, by omega⟩
          · exact Or.inl ⟨by omega, hk'⟩
        | succ i ih2 =>
          intro k g hk f c
          have a := a0.fr (Sly_SM f)
          have fin : ∀ (g2 : Hp) (v : Int), FrP (SA m) g g2 → (v = if mayW w s k then 1 else 0) → Wp m_M_laysMay 15 [some (xR m), some (xI (s : Int)), some (xI ((k + 1 : Nat) : Int))] [] (hpU g2 (m + 12) (12 * s + k) v) d mc ms R := fun g2 v f2 hv => by
            refine ih2 (k + 1) _ (by omega) (f.tr ((wk f2).tr (FrP.up (Or.inr (Or.inl rfl))))) (fun u k' hu => ?_)
            by_cases e : u = s ∧ k' = k
            · obtain ⟨rfl, rfl⟩ := e
              rw [hpC_same]; exact hv
            · rw [hpC_ne (Or.inr (by omega)), SA_12 f2 (Or.inl rfl)]
              refine c u k' ?_
              rcases hu with z | z
              · exact Or.inl z
              · exact Or.inr ⟨z.1, by omega⟩
          have bd : (0 : Int) ≤ ((12 * s + k : Nat) : Int) ∧ ((12 * s + k : Nat) : Int) < 120 := by omega
          apply f_M_laysMay_15
          rw [a.1.row_n, a.1.row_t, a.1.may_n, tn_6, a.2 6 (by omega), if_pos (by omega), ab_1 (by omega), am_12 (by omega), ai_add_nn (by omega), nar_0, nar_1, Int.toNat_natCast]
          refine ⟨a.1.tag, ⟨rfl, by omega, by decide⟩, a.1.tag, ⟨by omega, a.1.tag⟩, sp_misTakenA a hV (by omega) (by omega) (fun g2 f2 v e => ?_)⟩
          cases e
          have a2 := a.fr (SA_SM f2)
          by_cases c1 : plW w 180 (w 7) (wordW w (60 + 10 * k)) = -1
          · rw [if_pos c1, if_pos rfl]
            refine ⟨⟨by omega, a2.1.tag⟩, sp_isLikeAnotherA a2 hV (by omega) (by omega) (fun g3 f3 v e => ?_)⟩
            cases e
            have a3 := a2.fr (SA_SM f3)
            by_cases c2 : laW w (s : Int) k (w 7).toNat 0 = -1
            · rw [if_pos c2, if_pos rfl]
              refine ⟨⟨by omega, a3.1.tag⟩, sp_isLikeAliasA a3 hV (by omega) (by omega) (fun g4 f4 v e => ?_)⟩
              cases e
              have a4 := a3.fr (SA_SM f4)
              by_cases c3 : llW w (s : Int) k (w 8).toNat 0 = -1
              · rw [if_pos c3, if_pos rfl, a4.1.may_t]
                refine ⟨⟨rfl, bd.1, bd.2⟩, fun g5 e5 => ?_⟩
                subst e5
                exact fin g4 1 (f2.tr (f3.tr f4)) (by rw [show mayW w s k = true from decide_eq_true ⟨c1, c2, c3⟩]; rfl)
              · rw [if_neg c3, if_neg (by decide), a4.1.may_t]
                refine ⟨⟨rfl, bd.1, bd.2⟩, fun g5 e5 => ?_⟩
                subst e5
                exact fin g4 0 (f2.tr (f3.tr f4)) (by rw [show mayW w s k = false from decide_eq_false (fun z => c3 z.2.2)]; rfl)
            · rw [if_neg c2, if_neg (by decide), a3.1.may_t]
              refine ⟨⟨rfl, bd.1, bd.2⟩, fun g5 e5 => ?_⟩
              subst e5
              exact fin g3 0 (f2.tr f3) (by rw [show mayW w s k = false from decide_eq_false (fun z => c2 z.2.1)]; rfl)
          · rw [if_neg c1, if_neg (by decide), a2.1.may_t]
            refine ⟨⟨rfl, bd.1, bd.2⟩, fun g5 e5 => ?_⟩
            subst e5
            exact fin g2 0 f2 (by rw [show mayW w s k = false from decide_eq_false (fun z => c1 z.1)]; rfl)
      have a := a.fr (Sly_SM f)
      apply f_M_laysMay_2
      rw [a.1.row_n, a.1.row_t, tn_7, a.2 7 (by omega), if_pos (by omega)]
      refine ⟨a.1.tag, ⟨rfl, by omega, by decide⟩, I (w 6).toNat 0 g (by omega) f (fun u k' hu => ?_)⟩
      rcases hu with z | z
      · exact c u k' z.1 z.2
      · omega
  exact L (w 7).toNat 0 h _ (by omega) FrP.rf (fun u k hu => by omega)
/-! houses of a set -/
def hsW (w : Nat → Int) (S : Nat) : Int := sumN (fun s => if S.testBit s then w (280 + s) else 0) 10
theorem hsW_bd {w : Nat → Int} (hV : V w) (S : Nat) : ∀ n : Nat, n ≤ 10 → 0 ≤ sumN (fun s => if S.testBit s then w (280 + s) else 0) n ∧ sumN (fun s => if S.testBit s then w (280 + s) else 0) n ≤ 12 * n
  | 0, _ => by simp [sumN]
  | n + 1, hn => by
    have := hsW_bd hV S n (by omega)
    have := (hV.2.2.2.2.2.2.1 n (by omega)).1
    simp only [sumN]
    split <;> omega
theorem sp_housesIn {h : Hp} {m : Nat} {w : Nat → Int} (a : RD h m w) (hV : V w) {S : Nat} (hS : S < 1024) {d mc ms : Nat} {R : PR} {o2 o3 : Option AV} (H : R (some (xI (hsW w S))) h) : Wp m_M_housesIn 0 [some (xR m), some (xI (S : Int)), o2, o3] [] h d mc ms R := by
  have v0 := hV.1.1
  have v1 := hV.1.2.1
  have v2 := hV.1.2.2.1
  have v3 := hV.1.2.2.2.1
  have v4 := hV.1.2.2.2.2.1
  have v5 := hV.1.2.2.2.2.2.1
  have v6 := hV.1.2.2.2.2.2.2.1
  have v7 := hV.1.2.2.2.2.2.2.2.1
  have v8 := hV.1.2.2.2.2.2.2.2.2.1
  have v9 := hV.1.2.2.2.2.2.2.2.2.2
  have hh := hV.2.2.2.2.2.2.1
  apply f_M_housesIn_0
  have L : ∀ j k : Nat, ((k + j : Nat) : Int) = w 7 → Wp m_M_housesIn 4 [some (xR m), some (xI (S : Int)), some (xI (sumN (fun s => if S.testBit s then w (280 + s) else 0) k)), some (xI (k : Int))] [] h d mc ms R := by
    intro j
    induction j with
    | zero =>
      intro k hk
      apply f_M_housesIn_4
      rw [a.1.row_n, a.1.row_t, tn_7, a.2 7 (by omega), if_neg (by omega)]
      refine ⟨a.1.tag, ⟨rfl, by omega, by decide⟩, ?_⟩
      rw [← sumN_tail (10 - k) k (fun i h1 h2 => by rw [(hh i (by omega)).2.1 (by omega)]; simp), show k + (10 - k) = 10 by omega]
      exact H
    | succ j ih =>
      intro k hk
      have hq := (hh k (by omega)).1
      have hb := hsW_bd hV S k (by omega)
      have ih := ih (k + 1) (by omega)
      simp only [sumN] at ih
      apply f_M_housesIn_4
      rw [a.1.row_n, a.1.row_t, tn_7, a.2 7 (by omega), if_pos (by omega), ai_bit (by omega) (by omega), ab_1 (by omega), aa_280 (by omega), Int.toNat_natCast, a.2 _ (by omega)]
      refine ⟨a.1.tag, ⟨rfl, by omega, by decide⟩, ?_⟩
      by_cases c : S.testBit k = true
      · rw [if_pos c, if_pos rfl, ai_add_eq (by omega) (by omega)]
        rw [if_pos c] at ih
        exact ⟨a.1.tag, ⟨rfl, by omega, by show ((280 + k : Nat) : Int) < 24240; omega⟩, ih⟩
      · rw [if_neg c, if_neg (by decide), ai_add_eq (by omega) (by omega)]
        rw [if_neg c] at ih
        exact ih
  exact L (w 7).toNat 0 (by omega)
theorem sp_ofSet {h : Hp} {r : Nat} {w : Nat → Int} (a : homesAt h r) (hw : HW h r w) (hV : V w) {S : Nat} (hS : S < 1024) {d mc ms : Nat} {R : PR} {o2 o3 : Option AV} (H : R (some (xI (hsW w S))) h) : Wp m_Homes_ofSet 0 [some (xR r), some (xI (S : Int)), o2, o3] [] h d mc ms R := by
  have hh := hV.2.2.2.2.2.2.1
  apply f_Homes_ofSet_0
  have L : ∀ j k : Nat, k + j = 10 → Wp m_Homes_ofSet 4 [some (xR r), some (xI (S : Int)), some (xI (sumN (fun s => if S.testBit s then w (280 + s) else 0) k)), some (xI (k : Int))] [] h d mc ms R := by
    intro j
    induction j with
    | zero =>
      intro k hk
      apply f_Homes_ofSet_4
      obtain rfl : k = 10 := by omega
      exact H
    | succ j ih =>
      intro k hk
      have hq := (hh k (by omega)).1
      have hb := hsW_bd hV S k (by omega)
      have ih := ih (k + 1) (by omega)
      simp only [sumN] at ih
      apply f_Homes_ofSet_4
      rw [if_pos (by omega), ai_bit (by omega) (by omega), ab_1 (by omega)]
      by_cases c : S.testBit k = true
      · rw [if_pos c, if_pos rfl, a.count_n, a.count_t, Int.toNat_natCast, (hw k (by omega)).1, ai_add_eq (by omega) (by omega)]
        rw [if_pos c] at ih
        exact ⟨a.tag, ⟨rfl, by omega, by show (k : Int) < 10; omega⟩, ih⟩
      · rw [if_neg c, if_neg (by decide)]
        rw [if_neg c, Int.add_zero] at ih
        exact ih
  exact L 10 0 (by omega)
