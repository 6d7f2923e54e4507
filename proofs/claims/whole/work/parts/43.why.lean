/-! ===== why, takes, nearest ===== -/
theorem isWd_iff {w v : Nat → Int} {o o1 : Nat} (h1 : okName w o) (h2 : okName v o1) : (∀ i, i < 10 → w (o + i) = if i < nW v o1 then v (o1 + i) else 0) ↔ wordW w o = wordW v o1 := by
  rw [wordW_inj h1 h2]
  have s2 := h2.spec
  constructor
  · intro z i hi
    rw [z i hi]
    by_cases c : i < nW v o1
    · rw [if_pos c]
    · rw [if_neg c, s2.2.2.2 i (by omega) hi]
  · intro z i hi
    rw [z i hi]
    by_cases c : i < nW v o1
    · rw [if_pos c]
    · rw [if_neg c, s2.2.2.2 i (by omega) hi]
/-- the word at hand -/
def atHand (h : Hp) (m : Nat) (v : Nat → Int) (o1 : Nat) : Prop := hpC h m 17 = (nW v o1 : Int) ∧ ∀ i, i < nW v o1 → hpC h (m + 6) i = v (o1 + i)
theorem atHand.fr {h h' : Hp} {m : Nat} {v : Nat → Int} {o1 : Nat} {S : Nat → Nat → Prop} (a : atHand h m v o1) (f : FrP S h h') (h1 : ¬ S m 17) (h2 : ∀ p, ¬ S (m + 6) p) : atHand h' m v o1 := ⟨by rw [f.2.2 _ _ h1]; exact a.1, fun i hi => by rw [f.2.2 _ _ (h2 i)]; exact a.2 i hi⟩
theorem sp_isWord {h : Hp} {m : Nat} {w v : Nat → Int} (a : RD h m w) {o o1 : Nat} (ho : o + 10 ≤ 1010) (hn : okName w o) (hv : okName v o1) (at1 : atHand h m v o1) {d mc ms : Nat} {R : PR} {o2 : Option AV} (H : R (some (xI (if wordW w o = wordW v o1 then 1 else 0))) h) : Wp m_M_isWord 0 [some (xR m), some (xI (o : Int)), o2] [] h d mc ms R := by
  have s2 := hv.spec
  apply f_M_isWord_0
  have L : ∀ j k : Nat, k + j = 10 → (∀ i, i < k → w (o + i) = if i < nW v o1 then v (o1 + i) else 0) → Wp m_M_isWord 2 [some (xR m), some (xI (o : Int)), some (xI (k : Int))] [] h d mc ms R := by
    intro j
    induction j with
    | zero =>
      intro k hk q
      apply f_M_isWord_2
      rw [if_neg (by omega)]
      rw [if_pos ((isWd_iff hn hv).mp (fun i hi => q i (by omega)))] at H
      exact ⟨by simp, H⟩
    | succ j ih =>
      intro k hk q
      have no : w (o + k) ≠ (if k < nW v o1 then v (o1 + k) else 0) → R (some (xI 0)) h := fun z => by
        rw [if_neg (fun y => z ((isWd_iff hn hv).mpr y k (by omega)))] at H; exact H
      have go : w (o + k) = (if k < nW v o1 then v (o1 + k) else 0) → Wp m_M_isWord 2 [some (xR m), some (xI (o : Int)), some (xI ((k + 1 : Nat) : Int))] [] h d mc ms R := fun z => ih (k + 1) (by omega) (fun i hi => by
        by_cases e : i = k
        · subst e; exact z
        · exact q i (by omega))
      apply f_M_isWord_2
      rw [if_pos (by omega), a.1.row_n, a.1.row_t, ai_add_nn (by omega), Int.toNat_natCast, a.2 _ (by omega), at1.1, ab_1 (by omega)]
      refine ⟨a.1.tag, ⟨rfl, by omega, by show ((o + k : Nat) : Int) < 24240; omega⟩, a.1.tag, ?_⟩
      by_cases c : k < nW v o1
      · rw [if_pos (by omega), a.1.word_n, a.1.word_t, Int.toNat_natCast, at1.2 k c]
        rw [if_pos c] at no go
        refine ⟨a.1.tag, ⟨rfl, by omega, by show (k : Int) < 10; omega⟩, ?_⟩
        by_cases e : w (o + k) = v (o1 + k)
        · rw [if_pos e]; exact go e
        · rw [if_neg e]; exact ⟨by simp, no e⟩
      · rw [if_neg (by omega)]
        rw [if_neg c] at no go
        by_cases e : w (o + k) = 0
        · rw [if_pos e]; exact go e
        · rw [if_neg e]; exact ⟨by simp, no e⟩
  exact L 10 0 (by omega) (fun i hi => by omega)
/-- which street has a name, the names as packed words -/
def plW (w : Nat → Int) (o : Nat) (n : Int) (W : Nat) : Int := fst1 (fun s => decide (wordW w (o + 10 * s) = W)) n.toNat 0
theorem sp_placeOfN {h : Hp} {r l : Nat} {w : Nat → Int} {n : Int} {o : Nat} (a : namesAt h r l) (b : NW h r w n o) (hl : 0 ≤ n ∧ n ≤ (l : Int)) (hl2 : l ≤ 30) {W : Nat} {d mc ms : Nat} {R : PR} {o3 : Option AV} (H : R (some (xI (plW w o n W))) h) : Wp m_Names_placeOf 0 [some (xR r), some (xL (W : Int)), none, o3] [] h d mc ms R := by
  apply f_Names_placeOf_0
  have L : ∀ j k : Nat, ((k + j : Nat) : Int) = n → R (some (xI (fst1 (fun s => decide (wordW w (o + 10 * s) = W)) j k))) h → Wp m_Names_placeOf 2 [some (xR r), some (xL (W : Int)), none, some (xI (k : Int))] [] h d mc ms R := by
    intro j
    induction j with
    | zero =>
      intro k hk H
      apply f_Names_placeOf_2
      rw [b.1, if_neg (by omega)]
      exact ⟨a.tag, H⟩
    | succ j ih =>
      intro k hk H
      apply f_Names_placeOf_2
      rw [b.1, if_pos (by omega), a.word_n, a.word_t, Int.toNat_natCast, b.2 k (by omega), ab_1 (by omega)]
      refine ⟨a.tag, a.tag, ⟨rfl, by omega, by show (k : Int) < (l : Int); omega⟩, ?_⟩
      simp only [fst1, decide_eq_true_eq] at H
      by_cases c : wordW w (o + 10 * k) = W
      · rw [if_pos c] at H; rw [if_pos (al_cmp_eq.mpr (by omega))]; exact H
      · rw [if_neg c] at H; rw [if_neg (fun z => c (by have := al_cmp_eq.mp z; omega))]; exact ih (k + 1) (by omega) H
  exact L n.toNat 0 (by omega) H
theorem sp_misTaken {h : Hp} {m : Nat} {w : Nat → Int} (a : RD h m w) (hV : V w) {k : Nat} (hk : (k : Int) < w 6) {d mc ms : Nat} {R : PR} (hd : 1 ≤ d) {o2 : Option AV} (H : ∀ h', FrP (SM m) h h' → R (some (xI (if plW w 180 (w 7) (wordW w (60 + 10 * k)) = -1 then 0 else 1))) h') : Wp m_M_isTaken 0 [some (xR m), some (xI (k : Int)), o2] [] h d mc ms R := by
  have v0 := hV.1.1
  have v1 := hV.1.2.1
  have v2 := hV.1.2.2.1
  have v3 := hV.1.2.2.2.1
  have v4 := hV.1.2.2.2.2.1
  have v5 := hV.1.2.2.2.2.2.1
  have v6 := hV.1.2.2.2.2.2.2.1
  have v7 := hV.1.2.2.2.2.2.2.2.1
  have v8 := hV.1.2.2.2.2.2.2.2.2.1
  have v9 := hV.1.2.2.2.2.2.2.2.2.2
  have hn := hV.2.2.2.1 k hk
  apply f_M_isTaken_0
  rw [am_10 (by omega), aa_60 (by omega)]
  refine ⟨⟨by omega, a.1.tag⟩, sp_takesWord a.1 (by omega) (a.rLen (by omega) hn) (fun h1 f1 c1 c2 _ => ?_)⟩
  have a1 := a.fr (Stw_SM f1)
  have at1 : atHand h1 m w (60 + 10 * k) := ⟨c1, fun i hi => by have := hn.spec.2.1; rw [c2 i hi, a.2 _ (by omega)]⟩
  have H := H h1 (Stw_SM f1)
  have L : ∀ (j i : Nat) (o1 : Option AV), ((i + j : Nat) : Int) = w 7 → R (some (xI (if fst1 (fun s => decide (wordW w (180 + 10 * s) = wordW w (60 + 10 * k))) j i = -1 then 0 else 1))) h1 → Wp m_M_isTaken 13 [some (xR m), o1, some (xI (i : Int))] [] h1 d mc ms R := by
    intro j
    induction j with
    | zero =>
      intro i o1 hi H
      have a := a1
      apply f_M_isTaken_13
      simp (disch := omega) only [a.1.tag, a.1.row_n, a.1.row_t, a.2, tn_0, tn_1, tn_2, tn_3, tn_4, tn_5, tn_6, tn_7, tn_8, tn_9, tn_10, tn_11, tn_12, ai_add_nn, ai_mul_nn, aa_1, aa_2, aa_3, aa_10, aa_36, aa_60, aa_180, aa_280, aa_290, aa_650, aa_950, aa_980, aa_1010, aa_2020, aa_4040, aa_100, aa_200, aa_300, aa_400, ab_1, ab_2, ab_3, ab_4, ab_20, ab_10, ab_280, am_2, am_3, am_5, am_10, am_12, am_36, am_100, am_1010, an_2, an_3, an_10, an_12, as_1, as_2, as_3, Int.toNat_natCast, q_lt, n_lt, q_le, n_le, q_eq, n_eq, q_nle, not_false_eq_true, not_true_eq_false, true_and, and_true, true_or, or_true, and_self, ↓reduceIte]
      exact H
    | succ j ih =>
      intro i o1 hi H
      apply f_M_isTaken_13
      rw [a1.1.row_n, a1.1.row_t, tn_7, a1.2 7 (by omega), if_pos (by omega), am_10 (by omega), aa_180 (by omega), ab_1 (by omega)]
      refine ⟨a1.1.tag, ⟨rfl, by omega, by decide⟩, ⟨by omega, a1.1.tag⟩, sp_isWord a1 (by omega) (hV.2.2.2.2.1 i (by omega)) hn at1 (fun v e => ?_)⟩
      cases e
      by_cases c : wordW w (180 + 10 * i) = wordW w (60 + 10 * k)
      · rw [if_pos c, if_neg (by decide)]
        rw [show fst1 (fun s => decide (wordW w (180 + 10 * s) = wordW w (60 + 10 * k))) (j + 1) i = (i : Int) by simp only [fst1, decide_eq_true_eq]; rw [if_pos c], if_neg (by omega)] at H
        exact ⟨by simp, H⟩
      · rw [if_neg c, if_pos rfl]
        rw [show fst1 (fun s => decide (wordW w (180 + 10 * s) = wordW w (60 + 10 * k))) (j + 1) i = fst1 (fun s => decide (wordW w (180 + 10 * s) = wordW w (60 + 10 * k))) j (i + 1) by simp only [fst1, decide_eq_true_eq]; rw [if_neg c]] at H
        exact ih (i + 1) _ (by omega) H
  exact L (w 7).toNat 0 _ (by omega) H
def laW (w : Nat → Int) (s : Int) (k : Nat) : Nat → Nat → Int := fst1 (fun t => decide (¬ (t : Int) = s ∧ 0 < alW w (60 + 10 * k) (180 + 10 * t)))
def llW (w : Nat → Int) (s : Int) (k : Nat) : Nat → Nat → Int := fst1 (fun t => decide (¬ w (980 + t) < w 9 ∧ ¬ w (950 + t) = s ∧ 0 < alW w (60 + 10 * k) (650 + 10 * t)))
theorem sp_isLikeAnother {h : Hp} {m : Nat} {w : Nat → Int} (a : RD h m w) (hV : V w) {s : Int} {k : Nat} (hk : (k : Int) < w 6) {d mc ms : Nat} {R : PR} (hd : 4 ≤ d) {o3 : Option AV} (H : ∀ h', FrP (SM m) h h' → R (some (xI (if laW w s k (w 7).toNat 0 = -1 then 0 else 1))) h') : Wp m_M_isLikeAnother 0 [some (xR m), some (xI s), some (xI (k : Int)), o3] [] h d mc ms R := by
  have v0 := hV.1.1
  have v1 := hV.1.2.1
  have v2 := hV.1.2.2.1
  have v3 := hV.1.2.2.2.1
  have v4 := hV.1.2.2.2.2.1
  have v5 := hV.1.2.2.2.2.2.1
  have v6 := hV.1.2.2.2.2.2.2.1
  have v7 := hV.1.2.2.2.2.2.2.2.1
  have v8 := hV.1.2.2.2.2.2.2.2.2.1
  have v9 := hV.1.2.2.2.2.2.2.2.2.2
  have hn := hV.2.2.2.1 k hk
  apply f_M_isLikeAnother_0
  have L : ∀ (j i : Nat) (g : Hp), ((i + j : Nat) : Int) = w 7 → FrP (SM m) h g → (∀ h', FrP (SM m) h h' → R (some (xI (if laW w s k j i = -1 then 0 else 1))) h') → Wp m_M_isLikeAnother 2 [some (xR m), some (xI s), some (xI (k : Int)), some (xI (i : Int))] [] g d mc ms R := by
    intro j
    induction j with
    | zero =>
      intro i g hi f H
      have a := a.fr f
      apply f_M_isLikeAnother_2
      simp (disch := omega) only [a.1.tag, a.1.row_n, a.1.row_t, a.2, tn_0, tn_1, tn_2, tn_3, tn_4, tn_5, tn_6, tn_7, tn_8, tn_9, tn_10, tn_11, tn_12, ai_add_nn, ai_mul_nn, aa_1, aa_2, aa_3, aa_10, aa_36, aa_60, aa_180, aa_280, aa_290, aa_650, aa_950, aa_980, aa_1010, aa_2020, aa_4040, aa_100, aa_200, aa_300, aa_400, ab_1, ab_2, ab_3, ab_4, ab_20, ab_10, ab_280, am_2, am_3, am_5, am_10, am_12, am_36, am_100, am_1010, an_2, an_3, an_10, an_12, as_1, as_2, as_3, Int.toNat_natCast, q_lt, n_lt, q_le, n_le, q_eq, n_eq, q_nle, not_false_eq_true, not_true_eq_false, true_and, and_true, true_or, or_true, and_self, ↓reduceIte]
      exact H g f
    | succ j ih =>
      intro i g hi f H
      have a := a.fr f
      apply f_M_isLikeAnother_2
      rw [a.1.row_n, a.1.row_t, tn_7, a.2 7 (by omega), if_pos (by omega), am_10 (by omega), am_10 (by omega), aa_180 (by omega), aa_60 (by omega), ab_1 (by omega)]
      refine ⟨a.1.tag, ⟨rfl, by omega, by decide⟩, ?_⟩
      have no : ¬ (¬ (i : Int) = s ∧ 0 < alW w (60 + 10 * k) (180 + 10 * i)) → ∀ g, FrP (SM m) h g → Wp m_M_isLikeAnother 2 [some (xR m), some (xI s), some (xI (k : Int)), some (xI ((i + 1 : Nat) : Int))] [] g d mc ms R := fun z g f => by
        refine ih (i + 1) g (by omega) f ?_
        rw [show laW w s k (j + 1) i = laW w s k j (i + 1) by simp only [laW, fst1, decide_eq_true_eq]; rw [if_neg z]] at H
        exact H
      by_cases c : (i : Int) = s
      · rw [if_pos c]; exact no (fun z => z.1 c) g f
      · rw [if_neg c]
        refine ⟨⟨by omega, a.1.tag⟩, sp_alikeOf a hV (by omega) hn (by omega) (hV.2.2.2.2.1 i (by omega)) (by omega) (fun g2 f2 v e => ?_)⟩
        cases e
        by_cases c2 : 0 < alW w (60 + 10 * k) (180 + 10 * i)
        · rw [if_pos c2]
          have := H g2 (f.tr f2)
          rw [show laW w s k (j + 1) i = (i : Int) by simp only [laW, fst1, decide_eq_true_eq]; rw [if_pos ⟨c, c2⟩], if_neg (by omega)] at this
          exact ⟨by simp, this⟩
        · rw [if_neg c2]; exact no (fun z => c2 z.2) g2 (f.tr f2)
  exact L (w 7).toNat 0 h (by omega) FrP.rf H
theorem sp_isLikeAlias {h : Hp} {m : Nat} {w : Nat → Int} (a : RD h m w) (hV : V w) {s : Int} {k : Nat} (hk : (k : Int) < w 6) {d mc ms : Nat} {R : PR} (hd : 4 ≤ d) {o3 : Option AV} (H : ∀ h', FrP (SM m) h h' → R (some (xI (if llW w s k (w 8).toNat 0 = -1 then 0 else 1))) h') : Wp m_M_isLikeAlias 0 [some (xR m), some (xI s), some (xI (k : Int)), o3] [] h d mc ms R := by
  have v0 := hV.1.1
  have v1 := hV.1.2.1
  have v2 := hV.1.2.2.1
  have v3 := hV.1.2.2.2.1
  have v4 := hV.1.2.2.2.2.1
  have v5 := hV.1.2.2.2.2.2.1
  have v6 := hV.1.2.2.2.2.2.2.1
  have v7 := hV.1.2.2.2.2.2.2.2.1
  have v8 := hV.1.2.2.2.2.2.2.2.2.1
  have v9 := hV.1.2.2.2.2.2.2.2.2.2
  have hn := hV.2.2.2.1 k hk
  apply f_M_isLikeAlias_0
  have L : ∀ (j i : Nat) (g : Hp), ((i + j : Nat) : Int) = w 8 → FrP (SM m) h g → (∀ h', FrP (SM m) h h' → R (some (xI (if llW w s k j i = -1 then 0 else 1))) h') → Wp m_M_isLikeAlias 2 [some (xR m), some (xI s), some (xI (k : Int)), some (xI (i : Int))] [] g d mc ms R := by
    intro j
    induction j with
    | zero =>
      intro i g hi f H
      have a := a.fr f
      apply f_M_isLikeAlias_2
      simp (disch := omega) only [a.1.tag, a.1.row_n, a.1.row_t, a.2, tn_0, tn_1, tn_2, tn_3, tn_4, tn_5, tn_6, tn_7, tn_8, tn_9, tn_10, tn_11, tn_12, ai_add_nn, ai_mul_nn, aa_1, aa_2, aa_3, aa_10, aa_36, aa_60, aa_180, aa_280, aa_290, aa_650, aa_950, aa_980, aa_1010, aa_2020, aa_4040, aa_100, aa_200, aa_300, aa_400, ab_1, ab_2, ab_3, ab_4, ab_20, ab_10, ab_280, am_2, am_3, am_5, am_10, am_12, am_36, am_100, am_1010, an_2, an_3, an_10, an_12, as_1, as_2, as_3, Int.toNat_natCast, q_lt, n_lt, q_le, n_le, q_eq, n_eq, q_nle, not_false_eq_true, not_true_eq_false, true_and, and_true, true_or, or_true, and_self, ↓reduceIte]
      exact H g f
    | succ j ih =>
      intro i g hi f H
      have a := a.fr f
      apply f_M_isLikeAlias_2
      rw [a.1.row_n, a.1.row_t, tn_8, a.2 8 (by omega), if_pos (by omega), am_10 (by omega), am_10 (by omega), aa_650 (by omega), aa_60 (by omega), aa_950 (by omega), ab_1 (by omega)]
      have no : ¬ (¬ w (980 + i) < w 9 ∧ ¬ w (950 + i) = s ∧ 0 < alW w (60 + 10 * k) (650 + 10 * i)) → ∀ g, FrP (SM m) h g → Wp m_M_isLikeAlias 2 [some (xR m), some (xI s), some (xI (k : Int)), some (xI ((i + 1 : Nat) : Int))] [] g d mc ms R := fun z g f => by
        refine ih (i + 1) g (by omega) f ?_
        rw [show llW w s k (j + 1) i = llW w s k j (i + 1) by simp only [llW, fst1, decide_eq_true_eq]; rw [if_neg z]] at H
        exact H
      refine ⟨a.1.tag, ⟨rfl, by omega, by decide⟩, ⟨by omega, a.1.tag⟩, sp_mLive a (by omega) (fun v e => ?_)⟩
      cases e
      by_cases c : w (980 + i) < w 9
      · rw [if_pos c, if_pos rfl]; exact no (fun z => z.1 c) g f
      · rw [if_neg c, if_neg (by decide), a.1.row_n, a.1.row_t, Int.toNat_natCast, a.2 _ (by omega)]
        refine ⟨a.1.tag, ⟨rfl, by omega, by show ((950 + i : Nat) : Int) < 24240; omega⟩, ?_⟩
        by_cases c1 : w (950 + i) = s
        · rw [if_pos c1]; exact no (fun z => z.2.1 c1) g f
        · rw [if_neg c1]
          refine ⟨⟨by omega, a.1.tag⟩, sp_alikeOf a hV (by omega) hn (by omega) (hV.2.2.2.2.2.1 i (by omega)) (by omega) (fun g2 f2 v e => ?_)⟩
          cases e
          by_cases c2 : 0 < alW w (60 + 10 * k) (650 + 10 * i)
          · rw [if_pos c2]
            have := H g2 (f.tr f2)
            rw [show llW w s k (j + 1) i = (i : Int) by simp only [llW, fst1, decide_eq_true_eq]; rw [if_pos ⟨c, c1, c2⟩], if_neg (by omega)] at this
            exact ⟨by simp, this⟩
          · rw [if_neg c2]; exact no (fun z => c2 z.2.2) g2 (f.tr f2)
  exact L (w 8).toNat 0 h (by omega) FrP.rf H
def whyA (w : Nat → Int) (s k : Int) : Int := if (0 ≤ s ∧ s < w 7) ∧ (0 ≤ k ∧ k < w 6) then (if plW w 180 (w 7) (wordW w (60 + 10 * k.toNat)) = -1 then (if laW w s k.toNat (w 7).toNat 0 = -1 then (if llW w s k.toNat (w 8).toNat 0 = -1 then (if w 8 < 30 then 0 else 4) else 3) else 2) else 1) else -1
theorem sp_mwhy {h : Hp} {m : Nat} {w : Nat → Int} (a : RD h m w) (hV : V w) {s k : Int} {d mc ms : Nat} {R : PR} (hd : 5 ≤ d) (H : ∀ h', FrP (SM m) h h' → R (some (xI (whyA w s k))) h') : Wp m_M_why 0 [some (xR m), some (xI s), some (xI k)] [] h d mc ms R := by
  have v0 := hV.1.1
  have v1 := hV.1.2.1
  have v2 := hV.1.2.2.1
  have v3 := hV.1.2.2.2.1
  have v4 := hV.1.2.2.2.2.1
  have v5 := hV.1.2.2.2.2.2.1
  have v6 := hV.1.2.2.2.2.2.2.1
  have v7 := hV.1.2.2.2.2.2.2.2.1
  have v8 := hV.1.2.2.2.2.2.2.2.2.1
  have v9 := hV.1.2.2.2.2.2.2.2.2.2
  apply f_M_why_0
  refine ⟨⟨by omega, a.1.tag⟩, sp_isStreet a hV (by omega) (fun v e => ?_)⟩
  cases e
  unfold whyA at H
  by_cases c : 0 ≤ s ∧ s < w 7
  · rw [if_pos c, if_neg (by decide), a.1.row_n, a.1.row_t, tn_6, a.2 6 (by omega), ai_sub_eq (by omega) (by omega)]
    refine ⟨a.1.tag, ⟨rfl, by omega, by decide⟩, by omega, sp_isIn (fun v e => ?_)⟩
    cases e
    by_cases c1 : 0 ≤ k ∧ k ≤ w 6 - 1
    · rw [if_pos c1, if_neg (by decide)]
      rw [if_pos ⟨c, by omega⟩] at H
      obtain ⟨q, rfl⟩ : ∃ q : Nat, k = (q : Int) := ⟨k.toNat, by omega⟩
      rw [Int.toNat_natCast] at H
      refine ⟨⟨by omega, a.1.tag⟩, sp_misTaken a hV (by omega) (by omega) (fun g1 f1 v e => ?_)⟩
      cases e
      by_cases c2 : plW w 180 (w 7) (wordW w (60 + 10 * q)) = -1
      · rw [if_pos c2, if_pos rfl]
        rw [if_pos c2] at H
        have a1 := a.fr f1
        refine ⟨⟨by omega, a1.1.tag⟩, sp_isLikeAnother a1 hV (by omega) (by omega) (fun g2 f2 v e => ?_)⟩
        cases e
        by_cases c3 : laW w s q (w 7).toNat 0 = -1
        · rw [if_pos c3, if_pos rfl]
          rw [if_pos c3] at H
          have a2 := a1.fr f2
          refine ⟨⟨by omega, a2.1.tag⟩, sp_isLikeAlias a2 hV (by omega) (by omega) (fun g3 f3 v e => ?_)⟩
          cases e
          by_cases c4 : llW w s q (w 8).toNat 0 = -1
          · rw [if_pos c4, if_pos rfl]
            rw [if_pos c4] at H
            have a3 := a2.fr f3
            rw [a3.1.row_n, a3.1.row_t, tn_8, a3.2 8 (by omega)]
            refine ⟨a3.1.tag, ⟨rfl, by omega, by decide⟩, ?_⟩
            have H := H g3 (f1.tr (f2.tr f3))
            by_cases c5 : w 8 < 30
            · rw [if_pos c5]; rw [if_pos c5] at H; exact H
            · rw [if_neg c5]; rw [if_neg c5] at H; exact H
          · rw [if_neg c4, if_neg (by decide)]
            rw [if_neg c4] at H
            exact H g3 (f1.tr (f2.tr f3))
        · rw [if_neg c3, if_neg (by decide)]
          rw [if_neg c3] at H
          exact H g2 (f1.tr f2)
      · rw [if_neg c2, if_neg (by decide)]
        rw [if_neg c2] at H
        exact H g1 f1
    · rw [if_neg c1, if_pos rfl]
      rw [if_neg (fun z => by omega)] at H
      exact H h FrP.rf
  · rw [if_neg c, if_pos rfl]
    rw [if_neg (fun z => c z.1)] at H
    exact H h FrP.rf
theorem sp_isLiveOfAnother {h : Hp} {t : Nat} {w : Nat → Int} (a : TR h t w) (hV : V w) {k : Nat} (hk : (k : Int) < w 8) {s : Int} {d mc ms : Nat} {R : PR} (hd : 1 ≤ d) (H : R (some (xI (if ¬ w (980 + k) < w 9 ∧ ¬ w (950 + k) = s then 1 else 0))) h) : Wp m_Town_isLiveOfAnother 0 [some (xR t), some (xI (k : Int)), some (xI s)] [] h d mc ms R := by
  have v0 := hV.1.1
  have v1 := hV.1.2.1
  have v2 := hV.1.2.2.1
  have v3 := hV.1.2.2.2.1
  have v4 := hV.1.2.2.2.2.1
  have v5 := hV.1.2.2.2.2.2.1
  have v6 := hV.1.2.2.2.2.2.2.1
  have v7 := hV.1.2.2.2.2.2.2.2.1
  have v8 := hV.1.2.2.2.2.2.2.2.2.1
  have v9 := hV.1.2.2.2.2.2.2.2.2.2
  have hT := a.1.1
  have h6 : hpC h (t + 16) k = w (950 + k) := a.1.2.2.2.2.2.1 k hk
  apply f_Town_isLiveOfAnother_0
  rw [hT.aliasStreet_n, hT.aliasStreet_t, Int.toNat_natCast, h6]
  refine ⟨hT.tag, ⟨rfl, by omega, by show (k : Int) < 30; omega⟩, ?_⟩
  by_cases c1 : w (950 + k) = s
  · rw [if_pos c1]; rw [if_neg (fun z => z.2 c1)] at H; exact ⟨by simp, H⟩
  · rw [if_neg c1]
    refine ⟨⟨by omega, hT.tag⟩, sp_cLive a hV hk (fun v e => ?_)⟩
    cases e
    by_cases c : w (980 + k) < w 9
    · rw [if_pos c, if_pos rfl]; rw [if_neg (fun z => z.1 c)] at H; exact ⟨by simp, H⟩
    · rw [if_neg c, if_neg (by decide)]; rw [if_pos ⟨c, c1⟩] at H; exact ⟨by simp, H⟩
theorem sp_cwhy {h : Hp} {x : Nat} {w : Nat → Int} (s : sAt h x) (a : TR h (x + 43) w) (hV : V w) {s' k : Int} {d mc ms : Nat} {R : PR} (hd : 5 ≤ d) {o3 o4 o5 : Option AV} (H : R (some (xI (whyA w s' k))) h) : Wp m_S_why 0 [some (xR x), some (xI s'), some (xI k), o3, o4, o5] [] h d mc ms R := by
  have v0 := hV.1.1
  have v1 := hV.1.2.1
  have v2 := hV.1.2.2.1
  have v3 := hV.1.2.2.2.1
  have v4 := hV.1.2.2.2.2.1
  have v5 := hV.1.2.2.2.2.2.1
  have v6 := hV.1.2.2.2.2.2.2.1
  have v7 := hV.1.2.2.2.2.2.2.2.1
  have v8 := hV.1.2.2.2.2.2.2.2.2.1
  have v9 := hV.1.2.2.2.2.2.2.2.2.2
  have hT := a.1.1
  have hR := a.1.2.1
  have b1 : NW h (x + 43 + 7) w (w 7) 180 := a.1.2.2.1
  have b2 : NW h (x + 43 + 10) w (w 6) 60 := a.1.2.2.2.1
  have b3 : NW h (x + 43 + 13) w (w 8) 650 := a.1.2.2.2.2.1
  have hw : HW h (x + 43 + 18) w := a.1.2.2.2.2.2.2.1
  have h7 : hpC h (x + 43) 7 = w 9 := a.1.2.2.2.2.2.2.2
  have n1 : NS h (x + 43 + 7) w (w 7) 180 := a.2.1
  have n2 : NS h (x + 43 + 10) w (w 6) 60 := a.2.2.1
  have n3 : NS h (x + 43 + 13) w (w 8) 650 := a.2.2.2.1
  unfold whyA at H
  apply f_S_why_0
  rw [s.now_n, hT.streets_n]
  refine ⟨s.tag, hT.tag, ⟨by omega, hT.streets_a.tag⟩, sp_holds hT.streets_a.tag b1.1 (fun v e => ?_)⟩
  cases e
  by_cases c : 0 ≤ s' ∧ s' < w 7
  · rw [if_pos c, if_neg (by decide), s.now_n, hT.pool_n]
    refine ⟨s.tag, hT.tag, ⟨by omega, hT.pool_a.tag⟩, sp_holds hT.pool_a.tag b2.1 (fun v e => ?_)⟩
    cases e
    by_cases c1 : 0 ≤ k ∧ k < w 6
    · rw [if_pos c1, if_neg (by decide)]
      rw [if_pos ⟨c, c1⟩] at H
      obtain ⟨q, rfl⟩ : ∃ q : Nat, k = (q : Int) := ⟨k.toNat, by omega⟩
      rw [Int.toNat_natCast] at H
      rw [s.now_n, hT.pool_n, hT.pool_a.word_n, hT.pool_a.word_t, hT.streets_n, Int.toNat_natCast, b2.2 q (by omega)]
      refine ⟨s.tag, hT.tag, hT.pool_a.tag, ⟨rfl, by omega, by show (q : Int) < 12; omega⟩, s.tag, hT.tag, ⟨by omega, hT.streets_a.tag⟩, sp_placeOfN hT.streets_a b1 (by omega) (by omega) (fun v e => ?_)⟩
      cases e
      by_cases c2 : plW w 180 (w 7) (wordW w (60 + 10 * q)) = -1
      · rw [if_pos c2]
        rw [if_pos c2] at H
        have okq := hV.2.2.2.1 q (by omega)
        have L2 : ∀ (j i : Nat) (o3 o4 : Option AV), ((i + j : Nat) : Int) = w 8 → R (some (xI (if llW w s' q j i = -1 then (if w 8 < 30 then 0 else 4) else 3))) h → Wp m_S_why 122 [some (xR x), some (xI s'), some (xI (q : Int)), o3, o4, some (xI (i : Int))] [] h d mc ms R := by
          intro j
          induction j with
          | zero =>
            intro i o3 o4 hi H
            apply f_S_why_122
            rw [s.now_n, hT.aliases_n, b3.1, if_neg (by omega)]
            refine ⟨s.tag, hT.tag, hT.aliases_a.tag, s.tag, hT.tag, hT.aliases_a.tag, ?_⟩
            rw [show llW w s' q 0 i = -1 from rfl, if_pos rfl] at H
            by_cases c5 : w 8 < 30
            · rw [if_pos c5]; rw [if_pos c5] at H; exact H
            · rw [if_neg c5]; rw [if_neg c5] at H; exact H
          | succ j ih =>
            intro i o3 o4 hi H
            have no : ¬ (¬ w (980 + i) < w 9 ∧ ¬ w (950 + i) = s' ∧ 0 < alW w (60 + 10 * q) (650 + 10 * i)) → ∀ o3 o4 : Option AV, Wp m_S_why 122 [some (xR x), some (xI s'), some (xI (q : Int)), o3, o4, some (xI ((i + 1 : Nat) : Int))] [] h d mc ms R := fun z o3 o4 => by
              refine ih (i + 1) _ _ (by omega) ?_
              rw [show llW w s' q (j + 1) i = llW w s' q j (i + 1) by simp only [llW, fst1, decide_eq_true_eq]; rw [if_neg z]] at H
              exact H
            apply f_S_why_122
            rw [s.now_n, hT.aliases_n, b3.1, if_pos (by omega), ab_1 (by omega)]
            refine ⟨s.tag, hT.tag, hT.aliases_a.tag, s.tag, ⟨by omega, hT.tag⟩, sp_isLiveOfAnother a hV (by omega) (by omega) (fun v e => ?_)⟩
            cases e
            by_cases c6 : ¬ w (980 + i) < w 9 ∧ ¬ w (950 + i) = s'
            · rw [if_pos c6, if_neg (by decide), s.now_n, hT.pool_n, hT.aliases_n]
              refine ⟨s.tag, s.tag, hT.tag, s.tag, hT.tag, ⟨by omega, hT.tag⟩, sp_areAlike hT hR.1 hV hT.pool_a hT.aliases_a b2 b3 n2 n3 (by omega) (by omega) (by omega) (by omega) okq (hV.2.2.2.2.2.1 i (by omega)) (by omega) (fun v e => ?_)⟩
              cases e
              by_cases c7 : 0 < alW w (60 + 10 * q) (650 + 10 * i)
              · rw [if_pos c7, if_neg (by decide)]
                rw [show llW w s' q (j + 1) i = (i : Int) by simp only [llW, fst1, decide_eq_true_eq]; rw [if_pos ⟨c6.1, c6.2, c7⟩], if_neg (by omega)] at H
                exact H
              · rw [if_neg c7, if_pos rfl]; exact no (fun z => c7 z.2.2) _ _
            · rw [if_neg c6, if_pos rfl]; exact no (fun z => c6 ⟨z.1, z.2.1⟩) _ _
        have L1 : ∀ (j i : Nat) (o3 o4 : Option AV), ((i + j : Nat) : Int) = w 7 → R (some (xI (if laW w s' q j i = -1 then (if llW w s' q (w 8).toNat 0 = -1 then (if w 8 < 30 then 0 else 4) else 3) else 2))) h → Wp m_S_why 63 [some (xR x), some (xI s'), some (xI (q : Int)), o3, o4, some (xI (i : Int))] [] h d mc ms R := by
          intro j
          induction j with
          | zero =>
            intro i o3 o4 hi H
            apply f_S_why_63
            rw [s.now_n, hT.streets_n, b1.1, if_neg (by omega)]
            rw [show laW w s' q 0 i = -1 from rfl, if_pos rfl] at H
            exact ⟨s.tag, hT.tag, hT.streets_a.tag, L2 (w 8).toNat 0 _ _ (by omega) H⟩
          | succ j ih =>
            intro i o3 o4 hi H
            have no : ¬ (¬ (i : Int) = s' ∧ 0 < alW w (60 + 10 * q) (180 + 10 * i)) → ∀ o3 o4 : Option AV, Wp m_S_why 63 [some (xR x), some (xI s'), some (xI (q : Int)), o3, o4, some (xI ((i + 1 : Nat) : Int))] [] h d mc ms R := fun z o3 o4 => by
              refine ih (i + 1) _ _ (by omega) ?_
              rw [show laW w s' q (j + 1) i = laW w s' q j (i + 1) by simp only [laW, fst1, decide_eq_true_eq]; rw [if_neg z]] at H
              exact H
            apply f_S_why_63
            rw [s.now_n, hT.streets_n, hT.pool_n, b1.1, if_pos (by omega), ab_1 (by omega)]
            refine ⟨s.tag, hT.tag, hT.streets_a.tag, ?_⟩
            by_cases c6 : (i : Int) = s'
            · rw [if_pos c6]; exact no (fun z => z.1 c6) _ _
            · rw [if_neg c6]
              refine ⟨s.tag, s.tag, hT.tag, s.tag, hT.tag, ⟨by omega, hT.tag⟩, sp_areAlike hT hR.1 hV hT.pool_a hT.streets_a b2 b1 n2 n1 (by omega) (by omega) (by omega) (by omega) okq (hV.2.2.2.2.1 i (by omega)) (by omega) (fun v e => ?_)⟩
              cases e
              by_cases c7 : 0 < alW w (60 + 10 * q) (180 + 10 * i)
              · rw [if_pos c7, if_neg (by decide)]
                rw [show laW w s' q (j + 1) i = (i : Int) by simp only [laW, fst1, decide_eq_true_eq]; rw [if_pos ⟨c6, c7⟩], if_neg (by omega)] at H
                exact H
              · rw [if_neg c7, if_pos rfl]; exact no (fun z => c7 z.2) _ _
        exact L1 (w 7).toNat 0 _ _ (by omega) H
      · rw [if_neg c2]
        rw [if_neg c2] at H
        exact H
    · rw [if_neg c1, if_pos rfl]
      rw [if_neg (fun z => c1 z.2)] at H
      exact H
  · rw [if_neg c, if_pos rfl]
    rw [if_neg (fun z => c z.1)] at H
    exact H
/-! takes -/
def tkN (p : Nat → Bool) (k : Int) : Nat → Nat → Int → Int
  | 0, _, n => if k = -1 then n else -1
  | j + 1, i, n => if p i then (if n = k then (i : Int) else tkN p k j (i + 1) (n + 1)) else tkN p k j (i + 1) n
def takesA (w : Nat → Int) (s k : Int) : Int := if (0 ≤ s ∧ s < w 7) ∧ ¬ k < -1 then tkN (fun i => decide (whyA w s (i : Int) = 0)) k (w 6).toNat 0 0 else -1
theorem sp_mtakes {h : Hp} {m : Nat} {w : Nat → Int} (a : RD h m w) (hV : V w) {s k : Int} {d mc ms : Nat} {R : PR} (hd : 6 ≤ d) {o3 o4 : Option AV} (H : ∀ h', FrP (SM m) h h' → R (some (xI (takesA w s k))) h') : Wp m_M_takes 0 [some (xR m), some (xI s), some (xI k), o3, o4] [] h d mc ms R := by
  have v0 := hV.1.1
  have v1 := hV.1.2.1
  have v2 := hV.1.2.2.1
  have v3 := hV.1.2.2.2.1
  have v4 := hV.1.2.2.2.2.1
  have v5 := hV.1.2.2.2.2.2.1
  have v6 := hV.1.2.2.2.2.2.2.1
  have v7 := hV.1.2.2.2.2.2.2.2.1
  have v8 := hV.1.2.2.2.2.2.2.2.2.1
  have v9 := hV.1.2.2.2.2.2.2.2.2.2
  unfold takesA at H
  apply f_M_takes_0
  refine ⟨⟨by omega, a.1.tag⟩, sp_isStreet a hV (by omega) (fun v e => ?_)⟩
  cases e
  by_cases c : 0 ≤ s ∧ s < w 7
  · rw [if_pos c, if_neg (by decide)]
    by_cases c1 : k < -1
    · rw [if_pos c1]; rw [if_neg (fun z => z.2 c1)] at H; exact H h FrP.rf
    · rw [if_neg c1]
      rw [if_pos ⟨c, c1⟩] at H
      have L : ∀ (j i n : Nat) (g : Hp), ((i + j : Nat) : Int) = w 6 → n ≤ i → FrP (SM m) h g → (∀ h', FrP (SM m) h h' → R (some (xI (tkN (fun i => decide (whyA w s (i : Int) = 0)) k j i (n : Int)))) h') → Wp m_M_takes 20 [some (xR m), some (xI s), some (xI k), some (xI (n : Int)), some (xI (i : Int))] [] g d mc ms R := by
        intro j
        induction j with
        | zero =>
          intro i n g hi hn f H
          have a := a.fr f
          have H := H g f
          apply f_M_takes_20
          rw [a.1.row_n, a.1.row_t, tn_6, a.2 6 (by omega), if_neg (by omega)]
          refine ⟨a.1.tag, ⟨rfl, by omega, by decide⟩, ?_⟩
          simp only [tkN] at H
          by_cases c2 : k = -1
          · rw [if_pos c2]; rw [if_pos c2] at H; exact H
          · rw [if_neg c2]; rw [if_neg c2] at H; exact H
        | succ j ih =>
          intro i n g hi hn f H
          have a := a.fr f
          apply f_M_takes_20
          rw [a.1.row_n, a.1.row_t, tn_6, a.2 6 (by omega), if_pos (by omega), ab_1 (by omega), ab_1 (by omega)]
          refine ⟨a.1.tag, ⟨rfl, by omega, by decide⟩, ⟨by omega, a.1.tag⟩, sp_mwhy a hV (by omega) (fun g2 f2 v e => ?_)⟩
          cases e
          simp only [tkN, decide_eq_true_eq] at H
          by_cases c2 : whyA w s (i : Int) = 0
          · rw [if_pos c2]
            rw [if_pos c2] at H
            by_cases c3 : (n : Int) = k
            · rw [if_pos c3]; rw [if_pos c3] at H; exact H g2 (f.tr f2)
            · rw [if_neg c3]; rw [if_neg c3] at H; exact ih (i + 1) (n + 1) g2 (by omega) (by omega) (f.tr f2) H
          · rw [if_neg c2]
            rw [if_neg c2] at H
            exact ih (i + 1) n g2 (by omega) (by omega) (f.tr f2) H
      exact L (w 6).toNat 0 0 h (by omega) (by omega) FrP.rf H
  · rw [if_neg c, if_pos rfl]
    rw [if_neg (fun z => c z.1)] at H
    exact H h FrP.rf
theorem sp_ctakes {h : Hp} {x : Nat} {w : Nat → Int} (s : sAt h x) (a : TR h (x + 43) w) (hV : V w) {s' k : Int} {d mc ms : Nat} {R : PR} (hd : 6 ≤ d) {o3 o4 : Option AV} (H : R (some (xI (takesA w s' k))) h) : Wp m_S_takes 0 [some (xR x), some (xI s'), some (xI k), o3, o4] [] h d mc ms R := by
  have v0 := hV.1.1
  have v1 := hV.1.2.1
  have v2 := hV.1.2.2.1
  have v3 := hV.1.2.2.2.1
  have v4 := hV.1.2.2.2.2.1
  have v5 := hV.1.2.2.2.2.2.1
  have v6 := hV.1.2.2.2.2.2.2.1
  have v7 := hV.1.2.2.2.2.2.2.2.1
  have v8 := hV.1.2.2.2.2.2.2.2.2.1
  have v9 := hV.1.2.2.2.2.2.2.2.2.2
  have hT := a.1.1
  have hR := a.1.2.1
  have b1 : NW h (x + 43 + 7) w (w 7) 180 := a.1.2.2.1
  have b2 : NW h (x + 43 + 10) w (w 6) 60 := a.1.2.2.2.1
  have b3 : NW h (x + 43 + 13) w (w 8) 650 := a.1.2.2.2.2.1
  have hw : HW h (x + 43 + 18) w := a.1.2.2.2.2.2.2.1
  have h7 : hpC h (x + 43) 7 = w 9 := a.1.2.2.2.2.2.2.2
  unfold takesA at H
  apply f_S_takes_0
  rw [s.now_n, hT.streets_n]
  refine ⟨s.tag, hT.tag, ⟨by omega, hT.streets_a.tag⟩, sp_holds hT.streets_a.tag b1.1 (fun v e => ?_)⟩
  cases e
  by_cases c : 0 ≤ s' ∧ s' < w 7
  · rw [if_pos c, if_neg (by decide)]
    by_cases c1 : k < -1
    · rw [if_pos c1]; rw [if_neg (fun z => z.2 c1)] at H; exact H
    · rw [if_neg c1]
      rw [if_pos ⟨c, c1⟩] at H
      have L : ∀ (j i n : Nat), ((i + j : Nat) : Int) = w 6 → n ≤ i → R (some (xI (tkN (fun i => decide (whyA w s' (i : Int) = 0)) k j i (n : Int)))) h → Wp m_S_takes 26 [some (xR x), some (xI s'), some (xI k), some (xI (n : Int)), some (xI (i : Int))] [] h d mc ms R := by
        intro j
        induction j with
        | zero =>
          intro i n hi hn H
          apply f_S_takes_26
          rw [s.now_n, hT.pool_n, b2.1, if_neg (by omega)]
          refine ⟨s.tag, hT.tag, hT.pool_a.tag, ?_⟩
          simp only [tkN] at H
          by_cases c2 : k = -1
          · rw [if_pos c2]; rw [if_pos c2] at H; exact H
          · rw [if_neg c2]; rw [if_neg c2] at H; exact H
        | succ j ih =>
          intro i n hi hn H
          apply f_S_takes_26
          rw [s.now_n, hT.pool_n, b2.1, if_pos (by omega), ab_1 (by omega), ab_1 (by omega)]
          refine ⟨s.tag, hT.tag, hT.pool_a.tag, ⟨by omega, s.tag⟩, sp_cwhy s a hV (by omega) (fun v e => ?_)⟩
          cases e
          simp only [tkN, decide_eq_true_eq] at H
          by_cases c2 : whyA w s' (i : Int) = 0
          · rw [if_pos c2]
            rw [if_pos c2] at H
            by_cases c3 : (n : Int) = k
            · rw [if_pos c3]; rw [if_pos c3] at H; exact H
            · rw [if_neg c3]; rw [if_neg c3] at H; exact ih (i + 1) (n + 1) (by omega) (by omega) H
          · rw [if_neg c2]
            rw [if_neg c2] at H
            exact ih (i + 1) n (by omega) (by omega) H
      exact L (w 6).toNat 0 0 (by omega) (by omega) H
  · rw [if_neg c, if_pos rfl]
    rw [if_neg (fun z => c z.1)] at H
    exact H
