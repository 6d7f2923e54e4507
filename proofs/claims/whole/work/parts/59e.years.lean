/-! ===== towns change: numbers, years ===== -/
theorem BS_bd {L own : Nat → Int} {T : Int} (hT : ∀ i, own i ≤ T) (hL : ∀ i, 0 ≤ L i) : ∀ j i p, FS L own T j i p < 1000 → ∀ q, q < j → 0 ≤ (BS L own T j i p).getD q 0 ∧ (BS L own T j i p).getD q 0 ≤ T
  | 0, i, p, _, q, hq => by omega
  | j + 1, i, p, h, q, hq => by
    have ho := hT i
    have hl := hL i
    have hg : 0 ≤ gS L p i := by unfold gS; omega
    simp only [FS] at h
    simp only [BS]
    by_cases c : gS L p i ≤ own i ∧ FS L own T j (i + 1) (own i) < 1 + FS L own T j (i + 1) (gS L p i)
    · rw [if_pos c]
      rw [if_pos c.1] at h
      cases q with
      | zero => simp only [List.getD_cons_zero]; omega
      | succ q =>
        simp only [List.getD_cons_succ]
        refine BS_bd hT hL j (i + 1) (own i) ?_ q (by omega)
        split at h <;> omega
    · rw [if_neg c]
      have key : gS L p i ≤ T ∧ FS L own T j (i + 1) (gS L p i) < 1000 := by
        have b := FS_bd L own T j (i + 1) (own i)
        by_cases c1 : gS L p i ≤ own i
        · rw [if_pos c1, if_pos (show gS L p i ≤ T by omega)] at h
          have : ¬ FS L own T j (i + 1) (own i) < 1 + FS L own T j (i + 1) (gS L p i) := fun z => c ⟨c1, z⟩
          omega
        · rw [if_neg c1] at h
          by_cases c2 : gS L p i ≤ T
          · rw [if_pos c2] at h; omega
          · rw [if_neg c2] at h; omega
      cases q with
      | zero => simp only [List.getD_cons_zero]; omega
      | succ q =>
        simp only [List.getD_cons_succ]
        exact BS_bd hT hL j (i + 1) (gS L p i) key.2 q (by omega)
theorem thenA_bd {g : Nat → Nat → Int} {n : Nat} (hG : GV g n) {st : Int} (hst : 1 ≤ st) (hf : fewA g n st ≠ -1) {q : Nat} (hq : q < n) : 1 ≤ thenA g n st q ∧ thenA g n st q ≤ 999 := by
  have h0 := (hG.2.1 q hq).1
  have hf' : fwA g n st (g 0 q) < 1000 := by
    unfold fewA at hf
    by_cases c0 : fwA g n st 0 < 1000
    · rw [if_pos c0] at hf
      by_cases c1 : fwA g n st 1 < 1000
      · rcases (by omega : g 0 q = 0 ∨ g 0 q = 1) with e | e
        · rw [e]; exact c0
        · rw [e]; exact c1
      · rw [if_neg c1] at hf; exact absurd rfl hf
    · rw [if_neg c0] at hf; exact absurd rfl hf
  have r1 := rkG_bd g n (g 0 q) (g 1 q)
  have r2 := rkG_sz hG hq rfl
  have := BS_bd (fun i => (owX_bd hG (st := st) h0 i).2) (fun i => (loX_bd hG (st := st) (sd := g 0 q) hst i).1) (szG g n (g 0 q)).toNat 0 (-1) hf' (rkG g n (g 0 q) (g 1 q)).toNat (by omega)
  unfold thenA fwB
  omega
/-! new numbers -/
def rneW (w : Nat → Int) (s : Nat) (f : Nat → Int) (k : Nat) : Nat → Int := fun p => if 290 + 36 * s ≤ p ∧ p < 290 + 36 * s + 3 * k ∧ (p - (290 + 36 * s)) % 3 = 2 then f ((p - (290 + 36 * s)) / 3) else w p
theorem rneW_o {w : Nat → Int} {s : Nat} {f : Nat → Int} {k p : Nat} (h : p < 290 + 36 * s ∨ 290 + 36 * s + 3 * k ≤ p ∨ (p - (290 + 36 * s)) % 3 ≠ 2) : rneW w s f k p = w p := by unfold rneW; rw [if_neg (by omega)]
theorem rneW_n {w : Nat → Int} {s : Nat} {f : Nat → Int} {k i : Nat} (hi : i < k) : rneW w s f k (290 + 36 * s + 3 * i + 2) = f i := by
  unfold rneW; rw [if_pos (by omega)]; congr 1; omega
theorem rneW_zero (w : Nat → Int) (s : Nat) (f : Nat → Int) : rneW w s f 0 = w := by funext p; exact rneW_o (by omega)
theorem rneW_V {w : Nat → Int} (hV : V w) {s : Nat} (hs : s < 10) {f : Nat → Int} {k : Nat} (hk : (k : Int) ≤ w (280 + s)) (hf : ∀ q, q < k → 1 ≤ f q ∧ f q ≤ 999) : V (rneW w s f k) := by
  obtain ⟨z1, z2, z3, z4⟩ := hV.2.2.2.2.2.2.1 s hs
  have ec : rneW w s f k (280 + s) = w (280 + s) := rneW_o (by omega)
  refine hV.ho hs (fun p hp => rneW_o (by omega)) (fun q hq hne => ⟨rneW_o (by omega), fun p p1 p2 => rneW_o (by omega)⟩) (by rw [ec]; exact z1) (fun z => by rw [ec]; exact z2 z) (fun j hj => ?_) (fun j k' hj hk' e1 e2 => ?_)
  · rw [ec] at hj
    obtain ⟨y1, y2, y3⟩ := z3 j hj
    rw [rneW_o (p := 290 + 36 * s + 3 * j) (by omega), rneW_o (p := 290 + 36 * s + 3 * j + 1) (by omega)]
    refine ⟨y1, y2, ?_⟩
    by_cases c : j < k
    · rw [rneW_n c]; exact hf j c
    · rw [rneW_o (by omega)]; exact y3
  · rw [ec] at hj hk'
    rw [rneW_o (p := 290 + 36 * s + 3 * j) (by omega), rneW_o (p := 290 + 36 * s + 3 * k') (by omega)] at e1
    rw [rneW_o (p := 290 + 36 * s + 3 * j + 1) (by omega), rneW_o (p := 290 + 36 * s + 3 * k' + 1) (by omega)] at e2
    exact z4 j k' hj hk' e1 e2
theorem rneW_succ {w : Nat → Int} {s : Nat} {f : Nat → Int} {k p : Nat} : rneW w s f (k + 1) p = if p = 290 + 36 * s + 3 * k + 2 then f k else rneW w s f k p := by
  by_cases c : p = 290 + 36 * s + 3 * k + 2
  · rw [if_pos c, c]; exact rneW_n (by omega)
  · rw [if_neg c]
    unfold rneW
    by_cases d : 290 + 36 * s ≤ p ∧ p < 290 + 36 * s + 3 * k ∧ (p - (290 + 36 * s)) % 3 = 2
    · rw [if_pos d, if_pos (by omega)]
    · rw [if_neg d, if_neg (by omega)]
/-- one number is put -/
theorem TR.num {h : Hp} {t : Nat} {w : Nat → Int} (hV : V w) (a : TR h t w) {s i : Nat} (hs : s < 10) (hi : (i : Int) < w (280 + s)) (v : Int) : TR (hpU h (t + 22) (12 * s + i) v) t (fun p => if p = 290 + 36 * s + 3 * i + 2 then v else w p) ∧ FrP (SD t) h (hpU h (t + 22) (12 * s + i) v) := by
  have F : FrP (SD t) h (hpU h (t + 22) (12 * s + i) v) := FrP.up (by unfold SD; omega)
  have hb := hV.hs hs
  refine ⟨a.ho hV F (fun q h1 h2 => ⟨rfl, fun p => hpC_o1 (by omega)⟩) (fun p hp => by rw [if_neg (by omega)]) (fun q hq => ?_), F⟩
  obtain ⟨k1, k2⟩ := a.1.2.2.2.2.2.2.1 q hq
  have hbq := hV.hs hq
  refine ⟨by rw [if_neg (by omega), hpC_o1 (by omega)]; exact k1, fun j hj => ?_⟩
  rw [if_neg (by omega)] at hj
  obtain ⟨z1, z2, z3⟩ := k2 j hj
  rw [if_neg (by omega), if_neg (by omega), hpC_o1 (by omega), hpC_o1 (by omega)]
  refine ⟨z1, z2, ?_⟩
  by_cases c : q = s ∧ j = i
  · obtain ⟨rfl, rfl⟩ := c
    rw [if_pos rfl, hpC_same]
  · rw [if_neg (by omega), hpC_o2 (by omega)]; exact z3
/-! years -/
def yrW (w : Nat → Int) (n : Int) : Nat → Int := fun p => if p = 9 then w 9 + n else w p
theorem yrW_o {w : Nat → Int} {n : Int} {p : Nat} (h : p ≠ 9) : yrW w n p = w p := by unfold yrW; rw [if_neg h]
theorem yrW_9 (w : Nat → Int) (n : Int) : yrW w n 9 = w 9 + n := by unfold yrW; rw [if_pos rfl]
theorem yrW_V {w : Nat → Int} (hV : V w) {n : Int} (h1 : 1 ≤ n) (h2 : w 9 + n ≤ 999) : V (yrW w n) := by
  obtain ⟨⟨v0, v1, v2, v3, v4, v5, v6, v7, v8, v9⟩, w1, w2, w3, w4, w5, w6, w7⟩ := hV
  have L : ∀ p, p ≠ 9 → yrW w n p = w p := fun p h => yrW_o h
  refine ⟨⟨by rw [L 0 (by omega)]; exact v0, by rw [L 1 (by omega)]; exact v1, by rw [L 2 (by omega)]; exact v2, by rw [L 3 (by omega)]; exact v3, by rw [L 4 (by omega)]; exact v4, by rw [L 5 (by omega)]; exact v5, by rw [L 6 (by omega)]; exact v6, by rw [L 7 (by omega)]; exact v7, by rw [L 8 (by omega)]; exact v8, by rw [yrW_9]; omega⟩, fun j hj => ?_, fun j hj i hi => ?_, fun j hj => ?_, fun j hj => ?_, fun j hj => ?_, fun q hq => ?_, fun j hj => ?_⟩
  · rw [L _ (by omega)]; exact w1 j hj
  · rw [L 5 (by omega)] at hj
    rw [L _ (by omega)]; exact w2 j hj i hi
  · rw [L 6 (by omega)] at hj
    exact okN_ext (fun i hi => (L _ (by omega)).symm) (w3 j hj)
  · rw [L 7 (by omega)] at hj
    exact okN_ext (fun i hi => (L _ (by omega)).symm) (w4 j hj)
  · rw [L 8 (by omega)] at hj
    exact okN_ext (fun i hi => (L _ (by omega)).symm) (w5 j hj)
  · obtain ⟨z1, z2, z3, z4⟩ := w6 q hq
    rw [L (280 + q) (by omega), L 7 (by omega)]
    refine ⟨z1, z2, fun i hi => ?_, fun i j hi hj => ?_⟩
    · rw [L _ (by omega), L _ (by omega), L _ (by omega)]; exact z3 i hi
    · rw [L _ (by omega), L _ (by omega), L _ (by omega), L _ (by omega)]; exact z4 i j hi hj
  · rw [L 8 (by omega)] at hj
    rw [L (950 + j) (by omega), L (980 + j) (by omega), L 7 (by omega)]; exact w7 j hj
theorem TR.yr {h : Hp} {t : Nat} {w : Nat → Int} (hV : V w) (a : TR h t w) (n : Int) : TR (hpU h t 7 (w 9 + n)) t (yrW w n) ∧ FrP (SD t) h (hpU h t 7 (w 9 + n)) := by
  have F : FrP (SD t) h (hpU h t 7 (w 9 + n)) := FrP.up (Or.inl ⟨rfl, rfl⟩)
  have E : eqC h (hpU h t 7 (w 9 + n)) (t + 1) (t + 22) := fun q h1 h2 => ⟨rfl, fun p => hpC_o1 (by omega)⟩
  have hV0 := hV
  obtain ⟨⟨v0, v1, v2, v3, v4, v5, v6, v7, v8, v9⟩, w1, w2, w3, w4, w5, w6, w7⟩ := hV
  obtain ⟨⟨a1, a2, a3, a4, a5, a6, a7, a8⟩, b1, b2, b3, b4⟩ := a
  have L : ∀ p, p ≠ 9 → w p = yrW w n p := fun p h => (yrW_o h).symm
  have eR : eqR w (yrW w n) := fun p _ _ h9 => L p h9
  have N7 := NW.ext (v := yrW w n) (fun k hk i hi => L _ (by omega)) (a3.eq (E.sub (by omega) (by omega)))
  have N10 := NW.ext (v := yrW w n) (fun k hk i hi => L _ (by omega)) (a4.eq (E.sub (by omega) (by omega)))
  have N13 := NW.ext (v := yrW w n) (fun k hk i hi => L _ (by omega)) (a5.eq (E.sub (by omega) (by omega)))
  have S7 := NS.ext hV0 eR w4 (fun k hk i hi => L _ (by omega)) (b1.eq (E.sub (by omega) (by omega)))
  have S10 := NS.ext hV0 eR w3 (fun k hk i hi => L _ (by omega)) (b2.eq (E.sub (by omega) (by omega)))
  have S13 := NS.ext hV0 eR w5 (fun k hk i hi => L _ (by omega)) (b3.eq (E.sub (by omega) (by omega)))
  have e7 := L 7 (by omega)
  have e6 := L 6 (by omega)
  have e8 := L 8 (by omega)
  rw [e7] at N7 S7
  rw [e6] at N10 S10
  rw [e8] at N13 S13
  exact ⟨⟨⟨a1.fd F, (a2.eq (E.sub (by omega) (by omega))).ext hV0 eR, N7, N10, N13, fun k hk => by rw [E.C _ _ (by omega) (by omega), a6 k (by omega), L _ (by omega)], (a7.eq (E.sub (by omega) (by omega))).ext hV0 (fun p h1 h2 => L p (by omega)), by rw [hpC_same, yrW_9]⟩, S7, S10, S13, fun k hk => by rw [E.C _ _ (by omega) (by omega), b4 k (by omega), L _ (by omega)]⟩, F⟩
/-- the aliases of u are those of w at these places -/
def AL (w u : Nat → Int) (l : List Nat) : Prop := (u 8 = (l.length : Int) ∧ l.length ≤ 30) ∧ (∀ j, j < l.length → (∀ i, i < 10 → u (650 + 10 * j + i) = w (650 + 10 * l.getD j 0 + i)) ∧ u (950 + j) = w (950 + l.getD j 0) ∧ u (980 + j) = w (980 + l.getD j 0)) ∧ ∀ p, p < 650 → p ≠ 8 → u p = w p
theorem gA1 {l1 l2 : List Nat} {j : Nat} (h : j < l1.length) : (l1 ++ l2).getD j 0 = l1.getD j 0 := by simp [List.getD, List.getElem?_append, h]
theorem gA2 {l1 l2 : List Nat} {j : Nat} (h : l1.length ≤ j) : (l1 ++ l2).getD j 0 = l2.getD (j - l1.length) 0 := by
  have : ¬ j < l1.length := by omega
  simp [List.getD, List.getElem?_append, this]
theorem AL.drop {w u : Nat → Int} {l1 l2 : List Nat} {y : Nat} (a : AL w u (l1 ++ y :: l2)) : AL w (dropW u l1.length) (l1 ++ l2) := by
  obtain ⟨⟨a1, a2⟩, a3, a4⟩ := a
  simp only [List.length_append, List.length_cons] at a1 a2 a3
  refine ⟨⟨by rw [dropW_8, a1]; simp only [List.length_append]; omega, by simp only [List.length_append]; omega⟩, fun j hj => ?_, fun p h1 h2 => by rw [dropW_low h1 h2]; exact a4 p h1 h2⟩
  simp only [List.length_append] at hj
  have d8 : ((j + 1 : Nat) : Int) < u 8 := by omega
  by_cases c : l1.length ≤ j
  · have e : (l1 ++ l2).getD j 0 = (l1 ++ y :: l2).getD (j + 1) 0 := by
      rw [gA2 c, gA2 (by omega), show j + 1 - l1.length = (j - l1.length) + 1 by omega, List.getD_cons_succ]
    rw [e, dropW_of d8 (by omega), dropW_to d8 (by omega), if_pos c, if_pos c]
    obtain ⟨z1, z2, z3⟩ := a3 (j + 1) (by omega)
    exact ⟨fun i hi => by rw [dropW_name d8 (by omega) hi, if_pos c]; exact z1 i hi, z2, z3⟩
  · have e : (l1 ++ l2).getD j 0 = (l1 ++ y :: l2).getD j 0 := by rw [gA1 (by omega), gA1 (by omega)]
    rw [e, dropW_of d8 (by omega), dropW_to d8 (by omega), if_neg c, if_neg c]
    obtain ⟨z1, z2, z3⟩ := a3 j (by omega)
    exact ⟨fun i hi => by rw [dropW_name d8 (by omega) hi, if_neg c]; exact z1 i hi, z2, z3⟩
theorem AL.eq {w u v : Nat → Int} {l : List Nat} (a : AL w u l) (b : AL w v l) : eqT u v := ⟨fun p hp => by
  by_cases e : p = 8
  · subst e; rw [a.1.1, b.1.1]
  · rw [a.2.2 p hp e, b.2.2 p hp e], fun j hj => by
  rw [a.1.1] at hj
  obtain ⟨x1, x2, x3⟩ := a.2.1 j (by omega)
  obtain ⟨y1, y2, y3⟩ := b.2.1 j (by omega)
  exact ⟨fun i hi => by rw [x1 i hi, y1 i hi], by rw [x2, y2], by rw [x3, y3]⟩⟩
def lvB (w : Nat → Int) (a : Nat) : Bool := decide (¬ w (980 + a) < w 9)
theorem range_gd {s n j : Nat} (h : j < n) : (List.range' s n).getD j 0 = s + j := by simp [List.getD, List.getElem?_range', h]
theorem AL.self {w : Nat → Int} (h : 0 ≤ w 8 ∧ w 8 ≤ 30) : AL w w (List.range' 0 (w 8).toNat) := by
  refine ⟨⟨by simp only [List.length_range']; omega, by simp only [List.length_range']; omega⟩, fun j hj => ?_, fun p _ _ => rfl⟩
  simp only [List.length_range'] at hj
  rw [range_gd hj, Nat.zero_add]
  exact ⟨fun i hi => rfl, rfl, rfl⟩
/-- the reference's years, aliases from k on -/
def yrF : Nat → (Nat → Int) → Nat → (Nat → Int)
  | 0, u, _ => u
  | f + 1, u, k => if (k : Int) < u 8 then (if u (980 + k) < u 9 then yrF f (dropW u k) k else yrF f u (k + 1)) else u
def yearsW (w : Nat → Int) (n : Int) : Nat → Int := yrF 31 (yrW w n) 0
theorem yrF_AL {w : Nat → Int} : ∀ (f : Nat) (u : Nat → Int) (l1 : List Nat) (e r : Nat), r < f → V u → AL w u (l1 ++ List.range' e r) → V (yrF f u l1.length) ∧ AL w (yrF f u l1.length) (l1 ++ (List.range' e r).filter (lvB w))
  | 0, u, l1, e, r, h, _, _ => by omega
  | f + 1, u, l1, e, 0, h, hV, a => by
    simp only [List.range'_zero, List.append_nil, List.filter_nil] at a ⊢
    simp only [yrF]
    rw [if_neg (by rw [a.1.1]; omega)]
    exact ⟨hV, a⟩
  | f + 1, u, l1, e, r + 1, h, hV, a => by
    have h8 := a.1.1
    simp only [List.range'_succ] at a h8 ⊢
    simp only [List.length_append, List.length_cons] at h8
    simp only [yrF]
    rw [if_pos (by rw [h8]; omega)]
    have at' := (a.2.1 l1.length (by simp only [List.length_append, List.length_cons]; omega)).2.2
    rw [gA2 (Nat.le_refl _), Nat.sub_self, List.getD_cons_zero] at at'
    have e9 : u 9 = w 9 := a.2.2 9 (by omega) (by omega)
    rw [at', e9]
    by_cases c : w (980 + e) < w 9
    · rw [if_pos c, List.filter_cons_of_neg (by unfold lvB; simp [c])]
      exact yrF_AL f (dropW u l1.length) l1 (e + 1) r (by omega) (dropW_V hV (by rw [h8]; omega)) a.drop
    · rw [if_neg c, List.filter_cons_of_pos (by unfold lvB; simp [c])]
      have := yrF_AL (w := w) f u (l1 ++ [e]) (e + 1) r (by omega) hV (by simpa using a)
      simp only [List.length_append, List.length_cons, List.length_nil, Nat.zero_add, List.append_assoc, List.cons_append, List.nil_append] at this
      exact this
theorem yearsW_AL {w : Nat → Int} (hV : V w) {n : Int} (h1 : 1 ≤ n) (h2 : w 9 + n ≤ 999) : V (yearsW w n) ∧ AL (yrW w n) (yearsW w n) ((List.range' 0 (w 8).toNat).filter (lvB (yrW w n))) := by
  have v8 := hV.1.2.2.2.2.2.2.2.2.1
  have hV' := yrW_V hV h1 h2
  have e8 : yrW w n 8 = w 8 := yrW_o (by omega)
  have := yrF_AL (w := yrW w n) 31 (yrW w n) [] 0 (w 8).toNat (by omega) hV' (by rw [← e8]; exact AL.self (by rw [e8]; exact v8))
  exact ⟨this.1, this.2⟩
