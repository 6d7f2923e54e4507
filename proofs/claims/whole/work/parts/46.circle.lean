/-! ===== circle, least ===== -/
def sbB (X Y : Nat) : Prop := ∀ t, X.testBit t = true → Y.testBit t = true
def clsd (c : Nat → Nat) (n X : Nat) : Prop := ∀ s, s < n → X.testBit s = true → sbB (c s) X
theorem sbB_or {X Y Z : Nat} : sbB (X ||| Y) Z ↔ sbB X Z ∧ sbB Y Z := by
  constructor
  · intro h
    exact ⟨fun t ht => h t (by rw [Nat.testBit_or, ht]; rfl), fun t ht => h t (by rw [Nat.testBit_or, ht]; simp)⟩
  · rintro ⟨h1, h2⟩ t ht
    rw [Nat.testBit_or, Bool.or_eq_true] at ht
    rcases ht with z | z
    · exact h1 t z
    · exact h2 t z
theorem sbB_anti {X Y n : Nat} (hx : X < 2 ^ n) (hy : Y < 2 ^ n) (h1 : sbB X Y) (h2 : sbB Y X) : X = Y := bits_eq hx hy (fun t _ => by
  cases e : X.testBit t with
  | true => exact (h1 t e).symm
  | false => cases e2 : Y.testBit t with
    | false => rfl
    | true => rw [h2 t e2] at e; cases e)
theorem nkS_le {kb kb' : Nat → Bool} (h : ∀ t, kb t = true → kb' t = true) : ∀ j i, nkS kb j i ≤ nkS kb' j i
  | 0, _ => Int.le_refl _
  | j + 1, i => by
    have := nkS_le h j (i + 1)
    simp only [nkS]
    by_cases c : kb i = true
    · rw [if_pos c, if_pos (h i c)]; omega
    · rw [if_neg c]; split <;> omega
theorem nkS_lt {kb kb' : Nat → Bool} (h : ∀ t, kb t = true → kb' t = true) {t0 : Nat} (h1 : kb t0 = false) (h2 : kb' t0 = true) : ∀ j i, i ≤ t0 → t0 < i + j → nkS kb j i < nkS kb' j i
  | 0, i, g1, g2 => by omega
  | j + 1, i, g1, g2 => by
    simp only [nkS]
    by_cases e : i = t0
    · subst e
      have := nkS_le h j (i + 1)
      rw [h1, h2]; simp; omega
    · have := nkS_lt h h1 h2 j (i + 1) (by omega) (by omega)
      by_cases c : kb i = true
      · rw [if_pos c, if_pos (h i c)]; omega
      · rw [if_neg c]; split <;> omega
theorem card_lt {X Y n : Nat} (hx : X < 2 ^ n) (hy : Y < 2 ^ n) (h : sbB X Y) (hne : X ≠ Y) : nkS X.testBit n 0 < nkS Y.testBit n 0 := by
  apply Classical.byContradiction
  intro z
  apply hne
  refine sbB_anti hx hy h (fun t ht => ?_)
  cases e : X.testBit t with
  | true => rfl
  | false =>
    exfalso
    have tn : t < n := by
      rcases Nat.lt_or_ge t n with q | q
      · exact q
      · rw [big_bit hy q] at ht; cases ht
    exact z (nkS_lt h e ht n 0 (by omega) (by omega))
/-- one way through the streets, the class's -/
def psC (c : Nat → Nat) : Nat → Nat → Nat → Nat
  | 0, _, X => X
  | j + 1, s, X => psC c j (s + 1) (if X.testBit s then X ||| c s else X)
def itC (c : Nat → Nat) (n : Nat) : Nat → Nat → Nat
  | 0, X => X
  | i + 1, X => itC c n i (psC c n 0 X)
theorem psC_sub (c : Nat → Nat) : ∀ j s X, sbB X (psC c j s X)
  | 0, _, X => fun _ h => h
  | j + 1, s, X => fun t ht => by
    simp only [psC]
    refine psC_sub c j (s + 1) _ t ?_
    split
    · rw [Nat.testBit_or, ht]; rfl
    · exact ht
theorem psC_min {c : Nat → Nat} {n Y : Nat} (hY : clsd c n Y) : ∀ j s X, s + j ≤ n → sbB X Y → sbB (psC c j s X) Y
  | 0, _, X, _, h => h
  | j + 1, s, X, hs, h => by
    simp only [psC]
    refine psC_min hY j (s + 1) _ (by omega) ?_
    split
    · rename_i hb
      exact sbB_or.mpr ⟨h, hY s (by omega) (h s hb)⟩
    · exact h
theorem psC_lt {c : Nat → Nat} {n : Nat} (hc : ∀ s, c s < 2 ^ n) : ∀ j s X, X < 2 ^ n → psC c j s X < 2 ^ n
  | 0, _, X, h => h
  | j + 1, s, X, h => by
    simp only [psC]
    refine psC_lt hc j (s + 1) _ ?_
    split
    · exact or_lt h (hc s)
    · exact h
theorem psC_fix {c : Nat → Nat} {n : Nat} (hc : ∀ s, c s < 2 ^ n) : ∀ j s X, X < 2 ^ n → psC c j s X = X → ∀ s', s ≤ s' → s' < s + j → X.testBit s' = true → sbB (c s') X
  | 0, s, X, _, _ => fun s' h1 h2 => by omega
  | j + 1, s, X, hX, h => by
    intro s' h1 h2 hb
    simp only [psC] at h
    by_cases q : X.testBit s = true
    · rw [if_pos q] at h
      have hl : X ||| c s < 2 ^ n := or_lt hX (hc s)
      have e : X ||| c s = X := by
        refine sbB_anti hl hX ?_ (fun t ht => by rw [Nat.testBit_or, ht]; rfl)
        have := psC_sub c j (s + 1) (X ||| c s)
        rw [h] at this; exact this
      rcases Nat.eq_or_lt_of_le h1 with z | z
      · subst z
        have : sbB (X ||| c s) X := by rw [e]; exact fun _ h => h
        exact (sbB_or.mp this).2
      · rw [e] at h
        exact psC_fix hc j (s + 1) X hX h s' z (by omega) hb
    · rw [if_neg q] at h
      rcases Nat.eq_or_lt_of_le h1 with z | z
      · subst z; exact absurd hb q
      · exact psC_fix hc j (s + 1) X hX h s' z (by omega) hb
theorem itC_same {c : Nat → Nat} {n X : Nat} (h : psC c n 0 X = X) : ∀ i, itC c n i X = X
  | 0 => rfl
  | i + 1 => by simp only [itC]; rw [h]; exact itC_same h i
theorem itC_lt {c : Nat → Nat} {n : Nat} (hc : ∀ s, c s < 2 ^ n) : ∀ i X, X < 2 ^ n → itC c n i X < 2 ^ n
  | 0, X, h => h
  | i + 1, X, h => itC_lt hc i _ (psC_lt hc n 0 X h)
theorem itC_sub (c : Nat → Nat) (n : Nat) : ∀ i X, sbB X (itC c n i X)
  | 0, X => fun _ h => h
  | i + 1, X => fun t ht => itC_sub c n i _ t (psC_sub c n 0 X t ht)
theorem itC_min {c : Nat → Nat} {n Y : Nat} (hY : clsd c n Y) : ∀ i X, sbB X Y → sbB (itC c n i X) Y
  | 0, X, h => h
  | i + 1, X, h => itC_min hY i _ (psC_min hY n 0 X (by omega) h)
theorem itC_fix {c : Nat → Nat} {n : Nat} (hc : ∀ s, c s < 2 ^ n) : ∀ (i X : Nat) (k : Int), X < 2 ^ n → k ≤ nkS X.testBit n 0 → psC c n 0 (itC c n i X) = itC c n i X ∨ k + i ≤ nkS (itC c n i X).testBit n 0
  | 0, X, k, _, h => Or.inr (by simpa [itC] using h)
  | i + 1, X, k, hX, h => by
    simp only [itC]
    by_cases e : psC c n 0 X = X
    · rw [e, itC_same e i]; exact Or.inl e
    · have := card_lt hX (psC_lt hc n 0 X hX) (psC_sub c n 0 X) (fun z => e z.symm)
      rcases itC_fix hc i (psC c n 0 X) (k + 1) (psC_lt hc n 0 X hX) (by omega) with z | z
      · exact Or.inl z
      · exact Or.inr (by omega)
/-- the circle of a street -/
def ciP (c : Nat → Nat) (n st X : Nat) : Prop := X < 2 ^ n ∧ X.testBit st = true ∧ clsd c n X ∧ ∀ Y, Y.testBit st = true → clsd c n Y → sbB X Y
theorem ciP_uniq {c : Nat → Nat} {n st X Y : Nat} (h1 : ciP c n st X) (h2 : ciP c n st Y) : X = Y := sbB_anti h1.1 h2.1 (h1.2.2.2 Y h2.2.1 h2.2.2.1) (h2.2.2.2 X h1.2.1 h1.2.2.1)
theorem pow_sub {st Y : Nat} (h : Y.testBit st = true) : sbB (2 ^ st) Y := fun t ht => by
  rw [Nat.testBit_two_pow] at ht
  rw [← of_decide_eq_true ht]; exact h
theorem itC_ci {c : Nat → Nat} {n st : Nat} (hc : ∀ s, c s < 2 ^ n) (hs : st < n) : ciP c n st (itC c n n (2 ^ st)) := by
  have hl : 2 ^ st < 2 ^ n := pow_lt' hs
  have hb : (2 ^ st).testBit st = true := Nat.testBit_two_pow_self
  have k1 : (1 : Int) ≤ nkS (2 ^ st).testBit n 0 := by
    have := nkS_lt (kb := fun _ => false) (kb' := (2 ^ st).testBit) (fun t h => by cases h) rfl hb n 0 (by omega) (by omega)
    have := (nkS_bd (fun _ => false) n 0).1
    omega
  refine ⟨itC_lt hc n _ hl, itC_sub c n n _ st hb, ?_, fun Y h1 h2 => itC_min h2 n _ (pow_sub h1)⟩
  rcases itC_fix hc n (2 ^ st) 1 hl k1 with z | z
  · exact fun s hs hb => psC_fix hc n 0 _ (itC_lt hc n _ hl) z s (by omega) (by omega) hb
  · have := (nkS_bd (itC c n n (2 ^ st)).testBit n 0).2
    omega
def circA (w : Nat → Int) (st : Nat) : Nat := itC (clB w) (w 7).toNat (w 7).toNat (2 ^ st)
/-- one way through the streets, the reference's -/
def psM (c : Nat → Nat) (W : Nat) : Nat → Nat → Nat → Nat
  | 0, _, X => X
  | j + 1, s, X => psM c W j (s + 1) (if W.testBit s then X ||| c s else X)
theorem psM_sub (c : Nat → Nat) (W : Nat) : ∀ j s X, sbB X (psM c W j s X)
  | 0, _, X => fun _ h => h
  | j + 1, s, X => fun t ht => by
    simp only [psM]
    refine psM_sub c W j (s + 1) _ t ?_
    split
    · rw [Nat.testBit_or, ht]; rfl
    · exact ht
theorem psM_min {c : Nat → Nat} {n W Y : Nat} (hY : clsd c n Y) (hW : sbB W Y) : ∀ j s X, s + j ≤ n → sbB X Y → sbB (psM c W j s X) Y
  | 0, _, X, _, h => h
  | j + 1, s, X, hs, h => by
    simp only [psM]
    refine psM_min hY hW j (s + 1) _ (by omega) ?_
    split
    · rename_i hb
      exact sbB_or.mpr ⟨h, hY s (by omega) (hW s hb)⟩
    · exact h
theorem psM_lt {c : Nat → Nat} {n W : Nat} (hc : ∀ s, c s < 2 ^ n) : ∀ j s X, X < 2 ^ n → psM c W j s X < 2 ^ n
  | 0, _, X, h => h
  | j + 1, s, X, h => by
    simp only [psM]
    refine psM_lt hc j (s + 1) _ ?_
    split
    · exact or_lt h (hc s)
    · exact h
theorem psM_in (c : Nat → Nat) (W : Nat) : ∀ j s X s', s ≤ s' → s' < s + j → W.testBit s' = true → sbB (c s') (psM c W j s X)
  | 0, s, X, s', h1, h2, _ => by omega
  | j + 1, s, X, s', h1, h2, hb => by
    simp only [psM]
    rcases Nat.eq_or_lt_of_le h1 with z | z
    · subst z
      rw [if_pos hb]
      exact fun t ht => psM_sub c W j (s + 1) _ t (by rw [Nat.testBit_or, ht]; simp)
    · exact psM_in c W j (s + 1) _ s' z (by omega) hb
theorem sp_mcircle {h : Hp} {m : Nat} {w : Nat → Int} (a : RD h m w) (hV : V w) {k : Int} {d mc ms : Nat} {R : PR} (hd : 6 ≤ d) {o2 o3 o4 : Option AV} (H1 : (0 ≤ k ∧ k < w 7) → ∀ h', FrP (SM m) h h' → R (some (xI (circA w k.toNat : Int))) h') (H2 : ¬ (0 ≤ k ∧ k < w 7) → R (some (xI (-1))) h) : Wp m_M_circle 0 [some (xR m), some (xI k), o2, o3, o4] [] h d mc ms R := by
  have v0 := hV.1.1
  have v1 := hV.1.2.1
  have v2 := hV.1.2.2.1
  have v3 := hV.1.2.2.2.1
  have v4 := hV.1.2.2.2.2.1
  have v5 := hV.1.2.2.2.2.2.1
  have v6 := hV.1.2.2.2.2.2.2.1
  have v7 := hV.1.2.2.2.2.2.2.2.1
  have v8 := hV.1.2.2.2.2.2.2.2.2.1
  have v9 := hV.1.2.2.2.2.2.2.2.2.2
  apply f_M_circle_0
  refine ⟨⟨by omega, a.1.tag⟩, sp_isStreet a hV (by omega) (fun v e => ?_)⟩
  cases e
  by_cases c : 0 ≤ k ∧ k < w 7
  · rw [if_pos c, if_neg (by decide)]
    have H := H1 c
    obtain ⟨st, rfl⟩ : ∃ q : Nat, k = (q : Int) := ⟨k.toNat, by omega⟩
    rw [Int.toNat_natCast] at H
    refine ⟨⟨by omega, a.1.tag⟩, sp_laysClashes a hV (by omega) (fun g f cm _ => ?_)⟩
    have a := a.fr (Slc_SM f)
    have H := H g (Slc_SM f)
    have hc : ∀ s, clB w s < 2 ^ (w 7).toNat := fun s => clB_lt s
    have p10 : 2 ^ (w 7).toNat ≤ 1024 := Nat.pow_le_pow_right (n := 2) (by decide) (show (w 7).toNat ≤ 10 by omega)
    have fin : ∀ (X : Nat) (o1 o4 : Option AV), ciP (clB w) (w 7).toNat st X → Wp m_M_circle 20 [some (xR m), o1, some (xI (X : Int)), some (xI (X : Int)), o4] [] g d mc ms R := by
      intro X o1 o4 hX
      apply f_M_circle_20
      rw [if_pos rfl]
      unfold circA at H
      rw [← ciP_uniq hX (itC_ci hc (by omega))] at H
      exact H
    have inner : ∀ (W : Nat), W < 2 ^ (w 7).toNat → ∀ (j s X : Nat) (o1 : Option AV), s + j = (w 7).toNat → X < 2 ^ (w 7).toNat → (∀ o1 o4 : Option AV, Wp m_M_circle 20 [some (xR m), o1, some (xI (psM (clB w) W j s X : Int)), some (xI (W : Int)), o4] [] g d mc ms R) → Wp m_M_circle 30 [some (xR m), o1, some (xI (X : Int)), some (xI (W : Int)), some (xI (s : Int))] [] g d mc ms R := by
      intro W hW j
      induction j with
      | zero =>
        intro s X o1 hs hX K
        apply f_M_circle_30
        rw [a.1.row_n, a.1.row_t, tn_7, a.2 7 (by omega), if_neg (by omega)]
        exact ⟨a.1.tag, ⟨rfl, by omega, by decide⟩, K _ _⟩
      | succ j ih =>
        intro s X o1 hs hX K
        have hs2 := hc s
        apply f_M_circle_30
        rw [a.1.row_n, a.1.row_t, tn_7, a.2 7 (by omega), if_pos (by omega), ai_bit (by omega) (by omega), ab_1 (by omega)]
        refine ⟨a.1.tag, ⟨rfl, by omega, by decide⟩, ?_⟩
        simp only [psM] at K
        by_cases c1 : W.testBit s = true
        · rw [if_pos c1, if_pos rfl, a.1.clashes_n, a.1.clashes_t, Int.toNat_natCast, cm s (by omega), ai_or_nat (by omega) (by omega)]
          rw [if_pos c1] at K
          exact ⟨a.1.tag, ⟨rfl, by omega, by show (s : Int) < 10; omega⟩, ih (s + 1) _ _ (by omega) (or_lt hX hs2) K⟩
        · rw [if_neg c1, if_neg (by decide)]
          rw [if_neg c1] at K
          exact ih (s + 1) _ _ (by omega) hX K
    have L : ∀ (i X W : Nat) (o1 o4 : Option AV), X < 2 ^ (w 7).toNat → ((w 7).toNat : Int) + 1 ≤ nkS X.testBit (w 7).toNat 0 + i → X ≠ W → X.testBit st = true → (∀ Y, Y.testBit st = true → clsd (clB w) (w 7).toNat Y → sbB X Y) → Wp m_M_circle 20 [some (xR m), o1, some (xI (X : Int)), some (xI (W : Int)), o4] [] g d mc ms R := by
      intro i
      induction i with
      | zero =>
        intro X W o1 o4 hX hcard
        have := (nkS_bd X.testBit (w 7).toNat 0).2
        omega
      | succ i ih =>
        intro X W o1 o4 hX hcard hne hst hmin
        apply f_M_circle_20
        rw [if_neg (by omega)]
        refine inner X hX (w 7).toNat 0 X _ (by omega) hX (fun o1 o4 => ?_)
        have s1 := psM_sub (clB w) X (w 7).toNat 0 X
        have s2 := psM_lt (W := X) hc (w 7).toNat 0 X hX
        by_cases e : psM (clB w) X (w 7).toNat 0 X = X
        · rw [e]
          refine fin X _ _ ⟨hX, hst, fun s hs hb => ?_, hmin⟩
          have := psM_in (clB w) X (w 7).toNat 0 X s (by omega) (by omega) hb
          rw [e] at this
          exact this
        · have := card_lt hX s2 s1 (fun z => e z.symm)
          refine ih _ X _ _ s2 (by omega) e (s1 st hst) (fun Y h1 h2 => psM_min h2 (hmin Y h1 h2) _ _ _ (by omega) (hmin Y h1 h2))
    rw [ai_shl_one st (by omega)]
    have pp : 0 < 2 ^ st := Nat.pow_pos (by decide)
    have b0 := (nkS_bd (2 ^ st).testBit (w 7).toNat 0).1
    have := L ((w 7).toNat + 1) (2 ^ st) 0 (some (xI (st : Int))) o4 (pow_lt' (by omega)) (by omega) (by omega) Nat.testBit_two_pow_self (fun Y h1 _ => pow_sub h1)
    exact this
  · rw [if_neg c, if_pos rfl]; exact H2 c
theorem sp_circleOf {h : Hp} {r : Nat} {w : Nat → Int} (pl : plAt h r) (hV : V w) (hc : clC h r w) {st : Nat} (hs : (st : Int) < w 7) {d mc ms : Nat} {R : PR} {o3 o4 o5 : Option AV} (H : R (some (xI (circA w st : Int))) h) : Wp m_Planner_circleOf 0 [some (xR r), some (xI (st : Int)), some (xI (w 7)), o3, o4, o5] [] h d mc ms R := by
  have v0 := hV.1.1
  have v1 := hV.1.2.1
  have v2 := hV.1.2.2.1
  have v3 := hV.1.2.2.2.1
  have v4 := hV.1.2.2.2.2.1
  have v5 := hV.1.2.2.2.2.2.1
  have v6 := hV.1.2.2.2.2.2.2.1
  have v7 := hV.1.2.2.2.2.2.2.2.1
  have v8 := hV.1.2.2.2.2.2.2.2.2.1
  have v9 := hV.1.2.2.2.2.2.2.2.2.2
  have hcl : ∀ s, clB w s < 2 ^ (w 7).toNat := fun s => clB_lt s
  have p10 : 2 ^ (w 7).toNat ≤ 1024 := Nat.pow_le_pow_right (n := 2) (by decide) (show (w 7).toNat ≤ 10 by omega)
  apply f_Planner_circleOf_0
  have inner : ∀ (i : Nat), i < 10 → ∀ (j s X : Nat) (o1 : Option AV), s + j = (w 7).toNat → X < 2 ^ (w 7).toNat → (∀ o1 o5 : Option AV, Wp m_Planner_circleOf 7 [some (xR r), o1, some (xI (w 7)), some (xI (psC (clB w) j s X : Int)), some (xI ((i + 1 : Nat) : Int)), o5] [] h d mc ms R) → Wp m_Planner_circleOf 16 [some (xR r), o1, some (xI (w 7)), some (xI (X : Int)), some (xI (i : Int)), some (xI (s : Int))] [] h d mc ms R := by
    intro i hi j
    induction j with
    | zero =>
      intro s X o1 hs hX K
      apply f_Planner_circleOf_16
      rw [if_neg (by omega), ab_1 (by omega)]
      exact K _ _
    | succ j ih =>
      intro s X o1 hs hX K
      have hs2 := hcl s
      apply f_Planner_circleOf_16
      rw [if_pos (by omega), ai_bit (by omega) (by omega), ab_1 (by omega)]
      simp only [psC] at K
      by_cases c1 : X.testBit s = true
      · rw [if_pos c1, if_pos rfl, pl.clash_n, pl.clash_t, Int.toNat_natCast, hc s (by omega), ai_or_nat (by omega) (by omega)]
        rw [if_pos c1] at K
        exact ⟨pl.tag, ⟨rfl, by omega, by show (s : Int) < 10; omega⟩, ih (s + 1) _ _ (by omega) (or_lt hX hs2) K⟩
      · rw [if_neg c1, if_neg (by decide)]
        rw [if_neg c1] at K
        exact ih (s + 1) _ _ (by omega) hX K
  have L : ∀ (j i X : Nat) (o1 o5 : Option AV), i + j = (w 7).toNat → X < 2 ^ (w 7).toNat → R (some (xI (itC (clB w) (w 7).toNat j X : Int))) h → Wp m_Planner_circleOf 7 [some (xR r), o1, some (xI (w 7)), some (xI (X : Int)), some (xI (i : Int)), o5] [] h d mc ms R := by
    intro j
    induction j with
    | zero =>
      intro i X o1 o5 hi hX H
      apply f_Planner_circleOf_7
      rw [if_neg (by omega)]
      exact H
    | succ j ih =>
      intro i X o1 o5 hi hX H
      apply f_Planner_circleOf_7
      rw [if_pos (by omega)]
      refine inner i (by omega) (w 7).toNat 0 X _ (by omega) hX (fun o1 o5 => ?_)
      exact ih (i + 1) _ _ _ (by omega) (psC_lt hcl _ _ _ hX) H
  rw [ai_shl_one st (by omega)]
  exact L (w 7).toNat 0 (2 ^ st) _ _ (by omega) (pow_lt' (by omega)) H
theorem Slk.SAt {h h' : Hp} {x : Nat} (f : FrP (Slk (x + 30)) h h') (s : sAt h x) : sAt h' x := s.fr f (fun p _ z => by rcases z with ⟨z, _⟩ | z <;> omega)
theorem Slk.TR {h h' : Hp} {x : Nat} {w : Nat → Int} (f : FrP (Slk (x + 30)) h h') (a : TR h (x + 43) w) : TR h' (x + 43) w := a.eq (f.eqC (fun q p h1 h2 z => by rcases z with ⟨z, _⟩ | z <;> omega))
theorem sp_ccircle {h : Hp} {x : Nat} {w : Nat → Int} (s : sAt h x) (a : TR h (x + 43) w) (hV : V w) (pl : plAt h (x + 30)) (hk : hpC h (x + 30) 2 ≠ 0 → clC h (x + 30) w) {k : Int} {d mc ms : Nat} {R : PR} (hd : 6 ≤ d) (H1 : (0 ≤ k ∧ k < w 7) → ∀ h', FrP (Slk (x + 30)) h h' → clC h' (x + 30) w → R (some (xI (circA w k.toNat : Int))) h') (H2 : ¬ (0 ≤ k ∧ k < w 7) → R (some (xI (-1))) h) : Wp m_S_circle 0 [some (xR x), some (xI k)] [] h d mc ms R := by
  have v0 := hV.1.1
  have v1 := hV.1.2.1
  have v2 := hV.1.2.2.1
  have v3 := hV.1.2.2.2.1
  have v4 := hV.1.2.2.2.2.1
  have v5 := hV.1.2.2.2.2.2.1
  have v6 := hV.1.2.2.2.2.2.2.1
  have v7 := hV.1.2.2.2.2.2.2.2.1
  have v8 := hV.1.2.2.2.2.2.2.2.2.1
  have v9 := hV.1.2.2.2.2.2.2.2.2.2
  have hT := a.1.1
  have hR := a.1.2.1
  have b1 : NW h (x + 43 + 7) w (w 7) 180 := a.1.2.2.1
  have b2 : NW h (x + 43 + 10) w (w 6) 60 := a.1.2.2.2.1
  have b3 : NW h (x + 43 + 13) w (w 8) 650 := a.1.2.2.2.2.1
  have hw : HW h (x + 43 + 18) w := a.1.2.2.2.2.2.2.1
  have h7 : hpC h (x + 43) 7 = w 9 := a.1.2.2.2.2.2.2.2
  apply f_S_circle_0
  rw [s.now_n, hT.streets_n]
  refine ⟨s.tag, hT.tag, ⟨by omega, hT.streets_a.tag⟩, sp_holds hT.streets_a.tag b1.1 (fun v e => ?_)⟩
  cases e
  by_cases c : 0 ≤ k ∧ k < w 7
  · rw [if_pos c, if_neg (by decide), s.planner_n, s.now_n]
    have H := H1 c
    obtain ⟨st, rfl⟩ : ∃ q : Nat, k = (q : Int) := ⟨k.toNat, by omega⟩
    rw [Int.toNat_natCast] at H
    refine ⟨s.tag, s.tag, ⟨by omega, pl.tag⟩, sp_learnClashes pl a hV (by omega) hk (by omega) (fun g f k1 k2 _ => ?_)⟩
    have pl := pl.fr (Slk_SP f)
    have s := Slk.SAt f s
    have a := Slk.TR f a
    have H := H g f k2
    have hT := a.1.1
    have b1 := a.1.2.2.1
    rw [s.planner_n, s.now_n, hT.streets_n, b1.1]
    refine ⟨s.tag, s.tag, hT.tag, hT.streets_a.tag, ⟨by omega, pl.tag⟩, sp_circleOf pl hV k2 (by omega) (fun v e => ?_)⟩
    cases e
    exact H
  · rw [if_neg c, if_pos rfl]; exact H2 c
