/-! ===== letter, key, changes, alike: both sides ===== -/
def kO (kind : Int) : Nat := if kind = 0 then 180 else if kind = 1 then 60 else 650
def kN (w : Nat → Int) (kind : Int) : Int := if kind = 0 then w 7 else if kind = 1 then w 6 else if kind = 2 then w 8 else 0
def hasN (w : Nat → Int) (kind k : Int) : Prop := 0 ≤ k ∧ k < kN w kind
def oN (w : Nat → Int) (kind k : Int) : Nat := kO kind + 10 * k.toNat
theorem hasN.ok {w : Nat → Int} (hV : V w) {kind k : Int} (h : hasN w kind k) : okName w (oN w kind k) ∧ oN w kind k + 10 ≤ 1010 ∧ k < 30 := by
  obtain ⟨h0, h1⟩ := h
  have v6 := hV.1.2.2.2.2.2.2.1
  have v7 := hV.1.2.2.2.2.2.2.2.1
  have v8 := hV.1.2.2.2.2.2.2.2.2.1
  unfold kN at h1
  unfold oN kO
  by_cases c0 : kind = 0
  · rw [if_pos c0] at h1
    rw [if_pos c0]
    exact ⟨hV.2.2.2.2.1 _ (by omega), by omega, by omega⟩
  · rw [if_neg c0] at h1
    rw [if_neg c0]
    by_cases c1 : kind = 1
    · rw [if_pos c1] at h1
      rw [if_pos c1]
      exact ⟨hV.2.2.2.1 _ (by omega), by omega, by omega⟩
    · rw [if_neg c1] at h1
      rw [if_neg c1]
      by_cases c2 : kind = 2
      · rw [if_pos c2] at h1
        exact ⟨hV.2.2.2.2.2.1 _ (by omega), by omega, by omega⟩
      · rw [if_neg c2] at h1; omega
theorem sp_isStreet {h : Hp} {m : Nat} {w : Nat → Int} (a : RD h m w) (hV : V w) {s : Int} {d mc ms : Nat} (hd : 1 ≤ d) {R : PR} (H : R (some (xI (if 0 ≤ s ∧ s < w 7 then 1 else 0))) h) : Wp m_M_isStreet 0 [some (xR m), some (xI s)] [] h d mc ms R := by
  have v7 := hV.1.2.2.2.2.2.2.2.1
  apply f_M_isStreet_0
  simp (disch := omega) only [a.1.tag, a.1.row_n, a.1.row_t, show Int.toNat (7 : Int) = 7 from rfl, a.2 7 (by omega), ai_sub_eq, true_and]
  refine ⟨⟨by omega, by omega⟩, hd, sp_isIn (fun v e => ?_)⟩
  cases e
  refine ⟨by split <;> simp, ?_⟩
  by_cases c : 0 ≤ s ∧ s < w 7
  · rw [if_pos c] at H; rw [if_pos (by omega)]; exact H
  · rw [if_neg c] at H; rw [if_neg (by omega)]; exact H
theorem hasN_dec (w : Nat → Int) (kind k : Int) : hasN w kind k ∨ ¬ hasN w kind k := Classical.em _
theorem sp_nameAt {h : Hp} {m : Nat} {w : Nat → Int} (a : RD h m w) (hV : V w) {kind k : Int} {d mc ms : Nat} (hd : 2 ≤ d) {R : PR} (H1 : hasN w kind k → R (some (xI (oN w kind k : Int))) h) (H2 : ¬ hasN w kind k → R (some (xI (-1))) h) : Wp m_M_nameAt 0 [some (xR m), some (xI kind), some (xI k)] [] h d mc ms R := by
  have v6 := hV.1.2.2.2.2.2.2.1
  have v7 := hV.1.2.2.2.2.2.2.2.1
  have v8 := hV.1.2.2.2.2.2.2.2.2.1
  apply f_M_nameAt_0
  have nope : (kind = 0 ∨ kind = 1 ∨ ¬ kind = 2) → ¬ hasN w kind k → Wp m_M_nameAt 51 [some (xR m), some (xI kind), some (xI k)] [] h d mc ms R := by
    intro hk hn
    apply f_M_nameAt_51
    rw [if_neg (by omega)]
    exact H2 hn
  by_cases c0 : kind = 0
  · rw [if_pos c0]
    refine ⟨⟨by omega, a.1.tag⟩, sp_isStreet a hV (by omega) (fun v e => ?_)⟩
    cases e
    by_cases c : 0 ≤ k ∧ k < w 7
    · rw [if_pos c, if_neg (by decide)]
      simp (disch := omega) only [ai_add_eq, ai_mul_eq]
      have := H1 ⟨c.1, by unfold kN; rw [if_pos c0]; exact c.2⟩
      rw [show (oN w kind k : Int) = 180 + 10 * k by unfold oN kO; rw [if_pos c0]; omega] at this
      exact this
    · rw [if_neg c, if_pos rfl]
      have hn : ¬ hasN w kind k := fun z => c ⟨z.1, by have := z.2; unfold kN at this; rw [if_pos c0] at this; exact this⟩
      apply f_M_nameAt_21
      rw [if_neg (by omega)]
      exact nope (Or.inl c0) hn
  · rw [if_neg c0]
    apply f_M_nameAt_21
    by_cases c1 : kind = 1
    · rw [if_pos c1]
      simp (disch := omega) only [a.1.tag, a.1.row_n, a.1.row_t, show Int.toNat (6 : Int) = 6 from rfl, a.2 6 (by omega), ai_sub_eq, true_and]
      refine ⟨⟨by omega, by omega⟩, by omega, sp_isIn (fun v e => ?_)⟩
      cases e
      by_cases c : 0 ≤ k ∧ k ≤ w 6 - 1
      · rw [if_pos c, if_neg (by decide)]
        simp (disch := omega) only [ai_add_eq, ai_mul_eq]
        have := H1 ⟨c.1, by unfold kN; rw [if_neg c0, if_pos c1]; omega⟩
        rw [show (oN w kind k : Int) = 60 + 10 * k by unfold oN kO; rw [if_neg c0, if_pos c1]; omega] at this
        exact this
      · rw [if_neg c, if_pos rfl]
        exact nope (Or.inr (Or.inl c1)) (fun z => c ⟨z.1, by have := z.2; unfold kN at this; rw [if_neg c0, if_pos c1] at this; omega⟩)
    · rw [if_neg c1]
      by_cases c2 : kind = 2
      · apply f_M_nameAt_51
        rw [if_pos c2]
        simp (disch := omega) only [a.1.tag, a.1.row_n, a.1.row_t, show Int.toNat (8 : Int) = 8 from rfl, a.2 8 (by omega), ai_sub_eq, true_and]
        refine ⟨⟨by omega, by omega⟩, by omega, sp_isIn (fun v e => ?_)⟩
        cases e
        by_cases c : 0 ≤ k ∧ k ≤ w 8 - 1
        · rw [if_pos c, if_neg (by decide)]
          simp (disch := omega) only [ai_add_eq, ai_mul_eq]
          have := H1 ⟨c.1, by unfold kN; rw [if_neg c0, if_neg c1, if_pos c2]; omega⟩
          rw [show (oN w kind k : Int) = 650 + 10 * k by unfold oN kO; rw [if_neg c0, if_neg c1]; omega] at this
          exact this
        · rw [if_neg c, if_pos rfl]
          exact H2 (fun z => c ⟨z.1, by have := z.2; unfold kN at this; rw [if_neg c0, if_neg c1, if_pos c2] at this; omega⟩)
      · exact nope (Or.inr (Or.inr c2)) (fun z => by have h1 := z.1; have := z.2; unfold kN at this; rw [if_neg c0, if_neg c1, if_neg c2] at this; omega)
theorem sp_mletter {h : Hp} {m : Nat} {w : Nat → Int} (a : RD h m w) (hV : V w) {kind k i : Int} {d mc ms : Nat} (hd : 3 ≤ d) {R : PR} (H1 : hasN w kind k → 0 ≤ i → i < 10 → R (some (xI (w (oN w kind k + i.toNat)))) h) (H2 : ¬ (hasN w kind k ∧ 0 ≤ i ∧ i < 10) → R (some (xI (-1))) h) : Wp m_M_letter 0 [some (xR m), some (xI kind), some (xI k), some (xI i), none] [] h d mc ms R := by
  apply f_M_letter_0
  refine ⟨⟨by omega, a.1.tag⟩, sp_nameAt a hV (by omega) (fun hn v e => ?_) (fun hn v e => ?_)⟩
  · cases e
    obtain ⟨n1, n2, n3⟩ := hn.ok hV
    rw [if_neg (by omega)]
    refine ⟨by omega, sp_isIn (fun v e => ?_)⟩
    cases e
    by_cases c : 0 ≤ i ∧ i ≤ 9
    · rw [if_pos c, if_neg (by decide)]
      simp (disch := omega) only [a.1.tag, a.1.row_n, a.1.row_t, ai_add_eq, true_and]
      refine ⟨⟨by omega, by omega⟩, ?_⟩
      rw [show Int.toNat ((oN w kind k : Int) + i) = oN w kind k + i.toNat by omega, a.2 _ (by omega)]
      exact H1 hn c.1 (by omega)
    · rw [if_neg c, if_pos rfl]
      exact H2 (fun z => c ⟨z.2.1, by omega⟩)
  · cases e
    rw [if_pos rfl]
    exact H2 (fun z => hn z.1)
theorem sp_mkey {h : Hp} {m : Nat} {w : Nat → Int} (a : RD h m w) (hV : V w) {kind k i : Int} {d mc ms : Nat} (hd : 3 ≤ d) {R : PR} (H1 : hasN w kind k → 0 ≤ i → i < 10 → ∀ h', FrP (SM m) h h' → R (some (xI ((keyW w (oN w kind k)).getD i.toNat 0 : Int))) h') (H2 : ¬ (hasN w kind k ∧ 0 ≤ i ∧ i < 10) → R (some (xI (-1))) h) : Wp m_M_key 0 [some (xR m), some (xI kind), some (xI k), some (xI i), none] [] h d mc ms R := by
  apply f_M_key_0
  refine ⟨⟨by omega, a.1.tag⟩, sp_nameAt a hV (by omega) (fun hn v e => ?_) (fun hn v e => ?_)⟩
  · cases e
    obtain ⟨n1, n2, n3⟩ := hn.ok hV
    rw [if_neg (by omega)]
    refine ⟨by omega, sp_isIn (fun v e => ?_)⟩
    cases e
    by_cases c : 0 ≤ i ∧ i ≤ 9
    · rw [if_pos c, if_neg (by decide), a.1.keyA_n]
      refine ⟨a.1.tag, ⟨by omega, a.1.tag⟩, sp_laysKey a hV n2 n1 (Or.inl rfl) (by omega) (fun h3 f3 k3 v e => ?_)⟩
      cases e
      have f3' : FrP (SM m) h h3 := f3.wk (fun r p z => by
        rcases z with (⟨z1, z2⟩ | z) | z
        · exact Or.inl ⟨z1, Or.inl z2⟩
        · exact Or.inr (Or.inl (by omega))
        · exact Or.inr (Or.inl (by omega)))
      have a3 := a.fr f3'
      rw [a3.1.keyA_n, a3.1.keyA_t, k3 i.toNat (by omega)]
      exact ⟨a3.1.tag, ⟨rfl, by omega, by show i < 10; omega⟩, H1 hn c.1 (by omega) h3 f3'⟩
    · rw [if_neg c, if_pos rfl]
      exact H2 (fun z => c ⟨z.2.1, by omega⟩)
  · cases e
    rw [if_pos rfl]
    exact H2 (fun z => hn z.1)
theorem sp_mchanges {h : Hp} {m : Nat} {w : Nat → Int} (a : RD h m w) (hV : V w) {kind k kind2 k2 : Int} {d mc ms : Nat} (hd : 4 ≤ d) {R : PR} (H1 : hasN w kind k → hasN w kind2 k2 → ∀ h', FrP (SM m) h h' → R (some (xI (chW w (oN w kind k) (oN w kind2 k2) : Int))) h') (H2 : ¬ (hasN w kind k ∧ hasN w kind2 k2) → R (some (xI (-1))) h) : Wp m_M_changes 0 [some (xR m), some (xI kind), some (xI k), some (xI kind2), some (xI k2), none, none] [] h d mc ms R := by
  apply f_M_changes_0
  refine ⟨⟨by omega, a.1.tag⟩, sp_nameAt a hV (by omega) (fun hn v e => ?_) (fun hn v e => ?_)⟩
  · cases e
    obtain ⟨n1, n2, n3⟩ := hn.ok hV
    refine ⟨⟨by omega, a.1.tag⟩, sp_nameAt a hV (by omega) (fun hn' v e => ?_) (fun hn' v e => ?_)⟩
    · cases e
      obtain ⟨n1', n2', n3'⟩ := hn'.ok hV
      rw [if_neg (by omega), if_neg (by omega)]
      refine ⟨⟨by omega, a.1.tag⟩, sp_changesOf a n2 n1 n2' n1' (by omega) (fun h3 f3 v e => ?_)⟩
      cases e
      exact H1 hn hn' h3 (f3.wk (fun r p z => by
        rcases z with (⟨z1, z2⟩ | z) | z
        · exact Or.inl ⟨z1, Or.inl z2⟩
        · exact Or.inr (Or.inl (by omega))
        · exact Or.inr (Or.inl (by omega))))
    · cases e
      rw [if_neg (by omega), if_pos rfl]
      exact H2 (fun z => hn' z.2)
  · cases e
    refine ⟨⟨by omega, a.1.tag⟩, sp_nameAt a hV (by omega) (fun hn' v e => ?_) (fun hn' v e => ?_)⟩
    · cases e
      rw [if_pos rfl]
      exact H2 (fun z => hn z.1)
    · cases e
      rw [if_pos rfl]
      exact H2 (fun z => hn z.1)
theorem sp_malike {h : Hp} {m : Nat} {w : Nat → Int} (a : RD h m w) (hV : V w) {kind k kind2 k2 : Int} {d mc ms : Nat} (hd : 4 ≤ d) {R : PR} (H1 : hasN w kind k → hasN w kind2 k2 → ∀ h', FrP (SM m) h h' → R (some (xI (alW w (oN w kind k) (oN w kind2 k2)))) h') (H2 : ¬ (hasN w kind k ∧ hasN w kind2 k2) → R (some (xI (-1))) h) : Wp m_M_alike 0 [some (xR m), some (xI kind), some (xI k), some (xI kind2), some (xI k2), none, none] [] h d mc ms R := by
  apply f_M_alike_0
  refine ⟨⟨by omega, a.1.tag⟩, sp_nameAt a hV (by omega) (fun hn v e => ?_) (fun hn v e => ?_)⟩
  · cases e
    obtain ⟨n1, n2, n3⟩ := hn.ok hV
    refine ⟨⟨by omega, a.1.tag⟩, sp_nameAt a hV (by omega) (fun hn' v e => ?_) (fun hn' v e => ?_)⟩
    · cases e
      obtain ⟨n1', n2', n3'⟩ := hn'.ok hV
      rw [if_neg (by omega), if_neg (by omega)]
      refine ⟨⟨by omega, a.1.tag⟩, sp_alikeOf a hV n2 n1 n2' n1' (by omega) (fun h3 f3 v e => ?_)⟩
      cases e
      exact H1 hn hn' h3 f3
    · cases e
      rw [if_neg (by omega), if_pos rfl]
      exact H2 (fun z => hn' z.2)
  · cases e
    refine ⟨⟨by omega, a.1.tag⟩, sp_nameAt a hV (by omega) (fun hn' v e => ?_) (fun hn' v e => ?_)⟩
    · cases e
      rw [if_pos rfl]
      exact H2 (fun z => hn z.1)
    · cases e
      rw [if_pos rfl]
      exact H2 (fun z => hn z.1)
