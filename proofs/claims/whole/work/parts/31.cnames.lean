/-! ===== letter, key, changes, alike of the class ===== -/
/-- the class's object: tape x+1, reader x+4 (its draft x+5), ear x+28, planner x+30, numbering x+36, now x+43, past x+66, images x+68, refused x+69 -/
def sAt (h : Hp) (x : Nat) : Prop := (hpT h x).1 = 11 ∧ hpC h x 0 = ((x + 1 : Nat) : Int) ∧ hpC h x 1 = ((x + 4 : Nat) : Int) ∧ hpC h x 2 = ((x + 28 : Nat) : Int) ∧ hpC h x 3 = ((x + 30 : Nat) : Int) ∧ hpC h x 4 = ((x + 36 : Nat) : Int) ∧ hpC h x 5 = ((x + 43 : Nat) : Int) ∧ hpC h x 6 = ((x + 66 : Nat) : Int) ∧ hpC h x 7 = ((x + 68 : Nat) : Int) ∧ hpC h x 8 = ((x + 69 : Nat) : Int)
theorem sAt.tag {h : Hp} {x : Nat} (a : sAt h x) : (hpT h x).1 = 11 := a.1
theorem sAt.tape_n {h : Hp} {x : Nat} (a : sAt h x) : Int.toNat (hpC h x 0) = x + 1 := by rw [a.2.1, Int.toNat_natCast]
theorem sAt.reader_n {h : Hp} {x : Nat} (a : sAt h x) : Int.toNat (hpC h x 1) = x + 4 := by rw [a.2.2.1, Int.toNat_natCast]
theorem sAt.ear_n {h : Hp} {x : Nat} (a : sAt h x) : Int.toNat (hpC h x 2) = x + 28 := by rw [a.2.2.2.1, Int.toNat_natCast]
theorem sAt.planner_n {h : Hp} {x : Nat} (a : sAt h x) : Int.toNat (hpC h x 3) = x + 30 := by rw [a.2.2.2.2.1, Int.toNat_natCast]
theorem sAt.numbering_n {h : Hp} {x : Nat} (a : sAt h x) : Int.toNat (hpC h x 4) = x + 36 := by rw [a.2.2.2.2.2.1, Int.toNat_natCast]
theorem sAt.now_n {h : Hp} {x : Nat} (a : sAt h x) : Int.toNat (hpC h x 5) = x + 43 := by rw [a.2.2.2.2.2.2.1, Int.toNat_natCast]
theorem sAt.past_n {h : Hp} {x : Nat} (a : sAt h x) : Int.toNat (hpC h x 6) = x + 66 := by rw [a.2.2.2.2.2.2.2.1, Int.toNat_natCast]
theorem sAt.images_n {h : Hp} {x : Nat} (a : sAt h x) : Int.toNat (hpC h x 7) = x + 68 := by rw [a.2.2.2.2.2.2.2.2.1, Int.toNat_natCast]
theorem sAt.refused_n {h : Hp} {x : Nat} (a : sAt h x) : Int.toNat (hpC h x 8) = x + 69 := by rw [a.2.2.2.2.2.2.2.2.2, Int.toNat_natCast]
theorem sp_holds {h : Hp} {r : Nat} (ht : (hpT h r).1 = 3) {k n : Int} (hn : hpC h r 2 = n) {d mc ms : Nat} {R : PR} (H : R (some (xI (if 0 ≤ k ∧ k < n then 1 else 0))) h) : Wp m_Names_holds 0 [some (xR r), some (xI k)] [] h d mc ms R := by
  apply f_Names_holds_0
  by_cases c : k < 0
  · rw [if_pos c]; rw [if_neg (by omega)] at H; exact ⟨by simp, H⟩
  · rw [if_neg c, hn]
    refine ⟨ht, ?_⟩
    by_cases c2 : k < n
    · rw [if_pos c2]; rw [if_pos (by omega)] at H; exact ⟨by simp, H⟩
    · rw [if_neg c2]; rw [if_neg (by omega)] at H; exact ⟨by simp, H⟩
/-- the Names object of a kind -/
def kR (t : Nat) (kind : Int) : Nat := if kind = 0 then t + 7 else if kind = 1 then t + 10 else if kind = 2 then t + 13 else 0
theorem sp_ofKind {h : Hp} {t : Nat} (hT : townAt h t) {kind : Int} {d mc ms : Nat} {R : PR} (H : R (some (xR (kR t kind))) h) : Wp m_Town_ofKind 0 [some (xR t), some (xI kind)] [] h d mc ms R := by
  unfold kR at H
  apply f_Town_ofKind_0
  by_cases c0 : kind = 0
  · rw [if_pos (by omega), hT.streets_n]; rw [if_pos c0] at H; exact ⟨hT.tag, H⟩
  · rw [if_neg (by omega)]; rw [if_neg c0] at H
    by_cases c1 : kind = 1
    · rw [if_pos (by omega), hT.pool_n]; rw [if_pos c1] at H; exact ⟨hT.tag, H⟩
    · rw [if_neg (by omega)]; rw [if_neg c1] at H
      by_cases c2 : kind = 2
      · rw [if_pos (by omega), hT.aliases_n]; rw [if_pos c2] at H; exact ⟨hT.tag, H⟩
      · rw [if_neg (by omega)]; rw [if_neg c2] at H; exact H
/-- what a kind's Names object is: none, or its names -/
theorem kR_spec {h : Hp} {t : Nat} {w : Nat → Int} (a : TR h t w) (hV : V w) (kind : Int) : (kR t kind = 0 ∧ ∀ k, ¬ hasN w kind k) ∨ (kR t kind ≠ 0 ∧ ∃ len : Nat, namesAt h (kR t kind) len ∧ NW h (kR t kind) w (kN w kind) (kO kind) ∧ NS h (kR t kind) w (kN w kind) (kO kind) ∧ kN w kind ≤ (len : Int)) := by
  obtain ⟨⟨hT, -, b1, b2, b3, -⟩, c1, c2, c3, -⟩ := a
  have v6 := hV.1.2.2.2.2.2.2.1
  have v7 := hV.1.2.2.2.2.2.2.2.1
  have v8 := hV.1.2.2.2.2.2.2.2.2.1
  unfold kR kN kO
  by_cases d0 : kind = 0
  · simp only [if_pos d0]
    exact Or.inr ⟨by omega, 10, hT.streets_a, b1, c1, by omega⟩
  · simp only [if_neg d0]
    by_cases d1 : kind = 1
    · simp only [if_pos d1]
      exact Or.inr ⟨by omega, 12, hT.pool_a, b2, c2, by omega⟩
    · simp only [if_neg d1]
      by_cases d2 : kind = 2
      · simp only [if_pos d2]
        exact Or.inr ⟨by omega, 30, hT.aliases_a, b3, c3, by omega⟩
      · simp only [if_neg d2]
        refine Or.inl ⟨trivial, fun k z => ?_⟩
        have h1 := z.1
        have h2 := z.2
        unfold kN at h2
        rw [if_neg d0, if_neg d1, if_neg d2] at h2
        omega
theorem sp_cletter {h : Hp} {x : Nat} {w : Nat → Int} (s : sAt h x) (a : TR h (x + 43) w) (hV : V w) {kind k i : Int} {d mc ms : Nat} (hd : 2 ≤ d) {R : PR} (H1 : hasN w kind k → 0 ≤ i → i < 10 → R (some (xI (w (oN w kind k + i.toNat)))) h) (H2 : ¬ (hasN w kind k ∧ 0 ≤ i ∧ i < 10) → R (some (xI (-1))) h) : Wp m_S_letter 0 [some (xR x), some (xI kind), some (xI k), some (xI i), none] [] h d mc ms R := by
  have hT := a.1.1
  apply f_S_letter_0
  rw [s.now_n]
  refine ⟨s.tag, ⟨by omega, hT.tag⟩, sp_ofKind hT (fun v e => ?_)⟩
  cases e
  rcases kR_spec a hV kind with ⟨z1, z2⟩ | ⟨z1, len, z2, z3, z4, z5⟩
  · rw [if_pos z1]; exact H2 (fun z => z2 k z.1)
  · rw [if_neg z1]
    refine ⟨⟨by omega, z2.tag⟩, sp_holds z2.tag z3.1 (fun v e => ?_)⟩
    cases e
    by_cases c : 0 ≤ k ∧ k < kN w kind
    · rw [if_pos c, if_neg (by decide)]
      have hn : hasN w kind k := c
      obtain ⟨n1, n2, n3⟩ := hn.ok hV
      by_cases ci : i < 0
      · rw [if_pos ci]; exact H2 (fun z => by omega)
      · rw [if_neg ci]
        by_cases ci2 : i < 10
        · rw [if_pos ci2, z2.word_n, z2.word_t, z3.2 k.toNat (by omega)]
          refine ⟨z2.tag, ⟨rfl, by omega, by show k < (len : Int); omega⟩, by omega, sp_letterAt (lt50 (wordW_lt n1)) (fun v e => ?_)⟩
          cases e
          obtain ⟨q, rfl⟩ : ∃ q : Nat, i = (q : Int) := ⟨i.toNat, by omega⟩
          have := H1 hn (by omega) ci2
          rw [Int.toNat_natCast] at this
          rw [lA_nat (by omega)]
          have e1 := wl_wordW n1 q
          by_cases cq : q < nW w (oN w kind k)
          · rw [if_pos cq] at e1
            rw [e1, ← (n1.f cq).1]; exact this
          · rw [if_neg cq] at e1
            rw [e1]
            rw [n1.spec.2.2.2 q (by omega) (by omega)] at this
            exact this
        · rw [if_neg ci2]; exact H2 (fun z => by omega)
    · rw [if_neg c, if_pos rfl]
      exact H2 (fun z => c z.1)
theorem sp_ckey {h : Hp} {x : Nat} {w : Nat → Int} (s : sAt h x) (a : TR h (x + 43) w) (hV : V w) {kind k i : Int} {d mc ms : Nat} (hd : 2 ≤ d) {R : PR} (H1 : hasN w kind k → 0 ≤ i → i < 10 → R (some (xI ((keyW w (oN w kind k)).getD i.toNat 0 : Int))) h) (H2 : ¬ (hasN w kind k ∧ 0 ≤ i ∧ i < 10) → R (some (xI (-1))) h) : Wp m_S_key 0 [some (xR x), some (xI kind), some (xI k), some (xI i), none] [] h d mc ms R := by
  have hT := a.1.1
  apply f_S_key_0
  rw [s.now_n]
  refine ⟨s.tag, ⟨by omega, hT.tag⟩, sp_ofKind hT (fun v e => ?_)⟩
  cases e
  rcases kR_spec a hV kind with ⟨z1, z2⟩ | ⟨z1, len, z2, z3, z4, z5⟩
  · rw [if_pos z1]; exact H2 (fun z => z2 k z.1)
  · rw [if_neg z1]
    refine ⟨⟨by omega, z2.tag⟩, sp_holds z2.tag z3.1 (fun v e => ?_)⟩
    cases e
    by_cases c : 0 ≤ k ∧ k < kN w kind
    · rw [if_pos c, if_neg (by decide)]
      have hn : hasN w kind k := c
      obtain ⟨n1, n2, n3⟩ := hn.ok hV
      have m1 := keyW_mem hV n1
      have hlt : pkL (keyW w (oN w kind k)) < 32 ^ 10 := Nat.lt_of_lt_of_le (pkL_lt _ (fun c hc => by have := m1 c hc; omega)) (Nat.pow_le_pow_right (by decide) (keyW_len n1))
      by_cases ci : i < 0
      · rw [if_pos ci]; exact H2 (fun z => by omega)
      · rw [if_neg ci]
        by_cases ci2 : i < 10
        · rw [if_pos ci2, z2.sound_n, z2.sound_t, z4 k.toNat (by omega)]
          refine ⟨z2.tag, ⟨rfl, by omega, by show k < (len : Int); omega⟩, by omega, sp_letterAt (lt50 hlt) (fun v e => ?_)⟩
          cases e
          obtain ⟨q, rfl⟩ : ∃ q : Nat, i = (q : Int) := ⟨i.toNat, by omega⟩
          have := H1 hn (by omega) ci2
          rw [Int.toNat_natCast] at this
          rw [lA_nat (by omega)]
          have e1 := wl_pkL (keyW w (oN w kind k)) (fun c hc => by have := m1 c hc; omega) q
          rw [e1]; exact this
        · rw [if_neg ci2]; exact H2 (fun z => by omega)
    · rw [if_neg c, if_pos rfl]
      exact H2 (fun z => c z.1)
theorem sp_cchanges {h : Hp} {x : Nat} {w : Nat → Int} (s : sAt h x) (he : earAt h (x + 28) (x + 29)) (a : TR h (x + 43) w) (hV : V w) {kind k kind2 k2 : Int} {d mc ms : Nat} (hd : 3 ≤ d) {R : PR} (H1 : hasN w kind k → hasN w kind2 k2 → ∀ h', Fr (fun q => q = x + 29) h h' → R (some (xI (chW w (oN w kind k) (oN w kind2 k2) : Int))) h') (H2 : ¬ (hasN w kind k ∧ hasN w kind2 k2) → R (some (xI (-1))) h) : Wp m_S_changes 0 [some (xR x), some (xI kind), some (xI k), some (xI kind2), some (xI k2), none, none] [] h d mc ms R := by
  have hT := a.1.1
  apply f_S_changes_0
  rw [s.now_n]
  refine ⟨s.tag, ⟨by omega, hT.tag⟩, sp_ofKind hT (fun v e => ?_)⟩
  cases e
  rw [s.now_n]
  refine ⟨s.tag, ⟨by omega, hT.tag⟩, sp_ofKind hT (fun v e => ?_)⟩
  cases e
  rcases kR_spec a hV kind with ⟨z1, z2⟩ | ⟨z1, len, z2, z3, z4, z5⟩
  · rw [if_pos z1]; exact H2 (fun z => z2 k z.1)
  rcases kR_spec a hV kind2 with ⟨y1, y2⟩ | ⟨y1, len2, y2, y3, y4, y5⟩
  · rw [if_neg z1, if_pos y1]; exact H2 (fun z => y2 k2 z.2)
  rw [if_neg z1, if_neg y1]
  refine ⟨⟨by omega, z2.tag⟩, sp_holds z2.tag z3.1 (fun v e => ?_)⟩
  cases e
  by_cases c : 0 ≤ k ∧ k < kN w kind
  · rw [if_pos c, if_neg (by decide)]
    have hn : hasN w kind k := c
    obtain ⟨n1, n2, n3⟩ := hn.ok hV
    refine ⟨⟨by omega, y2.tag⟩, sp_holds y2.tag y3.1 (fun v e => ?_)⟩
    cases e
    by_cases c' : 0 ≤ k2 ∧ k2 < kN w kind2
    · rw [if_pos c', if_neg (by decide)]
      have hn' : hasN w kind2 k2 := c'
      obtain ⟨n1', n2', n3'⟩ := hn'.ok hV
      rw [z2.word_n, z2.word_t, y2.word_n, y2.word_t, s.ear_n, z3.2 k.toNat (by omega), y3.2 k2.toNat (by omega)]
      refine ⟨s.tag, z2.tag, ⟨rfl, by omega, by show k < (len : Int); omega⟩, y2.tag, ⟨rfl, by omega, by show k2 < (len2 : Int); omega⟩, ⟨by omega, he.1⟩, ?_⟩
      refine sp_distance (wordW_lt n1) (wordW_lt n1') (wordW_isL n1).len (wordW_isL n1').len (by omega) he (fun h5 f5 v e => ?_)
      cases e
      have e1 := lv_wordW n1 n1'
      rw [e1]
      exact H1 hn hn' h5 f5
    · rw [if_neg c', if_pos rfl]
      exact H2 (fun z => c' z.2)
  · rw [if_neg c, if_pos rfl]
    exact H2 (fun z => c z.1)
theorem sp_calike {h : Hp} {x : Nat} {w : Nat → Int} (s : sAt h x) (a : TR h (x + 43) w) (hV : V w) {kind k kind2 k2 : Int} {d mc ms : Nat} (hd : 5 ≤ d) {R : PR} (H1 : hasN w kind k → hasN w kind2 k2 → R (some (xI (alW w (oN w kind k) (oN w kind2 k2)))) h) (H2 : ¬ (hasN w kind k ∧ hasN w kind2 k2) → R (some (xI (-1))) h) : Wp m_S_alike 0 [some (xR x), some (xI kind), some (xI k), some (xI kind2), some (xI k2), none, none, none, none] [] h d mc ms R := by
  have hT := a.1.1
  have v0 := hV.1.1
  have hnear : hpC h (x + 43 + 1) 0 = w 0 := a.1.2.1.1
  apply f_S_alike_0
  rw [s.now_n]
  refine ⟨s.tag, ⟨by omega, hT.tag⟩, sp_ofKind hT (fun v e => ?_)⟩
  cases e
  rw [s.now_n]
  refine ⟨s.tag, ⟨by omega, hT.tag⟩, sp_ofKind hT (fun v e => ?_)⟩
  cases e
  rcases kR_spec a hV kind with ⟨z1, z2⟩ | ⟨z1, len, z2, z3, z4, z5⟩
  · rw [if_pos z1]; exact H2 (fun z => z2 k z.1)
  rcases kR_spec a hV kind2 with ⟨y1, y2⟩ | ⟨y1, len2, y2, y3, y4, y5⟩
  · rw [if_neg z1, if_pos y1]; exact H2 (fun z => y2 k2 z.2)
  rw [if_neg z1, if_neg y1]
  refine ⟨⟨by omega, z2.tag⟩, sp_holds z2.tag z3.1 (fun v e => ?_)⟩
  cases e
  by_cases c : 0 ≤ k ∧ k < kN w kind
  · rw [if_pos c, if_neg (by decide)]
    have hn : hasN w kind k := c
    obtain ⟨n1, n2, n3⟩ := hn.ok hV
    refine ⟨⟨by omega, y2.tag⟩, sp_holds y2.tag y3.1 (fun v e => ?_)⟩
    cases e
    by_cases c' : 0 ≤ k2 ∧ k2 < kN w kind2
    · rw [if_pos c', if_neg (by decide)]
      have hn' : hasN w kind2 k2 := c'
      obtain ⟨n1', n2', n3'⟩ := hn'.ok hV
      have m1 := keyW_mem hV n1
      have m2 := keyW_mem hV n1'
      have H1' := H1 hn hn'
      unfold oN at n1 n1' m1 m2 H1'
      have fin : ∀ (p0 : Int) (o1 o3 o7 o8 : Option AV), (p0 = if keyW w (kO kind + 10 * k.toNat) = keyW w (kO kind2 + 10 * k2.toNat) then 1 else 0) → Wp m_S_alike 75 [some (xR x), o1, some (xI k), o3, some (xI k2), some (xR (kR (x + 43) kind)), some (xR (kR (x + 43) kind2)), o7, o8] [xI p0] h d mc ms R := by
        intro p0 o1 o3 o7 o8 hp0
        have p01 : 0 ≤ p0 ∧ p0 ≤ 1 := by rw [hp0]; split <;> omega
        apply f_S_alike_75
        rw [z2.word_n, z2.word_t, y2.word_n, y2.word_t, s.now_n, hT.rules_n, hnear, z3.2 k.toNat (by omega), y3.2 k2.toNat (by omega)]
        refine ⟨z2.tag, ⟨rfl, by omega, by show k < (len : Int); omega⟩, y2.tag, ⟨rfl, by omega, by show k2 < (len2 : Int); omega⟩, s.tag, hT.tag, hT.rules_a.tag, by omega, ?_⟩
        obtain ⟨q, hq⟩ : ∃ q : Nat, w 0 = (q : Int) := ⟨(w 0).toNat, by omega⟩
        rw [hq]
        refine sp_isWithin q (by omega) (wordW_lt n1) (wordW_lt n1') (wordW_isL n1) (wordW_isL n1') (by omega) (fun v e => ?_)
        cases e
        rw [lv_wordW n1 n1']
        unfold alW at H1'
        rw [← hp0, hq] at H1'
        by_cases cc : chW w (kO kind + 10 * k.toNat) (kO kind2 + 10 * k2.toNat) ≤ q
        · rw [if_pos cc, if_neg (by decide), ai_add_eq (by omega) (by omega)]
          rw [if_pos (by omega)] at H1'
          exact H1'
        · rw [if_neg cc, if_pos rfl, ai_add_eq (by omega) (by omega)]
          rw [if_neg (by omega)] at H1'
          exact H1'
      rw [z2.sound_n, z2.sound_t, y2.sound_n, y2.sound_t, z4 k.toNat (by omega), y4 k2.toNat (by omega)]
      refine ⟨z2.tag, ⟨rfl, by omega, by show k < (len : Int); omega⟩, y2.tag, ⟨rfl, by omega, by show k2 < (len2 : Int); omega⟩, ?_⟩
      by_cases ck : keyW w (kO kind + 10 * k.toNat) = keyW w (kO kind2 + 10 * k2.toNat)
      · rw [if_pos (al_cmp_eq.mpr (by rw [ck]))]
        exact fin 1 _ _ _ _ (by rw [if_pos ck])
      · rw [if_neg (fun z => ck (pkL_inj m1 m2 (by have := al_cmp_eq.mp z; omega)))]
        exact fin 0 _ _ _ _ (by rw [if_neg ck])
    · rw [if_neg c', if_pos rfl]
      exact H2 (fun z => c' z.2)
  · rw [if_neg c, if_pos rfl]
    exact H2 (fun z => c z.1)
