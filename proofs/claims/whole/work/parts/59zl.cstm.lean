/-! ===== the class reads a statement, and all of them ===== -/
def OUTS (h : Hp) (x : Nat) (b : Nat → Nat) (n : Nat) (v : Int) : PO → Prop
  | .inl (f, p) => v = 0 ∧ CF h x b n f p
  | .inr (e', D', T', G') => v = 1 ∧ ∃ e1, tE b n e1 = e' ∧ kS b n e1 = 3 ∧ CG h x b n e1 D' T' G'
theorem sp_readStop {h : Hp} {x : Nat} {b : Nat → Nat} {n e : Nat} {D : Nat → Int} {T G : Nat} (c : CG h x b n e D T G) (hk : kS b n e = 1 ∨ kS b n e = 2) {d mc ms : Nat} {R : PR} (hd : 3 ≤ d) (H : ∀ h' v, FrP (Scr2 x) h h' → OUTS h' x b n v (pMk b n (.inr (tE b n e, D, T, G))) → R (some (xI v)) h') : Wp m_Reader_readStop 0 [some (xR (x + 4))] [] h d mc ms R := by
  simp only [pMk] at H
  apply f_Reader_readStop_0
  refine ⟨⟨by omega, c.1.tag⟩, sp_stpG c (by omega) (by omega) (fun g f c1 _ => ?_)⟩
  rw [c1.1.k]
  refine ⟨c1.1.tag, ?_⟩
  by_cases z : kS b n (tE b n e) = 3
  · rw [if_pos z] at H ⊢
    exact ⟨by simp, H g 1 f ⟨rfl, _, rfl, z, c1⟩⟩
  · rw [if_neg z] at H ⊢
    exact sp_failsA c1.1 (by decide) (by omega) (fun h' f' cf => H h' 0 (f.tr f') ⟨rfl, cf⟩)
theorem sp_tail {h g : Hp} {x : Nat} {b : Nat → Nat} {n : Nat} {v : Int} {P : PO} (ou : OUTC g x b n v P) (fr : FrP (Scr2 x) h g) {d : Nat} {R : PR} (hd : 4 ≤ d) (H : ∀ h' v, FrP (Scr2 x) h h' → OUTS h' x b n v (pMk b n P) → R (some (xI v)) h') : (if v = (0 : Int) then (((0 : Int) = 0 ∨ (0 : Int) = 1) ∧ R (some (xI (0 : Int))) g) else ((1 ≤ d ∧ (hpT g (x + 4)).1 = 7) ∧ Wp m_Reader_readStop 0 [some (xR (x + 4))] [] g (d - 1) 0 0 (fun rv h17 => ∀ v17 : Int, rv = some (xI v17) → (if v17 = (0 : Int) then (((0 : Int) = 0 ∨ (0 : Int) = 1) ∧ R (some (xI (0 : Int))) h17) else (((1 : Int) = 0 ∨ (1 : Int) = 1) ∧ R (some (xI (1 : Int))) h17))))) := by
  rcases P with ⟨f, p⟩ | ⟨e', D', T', G'⟩
  · obtain ⟨v0, cf⟩ := ou
    rw [if_pos v0]
    exact ⟨by simp, H g 0 fr ⟨rfl, cf⟩⟩
  · obtain ⟨v1, e1, e2, k12, cg⟩ := ou
    subst e2
    rw [if_neg (by omega)]
    refine ⟨⟨by omega, cg.1.tag⟩, sp_readStop cg k12 (by omega) (fun h' v' f' os v17 ee => ?_)⟩
    have ev := xI_inj ee
    have Hh := H h' v' (fr.tr f') os
    have v01 : v' = 0 ∨ v' = 1 := by
      cases q : pMk b n (.inr (tE b n e1, D', T', G')) with
      | inl r => rw [q] at os; exact Or.inl os.1
      | inr r => rw [q] at os; exact Or.inr os.1
    by_cases z : v17 = 0
    · rw [if_pos z]; rw [show v' = 0 by omega] at Hh; exact ⟨by simp, Hh⟩
    · rw [if_neg z]; rw [show v' = 1 by omega] at Hh; exact ⟨by simp, Hh⟩
theorem sp_cstm {h : Hp} {x : Nat} {b : Nat → Nat} {n e : Nat} {D : Nat → Int} {T G : Nat} (c : CG h x b n e D T G) (hV : V D) (hz : Dz D) (hT : T < 65536) (hG : G < 67108864) {d mc ms : Nat} {R : PR} (hd : 5 ≤ d) (H : ∀ h' v, FrP (Scr2 x) h h' → OUTS h' x b n v (pStm b n e D T G) → R (some (xI v)) h') : Wp m_Reader_readStatement 0 [some (xR (x + 4))] [] h d mc ms R := by
  unfold pStm pKey at H
  have o8 := c.1.o
  have k1 : 0 ≤ oS b n e → kS b n e = 1 := fun y => by
    by_cases q : kS b n e = 1
    · exact q
    · rw [oS_0 q] at y; omega
  have bad : ∀ {f : Int}, f = 1 → (∀ h' v, FrP (Scr2 x) h h' → OUTS h' x b n v (pMk b n (.inl (1, tS b n e))) → R (some (xI v)) h') → ((1 ≤ d ∧ (hpT h (x + 4)).1 = 7) ∧ Wp m_Reader_fails 0 [some (xR (x + 4)), some (xI f)] [] h (d - 1) 0 0 (fun rv h2 => ∀ v2 : Int, rv = some (xI v2) → ((v2 = 0 ∨ v2 = 1) ∧ R (some (xI v2)) h2))) := fun e H => by
    subst e
    exact sp_failsB c.1 (by decide) (by omega) (fun h' f' cf => H h' 0 f' ⟨rfl, cf⟩)
  have setr : ∀ (i : Nat), i < 3 → oS b n e = (i : Int) → (∀ h' v, FrP (Scr2 x) h h' → OUTS h' x b n v (pMk b n (pSet b n i e D T G)) → R (some (xI v)) h') → Wp m_Reader_readStatement 72 [some (xR (x + 4))] [] h d mc ms R := fun i hi eo H => by
    apply f_Reader_readStatement_72
    rw [o8, eo]
    exact ⟨c.1.tag, ⟨by omega, c.1.tag⟩, sp_cset c hV hT hi (k1 (by omega)) eo (by omega) (fun h' v f ou v1 ee => by have ev := xI_inj ee; rw [ev]; exact sp_tail ou f (by omega) H)⟩
  apply f_Reader_readStatement_0
  rw [o8]
  refine ⟨c.1.tag, ?_⟩
  by_cases c0 : oS b n e = 0
  · rw [if_pos c0] at H
    rw [if_pos (show oS b n e = ((0 : Nat) : Int) from c0)]
    exact setr 0 (by omega) c0 H
  rw [if_neg c0] at H
  rw [if_neg (show ¬ oS b n e = ((0 : Nat) : Int) from c0)]
  by_cases c1 : oS b n e = 1
  · rw [if_pos c1] at H
    rw [if_pos (show oS b n e = ((1 : Nat) : Int) from c1)]
    exact setr 1 (by omega) c1 H
  rw [if_neg c1] at H
  rw [if_neg (show ¬ oS b n e = ((1 : Nat) : Int) from c1)]
  by_cases c2 : oS b n e = 2
  · rw [if_pos c2] at H
    rw [if_pos (show oS b n e = ((2 : Nat) : Int) from c2)]
    exact setr 2 (by omega) c2 H
  rw [if_neg c2] at H
  rw [if_neg (show ¬ oS b n e = ((2 : Nat) : Int) from c2)]
  by_cases c3 : oS b n e = 3
  · rw [if_pos c3] at H
    rw [if_pos (show oS b n e = ((3 : Nat) : Int) from c3)]
    exact ⟨⟨by omega, c.1.tag⟩, sp_cmute c hV hT (k1 (by omega)) c3 (by omega) (fun h' v f ou v1 ee => by have ev := xI_inj ee; rw [ev]; exact sp_tail ou f (by omega) H)⟩
  rw [if_neg c3] at H
  rw [if_neg (show ¬ oS b n e = ((3 : Nat) : Int) from c3)]
  by_cases c4 : oS b n e = 4
  · rw [if_pos c4] at H
    rw [if_pos (show oS b n e = ((4 : Nat) : Int) from c4)]
    exact ⟨⟨by omega, c.1.tag⟩, sp_csam c hV hG (k1 (by omega)) (by omega) (fun h' v f ou v1 ee => by have ev := xI_inj ee; rw [ev]; exact sp_tail ou f (by omega) H)⟩
  rw [if_neg c4] at H
  rw [if_neg (show ¬ oS b n e = ((4 : Nat) : Int) from c4)]
  by_cases c5 : oS b n e = 5
  · rw [if_pos c5] at H
    rw [if_pos (show oS b n e = ((5 : Nat) : Int) from c5)]
    exact ⟨⟨by omega, c.1.tag⟩, sp_cpai c hV (k1 (by omega)) (by omega) (fun h' v f ou v1 ee => by have ev := xI_inj ee; rw [ev]; exact sp_tail ou f (by omega) H)⟩
  rw [if_neg c5] at H
  rw [if_neg (show ¬ oS b n e = ((5 : Nat) : Int) from c5)]
  by_cases c6 : oS b n e = 6
  · rw [if_pos c6] at H
    rw [if_pos (show oS b n e = ((6 : Nat) : Int) from c6)]
    exact ⟨⟨by omega, c.1.tag⟩, sp_cstr c hV (k1 (by omega)) (by omega) (fun h' v f ou v1 ee => by have ev := xI_inj ee; rw [ev]; exact sp_tail ou f (by omega) H)⟩
  rw [if_neg c6] at H
  rw [if_neg (show ¬ oS b n e = ((6 : Nat) : Int) from c6)]
  by_cases c7 : oS b n e = 7
  · rw [if_pos c7] at H
    rw [if_pos (show oS b n e = ((7 : Nat) : Int) from c7)]
    exact ⟨⟨by omega, c.1.tag⟩, sp_chou c hV (k1 (by omega)) (by omega) (fun h' v f ou v1 ee => by have ev := xI_inj ee; rw [ev]; exact sp_tail ou f (by omega) H)⟩
  rw [if_neg c7] at H
  rw [if_neg (show ¬ oS b n e = ((7 : Nat) : Int) from c7)]
  by_cases c8 : oS b n e = 8
  · rw [if_neg (by omega), if_neg (by omega)] at H
    rw [if_pos (show oS b n e = ((8 : Nat) : Int) from c8)]
    exact bad rfl H
  rw [if_neg (show ¬ oS b n e = ((8 : Nat) : Int) from c8)]
  by_cases c9 : oS b n e = 9
  · rw [if_neg (by omega), if_neg (by omega)] at H
    rw [if_pos (show oS b n e = ((9 : Nat) : Int) from c9)]
    exact bad rfl H
  rw [if_neg (show ¬ oS b n e = ((9 : Nat) : Int) from c9)]
  by_cases c10 : oS b n e = 10
  · rw [if_pos c10] at H
    rw [if_pos (show oS b n e = ((10 : Nat) : Int) from c10)]
    exact ⟨⟨by omega, c.1.tag⟩, sp_cali c hV hz.2 (k1 (by omega)) (by omega) (fun h' v f ou v1 ee => by have ev := xI_inj ee; rw [ev]; exact sp_tail ou f (by omega) H)⟩
  rw [if_neg c10] at H
  rw [if_neg (show ¬ oS b n e = ((10 : Nat) : Int) from c10)]
  by_cases c11 : oS b n e = 11
  · rw [if_neg (by omega)] at H
    rw [if_pos (show oS b n e = ((11 : Nat) : Int) from c11)]
    exact bad rfl H
  rw [if_neg (show ¬ oS b n e = ((11 : Nat) : Int) from c11)]
  by_cases c12 : oS b n e = 12
  · rw [if_pos c12] at H
    rw [if_pos (show oS b n e = ((12 : Nat) : Int) from c12)]
    refine ⟨⟨by omega, c.1.tag⟩, sp_cpoo c hV (k1 (by omega)) (by omega) (fun h' v f ou v1 ee => ?_)⟩
    have ev := xI_inj ee
    rw [ev]
    cases q : pPoo b n e D T G with
    | inl r =>
      obtain ⟨rf, rp⟩ := r
      rw [q] at ou H
      obtain ⟨v0, cf⟩ := ou
      subst v0
      exact ⟨Or.inl rfl, H h' 0 f ⟨rfl, cf⟩⟩
    | inr r =>
      obtain ⟨e', D', T', G'⟩ := r
      rw [q] at ou H
      obtain ⟨v0, e1, e2, k3, cg⟩ := ou
      subst v0
      subst e2
      refine ⟨Or.inr rfl, H h' 1 f ?_⟩
      simp only [pMk]
      rw [kS_idem, if_pos k3, tE_idem]
      exact ⟨rfl, _, rfl, k3, cg⟩
  · rw [if_neg c12] at H
    rw [if_neg (show ¬ oS b n e = ((12 : Nat) : Int) from c12)]
    exact bad rfl H
/-! the draft is emptied, and settled -/
theorem sp_Tclear {h : Hp} {t : Nat} (a : townAt h t) {d mc ms : Nat} {R : PR} (hd : 2 ≤ d) (H : ∀ h', FrP (SD t) h h' → TR0 h' t wE → R none h') : Wp m_Town_clear 0 [some (xR t)] [] h d mc ms R := by
  have st : ∀ {g g' : Hp} {q p : Nat} {v : Int}, FrP (SD t) h g → SD t q p → g' = hpU g q p v → FrP (SD t) h g' := fun f z e => by subst e; exact f.tr (FrP.up z)
  have A : ∀ {g : Hp}, FrP (SD t) h g → townAt g t := fun f => a.fd f
  apply f_Town_clear_0
  rw [a.rules_n]
  refine ⟨a.tag, ⟨by omega, a.rules_a.tag⟩, ?_⟩
  apply f_Rules_clear_0
  refine ⟨a.rules_a.tag, fun u1 i1 => ?_⟩
  have s1 := st FrP.rf (by unfold SD; omega) i1
  refine ⟨(A s1).rules_a.tag, fun u2 i2 => ?_⟩
  have s2 := st s1 (by unfold SD; omega) i2
  refine ⟨(A s2).rules_a.tag, fun u3 i3 => ?_⟩
  have s3 := st s2 (by unfold SD; omega) i3
  refine ⟨(A s3).rules_a.tag, fun u4 i4 => ?_⟩
  have s4 := st s3 (by unfold SD; omega) i4
  refine ⟨(A s4).rules_a.tag, fun u5 i5 => ?_⟩
  have s5 := st s4 (by unfold SD; omega) i5
  refine ⟨(A s5).rules_a.tag, fun u6 i6 _ => ?_⟩
  have s6 := st s5 (by unfold SD; omega) i6
  rw [(A s6).streets_n]
  refine ⟨(A s6).tag, (A s6).streets_a.tag, fun u7 i7 => ?_⟩
  have s7 := st s6 (by unfold SD; omega) i7
  rw [(A s7).pool_n]
  refine ⟨(A s7).tag, (A s7).pool_a.tag, fun u8 i8 => ?_⟩
  have s8 := st s7 (by unfold SD; omega) i8
  rw [(A s8).aliases_n]
  refine ⟨(A s8).tag, (A s8).aliases_a.tag, fun u9 i9 => ?_⟩
  have s9 := st s8 (by unfold SD; omega) i9
  have vals : hpC u9 (t + 1) 0 = 1 ∧ hpC u9 (t + 1) 1 = 10 ∧ hpC u9 (t + 1) 2 = 10 ∧ hpC u9 (t + 1) 3 = 0 ∧ hpC u9 (t + 1) 4 = 0 ∧ hpC u9 (t + 1) 5 = 0 ∧ hpC u9 (t + 7) 2 = 0 ∧ hpC u9 (t + 10) 2 = 0 ∧ hpC u9 (t + 13) 2 = 0 := by
    subst i9; subst i8; subst i7; subst i6; subst i5; subst i4; subst i3; subst i2; subst i1
    refine ⟨?_, ?_, ?_, ?_, ?_, ?_, ?_, ?_, ?_⟩ <;> simp (disch := omega) only [hpC_o1, hpC_o2, hpC_same]
  clear i1 i2 i3 i4 i5 i6 i7 i8 i9
  obtain ⟨q0, q1, q2, q3, q4, q5, q7, q10, q13⟩ := vals
  rw [(A s9).homes_n]
  refine ⟨(A s9).tag, ⟨by omega, (A s9).homes_a.tag⟩, ?_⟩
  apply f_Homes_clear_0
  rw [(A s9).homes_a.count_n]
  refine ⟨(A s9).homes_a.tag, by omega, sp_fill1 (A s9).homes_a.count_t (by omega) (fun g f1 z _ _ => ?_)⟩
  have s10 : FrP (SD t) h g := s9.tr (f1.P (fun q p z => by unfold SD; omega))
  have no : ∀ q p, q ≠ t + 18 + 1 → hpC g q p = hpC u9 q p := fun q p hq => f1.2.2 q hq p
  refine ⟨(A s10).tag, fun u11 i11 => ?_⟩
  have s11 := st s10 (by unfold SD; omega) i11
  have n2 : ∀ q p, q ≠ t → hpC u11 q p = hpC g q p := fun q p hq => by subst i11; exact hpC_o1 hq
  have y7 : hpC u11 t 7 = 0 := by subst i11; rw [hpC_same]
  clear i11
  have v3 : wE 3 = 0 := by decide
  have v4 : wE 4 = 0 := by decide
  have v5 : wE 5 = 0 := by decide
  have v6 : wE 6 = 0 := by decide
  have v7 : wE 7 = 0 := by decide
  have v8 : wE 8 = 0 := by decide
  refine H u11 s11 ⟨A s11, ⟨?_, ?_, ?_, ?_, ?_, ?_, fun k hk => ?_, fun l h1 h2 => ?_⟩, ⟨?_, fun k hk => ?_⟩, ⟨?_, fun k hk => ?_⟩, ⟨?_, fun k hk => ?_⟩, fun k hk => ?_, fun s hs => ⟨?_, fun i hi => ?_⟩, ?_⟩
  · rw [n2 _ _ (by omega), no _ _ (by omega), q0]; decide
  · rw [n2 _ _ (by omega), no _ _ (by omega), q1]; decide
  · rw [n2 _ _ (by omega), no _ _ (by omega), q2]; decide
  · rw [n2 _ _ (by omega), no _ _ (by omega), q3, v3]; decide
  · rw [n2 _ _ (by omega), no _ _ (by omega), q4, v4]
  · rw [n2 _ _ (by omega), no _ _ (by omega), q5, v5]
  · rw [v5] at hk; omega
  · rw [v4]
    show (l : Int) = _
    unfold wE; rw [if_neg (by omega), if_neg (by omega), if_pos (by omega)]; omega
  · rw [n2 _ _ (by omega), no _ _ (by omega), q7, v7]
  · rw [v7] at hk; omega
  · rw [n2 _ _ (by omega), no _ _ (by omega), q10, v6]
  · rw [v6] at hk; omega
  · rw [n2 _ _ (by omega), no _ _ (by omega), q13, v8]
  · rw [v8] at hk; omega
  · rw [v8] at hk; omega
  · rw [n2 _ _ (by omega), z s hs, wE_far (by omega)]
  · rw [wE_far (by omega)] at hi; omega
  · rw [y7]; decide
theorem sp_hearAll {h : Hp} {r r1 l o : Nat} {D : Nat → Int} {m : Int} (a : namesAt h r l) (nw : NW h r D m o) (hR : rulesAt h r1) (rw1 : RW h r1 D) (hV : V D) (hd : r1 + 6 ≤ r) (ok : ∀ k : Nat, (k : Int) < m → okName D (o + 10 * k)) (hm : 0 ≤ m ∧ m ≤ (l : Int)) (hl : l ≤ 30) {d mc ms : Nat} {R : PR} (hdd : 3 ≤ d) {o2 : Option AV} (H : ∀ h', FrP (fun q _ => q = r + 2) h h' → NS h' r D m o → R none h') : Wp m_Names_hearAll 0 [some (xR r), some (xR r1), o2] [] h d mc ms R := by
  have L : ∀ (j k : Nat) (g : Hp), ((k + j : Nat) : Int) = m → FrP (fun q _ => q = r + 2) h g → (∀ i, i < k → hpC g (r + 2) i = (pkL (keyW D (o + 10 * i)) : Int)) → Wp m_Names_hearAll 2 [some (xR r), some (xR r1), some (xI (k : Int))] [] g d mc ms R := by
    intro j
    induction j with
    | zero =>
      intro k g hk f z
      have ag := a.fr f (by omega) (by omega)
      apply f_Names_hearAll_2
      rw [f.2.2 _ _ (by omega), nw.1, if_neg (by omega)]
      exact ⟨ag.tag, H g f (fun i hi => z i (by omega))⟩
    | succ j ih =>
      intro k g hk f z
      have ag := a.fr f (by omega) (by omega)
      have Rg : rulesAt g r1 := hR.fr f (by omega) (by omega) (by omega) (by omega) (by omega)
      have Wg : RW g r1 D := rw1.eq (f.eqC (fun q p h1 h2 z => by omega))
      have okk := ok k (by omega)
      apply f_Names_hearAll_2
      rw [f.2.2 r 2 (by omega), nw.1, if_pos (by omega), ag.word_n, ag.word_t, ag.sound_n, Int.toNat_natCast, f.2.2 _ _ (by omega), nw.2 k (by omega)]
      refine ⟨ag.tag, ag.tag, ag.tag, ⟨rfl, by omega, by show (k : Int) < (l : Int); omega⟩, ⟨by omega, Rg.tag⟩, sp_soundOf Rg (Wg.are hV) (wordW_lt okk) (wordW_isL okk) (wordW_26 okk) (by omega) (fun v ee => ?_)⟩
      have ev := xL_inj ee
      rw [keyW_wordW okk] at ev
      rw [ag.sound_t]
      refine ⟨⟨rfl, by omega, by show (k : Int) < (l : Int); omega⟩, fun g1 e1 => ?_⟩
      rw [ab_1 (by omega)]
      refine ih (k + 1) g1 (by omega) (f.tr (by subst e1; exact FrP.up rfl)) (fun i hi => ?_)
      subst e1
      by_cases e : i = k
      · subst e; rw [hpC_same, ev]
      · rw [hpC_o2 e]; exact z i (by omega)
  apply f_Names_hearAll_0
  exact L m.toNat 0 h (by omega) FrP.rf (fun i hi => by omega)
theorem sp_Tsettle {h : Hp} {t : Nat} {D : Nat → Int} (a : TR0 h t D) (hV : V D) {d mc ms : Nat} {R : PR} (hd : 4 ≤ d) (H : ∀ h', FrP (SD t) h h' → TR h' t (seW D) → R none h') : Wp m_Town_settle 0 [some (xR t)] [] h d mc ms R := by
  have hV0 := hV
  obtain ⟨⟨v0, v1, v2, v3, v4, v5, v6, v7, v8, v9⟩, w1, w2, w3, w4, w5, w6, w7⟩ := hV
  have hT := a.1
  have S : ∀ {g g' : Hp} {r : Nat}, r = t + 9 ∨ r = t + 12 ∨ r = t + 15 → FrP (fun q _ => q = r) g g' → FrP (SD t) g g' := fun hr f => f.wk (fun q p z => by unfold SD; omega)
  apply f_Town_settle_0
  rw [hT.streets_n, hT.rules_n]
  refine ⟨hT.tag, hT.tag, ⟨by omega, hT.streets_a.tag⟩, sp_hearAll hT.streets_a a.2.2.1 hT.rules_a a.2.1 hV0 (by omega) w4 (by omega) (by omega) (by omega) (fun g1 f1 s1 _ => ?_)⟩
  have F1 := S (r := t + 7 + 2) (by omega) f1
  have T1 := hT.fd F1
  have E1 : eqC h g1 t (t + 8) := f1.eqC (fun q p h1 h2 z => by omega)
  have E1' : eqC h g1 (t + 10) (t + 22) := f1.eqC (fun q p h1 h2 z => by omega)
  rw [T1.pool_n, T1.rules_n]
  refine ⟨T1.tag, T1.tag, ⟨by omega, T1.pool_a.tag⟩, sp_hearAll T1.pool_a (a.2.2.2.1.eq (E1'.sub (by omega) (by omega))) T1.rules_a (a.2.1.eq (E1.sub (by omega) (by omega))) hV0 (by omega) w3 (by omega) (by omega) (by omega) (fun g2 f2 s2 _ => ?_)⟩
  have F2 := F1.tr (S (r := t + 10 + 2) (by omega) f2)
  have T2 := hT.fd F2
  have f2' : FrP (fun q _ => q = t + 9 ∨ q = t + 12) h g2 := (f1.wk (fun q p z => Or.inl z)).tr (f2.wk (fun q p z => Or.inr z))
  rw [T2.aliases_n, T2.rules_n]
  refine ⟨T2.tag, T2.tag, ⟨by omega, T2.aliases_a.tag⟩, sp_hearAll T2.aliases_a (a.2.2.2.2.1.eq (f2'.eqC (fun q p h1 h2 z => by omega))) T2.rules_a (a.2.1.eq (f2'.eqC (fun q p h1 h2 z => by omega))) hV0 (by omega) w5 (by omega) (by omega) (by omega) (fun g3 f3 s3 _ => ?_)⟩
  have F3 := F2.tr (S (r := t + 13 + 2) (by omega) f3)
  have T3 := hT.fd F3
  have f3' : FrP (fun q _ => q = t + 9 ∨ q = t + 12 ∨ q = t + 15) h g3 := (f2'.wk (fun q p z => by omega)).tr (f3.wk (fun q p z => by omega))
  have no3 : ∀ q p, ¬ (q = t + 9 ∨ q = t + 12 ∨ q = t + 15) → hpC g3 q p = hpC h q p := f3'.2.2
  rw [T3.aliasLast_n, T3.rules_n, no3 (t + 1) 1 (by omega), a.2.1.2.1]
  refine ⟨T3.tag, T3.tag, T3.rules_a.tag, by omega, sp_fill1 T3.aliasLast_t (by omega) (fun g4 f4 z4 _ => ?_)⟩
  have f4' : FrP (fun q _ => q = t + 17) g3 g4 := f4.P (fun q p z => z)
  have F4 : FrP (SD t) h g4 := F3.tr (f4'.wk (fun q p z => by unfold SD; omega))
  have Fx : FrP (fun q _ => q = t + 9 ∨ q = t + 12 ∨ q = t + 15 ∨ q = t + 17) h g4 := (f3'.wk (fun q p z => by omega)).tr (f4'.wk (fun q p z => by omega))
  have L : ∀ p, p < 980 → D p = seW D p := fun p hp => (seW_lo hp).symm
  have eR : eqR D (seW D) := fun p hp _ _ => L p (by omega)
  have l6 := L 6 (by omega)
  have l7 := L 7 (by omega)
  have l8 := L 8 (by omega)
  obtain ⟨a1, a2, a3, a4, a5, a6, a7, a8⟩ := a
  refine H g4 F4 ⟨⟨hT.fd F4, (a2.eq (Fx.eqC (fun q p h1 h2 z => by omega))).ext hV0 eR, ?_, ?_, ?_, fun k hk => ?_, (a7.eq (Fx.eqC (fun q p h1 h2 z => by omega))).ext hV0 (fun p h1 h2 => L p (by omega)), ?_⟩, ?_, ?_, ?_, fun k hk => ?_⟩
  · rw [← l7]
    refine ⟨by rw [Fx.2.2 _ _ (by omega)]; exact a3.1, fun k hk => ?_⟩
    rw [Fx.2.2 _ _ (by omega), a3.2 k hk, wordW_ext (fun i hi => L _ (by omega))]
  · rw [← l6]
    refine ⟨by rw [Fx.2.2 _ _ (by omega)]; exact a4.1, fun k hk => ?_⟩
    rw [Fx.2.2 _ _ (by omega), a4.2 k hk, wordW_ext (fun i hi => L _ (by omega))]
  · rw [← l8]
    refine ⟨by rw [Fx.2.2 _ _ (by omega)]; exact a5.1, fun k hk => ?_⟩
    rw [Fx.2.2 _ _ (by omega), a5.2 k hk, wordW_ext (fun i hi => L _ (by omega))]
  · rw [← l8] at hk
    rw [Fx.2.2 _ _ (by omega), a6 k hk]; exact L _ (by omega)
  · rw [Fx.2.2 _ _ (by omega), a8]; exact L 9 (by omega)
  · rw [← l7]
    refine NS.ext hV0 eR w4 (fun k hk i hi => L _ (by omega)) (fun k hk => ?_)
    rw [f4'.2.2 _ _ (by omega), f3.2.2 _ _ (by omega), f2.2.2 _ _ (by omega)]; exact s1 k hk
  · rw [← l6]
    refine NS.ext hV0 eR w3 (fun k hk i hi => L _ (by omega)) (fun k hk => ?_)
    rw [f4'.2.2 _ _ (by omega), f3.2.2 _ _ (by omega)]; exact s2 k hk
  · rw [← l8]
    refine NS.ext hV0 eR w5 (fun k hk i hi => L _ (by omega)) (fun k hk => ?_)
    rw [f4'.2.2 _ _ (by omega)]; exact s3 k hk
  · rw [← l8] at hk
    rw [z4 k (by omega)]
    unfold seW sK
    rw [if_pos (by omega)]
