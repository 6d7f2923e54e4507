/-! ===== the class reads statements: same, pair ===== -/
theorem orF_ext {f g : Nat → Int} : ∀ k, (∀ i, i < k → f i = g i) → orF f k = orF g k
  | 0, _ => rfl
  | k + 1, h => by simp only [orF]; rw [orF_ext k (fun i hi => h i (by omega)), h k (by omega)]
theorem orF_bd {f : Nat → Int} : ∀ k, (∀ i : Nat, i < k → 0 ≤ f i ∧ f i < 134217728) → orF f k < 2 ^ 27
  | 0, _ => by simp only [orF]; decide
  | k + 1, h => by
    simp only [orF]
    have := h k (by omega)
    exact Nat.or_lt_two_pow (orF_bd k (fun i hi => h i (by omega))) (by omega)
theorem orF_bit {f : Nat → Int} {t : Nat} : ∀ k, (orF f k).testBit t = false → ∀ i, i < k → (f i).toNat.testBit t = false
  | 0, _, i, hi => by omega
  | k + 1, h, i, hi => by
    simp only [orF] at h
    rw [Nat.testBit_or, Bool.or_eq_false_iff] at h
    by_cases e : i = k
    · rw [e]; exact h.2
    · exact orF_bit k h.1 i (by omega)
theorem sp_grouped {h : Hp} {r G : Nat} {D : Nat → Int} (a : rulesAt h r) (h4 : hpC h r 4 = D 4) (gb : GB h r D G) (b4 : 0 ≤ D 4 ∧ D 4 ≤ 8) {d mc ms : Nat} {R : PR} {o1 o2 : Option AV} (H : R (some (xI ((2 * G : Nat) : Int))) h) : Wp m_Rules_grouped 0 [some (xR r), o1, o2] [] h d mc ms R := by
  obtain ⟨g1, g2⟩ := gb
  have bd : ∀ k : Nat, (k : Int) ≤ D 4 → orF (hpC h (r + 2)) k < 2 ^ 27 := fun k hk => orF_bd k (fun i hi => g1 i (by omega))
  have L : ∀ j k : Nat, ((k + j : Nat) : Int) = D 4 → Wp m_Rules_grouped 4 [some (xR r), some (xI (orF (hpC h (r + 2)) k : Int)), some (xI (k : Int))] [] h d mc ms R := by
    intro j
    induction j with
    | zero =>
      intro k hk
      apply f_Rules_grouped_4
      rw [h4, if_neg (by omega)]
      rw [← g2, show (D 4).toNat = k by omega] at H
      exact ⟨a.tag, H⟩
    | succ j ih =>
      intro k hk
      have b0 := bd k (by omega)
      have b1 := g1 k (by omega)
      apply f_Rules_grouped_4
      rw [h4, if_pos (by omega), a.groupBits_n, a.groupBits_t, Int.toNat_natCast, show hpC h (r + 2) k = ((hpC h (r + 2) k).toNat : Int) by omega, ai_or_nat (by omega) (by omega), ab_1 (by omega)]
      refine ⟨a.tag, a.tag, ⟨rfl, by omega, by show (k : Int) < 8; omega⟩, ih (k + 1) (by omega)⟩
  apply f_Rules_grouped_0
  exact L (D 4).toNat 0 (by omega)
theorem cHead_n0 {h h' : Hp} {r k : Nat} {l : Int} (e : ∀ q p, (q = r + 1 ∨ q = r + 2) → p ≠ k → hpC h' q p = hpC h q p) (nb : ¬ ai_and (ai_shr (hpC h' (r + 2) k) l) 1 = 1) : ∀ j g, g + j = k → cHead h' r l (j + 1) g = cHead h r l j g
  | 0, g, hg => by simp only [cHead]; rw [show g = k by omega, if_neg nb]
  | j + 1, g, hg => by
    have := cHead_n0 e nb j (g + 1) (by omega)
    rw [cHead, this, cHead, e (r + 2) g (by omega) (by omega), e (r + 1) g (by omega) (by omega)]
theorem cHead_n1 {h h' : Hp} {r k : Nat} {l : Int} (e : ∀ q p, (q = r + 1 ∨ q = r + 2) → p ≠ k → hpC h' q p = hpC h q p) (nb : ai_and (ai_shr (hpC h' (r + 2) k) l) 1 = 1) (no : ∀ i, i < k → ¬ ai_and (ai_shr (hpC h (r + 2) i) l) 1 = 1) : ∀ j g, g + j = k → cHead h' r l (j + 1) g = hpC h' (r + 1) k
  | 0, g, hg => by simp only [cHead]; rw [show g = k by omega, if_pos nb]
  | j + 1, g, hg => by
    have := cHead_n1 e nb no j (g + 1) (by omega)
    rw [cHead, this, e (r + 2) g (by omega) (by omega), if_neg (no g (by omega))]
theorem saF_in {D : Nat → Int} {b : Nat → Nat} {s : Nat} : ∀ K q, (∀ i, i < K → 97 ≤ b (s + i) ∧ b (s + i) ≤ 122) → (lbF b s K).testBit q = true → saF D b s K (10 + q) = (b s : Int) - 96
  | 0, q, _, h => by simp only [lbF] at h; rw [Nat.zero_testBit] at h; cases h
  | K + 1, q, hl, h => by
    simp only [lbF] at h
    simp only [saF]
    rw [or_bit, Bool.or_eq_true] at h
    by_cases e : q = b (s + K) - 97
    · rw [e, upD_s]
    · rw [upD_o (by omega)]
      refine saF_in K q (fun i hi => hl i (by omega)) ?_
      rcases h with h | h
      · exact h
      · exact absurd (of_decide_eq_true h) e
theorem saF_out {D : Nat → Int} {b : Nat → Nat} {s : Nat} : ∀ K q, (lbF b s K).testBit q = false → saF D b s K (10 + q) = D (10 + q)
  | 0, q, h => rfl
  | K + 1, q, h => by
    simp only [lbF] at h
    simp only [saF]
    rw [or_bit, Bool.or_eq_false_iff] at h
    rw [upD_o (by have := of_decide_eq_false h.2; omega)]
    exact saF_out K q h.1
theorem two_bit (y t : Nat) : (2 * y).testBit (t + 1) = y.testBit t := by rw [Nat.testBit_succ]; congr 1; omega
/-- a group more -/
theorem RW.sa {h h' : Hp} {r k G L : Nat} {D D' : Nat → Int} (a : RW h r D) (hk : D 4 = (k : Int)) (k8 : k < 8) (gb : GB h r D G) (hG : G < 67108864) (hL : L < 67108864) (dis : L &&& G = 0) {hd : Int} (f : FrP (fun q p => (q = r ∧ p = 4) ∨ ((q = r + 1 ∨ q = r + 2) ∧ p = k)) h h') (n4 : hpC h' r 4 = ((k + 1 : Nat) : Int)) (n1 : hpC h' (r + 1) k = hd) (n2 : hpC h' (r + 2) k = ((2 * L : Nat) : Int)) (e4 : D' 4 = ((k + 1 : Nat) : Int)) (eo : ∀ p, p ≠ 4 → (p < 10 ∨ 36 ≤ p) → D' p = D p) (ein : ∀ q, q < 26 → L.testBit q = true → D' (10 + q) = hd) (eout : ∀ q, q < 26 → L.testBit q = false → D' (10 + q) = D (10 + q)) (h5 : D 5 ≤ 8) : RW h' r D' ∧ GB h' r D' (G ||| L) := by
  have no : ∀ q p, ¬ ((q = r ∧ p = 4) ∨ ((q = r + 1 ∨ q = r + 2) ∧ p = k)) → hpC h' q p = hpC h q p := f.2.2
  have ec : ∀ q p, (q = r + 1 ∨ q = r + 2) → p ≠ k → hpC h' q p = hpC h q p := fun q p hq hp => no _ _ (by omega)
  obtain ⟨r0, r1, r2, r3, r4, r5, r6, r7⟩ := a
  obtain ⟨g1, g2⟩ := gb
  have tk : (D 4).toNat = k := by omega
  have tk' : (D' 4).toNat = k + 1 := by omega
  refine ⟨⟨?_, ?_, ?_, ?_, ?_, ?_, fun i hi => ?_, fun l h1 h2 => ?_⟩, fun i hi => ?_, ?_⟩
  · rw [no _ _ (by omega), eo _ (by omega) (by omega)]; exact r0
  · rw [no _ _ (by omega), eo _ (by omega) (by omega)]; exact r1
  · rw [no _ _ (by omega), eo _ (by omega) (by omega)]; exact r2
  · rw [no _ _ (by omega), eo _ (by omega) (by omega)]; exact r3
  · rw [n4, e4]
  · rw [no _ _ (by omega), eo _ (by omega) (by omega)]; exact r5
  · rw [eo _ (by omega) (by omega)] at hi
    rw [no _ _ (by omega), no _ _ (by omega), no _ _ (by omega), eo _ (by omega) (by omega), eo _ (by omega) (by omega), eo _ (by omega) (by omega)]; exact r6 i hi
  · obtain ⟨q, rfl⟩ : ∃ q, l = q + 1 := ⟨l - 1, by omega⟩
    have r7' := r7 (q + 1) h1 h2
    rw [tk] at r7'
    rw [tk', show 10 + (q + 1) - 1 = 10 + q by omega]
    rw [show 10 + (q + 1) - 1 = 10 + q by omega] at r7'
    have bitE : ai_and (ai_shr (hpC h' (r + 2) k) ((q + 1 : Nat) : Int)) 1 = if L.testBit q then 1 else 0 := by
      rw [n2, ai_bit (by omega) (by omega), two_bit]
    cases hb : L.testBit q with
    | true =>
      rw [hb, if_pos rfl] at bitE
      rw [ein q (by omega) hb]
      have gq : G.testBit q = false := (and_zero_iff (n := 26) hL).1 dis q (by omega) hb
      rw [cHead_n1 ec bitE (fun i hi => ?_) k 0 (by omega), n1]
      have o1 : (orF (hpC h (r + 2)) k).testBit (q + 1) = false := by rw [← tk, g2, two_bit]; exact gq
      have o2 := orF_bit k o1 i hi
      have b1 := g1 i (by omega)
      rw [show hpC h (r + 2) i = ((hpC h (r + 2) i).toNat : Int) by omega, ai_bit (by omega) (by omega), o2]
      decide
    | false =>
      rw [hb, if_neg (by decide)] at bitE
      rw [eout q (by omega) hb, ← r7']
      exact cHead_n0 ec (by rw [bitE]; decide) k 0 (by omega)
  · by_cases e : i = k
    · subst e; rw [n2]; omega
    · rw [ec _ _ (Or.inr rfl) e]; exact g1 i (by omega)
  · rw [tk']
    simp only [orF]
    rw [n2, Int.toNat_natCast, orF_ext (g := hpC h (r + 2)) k (fun i hi => ec _ _ (Or.inr rfl) (by omega)), ← tk, g2, two_or]
theorem sp_csam {h : Hp} {x : Nat} {b : Nat → Nat} {n e : Nat} {D : Nat → Int} {T G : Nat} (c : CG h x b n e D T G) (hV : V D) (hG : G < 67108864) (k1 : kS b n e = 1) {d mc ms : Nat} {R : PR} (hd : 3 ≤ d) (H : ∀ h' v, FrP (Scr2 x) h h' → OUTC h' x b n v (pSam b n e D T G) → R (some (xI v)) h') : Wp m_Reader_readSame 0 [some (xR (x + 4))] [] h d mc ms R := by
  have v0 := hV.1.1
  have v1 := hV.1.2.1
  have v2 := hV.1.2.2.1
  have v3 := hV.1.2.2.2.1
  have v4 := hV.1.2.2.2.2.1
  have v5 := hV.1.2.2.2.2.2.1
  have v6 := hV.1.2.2.2.2.2.2.1
  have v7 := hV.1.2.2.2.2.2.2.2.1
  have v8 := hV.1.2.2.2.2.2.2.2.2.1
  have v9 := hV.1.2.2.2.2.2.2.2.2.2
  unfold pSam at H
  have q4 : ∀ {g : Hp} {e2 : Nat}, CG g x b n e2 D T G → hpC g (x + 5 + 1) 4 = D 4 := fun c => c.2.1.2.1.2.2.2.2.1
  obtain ⟨k, hk⟩ : ∃ k : Nat, D 4 = (k : Int) := ⟨(D 4).toNat, by omega⟩
  apply f_Reader_readSame_0
  rw [c.1.1.draft_n, c.1.town.rules_n, q4 c]
  refine ⟨c.1.tag, c.1.town.tag, c.1.town.rules_a.tag, ?_⟩
  by_cases z : D 4 = 8
  · rw [if_neg (by omega)]
    rw [if_pos z] at H
    exact sp_failsB c.1 (by decide) (by omega) (fun h' f cf => H h' 0 f ⟨rfl, cf⟩)
  rw [if_pos (by omega)]
  rw [if_neg z] at H
  refine ⟨⟨by omega, c.1.tag⟩, sp_stpG c (Or.inl k1) (by omega) (fun g1 f1 c1 _ => ?_)⟩
  have tgt := c1.1.town.rules_a
  refine ⟨⟨by omega, c1.1.tag⟩, sp_areLetters (lo := 2) (hi := 26) c1.1 (by omega) (fun le v ee => ?_) (fun le g3 f3 cf v ee => ?_)⟩
  · have ev := xI_inj ee
    clear ee
    have lb := lbS_bd le.1
    rw [if_neg (by omega)]
    rw [if_pos le] at H
    refine ⟨⟨by omega, c1.1.tag⟩, sp_areUnlike c1.1 le.1 (by omega) (fun ld v ee => ?_) (fun ld v ee => ?_)⟩
    · have ev := xI_inj ee
      clear ee
      rw [if_neg (by omega)]
      refine ⟨⟨by omega, c1.1.tag⟩, sp_letterBits c1.1 le.1 (by omega) (fun v5 ee => ?_)⟩
      have ev5 := xI_inj ee
      clear ee
      rw [c1.1.1.draft_n, c1.1.town.rules_n]
      refine ⟨c1.1.tag, c1.1.town.tag, ⟨by omega, tgt.tag⟩, sp_grouped tgt (q4 c1) c1.2.2.2 v4 (fun v6 ee => ?_)⟩
      have ev6 := xI_inj ee
      clear ee
      rw [ev5, ev6, ai_and_nat (by omega) (by omega), two_and]
      by_cases y : lbS b n (tE b n e) &&& G = 0
      · rw [if_pos (by omega)]
        rw [if_pos ⟨ld, y⟩] at H
        rw [c1.1.1.draft_n, c1.1.town.rules_n, c1.1.1.tape_n, c1.1.s]
        have S1 := (tS_spec b n (tE b n e)).1.2 c1.1.le
        have hn := c1.1.2.1.2.2.1
        have al := tL_al (kS_1.1 le.1).1
        have al0 := al 0 (by have := le.2; omega)
        rw [Nat.add_zero] at al0
        refine ⟨c1.1.tag, c1.1.town.tag, c1.1.tag, c1.1.tag, ⟨by omega, c1.1.2.1.1.tag⟩, sp_tletterAt c1.1.2.1 (by omega) (fun v7 ee => ?_)⟩
        have ev7 := xI_inj ee
        clear ee
        have hv7 : v7 = (b (tS b n (tE b n e)) : Int) - 96 := by rw [ev7]; unfold lrB; rw [if_pos al0]; omega
        refine ⟨⟨by omega, c1.1.tag⟩, sp_letterBits c1.1 le.1 (by omega) (fun v8 ee => ?_)⟩
        have ev8 := xI_inj ee
        clear ee
        refine ⟨⟨by omega, tgt.tag⟩, ?_⟩
        apply f_Rules_addGroup_0
        rw [q4 c1, hk, if_pos (by omega), tgt.groupHead_n, tgt.groupHead_t, Int.toNat_natCast]
        refine ⟨tgt.tag, tgt.tag, tgt.tag, ⟨rfl, by omega, by show (k : Int) < 8; omega⟩, fun a1 i1 => ?_⟩
        have w1 : FrP (fun q p => (q = x + 6 ∧ p = 4) ∨ ((q = x + 6 + 1 ∨ q = x + 6 + 2) ∧ p = k)) g1 a1 := by subst i1; exact FrP.up (Or.inr ⟨Or.inl rfl, rfl⟩)
        have SDw : ∀ {u u' : Hp}, FrP (fun q p => (q = x + 6 ∧ p = 4) ∨ ((q = x + 6 + 1 ∨ q = x + 6 + 2) ∧ p = k)) u u' → FrP (SD (x + 5)) u u' := fun f => f.wk (fun q p z => by unfold SD; omega)
        have t1 := tgt.fr w1 (by omega) (by omega) (by omega) (by omega) (by omega)
        have a14 : hpC a1 (x + 5 + 1) 4 = (k : Int) := by subst i1; rw [hpC_o1 (by omega), q4 c1, hk]
        have a1h : hpC a1 (x + 6 + 1) k = v7 := by subst i1; rw [show x + 5 + 1 + 1 = x + 6 + 1 from rfl, hpC_same]
        clear i1
        rw [a14, t1.groupBits_n, t1.groupBits_t, Int.toNat_natCast]
        refine ⟨t1.tag, t1.tag, ⟨rfl, by omega, by show (k : Int) < 8; omega⟩, fun a2 i2 => ?_⟩
        have w2 : FrP (fun q p => (q = x + 6 ∧ p = 4) ∨ ((q = x + 6 + 1 ∨ q = x + 6 + 2) ∧ p = k)) a1 a2 := by subst i2; exact FrP.up (Or.inr ⟨Or.inr rfl, rfl⟩)
        have t2 := t1.fr w2 (by omega) (by omega) (by omega) (by omega) (by omega)
        have a24 : hpC a2 (x + 5 + 1) 4 = (k : Int) := by subst i2; rw [hpC_o1 (by omega), a14]
        have a2h : hpC a2 (x + 6 + 1) k = v7 := by subst i2; rw [hpC_o1 (by omega), a1h]
        have a2b : hpC a2 (x + 6 + 2) k = v8 := by subst i2; rw [show x + 5 + 1 + 2 = x + 6 + 2 from rfl, hpC_same]
        clear i2
        rw [a24, ab_1 (by omega)]
        refine ⟨t2.tag, t2.tag, fun a3 i3 _ => ⟨by simp, ?_⟩⟩
        have w3 : FrP (fun q p => (q = x + 6 ∧ p = 4) ∨ ((q = x + 6 + 1 ∨ q = x + 6 + 2) ∧ p = k)) a2 a3 := by subst i3; exact FrP.up (Or.inl ⟨rfl, rfl⟩)
        have a34 : hpC a3 (x + 6) 4 = ((k + 1 : Nat) : Int) := by subst i3; rw [show x + 5 + 1 = x + 6 from rfl, hpC_same]
        have a3h : hpC a3 (x + 6 + 1) k = v7 := by subst i3; rw [hpC_o1 (by omega), a2h]
        have a3b : hpC a3 (x + 6 + 2) k = v8 := by subst i3; rw [hpC_o1 (by omega), a2b]
        clear i3
        have W := (w1.tr w2).tr w3
        have F := SDw W
        have alK : ∀ i, i < tE b n (tE b n e) - tS b n (tE b n e) → 97 ≤ b (tS b n (tE b n e) + i) ∧ b (tS b n (tE b n e) + i) ≤ 122 := fun i hi => (al i hi).2
        have D4 : saW D b (tS b n (tE b n e)) (tE b n (tE b n e) - tS b n (tE b n e)) 4 = ((k + 1 : Nat) : Int) := by unfold saW; rw [upD_s, hk]; omega
        have Do : ∀ p, p ≠ 4 → (p < 10 ∨ 36 ≤ p) → saW D b (tS b n (tE b n e)) (tE b n (tE b n e) - tS b n (tE b n e)) p = D p := fun p h1 h2 => by unfold saW; rw [upD_o h1, saF_o _ (fun i hi => (alK i hi).2) p h2]
        obtain ⟨rw', gb'⟩ := RW.sa (D' := saW D b (tS b n (tE b n e)) (tE b n (tE b n e) - tS b n (tE b n e))) (hd := v7) c1.2.1.2.1 hk (by omega) c1.2.2.2 hG lb y W a34 a3h (by rw [a3b, ev8]) D4 Do (fun q hq hb => by unfold saW; rw [upD_o (by omega), saF_in _ q alK hb, hv7]) (fun q hq hb => by unfold saW; rw [upD_o (by omega), saF_out _ q hb]) hV.1.2.2.2.2.2.1.2
        refine H a3 1 (f1.tr (SD_2 F)) ⟨rfl, _, rfl, Or.inl le.1, c1.up F (TR0.ru hV c1.2.1 F (W.eqC (fun q p h1 h2 z => by omega)) (W.2.2 _ _ (by omega)) (fun p hp => (Do p (by omega) (by omega)).symm) rw') gb'⟩
      · rw [if_neg (by omega)]
        rw [if_neg (fun u => y u.2)] at H
        exact sp_failsB c1.1 (by decide) (by omega) (fun h' f cf => H h' 0 (f1.tr f) ⟨rfl, cf⟩)
    · have ev := xI_inj ee
      rw [if_pos ev]
      rw [if_neg (fun u => ld u.1)] at H
      exact sp_failsB c1.1 (by decide) (by omega) (fun h' f cf => H h' 0 (f1.tr f) ⟨rfl, cf⟩)
  · have ev := xI_inj ee
    rw [if_neg le] at H
    rw [if_pos ev]
    exact ⟨by simp, H g3 0 (f1.tr f3) ⟨rfl, cf⟩⟩
/-- a pair more -/
theorem RW.pa {h h' : Hp} {r k : Nat} {D : Nat → Int} {u v w : Int} (a : RW h r D) (hk : D 5 = (k : Int)) (k8 : k < 8) (f : FrP (fun q p => (q = r ∧ p = 5) ∨ ((q = r + 3 ∨ q = r + 4 ∨ q = r + 5) ∧ p = k)) h h') (n5 : hpC h' r 5 = ((k + 1 : Nat) : Int)) (n1 : hpC h' (r + 3) k = u) (n2 : hpC h' (r + 4) k = v) (n3 : hpC h' (r + 5) k = w) : RW h' r (paW D u v w) := by
  have no : ∀ q p, ¬ ((q = r ∧ p = 5) ∨ ((q = r + 3 ∨ q = r + 4 ∨ q = r + 5) ∧ p = k)) → hpC h' q p = hpC h q p := f.2.2
  obtain ⟨r0, r1, r2, r3, r4, r5, r6, r7⟩ := a
  have tk : (D 5).toNat = k := by omega
  have L : ∀ p, p ≠ 5 → (p < 36 + 3 * k ∨ 36 + 3 * k + 3 ≤ p) → paW D u v w p = D p := fun p h1 h2 => by unfold paW; rw [upD_o h1, tk, upD_o (by omega), upD_o (by omega), upD_o (by omega)]
  have e5 : paW D u v w 5 = D 5 + 1 := upD_s _ _ _
  have m0 : paW D u v w (36 + 3 * k) = u := by unfold paW; rw [upD_o (by omega), tk, upD_o (by omega), upD_o (by omega), upD_s]
  have m1 : paW D u v w (36 + 3 * k + 1) = v := by unfold paW; rw [upD_o (by omega), tk, upD_o (by omega), upD_s]
  have m2 : paW D u v w (36 + 3 * k + 2) = w := by unfold paW; rw [upD_o (by omega), tk, upD_s]
  refine ⟨?_, ?_, ?_, ?_, ?_, ?_, fun i hi => ?_, fun l h1 h2 => ?_⟩
  · rw [no _ _ (by omega), L _ (by omega) (by omega)]; exact r0
  · rw [no _ _ (by omega), L _ (by omega) (by omega)]; exact r1
  · rw [no _ _ (by omega), L _ (by omega) (by omega)]; exact r2
  · rw [no _ _ (by omega), L _ (by omega) (by omega)]; exact r3
  · rw [no _ _ (by omega), L _ (by omega) (by omega)]; exact r4
  · rw [n5, e5]; omega
  · rw [e5] at hi
    by_cases e : i = k
    · subst e; rw [n1, n2, n3, m0, m1, m2]; exact ⟨rfl, rfl, rfl⟩
    · rw [no _ _ (by omega), no _ _ (by omega), no _ _ (by omega), L _ (by omega) (by omega), L _ (by omega) (by omega), L _ (by omega) (by omega)]; exact r6 i (by omega)
  · rw [cHead_12 (fun q p hq => no _ _ (by omega)), L _ (by omega) (by omega), L _ (by omega) (by omega)]; exact r7 l h1 h2
theorem sp_cpai {h : Hp} {x : Nat} {b : Nat → Nat} {n e : Nat} {D : Nat → Int} {T G : Nat} (c : CG h x b n e D T G) (hV : V D) (k1 : kS b n e = 1) {d mc ms : Nat} {R : PR} (hd : 3 ≤ d) {o1 o2 : Option AV} (H : ∀ h' v, FrP (Scr2 x) h h' → OUTC h' x b n v (pPai b n e D T G) → R (some (xI v)) h') : Wp m_Reader_readPair 0 [some (xR (x + 4)), o1, o2] [] h d mc ms R := by
  have v0 := hV.1.1
  have v1 := hV.1.2.1
  have v2 := hV.1.2.2.1
  have v3 := hV.1.2.2.2.1
  have v4 := hV.1.2.2.2.2.1
  have v5 := hV.1.2.2.2.2.2.1
  have v6 := hV.1.2.2.2.2.2.2.1
  have v7 := hV.1.2.2.2.2.2.2.2.1
  have v8 := hV.1.2.2.2.2.2.2.2.2.1
  have v9 := hV.1.2.2.2.2.2.2.2.2.2
  unfold pPai at H
  have q5 : ∀ {g : Hp} {e2 : Nat}, CG g x b n e2 D T G → hpC g (x + 5 + 1) 5 = D 5 := fun c => c.2.1.2.1.2.2.2.2.2.1
  obtain ⟨k, hk⟩ : ∃ k : Nat, D 5 = (k : Int) := ⟨(D 5).toNat, by omega⟩
  apply f_Reader_readPair_0
  rw [c.1.1.draft_n, c.1.town.rules_n, q5 c]
  refine ⟨c.1.tag, c.1.town.tag, c.1.town.rules_a.tag, ?_⟩
  by_cases z : D 5 = 8
  · rw [if_neg (by omega)]
    rw [if_pos z] at H
    exact sp_failsB c.1 (by decide) (by omega) (fun h' f cf => H h' 0 f ⟨rfl, cf⟩)
  rw [if_pos (by omega)]
  rw [if_neg z] at H
  refine ⟨⟨by omega, c.1.tag⟩, sp_stpG c (Or.inl k1) (by omega) (fun g1 f1 c1 _ => ?_)⟩
  have hn := c1.1.2.1.2.2.1
  refine ⟨⟨by omega, c1.1.tag⟩, sp_areLetters (lo := 2) (hi := 2) c1.1 (by omega) (fun le v ee => ?_) (fun le g3 f3 cf v ee => ?_)⟩
  · have ev := xI_inj ee
    clear ee
    rw [if_neg (by omega)]
    rw [if_pos le] at H
    obtain ⟨l0, b0⟩ := lt1_al (i := 0) le.1 (by have := le.2; omega)
    obtain ⟨l1, b1⟩ := lt1_al (i := 1) le.1 (by have := le.2; omega)
    rw [Nat.add_zero] at l0 b0
    have lr0 : lrB b n (tS b n (tE b n e)) = lt1 b (tS b n (tE b n e)) := by unfold lrB lt1; rw [if_pos l0]
    have lr1 : lrB b n (tS b n (tE b n e) + 1) = lt1 b (tS b n (tE b n e) + 1) := by unfold lrB lt1; rw [if_pos l1]
    generalize hA : lt1 b (tS b n (tE b n e)) = A at *
    generalize hB : lt1 b (tS b n (tE b n e) + 1) = B at *
    rw [c1.1.1.tape_n, c1.1.s]
    refine ⟨c1.1.tag, c1.1.tag, ⟨by omega, c1.1.2.1.1.tag⟩, sp_tletterAt c1.1.2.1 (by omega) (fun v3 ee => ?_)⟩
    have ev3 := xI_inj ee
    clear ee
    rw [lr0] at ev3
    rw [c1.1.1.tape_n, c1.1.s, ab_1 (by omega)]
    refine ⟨c1.1.tag, c1.1.tag, ⟨by omega, c1.1.2.1.1.tag⟩, sp_tletterAt c1.1.2.1 (by omega) (fun v4 ee => ?_)⟩
    have ev4 := xI_inj ee
    clear ee
    rw [lr1] at ev4
    rw [c1.1.1.draft_n, c1.1.town.rules_n, ev3, ev4]
    refine ⟨c1.1.tag, c1.1.town.tag, ⟨by omega, c1.1.town.rules_a.tag⟩, sp_cPair (np := k) c1.1.town.rules_a (by rw [q5 c1, hk]) (by omega) (fun v5 ee => ?_)⟩
    have ev5 := xI_inj ee
    clear ee
    have pr : v5 = (prW D A B : Int) := by
      obtain ⟨np, ng, p1, p2, _, _, p3, _⟩ := c1.2.1.2.1.are hV
      have : np = k := by rw [q5 c1, hk] at p1; omega
      rw [ev5, ← this]
      exact p3 A B (by omega) (by omega) (by omega)
    by_cases y : prW D A B = 0
    · rw [if_pos (by omega)]
      rw [if_pos y] at H
      refine ⟨⟨by omega, c1.1.tag⟩, sp_stpG c1 (Or.inl le.1) (by omega) (fun g2 f2 c2 _ => ?_)⟩
      have F2 := f1.tr f2
      refine ⟨⟨by omega, c2.1.tag⟩, sp_areLetters (lo := 1) (hi := 1) c2.1 (by omega) (fun le2 v ee => ?_) (fun le2 g3 f3 cf v ee => ?_)⟩
      · have ev := xI_inj ee
        clear ee
        rw [if_neg (by omega)]
        rw [if_pos le2] at H
        obtain ⟨l2, b2⟩ := lt1_al (i := 0) le2.1 (by have := le2.2; omega)
        rw [Nat.add_zero] at l2 b2
        have lr2 : lrB b n (tS b n (tE b n (tE b n e))) = lt1 b (tS b n (tE b n (tE b n e))) := by unfold lrB lt1; rw [if_pos l2]
        generalize hC : lt1 b (tS b n (tE b n (tE b n e))) = C at *
        rw [c2.1.1.draft_n, c2.1.town.rules_n, c2.1.1.tape_n, c2.1.s]
        refine ⟨c2.1.tag, c2.1.town.tag, c2.1.tag, c2.1.tag, ⟨by omega, c2.1.2.1.1.tag⟩, sp_tletterAt c2.1.2.1 (by omega) (fun v8 ee => ?_)⟩
        have ev8 := xI_inj ee
        clear ee
        rw [lr2] at ev8
        have tgt := c2.1.town.rules_a
        refine ⟨⟨by omega, tgt.tag⟩, ?_⟩
        apply f_Rules_addPair_0
        rw [q5 c2, hk, if_pos (by omega), tgt.pairFirst_n, tgt.pairFirst_t, Int.toNat_natCast]
        refine ⟨tgt.tag, tgt.tag, tgt.tag, ⟨rfl, by omega, by show (k : Int) < 8; omega⟩, fun a1 i1 => ?_⟩
        have w1 : FrP (fun q p => (q = x + 6 ∧ p = 5) ∨ ((q = x + 6 + 3 ∨ q = x + 6 + 4 ∨ q = x + 6 + 5) ∧ p = k)) g2 a1 := by subst i1; exact FrP.up (Or.inr ⟨Or.inl rfl, rfl⟩)
        have t1 := tgt.fr w1 (by omega) (by omega) (by omega) (by omega) (by omega)
        have a14 : hpC a1 (x + 5 + 1) 5 = (k : Int) := by subst i1; rw [hpC_o1 (by omega), q5 c2, hk]
        have a1h : hpC a1 (x + 6 + 3) k = (A : Int) := by subst i1; rw [show x + 5 + 1 + 3 = x + 6 + 3 from rfl, hpC_same]
        clear i1
        rw [a14, t1.pairSecond_n, t1.pairSecond_t, Int.toNat_natCast]
        refine ⟨t1.tag, t1.tag, ⟨rfl, by omega, by show (k : Int) < 8; omega⟩, fun a2 i2 => ?_⟩
        have w2 : FrP (fun q p => (q = x + 6 ∧ p = 5) ∨ ((q = x + 6 + 3 ∨ q = x + 6 + 4 ∨ q = x + 6 + 5) ∧ p = k)) a1 a2 := by subst i2; exact FrP.up (Or.inr ⟨Or.inr (Or.inl rfl), rfl⟩)
        have t2 := t1.fr w2 (by omega) (by omega) (by omega) (by omega) (by omega)
        have a24 : hpC a2 (x + 5 + 1) 5 = (k : Int) := by subst i2; rw [hpC_o1 (by omega), a14]
        have a2h : hpC a2 (x + 6 + 3) k = (A : Int) := by subst i2; rw [hpC_o1 (by omega), a1h]
        have a2b : hpC a2 (x + 6 + 4) k = (B : Int) := by subst i2; rw [show x + 5 + 1 + 4 = x + 6 + 4 from rfl, hpC_same]
        clear i2
        rw [a24, t2.pairOne_n, t2.pairOne_t, Int.toNat_natCast]
        refine ⟨t2.tag, t2.tag, ⟨rfl, by omega, by show (k : Int) < 8; omega⟩, fun a3 i3 => ?_⟩
        have w3 : FrP (fun q p => (q = x + 6 ∧ p = 5) ∨ ((q = x + 6 + 3 ∨ q = x + 6 + 4 ∨ q = x + 6 + 5) ∧ p = k)) a2 a3 := by subst i3; exact FrP.up (Or.inr ⟨Or.inr (Or.inr rfl), rfl⟩)
        have t3 := t2.fr w3 (by omega) (by omega) (by omega) (by omega) (by omega)
        have a34 : hpC a3 (x + 5 + 1) 5 = (k : Int) := by subst i3; rw [hpC_o1 (by omega), a24]
        have a3h : hpC a3 (x + 6 + 3) k = (A : Int) := by subst i3; rw [hpC_o1 (by omega), a2h]
        have a3b : hpC a3 (x + 6 + 4) k = (B : Int) := by subst i3; rw [hpC_o1 (by omega), a2b]
        have a3c : hpC a3 (x + 6 + 5) k = (C : Int) := by subst i3; rw [show x + 5 + 1 + 5 = x + 6 + 5 from rfl, hpC_same, ev8]
        clear i3
        rw [a34, ab_1 (by omega)]
        refine ⟨t3.tag, t3.tag, fun a4 i4 _ => ⟨by simp, ?_⟩⟩
        have w4 : FrP (fun q p => (q = x + 6 ∧ p = 5) ∨ ((q = x + 6 + 3 ∨ q = x + 6 + 4 ∨ q = x + 6 + 5) ∧ p = k)) a3 a4 := by subst i4; exact FrP.up (Or.inl ⟨rfl, rfl⟩)
        have a45 : hpC a4 (x + 6) 5 = ((k + 1 : Nat) : Int) := by subst i4; rw [show x + 5 + 1 = x + 6 from rfl, hpC_same]
        have a4h : hpC a4 (x + 6 + 3) k = (A : Int) := by subst i4; rw [hpC_o1 (by omega), a3h]
        have a4b : hpC a4 (x + 6 + 4) k = (B : Int) := by subst i4; rw [hpC_o1 (by omega), a3b]
        have a4c : hpC a4 (x + 6 + 5) k = (C : Int) := by subst i4; rw [hpC_o1 (by omega), a3c]
        clear i4
        have W := ((w1.tr w2).tr w3).tr w4
        have F : FrP (SD (x + 5)) g2 a4 := W.wk (fun q p z => by unfold SD; omega)
        have rw' := RW.pa c2.2.1.2.1 hk (by omega) W a45 a4h a4b a4c
        refine H a4 1 (F2.tr (SD_2 F)) ⟨rfl, _, rfl, Or.inl le2.1, c2.up F (TR0.ru hV c2.2.1 F (W.eqC (fun q p h1 h2 z => by omega)) (W.2.2 _ _ (by omega)) (fun p hp => ?_) rw') (c2.2.2.2.eq (fun p => W.2.2 _ _ (by omega)) ?_)⟩
        · unfold paW; rw [upD_o (by omega), upD_o (by omega), upD_o (by omega), upD_o (by omega)]
        · unfold paW; rw [upD_o (by omega), upD_o (by omega), upD_o (by omega), upD_o (by omega)]
      · have ev := xI_inj ee
        rw [if_neg le2] at H
        rw [if_pos ev]
        exact ⟨by simp, H g3 0 (F2.tr f3) ⟨rfl, cf⟩⟩
    · rw [if_neg (by omega)]
      rw [if_neg y] at H
      exact sp_failsB c1.1 (by decide) (by omega) (fun h' f cf => H h' 0 (f1.tr f) ⟨rfl, cf⟩)
  · have ev := xI_inj ee
    rw [if_neg le] at H
    rw [if_pos ev]
    exact ⟨by simp, H g3 0 (f1.tr f3) ⟨rfl, cf⟩⟩
