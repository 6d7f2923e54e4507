/-! ===== statements: same ===== -/
def saF (D : Nat → Int) (b : Nat → Nat) (s : Nat) : Nat → (Nat → Int)
  | 0 => D
  | k + 1 => upD (saF D b s k) (10 + (b (s + k) - 97)) ((b s : Int) - 96)
theorem saF_o {D : Nat → Int} {b : Nat → Nat} {s : Nat} : ∀ k, (∀ i, i < k → b (s + i) ≤ 122) → ∀ p, (p < 10 ∨ 36 ≤ p) → saF D b s k p = D p
  | 0, _, p, _ => rfl
  | k + 1, h, p, hp => by
    have := h k (by omega)
    simp only [saF]
    rw [upD_o (by omega)]
    exact saF_o k (fun i hi => h i (by omega)) p hp
theorem saF_r {D : Nat → Int} {b : Nat → Nat} {s : Nat} (h0 : 97 ≤ b s ∧ b s ≤ 122) (hD : ∀ k, k < 26 → 1 ≤ D (10 + k) ∧ D (10 + k) ≤ 26) : ∀ k, ∀ q, q < 26 → 1 ≤ saF D b s k (10 + q) ∧ saF D b s k (10 + q) ≤ 26
  | 0, q, hq => hD q hq
  | k + 1, q, hq => by
    simp only [saF]
    by_cases e : 10 + q = 10 + (b (s + k) - 97)
    · rw [e, upD_s]; omega
    · rw [upD_o e]; exact saF_r h0 hD k q hq
def saW (D : Nat → Int) (b : Nat → Nat) (s k : Nat) : Nat → Int := upD (saF D b s k) 4 (D 4 + 1)
theorem V.sa {D D' : Nat → Int} (hV : V D) (h : ∀ p, p ≠ 4 → (p < 10 ∨ 36 ≤ p) → D' p = D p) (h4 : D' 4 = D 4 + 1) (h8 : D 4 < 8) (hh : ∀ k, k < 26 → 1 ≤ D' (10 + k) ∧ D' (10 + k) ≤ 26) : V D' := by
  obtain ⟨⟨v0, v1, v2, v3, v4, v5, v6, v7, v8, v9⟩, w1, w2, w3, w4, w5, w6, w7⟩ := hV
  refine ⟨⟨by rw [h 0 (by omega) (by omega)]; exact v0, by rw [h 1 (by omega) (by omega)]; exact v1, by rw [h 2 (by omega) (by omega)]; exact v2, by rw [h 3 (by omega) (by omega)]; exact v3, by rw [h4]; omega, by rw [h 5 (by omega) (by omega)]; exact v5, by rw [h 6 (by omega) (by omega)]; exact v6, by rw [h 7 (by omega) (by omega)]; exact v7, by rw [h 8 (by omega) (by omega)]; exact v8, by rw [h 9 (by omega) (by omega)]; exact v9⟩, hh, fun k hk i hi => ?_, fun k hk => ?_, fun k hk => ?_, fun k hk => ?_, fun s hs => ?_, fun k hk => ?_⟩
  · rw [h 5 (by omega) (by omega)] at hk
    rw [h _ (by omega) (by omega)]; exact w2 k hk i hi
  · rw [h 6 (by omega) (by omega)] at hk
    exact okN_ext (fun i hi => (h _ (by omega) (by omega)).symm) (w3 k hk)
  · rw [h 7 (by omega) (by omega)] at hk
    exact okN_ext (fun i hi => (h _ (by omega) (by omega)).symm) (w4 k hk)
  · rw [h 8 (by omega) (by omega)] at hk
    exact okN_ext (fun i hi => (h _ (by omega) (by omega)).symm) (w5 k hk)
  · obtain ⟨z1, z2, z3, z4⟩ := w6 s hs
    rw [h (280 + s) (by omega) (by omega), h 7 (by omega) (by omega)]
    refine ⟨z1, z2, fun i hi => ?_, fun i j hi hj => ?_⟩
    · rw [h _ (by omega) (by omega), h _ (by omega) (by omega), h _ (by omega) (by omega)]; exact z3 i hi
    · rw [h _ (by omega) (by omega), h _ (by omega) (by omega), h _ (by omega) (by omega), h _ (by omega) (by omega)]; exact z4 i j hi hj
  · rw [h 8 (by omega) (by omega)] at hk
    rw [h (950 + k) (by omega) (by omega), h (980 + k) (by omega) (by omega), h 7 (by omega) (by omega)]; exact w7 k hk
def pSam (b : Nat → Nat) (n e : Nat) (D : Nat → Int) (T G : Nat) : PO :=
  if D 4 = 8 then .inl (4, tS b n e)
  else if leS b n (tE b n e) 2 26 then (if ldS b n (tE b n e) = true ∧ lbS b n (tE b n e) &&& G = 0 then .inr (tE b n (tE b n e), saW D b (tS b n (tE b n e)) (tE b n (tE b n e) - tS b n (tE b n e)), T, G ||| lbS b n (tE b n e)) else .inl (3, tS b n (tE b n e)))
  else .inl (1, tS b n (tE b n e))
theorem pSam_ok {b : Nat → Nat} {n e e' T G T' G' : Nat} {D D' : Nat → Int} (he : e ≤ n) (hV : V D) (hT : T < 65536) (hG : G < 67108864) (h : pSam b n e D T G = .inr (e', D', T', G')) : OKS n e' D' T' G' ∧ tE b n e ≤ e' := by
  unfold pSam at h
  split at h
  · cases h
  · rename_i c1
    split at h
    · rename_i c2
      split at h
      · cases h
        have v4 := hV.1.2.2.2.2.1
        have E := tE_spec b n (tE b n e) (tE_le he)
        have S := (tS_spec b n (tE b n e)).1.1
        have lb := lbS_bd c2.1
        have al := tL_al (kS_1.1 c2.1).1
        have a0 := al 0 (by have := c2.2.1; omega)
        rw [Nat.add_zero] at a0
        refine ⟨⟨E.2.1, hV.sa (fun p h1 h2 => ?_) (upD_s _ _ _) (by omega) (fun k hk => ?_), hT, Nat.or_lt_two_pow (n := 26) hG lb⟩, by omega⟩
        · unfold saW; rw [upD_o h1]; exact saF_o _ (fun i hi => (al i hi).2.2) p h2
        · unfold saW; rw [upD_o (by omega)]; exact saF_r a0.2 hV.2.1 _ k hk
      · cases h
    · cases h
theorem sp_rsam {h : Hp} {m : Nat} {b : Nat → Nat} {n : Nat} (c : MB h m b n) {e : Nat} (he : e ≤ n) {D : Nat → Int} (hV : V D) {T G : Nat} (hT : T < 65536) (s9 : hpC h m 9 = (tE b n e : Int)) (s10 : hpC h m 10 = (tS b n e : Int)) (s11 : hpC h m 11 = 0) (s14 : hpC h m 14 = (T : Int) ∧ hpC h m 12 = -1) (s15 : hpC h m 15 = (G : Int)) (sD : DR h m D) (hG : G < 67108864) {d mc ms : Nat} {R : PR} (hd : 5 ≤ d) {o1 o2 : Option AV} (H : ∀ h', FrP (Smr m) h h' → OUT h' m (pSam b n e D T G) → R none h') : Wp m_M_readsSame 0 [some (xR m), o1, o2] [] h d mc ms R := by
  have E1 := tE_le (b := b) he
  have v4 := hV.1.2.2.2.2.1
  have hn := c.2.1.2.1
  have t14 : Int.toNat (1014 : Int) = 1010 + 4 := rfl
  -- failed
  have no56 : ∀ (g : Hp) (f : Int) (p : Nat) (v : Int) (o2 : Option AV), FrP (Smr m) h g → hpC g m 11 = f → f ≠ 0 → hpC g m 12 = (p : Int) → pSam b n e D T G = .inl (f, p) → Wp m_M_readsSame 56 [some (xR m), some (xI v), o2] [] g d mc ms R := fun g f p v o2 fr a1 hf a2 eP => by
    have cg := c.fr fr
    apply f_M_readsSame_56
    refine ⟨⟨by omega, cg.tag⟩, sp_goesWell cg a1 (fun v ee => ?_)⟩
    have ev := xI_inj ee
    rw [if_neg hf] at ev
    rw [if_pos ev]
    exact H g fr (by rw [eP]; exact ⟨a1, hf, a2⟩)
  have gw : ∀ (g : Hp) (f : Int) (p : Nat) (w : Int) (o2 : Option AV), FrP (Smr m) h g → hpC g m 11 = f → f ≠ 0 → hpC g m 12 = (p : Int) → pSam b n e D T G = .inl (f, p) → (1 ≤ d ∧ (hpT g m).1 = 12) ∧ Wp m_M_goesWell 0 [some (xR m)] [] g (d - 1) 0 0 (fun rv h2 => ∀ v2 : Int, rv = some (xI v2) → (if v2 = (0 : Int) then Wp m_M_readsSame 56 [some (xR m), some (xI w), o2] [] h2 d mc ms R else ((hpT h2 m).1 = 12 ∧ (if (ai_and w (hpC h2 m 15)) = (0 : Int) then Wp m_M_readsSame 56 [some (xR m), some (xI w), o2] [] h2 d mc ms R else ((hpT h2 m).1 = 12 ∧ ((1 ≤ d ∧ (hpT h2 m).1 = 12) ∧ Wp m_M_faults 0 [some (xR m), some (xI (3 : Int)), some (xI (hpC h2 m 10))] [] h2 (d - 1) 0 0 (fun rv h3 => rv = none → Wp m_M_readsSame 56 [some (xR m), some (xI w), o2] [] h3 d mc ms R))))))) := fun g f p w o2 fr a1 hf a2 eP => by
    have cg := c.fr fr
    refine ⟨⟨by omega, cg.tag⟩, sp_goesWell cg a1 (fun v ee => ?_)⟩
    have ev := xI_inj ee
    rw [if_neg hf] at ev
    rw [if_pos ev]
    exact no56 g f p w o2 fr a1 hf a2 eP
  apply f_M_readsSame_0
  rw [c.1.row_n, c.1.row_t, t14, sD 4 (by omega)]
  refine ⟨c.tag, ⟨rfl, by decide, by decide⟩, ?_⟩
  by_cases c0 : D 4 = 8
  · rw [if_pos c0]
    refine ⟨c.tag, ⟨by omega, c.tag⟩, sp_faultsG c s11 (fun g f a1 a2 _ _ => ?_)⟩
    have cg := c.fr f
    apply f_M_readsSame_22
    refine ⟨⟨by omega, cg.tag⟩, sp_mletN cg a1 (by decide) (by omega) (fun v _ => ?_)⟩
    exact gw g 4 (tS b n e) v _ f a1 (by decide) (by rw [a2]; exact s10) (by unfold pSam; rw [if_pos c0])
  · rw [if_neg c0]
    apply f_M_readsSame_22
    refine ⟨⟨by omega, c.tag⟩, sp_mlet (lo := 2) (hi := 26) (dup := 0) c s11 s9 E1 (by omega) (fun lS ld g f a9 a10 v ee => ?_) (fun lS ld g v f a1 a2 v2 ee => ?_) (fun lS g f a1 a2 v ee => ?_)⟩
    · have ev := xI_inj ee
      clear ee
      rw [ev]
      have F := F910_mr f
      have cg := c.fr F
      have g11 : hpC g m 11 = 0 := by rw [FrP.c910 f (by omega)]; exact s11
      have g15 : hpC g m 15 = (G : Int) := by rw [FrP.c910 f (by omega)]; exact s15
      have lb := lbS_bd lS.1
      have ld : ldS b n (tE b n e) = true := by rcases ld with z | z; exact absurd rfl z; exact z
      refine ⟨⟨by omega, cg.tag⟩, sp_goesWell cg g11 (fun v ee => ?_)⟩
      have ev := xI_inj ee
      clear ee
      rw [if_pos rfl] at ev
      rw [if_neg (by omega), g15, ai_and_nat (by omega) (by omega)]
      refine ⟨cg.tag, ?_⟩
      by_cases y : lbS b n (tE b n e) &&& G = 0
      · rw [if_pos (by omega)]
        apply f_M_readsSame_56
        refine ⟨⟨by omega, cg.tag⟩, sp_goesWell cg g11 (fun v ee => ?_)⟩
        have ev := xI_inj ee
        clear ee
        rw [if_pos rfl] at ev
        rw [if_neg (by omega), g15, ai_or_nat (by omega) (by omega)]
        refine ⟨cg.tag, cg.tag, fun g1 e1 => ?_⟩
        have f1 := Smr_up (by omega) e1
        have k9 : hpC g1 m 9 = (tE b n (tE b n e) : Int) := by subst e1; rw [hpC_o2 (by decide)]; exact a9
        have k10 : hpC g1 m 10 = (tS b n (tE b n e) : Int) := by subst e1; rw [hpC_o2 (by decide)]; exact a10
        have k11 : hpC g1 m 11 = 0 := by subst e1; rw [hpC_o2 (by decide)]; exact g11
        have k14 : hpC g1 m 14 = (T : Int) ∧ hpC g1 m 12 = -1 := ⟨by subst e1; rw [hpC_o2 (by decide), FrP.c910 f (by omega)]; exact s14.1, by subst e1; rw [hpC_o2 (by decide), FrP.c910 f (by omega)]; exact s14.2⟩
        have k15 : hpC g1 m 15 = ((G ||| lbS b n (tE b n e) : Nat) : Int) := by subst e1; rw [hpC_same]
        have kD : DR g1 m D := fun p hp => by subst e1; rw [hpC_o1 (by omega), FrP.c910 f (by omega)]; exact sD p hp
        clear e1
        have F1 := F.tr f1
        have c1 := c.fr F1
        have al := tL_al (kS_1.1 lS.1).1
        have E2 := tE_spec b n (tE b n e) E1
        have a0 := al 0 (by have := lS.2.1; omega)
        rw [Nat.add_zero] at a0
        rw [k10]
        refine ⟨c1.tag, ?_⟩
        have L : ∀ (j k : Nat) (g2 : Hp) (o1 : Option AV), k + j = tE b n (tE b n e) - tS b n (tE b n e) → FrP (fun q p => q = m + 1 ∧ 1010 ≤ p ∧ p < 2020) g1 g2 → DR g2 m (saF D b (tS b n (tE b n e)) k) → Wp m_M_readsSame 79 [some (xR m), o1, some (xI ((tS b n (tE b n e) + k : Nat) : Int))] [] g2 d mc ms R := by
          intro j
          induction j with
          | zero =>
            intro k g2 o1 hk f2 d2
            have F2 := F1.tr (f2.wk (fun q p z => Or.inr z) : FrP (Smr m) g1 g2)
            have cg2 := c.fr F2
            have kp : ∀ q, hpC g2 m q = hpC g1 m q := fun q => f2.2.2 _ _ (by omega)
            have x4 : hpC g2 (m + 1) 1014 = D 4 := by
              have := d2 4 (by omega)
              rw [saF_o _ (fun i hi => (al i (by omega)).2.2) 4 (by omega)] at this
              exact this
            apply f_M_readsSame_79
            rw [kp 9, k9, if_neg (by omega), cg2.1.row_n, cg2.1.row_t, show Int.toNat (1014 : Int) = 1014 from rfl, x4, ai_add_eq (by omega) (by omega)]
            refine ⟨cg2.tag, cg2.tag, ⟨rfl, by decide, by decide⟩, ⟨rfl, by decide, by decide⟩, fun g3 e3 => ?_⟩
            have f3 : FrP (Smr m) g2 g3 := by subst e3; exact FrP.up (Or.inr ⟨rfl, by omega, by omega⟩)
            refine H g3 (F2.tr f3) ?_
            unfold pSam
            rw [if_neg c0, if_pos lS, if_pos ⟨ld, y⟩]
            subst e3
            refine ⟨by rw [hpC_o1 (by omega), kp]; exact k9, by rw [hpC_o1 (by omega), kp]; exact k11, ⟨by rw [hpC_o1 (by omega), kp]; exact k14.1, by rw [hpC_o1 (by omega), kp]; exact k14.2⟩, by rw [hpC_o1 (by omega), kp]; exact k15, fun p hp => ?_⟩
            unfold saW
            by_cases q : p = 4
            · rw [q, hpC_same, upD_s]
            · rw [hpC_o2 (by omega), upD_o q, show tE b n (tE b n e) - tS b n (tE b n e) = k by omega]; exact d2 p hp
          | succ j ih =>
            intro k g2 o1 hk f2 d2
            have F2 := F1.tr (f2.wk (fun q p z => Or.inr z) : FrP (Smr m) g1 g2)
            have cg2 := c.fr F2
            have kp : ∀ q, hpC g2 m q = hpC g1 m q := fun q => f2.2.2 _ _ (by omega)
            have ak := al k (by omega)
            apply f_M_readsSame_79
            rw [kp 9, k9, if_pos (by omega), kp 10, k10, cg2.1.row_n, cg2.1.row_t, cg2.1.tape_n, cg2.1.tape_t, Int.toNat_natCast, Int.toNat_natCast, (cg2.2.1.2.2 _ ak.1).1, (cg2.2.1.2.2 _ a0.1).1, ab_1 (by omega), show ai_sub (ai_add (1020 : Int) (b (tS b n (tE b n e) + k) : Int)) 97 = ((1010 + (10 + (b (tS b n (tE b n e) + k) - 97)) : Nat) : Int) from by rw [ai_add_eq (by omega) (by omega), ai_sub_eq (by omega) (by omega)]; omega, Int.toNat_natCast, ai_sub_eq (by omega) (by omega)]
            refine ⟨cg2.tag, cg2.tag, cg2.tag, ⟨rfl, by omega, by show ((tS b n (tE b n e) + k : Nat) : Int) < 2000; omega⟩, cg2.tag, cg2.tag, ⟨rfl, by omega, by show (tS b n (tE b n e) : Int) < 2000; omega⟩, ⟨rfl, by omega, by show ((1010 + (10 + (b (tS b n (tE b n e) + k) - 97)) : Nat) : Int) < 24240; omega⟩, fun g3 e3 => ?_⟩
            refine ih (k + 1) g3 _ (by omega) (f2.tr (by subst e3; exact FrP.up ⟨rfl, by omega, by omega⟩)) (fun p hp => ?_)
            simp only [saF]
            subst e3
            by_cases q : p = 10 + (b (tS b n (tE b n e) + k) - 97)
            · rw [q, hpC_same, upD_s]
            · rw [hpC_o2 (by omega), upD_o q]; exact d2 p hp
        exact L (tE b n (tE b n e) - tS b n (tE b n e)) 0 g1 _ (by omega) FrP.rf kD
      · rw [if_neg (by omega)]
        refine ⟨cg.tag, ⟨by omega, cg.tag⟩, sp_faultsG cg g11 (fun g2 f2 a1 a2 _ _ => ?_)⟩
        exact no56 g2 3 _ _ _ (F.tr f2) a1 (by decide) (by rw [a2]; exact a10) (by unfold pSam; rw [if_neg c0, if_pos lS, if_neg (fun z => y z.2)])
    · exact gw g 3 _ v2 _ f a1 (by decide) a2 (by unfold pSam; rw [if_neg c0, if_pos lS, if_neg (fun z => ld (Or.inr z.1))])
    · exact gw g 1 _ v _ f a1 (by decide) a2 (by unfold pSam; rw [if_neg c0, if_neg lS])
