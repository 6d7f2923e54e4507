/-! ===== statements: pair ===== -/
theorem mPair_no {h : Hp} {m : Nat} {D : Nat → Int} (hD : DR h m D) (hV : V D) (x y : Nat) : ∀ j k : Nat, ((k + j : Nat) : Int) = D 5 → (mPair h (m + 1) 1010 (x : Int) (y : Int) j k = -1 ↔ pW D x y j k = 0)
  | 0, k, _ => by simp only [mPair, pW]
  | j + 1, k, hk => by
    have v5 := hV.1.2.2.2.2.2.1
    have w2 := hV.2.2.1 k (by omega) 2 (by omega)
    have a0 := hD (36 + 3 * k) (by omega)
    have a1 := hD (36 + 3 * k + 1) (by omega)
    rw [← Nat.add_assoc] at a0
    rw [← Nat.add_assoc, ← Nat.add_assoc] at a1
    simp only [mPair, pW]
    rw [a0, a1]
    by_cases c : D (36 + 3 * k) = (x : Int) ∧ D (36 + 3 * k + 1) = (y : Int)
    · rw [if_pos c, if_pos c]; omega
    · rw [if_neg c, if_neg c]; exact mPair_no hD hV x y j (k + 1) (by omega)
def paW (D : Nat → Int) (x y z : Int) : Nat → Int := upD (upD (upD (upD D (36 + 3 * (D 5).toNat) x) (36 + 3 * (D 5).toNat + 1) y) (36 + 3 * (D 5).toNat + 2) z) 5 (D 5 + 1)
theorem paW_V {D : Nat → Int} (hV : V D) (h8 : D 5 < 8) {x y z : Int} (hx : 1 ≤ x ∧ x ≤ 26) (hy : 1 ≤ y ∧ y ≤ 26) (hz : 1 ≤ z ∧ z ≤ 26) : V (paW D x y z) := by
  obtain ⟨⟨v0, v1, v2, v3, v4, v5, v6, v7, v8, v9⟩, w1, w2, w3, w4, w5, w6, w7⟩ := hV
  have L : ∀ p, p ≠ 5 → (p < 36 + 3 * (D 5).toNat ∨ 36 + 3 * (D 5).toNat + 3 ≤ p) → paW D x y z p = D p := fun p h1 h2 => by unfold paW; rw [upD_o h1, upD_o (by omega), upD_o (by omega), upD_o (by omega)]
  have e5 : paW D x y z 5 = D 5 + 1 := upD_s _ _ _
  have n0 : paW D x y z (36 + 3 * (D 5).toNat) = x := by unfold paW; rw [upD_o (by omega), upD_o (by omega), upD_o (by omega), upD_s]
  have n1 : paW D x y z (36 + 3 * (D 5).toNat + 1) = y := by unfold paW; rw [upD_o (by omega), upD_o (by omega), upD_s]
  have n2 : paW D x y z (36 + 3 * (D 5).toNat + 2) = z := by unfold paW; rw [upD_o (by omega), upD_s]
  generalize paW D x y z = u at *
  refine ⟨⟨by rw [L 0 (by omega) (by omega)]; exact v0, by rw [L 1 (by omega) (by omega)]; exact v1, by rw [L 2 (by omega) (by omega)]; exact v2, by rw [L 3 (by omega) (by omega)]; exact v3, by rw [L 4 (by omega) (by omega)]; exact v4, by rw [e5]; omega, by rw [L 6 (by omega) (by omega)]; exact v6, by rw [L 7 (by omega) (by omega)]; exact v7, by rw [L 8 (by omega) (by omega)]; exact v8, by rw [L 9 (by omega) (by omega)]; exact v9⟩, fun k hk => by rw [L _ (by omega) (by omega)]; exact w1 k hk, fun k hk i hi => ?_, fun k hk => ?_, fun k hk => ?_, fun k hk => ?_, fun s hs => ?_, fun k hk => ?_⟩
  · rw [e5] at hk
    by_cases c : (k : Int) < D 5
    · rw [L _ (by omega) (by omega)]; exact w2 k c i hi
    · rw [show k = (D 5).toNat by omega]
      rcases (by omega : i = 0 ∨ i = 1 ∨ i = 2) with rfl | rfl | rfl
      · rw [Nat.add_zero, n0]; exact hx
      · rw [n1]; exact hy
      · rw [n2]; exact hz
  · rw [L 6 (by omega) (by omega)] at hk
    exact okN_ext (fun i hi => (L _ (by omega) (by omega)).symm) (w3 k hk)
  · rw [L 7 (by omega) (by omega)] at hk
    exact okN_ext (fun i hi => (L _ (by omega) (by omega)).symm) (w4 k hk)
  · rw [L 8 (by omega) (by omega)] at hk
    exact okN_ext (fun i hi => (L _ (by omega) (by omega)).symm) (w5 k hk)
  · obtain ⟨z1, z2, z3, z4⟩ := w6 s hs
    rw [L (280 + s) (by omega) (by omega), L 7 (by omega) (by omega)]
    refine ⟨z1, z2, fun i hi => ?_, fun i j hi hj => ?_⟩
    · rw [L _ (by omega) (by omega), L _ (by omega) (by omega), L _ (by omega) (by omega)]; exact z3 i hi
    · rw [L _ (by omega) (by omega), L _ (by omega) (by omega), L _ (by omega) (by omega), L _ (by omega) (by omega)]; exact z4 i j hi hj
  · rw [L 8 (by omega) (by omega)] at hk
    rw [L (950 + k) (by omega) (by omega), L (980 + k) (by omega) (by omega), L 7 (by omega) (by omega)]; exact w7 k hk
/-- the letter at a place -/
def lt1 (b : Nat → Nat) (i : Nat) : Nat := b i - 96
def pPai (b : Nat → Nat) (n e : Nat) (D : Nat → Int) (T G : Nat) : PO :=
  if D 5 = 8 then .inl (4, tS b n e)
  else if leS b n (tE b n e) 2 2 then (if prW D (lt1 b (tS b n (tE b n e))) (lt1 b (tS b n (tE b n e) + 1)) = 0 then (if leS b n (tE b n (tE b n e)) 1 1 then .inr (tE b n (tE b n (tE b n e)), paW D (lt1 b (tS b n (tE b n e))) (lt1 b (tS b n (tE b n e) + 1)) (lt1 b (tS b n (tE b n (tE b n e)))), T, G) else .inl (1, tS b n (tE b n (tE b n e)))) else .inl (3, tS b n (tE b n e)))
  else .inl (1, tS b n (tE b n e))
theorem lt1_al {b : Nat → Nat} {n e i : Nat} (k1 : kS b n e = 1) (h : i < tE b n e - tS b n e) : (tS b n e + i < n ∧ 97 ≤ b (tS b n e + i) ∧ b (tS b n e + i) ≤ 122) ∧ (1 ≤ (lt1 b (tS b n e + i) : Int) ∧ (lt1 b (tS b n e + i) : Int) ≤ 26) := by
  have := tL_al (kS_1.1 k1).1 i h
  unfold lt1; omega
theorem pPai_ok {b : Nat → Nat} {n e e' T G T' G' : Nat} {D D' : Nat → Int} (he : e ≤ n) (hV : V D) (hT : T < 65536) (hG : G < 67108864) (h : pPai b n e D T G = .inr (e', D', T', G')) : OKS n e' D' T' G' ∧ tE b n e ≤ e' := by
  unfold pPai at h
  split at h
  · cases h
  · rename_i c1
    split at h
    · rename_i c2
      split at h
      · split at h
        · rename_i c4
          cases h
          have v5 := hV.1.2.2.2.2.2.1
          have E1 := tE_le (b := b) he
          have E := tE_spec b n (tE b n e) E1
          have S := (tS_spec b n (tE b n e)).1.1
          have E2 := tE_spec b n (tE b n (tE b n e)) E.2.1
          have S2 := (tS_spec b n (tE b n (tE b n e))).1.1
          have q1 := (lt1_al (i := 0) c2.1 (by have := c2.2.1; omega)).2
          have q2 := (lt1_al (i := 1) c2.1 (by have := c2.2.1; omega)).2
          have q3 := (lt1_al (i := 0) c4.1 (by have := c4.2.1; omega)).2
          rw [Nat.add_zero] at q1 q3
          exact ⟨⟨E2.2.1, paW_V hV (by omega) q1 q2 q3, hT, hG⟩, by omega⟩
        · cases h
      · cases h
    · cases h
theorem ldS_one {b : Nat → Nat} {n e : Nat} (h : tE b n e - tS b n e = 1) : ldS b n e = true := by
  unfold ldS; rw [h]; simp [lbD, lbF]
theorem sp_rpai {h : Hp} {m : Nat} {b : Nat → Nat} {n : Nat} (c : MB h m b n) {e : Nat} (he : e ≤ n) {D : Nat → Int} (hV : V D) {T G : Nat} (hT : T < 65536) (s9 : hpC h m 9 = (tE b n e : Int)) (s10 : hpC h m 10 = (tS b n e : Int)) (s11 : hpC h m 11 = 0) (s14 : hpC h m 14 = (T : Int) ∧ hpC h m 12 = -1) (s15 : hpC h m 15 = (G : Int)) (sD : DR h m D) {d mc ms : Nat} {R : PR} (hd : 5 ≤ d) {o1 o2 o3 : Option AV} (H : ∀ h', FrP (Smr m) h h' → OUT h' m (pPai b n e D T G) → R none h') : Wp m_M_readsPair 0 [some (xR m), o1, o2, o3] [] h d mc ms R := by
  have E1 := tE_le (b := b) he
  have v5 := hV.1.2.2.2.2.2.1
  have hn := c.2.1.2.1
  have t15 : Int.toNat (1015 : Int) = 1010 + 5 := rfl
  -- failed: after letters
  have fin : ∀ (g : Hp) (f : Int) (p : Nat) {X : Prop}, FrP (Smr m) h g → hpC g m 11 = f → f ≠ 0 → hpC g m 12 = (p : Int) → pPai b n e D T G = .inl (f, p) → ∀ (Q : Int → Hp → Prop), (1 ≤ d ∧ (hpT g m).1 = 12) ∧ Wp m_M_goesWell 0 [some (xR m)] [] g (d - 1) 0 0 (fun rv h2 => ∀ v2 : Int, rv = some (xI v2) → (if v2 = (0 : Int) then R none h2 else Q v2 h2)) := fun g f p X fr a1 hf a2 eP Q => by
    have cg := c.fr fr
    refine ⟨⟨by omega, cg.tag⟩, sp_goesWell cg a1 (fun v ee => ?_)⟩
    have ev := xI_inj ee
    rw [if_neg hf] at ev
    rw [if_pos ev]
    exact H g fr (by rw [eP]; exact ⟨a1, hf, a2⟩)
  apply f_M_readsPair_0
  rw [c.1.row_n, c.1.row_t, t15, sD 5 (by omega)]
  refine ⟨c.tag, ⟨rfl, by decide, by decide⟩, ?_⟩
  by_cases c0 : D 5 = 8
  · rw [if_pos c0]
    refine ⟨c.tag, ⟨by omega, c.tag⟩, sp_faultsG c s11 (fun g f a1 a2 _ _ => ?_)⟩
    have cg := c.fr f
    apply f_M_readsPair_24
    refine ⟨⟨by omega, cg.tag⟩, sp_mletN cg a1 (by decide) (by omega) (fun v _ => ?_)⟩
    exact fin g 4 (tS b n e) (X := True) f a1 (by decide) (by rw [a2]; exact s10) (by unfold pPai; rw [if_pos c0]) _
  · rw [if_neg c0]
    obtain ⟨k, hk⟩ : ∃ k : Nat, D 5 = (k : Int) := ⟨(D 5).toNat, by omega⟩
    have nk : (D 5).toNat = k := by omega
    apply f_M_readsPair_24
    refine ⟨⟨by omega, c.tag⟩, sp_mlet (lo := 2) (hi := 2) (dup := 1) c s11 s9 E1 (by omega) (fun lS ld g f a9 a10 v ee => ?_) (fun lS ld g v f a1 a2 v2 ee => absurd (Or.inl (by decide)) ld) (fun lS g f a1 a2 v ee => ?_)⟩
    · clear ee
      have F := F910_mr f
      have cg := c.fr F
      have g11 : hpC g m 11 = 0 := by rw [FrP.c910 f (by omega)]; exact s11
      have gD := sD.fr f F910_row
      have E2 := tE_le (b := b) E1
      obtain ⟨⟨l1, l2, l3⟩, l4⟩ := lt1_al (i := 0) lS.1 (by have := lS.2.1; omega)
      obtain ⟨⟨m1, m2, m3⟩, m4⟩ := lt1_al (i := 1) lS.1 (by have := lS.2.1; omega)
      rw [Nat.add_zero] at l1 l2 l3 l4
      refine ⟨⟨by omega, cg.tag⟩, sp_goesWell cg g11 (fun v ee => ?_)⟩
      have ev := xI_inj ee
      clear ee
      rw [if_pos rfl] at ev
      rw [if_neg (by omega), a10, cg.1.tape_n, cg.1.tape_t, ab_1 (by omega), Int.toNat_natCast, Int.toNat_natCast, (cg.2.1.2.2 _ l1).1, (cg.2.1.2.2 _ m1).1, ai_sub_eq (by omega) (by omega), ai_sub_eq (by omega) (by omega), show (b (tS b n (tE b n e)) : Int) - 96 = (lt1 b (tS b n (tE b n e)) : Int) from by unfold lt1; omega, show (b (tS b n (tE b n e) + 1) : Int) - 96 = (lt1 b (tS b n (tE b n e) + 1) : Int) from by unfold lt1; omega]
      refine ⟨cg.tag, cg.tag, ⟨rfl, by omega, by show (tS b n (tE b n e) : Int) < 2000; omega⟩, cg.tag, cg.tag, ⟨rfl, by omega, by show ((tS b n (tE b n e) + 1 : Nat) : Int) < 2000; omega⟩, ⟨by omega, cg.tag⟩, sp_mPair (o := 1010) (np := k) cg.1 (by omega) (by rw [gD 5 (by omega), hk]) (by omega) (fun v3 ee => ?_)⟩
      have ev3 := xI_inj ee
      clear ee
      have key := mPair_no gD hV (lt1 b (tS b n (tE b n e))) (lt1 b (tS b n (tE b n e) + 1)) k 0 (by omega)
      rw [← nk] at key
      have key : mPair g (m + 1) 1010 (lt1 b (tS b n (tE b n e))) (lt1 b (tS b n (tE b n e) + 1)) k 0 = -1 ↔ prW D (lt1 b (tS b n (tE b n e))) (lt1 b (tS b n (tE b n e) + 1)) = 0 := by unfold prW; rw [← nk]; exact key
      by_cases y : v3 = -1
      · rw [if_pos y, hk]
        have np := key.1 (by rw [← ev3]; exact y)
        apply f_M_readsPair_90
        refine ⟨⟨by omega, cg.tag⟩, sp_mlet (lo := 1) (hi := 1) (dup := 0) cg g11 a9 E2 (by omega) (fun lS2 ld2 g2 f2 p9 p10 v ee => ?_) (fun lS2 ld2 g2 v f2 a1 a2 v2 ee => absurd (Or.inr (ldS_one (by have := lS2.2; omega))) ld2) (fun lS2 g2 f2 a1 a2 v ee => ?_)⟩
        · clear ee
          have F2 := F.tr (F910_mr f2)
          have cg2 := c.fr F2
          have g211 : hpC g2 m 11 = 0 := by rw [FrP.c910 f2 (by omega)]; exact g11
          have g2D := gD.fr f2 F910_row
          obtain ⟨⟨n1, n2, n3⟩, n4⟩ := lt1_al (i := 0) lS2.1 (by have := lS2.2.1; omega)
          rw [Nat.add_zero] at n1 n2 n3 n4
          refine ⟨⟨by omega, cg2.tag⟩, sp_goesWell cg2 g211 (fun v ee => ?_)⟩
          have ev := xI_inj ee
          clear ee
          rw [if_pos rfl] at ev
          have a46 : ai_add (1046 : Int) (ai_mul 3 (k : Int)) = ((1010 + (36 + 3 * k) : Nat) : Int) := by rw [am_3 (by omega), ai_add_eq (by omega) (by omega)]; omega
          rw [if_neg (by omega), a46, ab_1 (by omega), ab_2 (by omega), Int.toNat_natCast, Int.toNat_natCast, Int.toNat_natCast, cg2.1.row_n, cg2.1.row_t]
          refine ⟨cg2.tag, ⟨rfl, by omega, by show ((1010 + (36 + 3 * k) : Nat) : Int) < 24240; omega⟩, fun h1 e1 => ?_⟩
          have u1 : FrP (fun q p => q = m + 1 ∧ 1010 ≤ p ∧ p < 2020) g2 h1 := by subst e1; exact FrP.up ⟨rfl, by omega, by omega⟩
          have b1 := cg2.fr (u1.wk (fun q p z => Or.inr z))
          rw [b1.1.row_n, b1.1.row_t]
          refine ⟨b1.tag, ⟨rfl, by omega, by show ((1010 + (36 + 3 * k) + 1 : Nat) : Int) < 24240; omega⟩, fun h2 e2 => ?_⟩
          have u2 : FrP (fun q p => q = m + 1 ∧ 1010 ≤ p ∧ p < 2020) g2 h2 := u1.tr (by subst e2; exact FrP.up ⟨rfl, by omega, by omega⟩)
          have b2 := cg2.fr (u2.wk (fun q p z => Or.inr z))
          have p10' : hpC h2 m 10 = (tS b n (tE b n (tE b n e)) : Int) := by rw [u2.2.2 _ _ (by omega)]; exact p10
          rw [b2.1.row_n, b2.1.row_t, b2.1.tape_n, b2.1.tape_t, p10', Int.toNat_natCast, (b2.2.1.2.2 _ n1).1, ai_sub_eq (by omega) (by omega), show (b (tS b n (tE b n (tE b n e))) : Int) - 96 = (lt1 b (tS b n (tE b n (tE b n e))) : Int) from by unfold lt1; omega]
          refine ⟨b2.tag, b2.tag, b2.tag, ⟨rfl, by omega, by show (tS b n (tE b n (tE b n e)) : Int) < 2000; omega⟩, ⟨rfl, by omega, by show ((1010 + (36 + 3 * k) + 2 : Nat) : Int) < 24240; omega⟩, fun h3 e3 => ?_⟩
          have u3 : FrP (fun q p => q = m + 1 ∧ 1010 ≤ p ∧ p < 2020) g2 h3 := u2.tr (by subst e3; exact FrP.up ⟨rfl, by omega, by omega⟩)
          have b3 := cg2.fr (u3.wk (fun q p z => Or.inr z))
          have x5 : hpC h3 (m + 1) 1015 = (k : Int) := by
            have := g2D 5 (by omega)
            rw [hk] at this
            subst e3; subst e2; subst e1
            rw [hpC_o2 (by omega), hpC_o2 (by omega), hpC_o2 (by omega)]; exact this
          rw [b3.1.row_n, b3.1.row_t, show Int.toNat (1015 : Int) = 1015 from rfl, x5, ab_1 (by omega)]
          refine ⟨b3.tag, ⟨rfl, by decide, by decide⟩, ⟨rfl, by decide, by decide⟩, fun h4 e4 => ?_⟩
          have u4 : FrP (fun q p => q = m + 1 ∧ 1010 ≤ p ∧ p < 2020) g2 h4 := u3.tr (by subst e4; exact FrP.up ⟨rfl, by omega, by omega⟩)
          refine H h4 (F2.tr (u4.wk (fun q p z => Or.inr z))) ?_
          unfold pPai
          rw [if_neg c0, if_pos lS, if_pos np, if_pos lS2]
          have keep : ∀ q, q ≠ 9 → q ≠ 10 → hpC h4 m q = hpC h m q := fun q h1 h2 => by rw [u4.2.2 _ _ (by omega), FrP.c910 f2 (by omega), FrP.c910 f (by omega)]
          refine ⟨by rw [u4.2.2 _ _ (by omega)]; exact p9, by rw [keep _ (by omega) (by omega)]; exact s11, ⟨by rw [keep _ (by omega) (by omega)]; exact s14.1, by rw [keep _ (by omega) (by omega)]; exact s14.2⟩, by rw [keep _ (by omega) (by omega)]; exact s15, fun p hp => ?_⟩
          unfold paW
          rw [nk]
          subst e4; subst e3; subst e2; subst e1
          by_cases q : p = 5
          · rw [q, hpC_same, upD_s, hk]; omega
          rw [hpC_o2 (by omega), upD_o q]
          by_cases q : p = 36 + 3 * k + 2
          · rw [q, show 1010 + (36 + 3 * k + 2) = 1010 + (36 + 3 * k) + 2 by omega, hpC_same, upD_s]
          rw [hpC_o2 (by omega), upD_o q]
          by_cases q : p = 36 + 3 * k + 1
          · rw [q, show 1010 + (36 + 3 * k + 1) = 1010 + (36 + 3 * k) + 1 by omega, hpC_same, upD_s]
          rw [hpC_o2 (by omega), upD_o q]
          by_cases q : p = 36 + 3 * k
          · rw [q, hpC_same, upD_s]
          rw [hpC_o2 (by omega), upD_o q]
          exact g2D p hp
        · exact fin g2 1 _ (X := True) (F.tr f2) a1 (by decide) a2 (by unfold pPai; rw [if_neg c0, if_pos lS, if_pos np, if_neg lS2]) _
      · rw [if_neg y, a10]
        have np : ¬ prW D (lt1 b (tS b n (tE b n e))) (lt1 b (tS b n (tE b n e) + 1)) = 0 := fun z => y (by rw [ev3]; exact key.2 z)
        refine ⟨cg.tag, ⟨by omega, cg.tag⟩, sp_faultsG cg g11 (fun g2 f2 a1 a2 _ _ => ?_)⟩
        have cg2 := cg.fr f2
        apply f_M_readsPair_90
        refine ⟨⟨by omega, cg2.tag⟩, sp_mletN cg2 a1 (by decide) (by omega) (fun v _ => ?_)⟩
        exact fin g2 3 _ (X := True) (F.tr f2) a1 (by decide) a2 (by unfold pPai; rw [if_neg c0, if_pos lS, if_neg np]) _
    · exact fin g 1 _ (X := True) f a1 (by decide) a2 (by unfold pPai; rw [if_neg c0, if_neg lS]) _
