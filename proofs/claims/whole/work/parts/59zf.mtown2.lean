/-! ===== the reference's town, whole ===== -/
def pTown (b : Nat → Nat) (n : Nat) : PO := pAll b n (n + 1) 0 wE 0 0
/-- aliases told stay for the years told -/
def sK (D : Nat → Int) (i : Nat) : Nat → Int := fun p => if 980 ≤ p ∧ p < 980 + i then D 1 else D p
def seW (D : Nat → Int) : Nat → Int := sK D (D 8).toNat
theorem sK_lo {D : Nat → Int} {i p : Nat} (h : p < 980) : sK D i p = D p := by unfold sK; rw [if_neg (by omega)]
theorem seW_lo {D : Nat → Int} {p : Nat} (h : p < 980) : seW D p = D p := sK_lo h
theorem seW_V {D : Nat → Int} (hV : V D) : V (seW D) := by
  obtain ⟨⟨v0, v1, v2, v3, v4, v5, v6, v7, v8, v9⟩, w1, w2, w3, w4, w5, w6, w7⟩ := hV
  have h : ∀ p, p < 980 → seW D p = D p := fun p hp => seW_lo hp
  refine ⟨⟨by rw [h 0 (by omega)]; exact v0, by rw [h 1 (by omega)]; exact v1, by rw [h 2 (by omega)]; exact v2, by rw [h 3 (by omega)]; exact v3, by rw [h 4 (by omega)]; exact v4, by rw [h 5 (by omega)]; exact v5, by rw [h 6 (by omega)]; exact v6, by rw [h 7 (by omega)]; exact v7, by rw [h 8 (by omega)]; exact v8, by rw [h 9 (by omega)]; exact v9⟩, fun k hk => by rw [h _ (by omega)]; exact w1 k hk, fun k hk i hi => ?_, fun k hk => ?_, fun k hk => ?_, fun k hk => ?_, fun s hs => ?_, fun k hk => ?_⟩
  · rw [h 5 (by omega)] at hk
    rw [h _ (by omega)]; exact w2 k hk i hi
  · rw [h 6 (by omega)] at hk
    exact okN_ext (fun i hi => (h _ (by omega)).symm) (w3 k hk)
  · rw [h 7 (by omega)] at hk
    exact okN_ext (fun i hi => (h _ (by omega)).symm) (w4 k hk)
  · rw [h 8 (by omega)] at hk
    exact okN_ext (fun i hi => (h _ (by omega)).symm) (w5 k hk)
  · obtain ⟨z1, z2, z3, z4⟩ := w6 s hs
    rw [h (280 + s) (by omega), h 7 (by omega)]
    refine ⟨z1, z2, fun i hi => ?_, fun i j hi hj => ?_⟩
    · rw [h _ (by omega), h _ (by omega), h _ (by omega)]; exact z3 i hi
    · rw [h _ (by omega), h _ (by omega), h _ (by omega), h _ (by omega)]; exact z4 i j hi hj
  · rw [h 8 (by omega)] at hk
    have e : seW D (980 + k) = D 1 := by unfold seW sK; rw [if_pos (by omega)]
    rw [h (950 + k) (by omega), e, h 7 (by omega)]; exact ⟨(w7 k hk).1, by omega⟩
theorem pAll_ok {b : Nat → Nat} {n : Nat} : ∀ (f : Nat) {e T G e' T' G' : Nat} {D D' : Nat → Int}, e ≤ n → V D → Dz D → T < 65536 → G < 67108864 → pAll b n f e D T G = .inr (e', D', T', G') → OKS n e' D' T' G' ∧ Dz D'
  | 0, e, T, G, e', T', G', D, D', he, hV, hz, hT, hG, q => by
    simp only [pAll] at q
    cases q
    exact ⟨⟨he, hV, hT, hG⟩, hz⟩
  | f + 1, e, T, G, e', T', G', D, D', he, hV, hz, hT, hG, q => by
    simp only [pAll] at q
    by_cases z : tR b n e = 0
    · rw [if_pos z] at q
      cases q
      exact ⟨⟨he, hV, hT, hG⟩, hz⟩
    · rw [if_neg z] at q
      cases r : pStm b n e D T G with
      | inl r1 => rw [r] at q; cases q
      | inr r1 =>
        obtain ⟨e1, D1, T1, G1⟩ := r1
        rw [r] at q
        obtain ⟨⟨o1, o2, o3, o4⟩, o5, _, _⟩ := pStm_ok he hV hz hT hG r
        exact pAll_ok f o1 o2 o5 o3 o4 q
theorem wE_Dz : Dz wE := ⟨fun j hj => wE_far (by omega), by decide⟩
theorem pTown_ok {b : Nat → Nat} {n e' T' G' : Nat} {D' : Nat → Int} (q : pTown b n = .inr (e', D', T', G')) : OKS n e' D' T' G' ∧ Dz D' := pAll_ok _ (Nat.zero_le _) wE_V wE_Dz (by decide) (by decide) q
def Stw2 (m : Nat) : Nat → Nat → Prop := fun q p => (q = m ∧ (p = 2 ∨ p = 5 ∨ p = 6 ∨ p = 7 ∨ p = 8 ∨ p = 9 ∨ p = 10 ∨ p = 11 ∨ p = 12 ∨ p = 14 ∨ p = 15)) ∨ (q = m + 1 ∧ p < 2020) ∨ q = m + 3
theorem Stw2_off (m : Nat) : offM m (Stw2 m) := by
  intro p hp z
  rcases z with ⟨-, z⟩ | z
  · rcases z with rfl | rfl | rfl | rfl | rfl | rfl | rfl | rfl | rfl | rfl | rfl <;> (revert hp; decide)
  · omega
theorem MS.tw {h : Hp} {m : Nat} {w : Nat → Int} {b : Nat → Nat} {n : Nat} {K : List Nat} {cnt : Nat} {U : Nat → Nat → Int} {ik : Nat → Bool} {iw : Nat → Nat → Int} (c : MS h m w b n K cnt U ik iw) {h' : Hp} {w' : Nat → Int} {cnt' : Nat} {U' : Nat → Nat → Int} (f : FrP (Stw2 m) h h') (h5 : hpC h' m 5 = 0) (r : ∀ p, p < 1010 → hpC h' (m + 1) p = w' p) (hc : hpC h' m 2 = (cnt' : Int)) (u : UR h' m cnt' U') : MS h' m w' b 0 K cnt' U' ik iw ∧ FrM h h' m := by
  obtain ⟨c1, c2, c3, c4, c5, c6, c7, c8⟩ := c
  have no : ∀ q p, ((q = m ∧ p = 22) ∨ (q = m + 1 ∧ 2020 ≤ p) ∨ q = m + 2 ∨ m + 4 ≤ q) → hpC h' q p = hpC h q p := fun q p hq => f.2.2 q p (by unfold Stw2; omega)
  exact ⟨⟨⟨c1.1.fo f (Stw2_off m), r⟩, ⟨h5, by omega, fun i hi => by omega⟩, fun i hi => by rw [no _ _ (by omega)]; exact c3 i hi, ⟨by rw [no _ _ (by omega)]; exact c4.1, fun i hi => by rw [no _ _ (by omega)]; exact c4.2 i hi⟩, hc, u, fun k hk => by rw [no _ _ (by omega)]; exact c7 k hk, fun k hk z p hp => by rw [no _ _ (by omega)]; exact c8 k hk z p hp⟩, f.wk (fun q p z => by unfold Stw2 at z; omega)⟩
/-- refusals: one more at c (5: none) -/
def KR (h h' : Hp) (r c : Nat) : Prop := ∀ i, i < 5 → hpC h' r i = if i = c then ai_add (hpC h r i) 1 else hpC h r i
theorem Smr_tw {h h' : Hp} {m : Nat} (f : FrP (Smr m) h h') : FrP (Stw2 m) h h' := f.wk (fun q p z => by unfold Smr at z; unfold Stw2; omega)
theorem sp_mtown {h : Hp} {m : Nat} {w : Nat → Int} {b : Nat → Nat} {n : Nat} {K : List Nat} {cnt : Nat} {U : Nat → Nat → Int} {ik : Nat → Bool} {iw : Nat → Nat → Int} (c : MS h m w b n K cnt U ik iw) {d mc ms : Nat} {R : PR} (hd : 8 ≤ d) {o1 : Option AV} (H1 : ∀ f p, pTown b n = .inl (f, p) → ∀ h', MS h' m w b 0 K cnt U ik iw → FrM h h' m → hpC h' m 6 = f → hpC h' m 7 = (p : Int) → KR h h' (m + 3) 1 → R (some (xI (-1))) h') (H2 : ∀ e D T G, pTown b n = .inr (e, D, T, G) → ∀ h', MS h' m (seW D) b 0 K 0 U ik iw → FrM h h' m → hpC h' m 6 = 0 → hpC h' m 7 = -1 → KR h h' (m + 3) 5 → R (some (xI (D 7))) h') : Wp m_M_town 0 [some (xR m), o1] [] h d mc ms R := by
  obtain ⟨c1, c2, c3, c4, c5, c6, c7, c8⟩ := id c
  have A : ∀ {g : Hp}, FrP (Stw2 m) h g → modelAt g m := fun f => c1.1.fo f (Stw2_off m)
  have up : ∀ {g g' : Hp} {p : Nat} {v : Int}, FrP (Stw2 m) h g → Stw2 m m p → g' = hpU g m p v → FrP (Stw2 m) h g' := fun f z e => by subst e; exact f.tr (FrP.up z)
  apply f_M_town_0
  refine ⟨⟨by omega, c1.1.tag⟩, ?_⟩
  apply f_M_taken_0
  refine ⟨c1.1.tag, c1.1.tag, fun g1 e1 v ee => ?_⟩
  have ev := xI_inj ee
  rw [c2.1] at ev
  have f1 := up FrP.rf (by unfold Stw2; omega) e1
  refine ⟨(A f1).tag, fun g2 e2 => ?_⟩
  have f2 := up f1 (by unfold Stw2; omega) e2
  refine ⟨(A f2).tag, fun g3 e3 => ?_⟩
  have f3 := up f2 (by unfold Stw2; omega) e3
  refine ⟨(A f3).tag, fun g4 e4 => ?_⟩
  have f4 := up f3 (by unfold Stw2; omega) e4
  refine ⟨(A f4).tag, fun g5 e5 => ?_⟩
  have f5 := up f4 (by unfold Stw2; omega) e5
  refine ⟨(A f5).tag, fun g6 e6 => ?_⟩
  have f6 := up f5 (by unfold Stw2; omega) e6
  refine ⟨(A f6).tag, fun g7 e7 => ?_⟩
  have f7 := up f6 (by unfold Stw2; omega) e7
  have vals : hpC g7 m 5 = 0 ∧ hpC g7 m 8 = (n : Int) ∧ hpC g7 m 9 = 0 ∧ hpC g7 m 11 = 0 ∧ hpC g7 m 12 = -1 ∧ hpC g7 m 14 = 0 ∧ hpC g7 m 15 = 0 ∧ hpC g7 m 2 = (cnt : Int) ∧ (∀ q p, q ≠ m → hpC g7 q p = hpC h q p) := by
    subst e7; subst e6; subst e5; subst e4; subst e3; subst e2; subst e1
    refine ⟨?_, ?_, ?_, ?_, ?_, ?_, ?_, ?_, fun q p hq => ?_⟩
    · simp (disch := decide) only [hpC_o2, hpC_same]
    · simp (disch := decide) only [hpC_o2, hpC_same]; exact ev
    · simp (disch := decide) only [hpC_o2, hpC_same]
    · simp (disch := decide) only [hpC_o2, hpC_same]
    · simp (disch := decide) only [hpC_o2, hpC_same]
    · simp (disch := decide) only [hpC_o2, hpC_same]
    · simp (disch := decide) only [hpC_o2, hpC_same]
    · simp (disch := decide) only [hpC_o2]; exact c5
    · rw [hpC_o1 hq, hpC_o1 hq, hpC_o1 hq, hpC_o1 hq, hpC_o1 hq, hpC_o1 hq, hpC_o1 hq]
  obtain ⟨q5, q8, q9, q11, q12, q14, q15, q2, qo⟩ := vals
  refine ⟨⟨by omega, (A f7).tag⟩, sp_empties (A f7) (fun g8 f8 d8 _ => ?_)⟩
  have F8 := f7.tr (Smr_tw (Sdr_mr f8))
  have no8 : ∀ q p, q ≠ m + 1 → hpC g8 q p = hpC g7 q p := fun q p hq => f8.2.2 q p (by unfold Sdr; omega)
  have B8 : MB g8 m b n := ⟨A F8, ⟨by rw [no8 _ _ (by omega)]; exact q8, c2.2.1, fun i hi => by rw [no8 _ _ (by omega), qo _ _ (by omega)]; exact c2.2.2 i hi⟩, fun i hi => by rw [no8 _ _ (by omega), qo _ _ (by omega)]; exact c3 i hi⟩
  have G8 : MG g8 m 0 wE 0 0 := ⟨by rw [no8 _ _ (by omega)]; exact q9, by rw [no8 _ _ (by omega)]; exact q11, ⟨by rw [no8 _ _ (by omega)]; exact q14, by rw [no8 _ _ (by omega)]; exact q12⟩, by rw [no8 _ _ (by omega)]; exact q15, d8⟩
  have fin : ∀ (P : PO), (∀ f p, P = .inl (f, p) → pTown b n = .inl (f, p)) → (∀ e D T G, P = .inr (e, D, T, G) → ∃ e', pTown b n = .inr (e', D, T, G)) → ∀ h', FrP (Smr m) g8 h' → OUT h' m P → Wp m_M_town 62 [some (xR m), o1] [] h' d mc ms R := by
    intro P P1 P2 g f ou
    have F := F8.tr (Smr_tw f)
    have nof : ∀ q p, ¬ Smr m q p → hpC g q p = hpC g8 q p := f.2.2
    have g5v : hpC g m 5 = 0 := by rw [nof _ _ (by unfold Smr; omega), no8 _ _ (by omega)]; exact q5
    have g2v : hpC g m 2 = (cnt : Int) := by rw [nof _ _ (by unfold Smr; omega), no8 _ _ (by omega)]; exact q2
    have g3v : ∀ p, hpC g (m + 3) p = hpC h (m + 3) p := fun p => by rw [nof _ _ (by unfold Smr; omega), no8 _ _ (by omega)]; exact qo _ _ (by omega)
    have grv : ∀ p, ¬ (1010 ≤ p ∧ p < 2020) → hpC g (m + 1) p = hpC h (m + 1) p := fun p hp => by rw [nof _ _ (by unfold Smr; omega), f8.2.2 _ _ (by unfold Sdr; omega)]; exact qo _ _ (by omega)
    apply f_M_town_62
    refine ⟨(A F).tag, (A F).tag, fun k1 i1 => ?_⟩
    have F1 := up F (by unfold Stw2; omega) i1
    refine ⟨(A F1).tag, (A F1).tag, fun k2 i2 => ?_⟩
    have F2 := up F1 (by unfold Stw2; omega) i2
    have k6 : hpC k2 m 6 = hpC g m 11 := by subst i2; subst i1; simp (disch := decide) only [hpC_o2, hpC_same]
    have k7 : hpC k2 m 7 = hpC g m 12 := by subst i2; subst i1; simp (disch := decide) only [hpC_o2, hpC_same]
    have kx : ∀ p, p ≠ 6 → p ≠ 7 → hpC k2 m p = hpC g m p := fun p h1 h2 => by subst i2; subst i1; rw [hpC_o2 h2, hpC_o2 h1]
    have ko : ∀ q p, q ≠ m → hpC k2 q p = hpC g q p := fun q p hq => by subst i2; subst i1; rw [hpC_o1 hq, hpC_o1 hq]
    refine ⟨(A F2).tag, ?_⟩
    rw [kx _ (by decide) (by decide)]
    rcases P with ⟨fl, pl⟩ | ⟨e', D, T, G⟩
    · obtain ⟨a1, hf, a2⟩ := ou
      rw [if_neg (by rw [a1]; exact hf)]
      refine ⟨⟨by omega, (A F2).tag⟩, sp_refuses (i := 1) (A F2) (by omega) (fun v ee => ?_)⟩
      have ev := xI_inj ee
      rw [ev]
      have F3 : FrP (Stw2 m) h (hpU k2 (m + 3) 1 (ai_add (hpC k2 (m + 3) 1) 1)) := F2.tr (FrP.up (by unfold Stw2; omega))
      have n3 : ∀ q p, q ≠ m + 3 → hpC (hpU k2 (m + 3) 1 (ai_add (hpC k2 (m + 3) 1) 1)) q p = hpC k2 q p := fun q p hq => hpC_o1 hq
      obtain ⟨r1, r2⟩ := c.tw (w' := w) (cnt' := cnt) (U' := U) F3 (by rw [n3 _ _ (by omega), kx _ (by decide) (by decide)]; exact g5v) (fun p hp => by rw [n3 _ _ (by omega), ko _ _ (by omega), grv _ (by omega)]; exact c1.2 p hp) (by rw [n3 _ _ (by omega), kx _ (by decide) (by decide)]; exact g2v) (fun i hi p hp => by rw [n3 _ _ (by omega), ko _ _ (by omega), grv _ (by omega)]; exact c6 i hi p hp)
      refine H1 fl pl (P1 _ _ rfl) _ r1 r2 (by rw [n3 _ _ (by omega), k6]; exact a1) (by rw [n3 _ _ (by omega), k7]; exact a2) (fun i hi => ?_)
      by_cases e : i = 1
      · subst e; rw [if_pos rfl, hpC_same, ko _ _ (by omega), g3v]
      · rw [if_neg e, hpC_o2 e, ko _ _ (by omega), g3v]
    · obtain ⟨a9, a11, ⟨a14, a12⟩, a15, aD⟩ := ou
      rw [if_pos a11]
      obtain ⟨e2, pe⟩ := P2 _ _ _ _ rfl
      obtain ⟨⟨_, hV, _, _⟩, hz⟩ := pTown_ok pe
      have v0 := hV.1.1
      have v1 := hV.1.2.1
      have v2 := hV.1.2.2.1
      have v3 := hV.1.2.2.2.1
      have v4 := hV.1.2.2.2.2.1
      have v5 := hV.1.2.2.2.2.2.1
      have v6 := hV.1.2.2.2.2.2.2.1
      have v7 := hV.1.2.2.2.2.2.2.2.1
      have v8 := hV.1.2.2.2.2.2.2.2.2.1
      have v9 := hV.1.2.2.2.2.2.2.2.2.2
      obtain ⟨c8, hc8⟩ : ∃ c8 : Nat, D 8 = (c8 : Int) := ⟨(D 8).toNat, by omega⟩
      have hz8 := hz.2
      have L : ∀ (j i : Nat) (k : Hp), i + j = c8 → FrP (fun q p => q = m + 1 ∧ 1990 ≤ p ∧ p < 2020) k2 k → DR k m (sK D i) → Wp m_M_town 93 [some (xR m), some (xI (i : Int))] [] k d mc ms R := by
        intro j
        induction j with
        | zero =>
          intro i k hi fk dk
          have Fk := F2.tr (fk.wk (fun q p z => by unfold Stw2; omega) : FrP (Stw2 m) k2 k)
          have ak := A Fk
          have k8 : hpC k (m + 1) 1018 = D 8 := (dk 8 (by omega)).trans (sK_lo (by omega))
          have nk : ∀ q p, ¬ (q = m + 1 ∧ 1990 ≤ p ∧ p < 2020) → hpC k q p = hpC k2 q p := fk.2.2
          apply f_M_town_93
          rw [ak.row_n, ak.row_t, show Int.toNat (1018 : Int) = 1018 from rfl, k8, if_neg (by omega)]
          refine ⟨ak.tag, ⟨rfl, by decide, by decide⟩, ⟨by omega, ak.tag⟩, sp_copies (o := 0) (o' := 1010) ak (by omega) (by omega) (by omega) (fun j1 fj ej _ => ?_)⟩
          have Fj := Fk.tr (fj.wk (fun q p z => by unfold Stw2; omega) : FrP (Stw2 m) k j1)
          refine ⟨(A Fj).tag, fun j2 i3 => ?_⟩
          have F3 := up Fj (by unfold Stw2; omega) i3
          have nj : ∀ q p, ¬ (q = m + 1 ∧ 0 ≤ p ∧ p < 0 + 1010) → hpC j1 q p = hpC k q p := fj.2.2
          have rw3 : ∀ p, p < 1010 → hpC j2 (m + 1) p = seW D p := fun p hp => by
            subst i3
            rw [hpC_o1 (by omega), ← Nat.zero_add p, ej p hp, Nat.zero_add, dk p hp]
            unfold seW; rw [show (D 8).toNat = i by omega]
          have n3 : ∀ p, p ≠ 2 → hpC j2 m p = hpC k2 m p := fun p hp => by subst i3; rw [hpC_o2 hp, nj _ _ (by omega), nk _ _ (by omega)]
          have n4 : ∀ p, hpC j2 (m + 3) p = hpC h (m + 3) p := fun p => by subst i3; rw [hpC_o1 (by omega), nj _ _ (by omega), nk _ _ (by omega), ko _ _ (by omega), g3v]
          obtain ⟨r1, r2⟩ := c.tw (w' := seW D) (cnt' := 0) (U' := U) F3 (by rw [n3 _ (by decide), kx _ (by decide) (by decide)]; exact g5v) rw3 (by subst i3; rw [hpC_same]; rfl) (fun i hi => by omega)
          have a3 := A F3
          refine ⟨a3.tag, ⟨by rw [a3.row_n, a3.row_t], by decide, by rw [a3.row_n, a3.row_t]; decide⟩, ?_⟩
          rw [a3.row_n, show Int.toNat (7 : Int) = 7 from rfl, rw3 7 (by omega), seW_lo (by omega)]
          exact H2 _ _ _ _ pe _ r1 r2 (by rw [n3 _ (by decide), k6]; exact a11) (by rw [n3 _ (by decide), k7]; exact a12) (fun i hi => by rw [if_neg (by omega)]; exact n4 i)
        | succ j ih =>
          intro i k hi fk dk
          have Fk := F2.tr (fk.wk (fun q p z => by unfold Stw2; omega) : FrP (Stw2 m) k2 k)
          have ak := A Fk
          have k8 : hpC k (m + 1) 1018 = D 8 := (dk 8 (by omega)).trans (sK_lo (by omega))
          have k1v : hpC k (m + 1) 1011 = D 1 := (dk 1 (by omega)).trans (sK_lo (by omega))
          apply f_M_town_93
          rw [show ai_add (1990 : Int) (i : Int) = ((1990 + i : Nat) : Int) from by rw [ai_add_eq (by omega) (by omega)]; omega, ab_1 (by omega), Int.toNat_natCast, ak.row_n, ak.row_t, show Int.toNat (1018 : Int) = 1018 from rfl, show Int.toNat (1011 : Int) = 1011 from rfl, k8, k1v, if_pos (by omega)]
          refine ⟨ak.tag, ⟨rfl, by decide, by decide⟩, ak.tag, ak.tag, ⟨rfl, by decide, by decide⟩, ⟨rfl, by omega, by show ((1990 + i : Nat) : Int) < 24240; omega⟩, fun k3 e3 => ?_⟩
          refine ih (i + 1) k3 (by omega) (fk.tr (by subst e3; exact FrP.up ⟨rfl, by omega, by omega⟩)) (fun p hp => ?_)
          subst e3
          by_cases e : p = 980 + i
          · subst e; rw [show 1010 + (980 + i) = 1990 + i by omega, hpC_same]; unfold sK; rw [if_pos (by omega)]
          · rw [hpC_o2 (by omega), dk p hp]; unfold sK
            by_cases z : 980 ≤ p ∧ p < 980 + i
            · rw [if_pos z, if_pos (by omega)]
            · rw [if_neg z, if_neg (by omega)]
      exact L c8 0 k2 (by omega) FrP.rf (fun p hp => by rw [ko _ _ (by omega), aD p hp]; unfold sK; rw [if_neg (by omega)])
  cases q : pTown b n with
  | inl r =>
    exact sp_mtown40 (P := .inl r) B8 (by omega) (fin (.inl r) (fun f p z => by cases z; exact q) (fun e D T G z => by cases z)) (n + 1) 0 wE 0 0 g8 (by omega) (by omega) wE_V wE_Dz (by decide) (by decide) FrP.rf G8 (Or.inr ⟨r, q, rfl⟩)
  | inr r =>
    obtain ⟨e', D, T, G⟩ := r
    exact sp_mtown40 (P := .inr (tS b n e', D, T, G)) B8 (by omega) (fin (.inr (tS b n e', D, T, G)) (fun f p z => by cases z) (fun e D T G z => by cases z; exact ⟨e', q⟩)) (n + 1) 0 wE 0 0 g8 (by omega) (by omega) wE_V wE_Dz (by decide) (by decide) FrP.rf G8 (Or.inl ⟨D, T, G, e', q, rfl⟩)
