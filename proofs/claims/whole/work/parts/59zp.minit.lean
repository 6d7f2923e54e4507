/-! ===== a new object of the reference (by program: genmi.py) ===== -/
theorem sp_empties0 {h : Hp} {m : Nat} (a : modelAt h m) {d mc ms : Nat} {R : PR} {o2 : Option AV} (H : ∀ h', FrP (Srow m) h h' → (∀ p, p < 1010 → hpC h' (m + 1) p = wE p) → R none h') : Wp m_M_empties 0 [some (xR m), some (xI (0 : Int)), o2] [] h d mc ms R := by
  have up : ∀ {g g' : Hp} {p : Nat} {v : Int}, p < 1010 → g' = hpU g (m + 1) p v → FrP (Srow m) g g' := fun h2 e => by subst e; exact FrP.up ⟨rfl, h2⟩
  have M : ∀ {g : Hp}, FrP (Srow m) h g → modelAt g m := fun f => a.fo f (Srow_off m)
  have B : ∀ (j i : Nat) (g : Hp), i + j = 26 → FrP (Srow m) h g → (∀ p, p < 1010 → hpC g (m + 1) p = if 10 + i ≤ p ∧ p < 36 then 0 else wE p) → Wp m_M_empties 55 [some (xR m), some (xI (0 : Int)), some (xI (i : Int))] [] g d mc ms R := by
    intro j
    induction j with
    | zero =>
      intro i g hi f r
      apply f_M_empties_55
      rw [if_neg (by omega)]
      exact H g f (fun p hp => by rw [r p hp, if_neg (by omega)])
    | succ j ih =>
      intro i g hi f r
      have ag := M f
      apply f_M_empties_55
      rw [if_pos (by omega), show ai_add (0 : Int) 10 = ((10 : Nat) : Int) from by decide, ai_add_nn (a := 10) (by omega), ab_1 (by omega), Int.toNat_natCast, ag.row_n, ag.row_t]
      refine ⟨ag.tag, ⟨rfl, by omega, by show ((10 + i : Nat) : Int) < 24240; omega⟩, fun g1 e1 => ?_⟩
      refine ih (i + 1) g1 (by omega) (f.tr (up (by omega) e1)) (fun p hp => ?_)
      subst e1
      by_cases q : p = 10 + i
      · rw [q, hpC_same, if_neg (by omega)]
        unfold wE
        rw [if_neg (by omega), if_neg (by omega), if_pos (by omega)]; omega
      · rw [hpC_o2 q, r p hp]
        by_cases y : 10 + i ≤ p ∧ p < 36
        · rw [if_pos y, if_pos (by omega)]
        · rw [if_neg y, if_neg (by omega)]
  have L : ∀ (j i : Nat) (g : Hp), i + j = 1010 → FrP (Srow m) h g → (∀ p, p < i → hpC g (m + 1) p = 0) → Wp m_M_empties 2 [some (xR m), some (xI (0 : Int)), some (xI (i : Int))] [] g d mc ms R := by
    intro j
    induction j with
    | zero =>
      intro i g hi f r
      have ag := M f
      apply f_M_empties_2
      rw [if_neg (by omega), show ai_add (0 : Int) 0 = 0 from by decide, show ai_add (0 : Int) 1 = 1 from by decide, show ai_add (0 : Int) 2 = 2 from by decide, ag.row_n, ag.row_t]
      refine ⟨ag.tag, ⟨rfl, by decide, by decide⟩, fun g1 e1 => ?_⟩
      have f1 := f.tr (up (by decide) e1)
      have a1 := M f1
      rw [a1.row_n, a1.row_t]
      refine ⟨a1.tag, ⟨rfl, by decide, by decide⟩, fun g2 e2 => ?_⟩
      have f2 := f1.tr (up (by decide) e2)
      have a2 := M f2
      rw [a2.row_n, a2.row_t]
      refine ⟨a2.tag, ⟨rfl, by decide, by decide⟩, fun g3 e3 => ?_⟩
      have f3 := f2.tr (up (by decide) e3)
      refine B 26 0 g3 (by omega) f3 (fun p hp => ?_)
      subst e3; subst e2; subst e1
      by_cases q2 : p = 2
      · subst q2; rw [show (2 : Nat) = Int.toNat (2 : Int) from rfl, hpC_same]; rfl
      rw [hpC_o2 (show p ≠ Int.toNat (2 : Int) from q2)]
      by_cases q1 : p = 1
      · subst q1; rw [show (1 : Nat) = Int.toNat (1 : Int) from rfl, hpC_same]; rfl
      rw [hpC_o2 (show p ≠ Int.toNat (1 : Int) from q1)]
      by_cases q0 : p = 0
      · subst q0; rw [show (0 : Nat) = Int.toNat (0 : Int) from rfl, hpC_same]; rfl
      rw [hpC_o2 (show p ≠ Int.toNat (0 : Int) from q0), r p (by omega)]
      by_cases y : 10 + 0 ≤ p ∧ p < 36
      · rw [if_pos y]
      · rw [if_neg y]; unfold wE; rw [if_neg q0, if_neg (by omega), if_neg (by omega)]
    | succ j ih =>
      intro i g hi f r
      have ag := M f
      apply f_M_empties_2
      rw [if_pos (by omega), show ai_add (0 : Int) (i : Int) = (i : Int) from by rw [ai_add_eq (by omega) (by omega)]; omega, ab_1 (by omega), Int.toNat_natCast, ag.row_n, ag.row_t]
      refine ⟨ag.tag, ⟨rfl, by omega, by show (i : Int) < 24240; omega⟩, fun g1 e1 => ?_⟩
      refine ih (i + 1) g1 (by omega) (f.tr (up (by omega) e1)) (fun p hp => ?_)
      subst e1
      by_cases q : p = i
      · rw [q, hpC_same]
      · rw [hpC_o2 q]; exact r p (by omega)
  apply f_M_empties_0
  exact L 1010 0 h (by omega) FrP.rf (fun p hp => by omega)
theorem OB.at {r K0 na : Nat} {h g : Hp} {tm : Nat → Nat × Nat} {fm : Nat → Int} {cm : Nat → Nat → Int} (c : OB r h g K0 na tm fm cm) {a j : Nat} (ha : a = r + j) (h1 : 1 ≤ j) (h2 : j ≤ na) : hpT g a = tm j := by subst ha; exact c.t j h1 h2
theorem upC_o {cm : Nat → Nat → Int} {j i a b : Nat} {v : Int} (h : a ≠ j) : upC cm j i v a b = cm a b := by unfold upC; rw [if_neg (fun z => h z.1)]
theorem mi_end {h g0 : Hp} {m : Nat} (ma : modelAt g0 m) (y2 : hpC g0 m 2 = 0) (y5 : hpC g0 m 5 = 0) (y6 : hpC g0 m 6 = 0) (y7 : hpC g0 m 7 = -1) (y22 : hpC g0 m 22 = 0) (c5 : ∀ i, i < 68 → hpC g0 (m + 5) i = owT.getD i 0) (c10 : ∀ i, hpC g0 (m + 10) i = 0) (c2 : ∀ i, hpC g0 (m + 2) i = 0) (c3 : ∀ i, hpC g0 (m + 3) i = 0) (sz : g0.1 = m + 20) (fb : FrB m (fun _ _ => False) h g0) {d : Nat} {R : PR} (hd : 2 ≤ d) (H : ∀ h', h'.1 = m + 20 → FrB m (fun _ _ => False) h h' → (∀ b U iw, MS h' m wE b 0 [] 0 U (fun _ => false) iw) → hpC h' m 6 = 0 → hpC h' m 7 = -1 → (∀ i, hpC h' (m + 3) i = 0) → R none h') : ∃ Q1 : PR, Wp m_M_empties 0 [some (xR m), some (xI (0 : Int)), none] [] g0 (d - 1) 0 0 Q1 ∧ ∀ (h1 : Hp), Q1 none h1 → R none h1 := by
  refine ⟨fun _ h1 => R none h1, sp_empties0 ma (fun g f r => ?_), fun h1 q => q⟩
  have no : ∀ q p, q ≠ m + 1 → hpC g q p = hpC g0 q p := fun q p hq => f.2.2 q p (fun z => hq z.1)
  refine H g (by rw [f.1]; exact sz) ⟨fun q hq => by rw [f.2.1]; exact fb.1 q hq, fun q p hq z => by rw [no _ _ (by omega)]; exact fb.2 q p hq z⟩ (fun b U iw => ⟨⟨ma.fo f (Srow_off m), r⟩, ⟨by rw [no _ _ (by omega)]; exact y5, by omega, fun i hi => by omega⟩, fun i hi => ?_, ⟨by rw [no _ _ (by omega)]; exact y22, fun i hi => ?_⟩, by rw [no _ _ (by omega)]; exact y2, fun i hi => by omega, fun k hk => ?_, fun k hk z => by cases z⟩) (by rw [no _ _ (by omega)]; exact y6) (by rw [no _ _ (by omega)]; exact y7) (fun i => ?_)
  · rw [no _ _ (by omega)]; exact c5 i hi
  · rw [no _ _ (by omega), c10]; simp
  · rw [no _ _ (by omega), c2]; rfl
  · rw [no _ _ (by omega), c3]
set_option maxHeartbeats 4000000 in
theorem sp_Minit {h : Hp} {m : Nat} (hb : h.1 = m + 1) (ht : (hpT h m).1 = 12) (hm : m ≠ 0) (hz : ∀ p, hpC h m p = 0) {d : Nat} {R : PR} (hd : 2 ≤ d) (H : ∀ h', h'.1 = m + 20 → FrB m (fun _ _ => False) h h' → (∀ b U iw, MS h' m wE b 0 [] 0 U (fun _ => false) iw) → hpC h' m 6 = 0 → hpC h' m 7 = -1 → (∀ i, hpC h' (m + 3) i = 0) → R none h') : Wp m_M_init 0 [some (xR m)] [] h d 19 26708 R := by
  apply b_M_init_0
  have c0 := OB.st hb ht
  refine ⟨⟨by omega, hm⟩, ?_⟩
  have z0 := c0.sz
  refine ⟨⟨by decide, by decide, by decide, by decide⟩, fun g1 e1 => ?_⟩
  have c1 := c0.N e1 (fun _ => rfl)
  clear e1 c0
  refine ⟨c1.tag, fun g2 e2 => ?_⟩
  rw [z0] at e2
  have c2 := c1.F e2
  clear e2 c1
  have z2 := c2.sz
  refine ⟨⟨by decide, by decide, by decide, by decide⟩, fun g3 e3 => ?_⟩
  have c3 := c2.N e3 (fun _ => rfl)
  clear e3 c2
  refine ⟨c3.tag, fun g4 e4 => ?_⟩
  rw [z2] at e4
  have c4 := c3.F e4
  clear e4 c3
  refine ⟨c4.tag, fun g5 e5 => ?_⟩
  have c5 := c4.F e5
  clear e5 c4
  have z5 := c5.sz
  refine ⟨⟨by decide, by decide, by decide, by decide⟩, fun g6 e6 => ?_⟩
  have c6 := c5.N e6 (fun _ => rfl)
  clear e6 c5
  refine ⟨c6.tag, fun g7 e7 => ?_⟩
  rw [z5] at e7
  have c7 := c6.F e7
  clear e7 c6
  have z7 := c7.sz
  refine ⟨⟨by decide, by decide, by decide, by decide⟩, fun g8 e8 => ?_⟩
  have c8 := c7.N e8 (fun _ => rfl)
  clear e8 c7
  refine ⟨c8.tag, fun g9 e9 => ?_⟩
  rw [z7] at e9
  have c9 := c8.F e9
  clear e9 c8
  refine ⟨c9.tag, fun g10 e10 => ?_⟩
  have c10 := c9.F e10
  clear e10 c9
  refine ⟨c10.tag, fun g11 e11 => ?_⟩
  have c11 := c10.F e11
  clear e11 c10
  refine ⟨c11.tag, fun g12 e12 => ?_⟩
  have c12 := c11.F e12
  clear e12 c11
  refine ⟨c12.tag, fun g13 e13 => ?_⟩
  have c13 := c12.F e13
  clear e13 c12
  refine ⟨c13.tag, fun g14 e14 => ?_⟩
  have c14 := c13.F e14
  clear e14 c13
  refine ⟨c14.tag, fun g15 e15 => ?_⟩
  have c15 := c14.F e15
  clear e15 c14
  refine ⟨c15.tag, fun g16 e16 => ?_⟩
  have c16 := c15.F e16
  clear e16 c15
  refine ⟨c16.tag, fun g17 e17 => ?_⟩
  have c17 := c16.F e17
  clear e17 c16
  have z17 := c17.sz
  refine ⟨⟨by decide, by decide, by decide, by decide⟩, fun g18 e18 => ?_⟩
  have c18 := c17.N e18 (fun _ => rfl)
  clear e18 c17
  have zo : g17.1 = m + 5 := z17
  have q18 := c18.at zo (by decide) (by decide)
  refine ⟨⟨by rw [q18]; rfl, by decide, by rw [q18]; decide⟩, fun g19 e19 => ?_⟩
  have c19 := c18.T zo (by decide) e19
  clear e19 c18 q18
  have q19 := c19.at zo (by decide) (by decide)
  refine ⟨⟨by rw [q19]; rfl, by decide, by rw [q19]; decide⟩, fun g20 e20 => ?_⟩
  have c20 := c19.T zo (by decide) e20
  clear e20 c19 q19
  have q20 := c20.at zo (by decide) (by decide)
  refine ⟨⟨by rw [q20]; rfl, by decide, by rw [q20]; decide⟩, fun g21 e21 => ?_⟩
  have c21 := c20.T zo (by decide) e21
  clear e21 c20 q20
  have q21 := c21.at zo (by decide) (by decide)
  refine ⟨⟨by rw [q21]; rfl, by decide, by rw [q21]; decide⟩, fun g22 e22 => ?_⟩
  have c22 := c21.T zo (by decide) e22
  clear e22 c21 q21
  have q22 := c22.at zo (by decide) (by decide)
  refine ⟨⟨by rw [q22]; rfl, by decide, by rw [q22]; decide⟩, fun g23 e23 => ?_⟩
  have c23 := c22.T zo (by decide) e23
  clear e23 c22 q22
  have q23 := c23.at zo (by decide) (by decide)
  refine ⟨⟨by rw [q23]; rfl, by decide, by rw [q23]; decide⟩, fun g24 e24 => ?_⟩
  have c24 := c23.T zo (by decide) e24
  clear e24 c23 q23
  have q24 := c24.at zo (by decide) (by decide)
  refine ⟨⟨by rw [q24]; rfl, by decide, by rw [q24]; decide⟩, fun g25 e25 => ?_⟩
  have c25 := c24.T zo (by decide) e25
  clear e25 c24 q24
  have q25 := c25.at zo (by decide) (by decide)
  refine ⟨⟨by rw [q25]; rfl, by decide, by rw [q25]; decide⟩, fun g26 e26 => ?_⟩
  have c26 := c25.T zo (by decide) e26
  clear e26 c25 q25
  have q26 := c26.at zo (by decide) (by decide)
  refine ⟨⟨by rw [q26]; rfl, by decide, by rw [q26]; decide⟩, fun g27 e27 => ?_⟩
  have c27 := c26.T zo (by decide) e27
  clear e27 c26 q26
  have q27 := c27.at zo (by decide) (by decide)
  refine ⟨⟨by rw [q27]; rfl, by decide, by rw [q27]; decide⟩, fun g28 e28 => ?_⟩
  have c28 := c27.T zo (by decide) e28
  clear e28 c27 q27
  have q28 := c28.at zo (by decide) (by decide)
  refine ⟨⟨by rw [q28]; rfl, by decide, by rw [q28]; decide⟩, fun g29 e29 => ?_⟩
  have c29 := c28.T zo (by decide) e29
  clear e29 c28 q28
  have q29 := c29.at zo (by decide) (by decide)
  refine ⟨⟨by rw [q29]; rfl, by decide, by rw [q29]; decide⟩, fun g30 e30 => ?_⟩
  have c30 := c29.T zo (by decide) e30
  clear e30 c29 q29
  have q30 := c30.at zo (by decide) (by decide)
  refine ⟨⟨by rw [q30]; rfl, by decide, by rw [q30]; decide⟩, fun g31 e31 => ?_⟩
  have c31 := c30.T zo (by decide) e31
  clear e31 c30 q30
  have q31 := c31.at zo (by decide) (by decide)
  refine ⟨⟨by rw [q31]; rfl, by decide, by rw [q31]; decide⟩, fun g32 e32 => ?_⟩
  have c32 := c31.T zo (by decide) e32
  clear e32 c31 q31
  have q32 := c32.at zo (by decide) (by decide)
  refine ⟨⟨by rw [q32]; rfl, by decide, by rw [q32]; decide⟩, fun g33 e33 => ?_⟩
  have c33 := c32.T zo (by decide) e33
  clear e33 c32 q32
  have q33 := c33.at zo (by decide) (by decide)
  refine ⟨⟨by rw [q33]; rfl, by decide, by rw [q33]; decide⟩, fun g34 e34 => ?_⟩
  have c34 := c33.T zo (by decide) e34
  clear e34 c33 q33
  have q34 := c34.at zo (by decide) (by decide)
  refine ⟨⟨by rw [q34]; rfl, by decide, by rw [q34]; decide⟩, fun g35 e35 => ?_⟩
  have c35 := c34.T zo (by decide) e35
  clear e35 c34 q34
  have q35 := c35.at zo (by decide) (by decide)
  refine ⟨⟨by rw [q35]; rfl, by decide, by rw [q35]; decide⟩, fun g36 e36 => ?_⟩
  have c36 := c35.T zo (by decide) e36
  clear e36 c35 q35
  have q36 := c36.at zo (by decide) (by decide)
  refine ⟨⟨by rw [q36]; rfl, by decide, by rw [q36]; decide⟩, fun g37 e37 => ?_⟩
  have c37 := c36.T zo (by decide) e37
  clear e37 c36 q36
  have q37 := c37.at zo (by decide) (by decide)
  refine ⟨⟨by rw [q37]; rfl, by decide, by rw [q37]; decide⟩, fun g38 e38 => ?_⟩
  have c38 := c37.T zo (by decide) e38
  clear e38 c37 q37
  have q38 := c38.at zo (by decide) (by decide)
  refine ⟨⟨by rw [q38]; rfl, by decide, by rw [q38]; decide⟩, fun g39 e39 => ?_⟩
  have c39 := c38.T zo (by decide) e39
  clear e39 c38 q38
  have q39 := c39.at zo (by decide) (by decide)
  refine ⟨⟨by rw [q39]; rfl, by decide, by rw [q39]; decide⟩, fun g40 e40 => ?_⟩
  have c40 := c39.T zo (by decide) e40
  clear e40 c39 q39
  have q40 := c40.at zo (by decide) (by decide)
  refine ⟨⟨by rw [q40]; rfl, by decide, by rw [q40]; decide⟩, fun g41 e41 => ?_⟩
  have c41 := c40.T zo (by decide) e41
  clear e41 c40 q40
  have q41 := c41.at zo (by decide) (by decide)
  refine ⟨⟨by rw [q41]; rfl, by decide, by rw [q41]; decide⟩, fun g42 e42 => ?_⟩
  have c42 := c41.T zo (by decide) e42
  clear e42 c41 q41
  have q42 := c42.at zo (by decide) (by decide)
  refine ⟨⟨by rw [q42]; rfl, by decide, by rw [q42]; decide⟩, fun g43 e43 => ?_⟩
  have c43 := c42.T zo (by decide) e43
  clear e43 c42 q42
  have q43 := c43.at zo (by decide) (by decide)
  refine ⟨⟨by rw [q43]; rfl, by decide, by rw [q43]; decide⟩, fun g44 e44 => ?_⟩
  have c44 := c43.T zo (by decide) e44
  clear e44 c43 q43
  have q44 := c44.at zo (by decide) (by decide)
  refine ⟨⟨by rw [q44]; rfl, by decide, by rw [q44]; decide⟩, fun g45 e45 => ?_⟩
  have c45 := c44.T zo (by decide) e45
  clear e45 c44 q44
  have q45 := c45.at zo (by decide) (by decide)
  refine ⟨⟨by rw [q45]; rfl, by decide, by rw [q45]; decide⟩, fun g46 e46 => ?_⟩
  have c46 := c45.T zo (by decide) e46
  clear e46 c45 q45
  have q46 := c46.at zo (by decide) (by decide)
  refine ⟨⟨by rw [q46]; rfl, by decide, by rw [q46]; decide⟩, fun g47 e47 => ?_⟩
  have c47 := c46.T zo (by decide) e47
  clear e47 c46 q46
  have q47 := c47.at zo (by decide) (by decide)
  refine ⟨⟨by rw [q47]; rfl, by decide, by rw [q47]; decide⟩, fun g48 e48 => ?_⟩
  have c48 := c47.T zo (by decide) e48
  clear e48 c47 q47
  have q48 := c48.at zo (by decide) (by decide)
  refine ⟨⟨by rw [q48]; rfl, by decide, by rw [q48]; decide⟩, fun g49 e49 => ?_⟩
  have c49 := c48.T zo (by decide) e49
  clear e49 c48 q48
  have q49 := c49.at zo (by decide) (by decide)
  refine ⟨⟨by rw [q49]; rfl, by decide, by rw [q49]; decide⟩, fun g50 e50 => ?_⟩
  have c50 := c49.T zo (by decide) e50
  clear e50 c49 q49
  have q50 := c50.at zo (by decide) (by decide)
  refine ⟨⟨by rw [q50]; rfl, by decide, by rw [q50]; decide⟩, fun g51 e51 => ?_⟩
  have c51 := c50.T zo (by decide) e51
  clear e51 c50 q50
  have q51 := c51.at zo (by decide) (by decide)
  refine ⟨⟨by rw [q51]; rfl, by decide, by rw [q51]; decide⟩, fun g52 e52 => ?_⟩
  have c52 := c51.T zo (by decide) e52
  clear e52 c51 q51
  have q52 := c52.at zo (by decide) (by decide)
  refine ⟨⟨by rw [q52]; rfl, by decide, by rw [q52]; decide⟩, fun g53 e53 => ?_⟩
  have c53 := c52.T zo (by decide) e53
  clear e53 c52 q52
  have q53 := c53.at zo (by decide) (by decide)
  refine ⟨⟨by rw [q53]; rfl, by decide, by rw [q53]; decide⟩, fun g54 e54 => ?_⟩
  have c54 := c53.T zo (by decide) e54
  clear e54 c53 q53
  have q54 := c54.at zo (by decide) (by decide)
  refine ⟨⟨by rw [q54]; rfl, by decide, by rw [q54]; decide⟩, fun g55 e55 => ?_⟩
  have c55 := c54.T zo (by decide) e55
  clear e55 c54 q54
  have q55 := c55.at zo (by decide) (by decide)
  refine ⟨⟨by rw [q55]; rfl, by decide, by rw [q55]; decide⟩, fun g56 e56 => ?_⟩
  have c56 := c55.T zo (by decide) e56
  clear e56 c55 q55
  have q56 := c56.at zo (by decide) (by decide)
  refine ⟨⟨by rw [q56]; rfl, by decide, by rw [q56]; decide⟩, fun g57 e57 => ?_⟩
  have c57 := c56.T zo (by decide) e57
  clear e57 c56 q56
  have q57 := c57.at zo (by decide) (by decide)
  refine ⟨⟨by rw [q57]; rfl, by decide, by rw [q57]; decide⟩, fun g58 e58 => ?_⟩
  have c58 := c57.T zo (by decide) e58
  clear e58 c57 q57
  have q58 := c58.at zo (by decide) (by decide)
  refine ⟨⟨by rw [q58]; rfl, by decide, by rw [q58]; decide⟩, fun g59 e59 => ?_⟩
  have c59 := c58.T zo (by decide) e59
  clear e59 c58 q58
  have q59 := c59.at zo (by decide) (by decide)
  refine ⟨⟨by rw [q59]; rfl, by decide, by rw [q59]; decide⟩, fun g60 e60 => ?_⟩
  have c60 := c59.T zo (by decide) e60
  clear e60 c59 q59
  have q60 := c60.at zo (by decide) (by decide)
  refine ⟨⟨by rw [q60]; rfl, by decide, by rw [q60]; decide⟩, fun g61 e61 => ?_⟩
  have c61 := c60.T zo (by decide) e61
  clear e61 c60 q60
  have q61 := c61.at zo (by decide) (by decide)
  refine ⟨⟨by rw [q61]; rfl, by decide, by rw [q61]; decide⟩, fun g62 e62 => ?_⟩
  have c62 := c61.T zo (by decide) e62
  clear e62 c61 q61
  have q62 := c62.at zo (by decide) (by decide)
  refine ⟨⟨by rw [q62]; rfl, by decide, by rw [q62]; decide⟩, fun g63 e63 => ?_⟩
  have c63 := c62.T zo (by decide) e63
  clear e63 c62 q62
  have q63 := c63.at zo (by decide) (by decide)
  refine ⟨⟨by rw [q63]; rfl, by decide, by rw [q63]; decide⟩, fun g64 e64 => ?_⟩
  have c64 := c63.T zo (by decide) e64
  clear e64 c63 q63
  have q64 := c64.at zo (by decide) (by decide)
  refine ⟨⟨by rw [q64]; rfl, by decide, by rw [q64]; decide⟩, fun g65 e65 => ?_⟩
  have c65 := c64.T zo (by decide) e65
  clear e65 c64 q64
  have q65 := c65.at zo (by decide) (by decide)
  refine ⟨⟨by rw [q65]; rfl, by decide, by rw [q65]; decide⟩, fun g66 e66 => ?_⟩
  have c66 := c65.T zo (by decide) e66
  clear e66 c65 q65
  have q66 := c66.at zo (by decide) (by decide)
  refine ⟨⟨by rw [q66]; rfl, by decide, by rw [q66]; decide⟩, fun g67 e67 => ?_⟩
  have c67 := c66.T zo (by decide) e67
  clear e67 c66 q66
  have q67 := c67.at zo (by decide) (by decide)
  refine ⟨⟨by rw [q67]; rfl, by decide, by rw [q67]; decide⟩, fun g68 e68 => ?_⟩
  have c68 := c67.T zo (by decide) e68
  clear e68 c67 q67
  have q68 := c68.at zo (by decide) (by decide)
  refine ⟨⟨by rw [q68]; rfl, by decide, by rw [q68]; decide⟩, fun g69 e69 => ?_⟩
  have c69 := c68.T zo (by decide) e69
  clear e69 c68 q68
  have q69 := c69.at zo (by decide) (by decide)
  refine ⟨⟨by rw [q69]; rfl, by decide, by rw [q69]; decide⟩, fun g70 e70 => ?_⟩
  have c70 := c69.T zo (by decide) e70
  clear e70 c69 q69
  have q70 := c70.at zo (by decide) (by decide)
  refine ⟨⟨by rw [q70]; rfl, by decide, by rw [q70]; decide⟩, fun g71 e71 => ?_⟩
  have c71 := c70.T zo (by decide) e71
  clear e71 c70 q70
  have q71 := c71.at zo (by decide) (by decide)
  refine ⟨⟨by rw [q71]; rfl, by decide, by rw [q71]; decide⟩, fun g72 e72 => ?_⟩
  have c72 := c71.T zo (by decide) e72
  clear e72 c71 q71
  have q72 := c72.at zo (by decide) (by decide)
  refine ⟨⟨by rw [q72]; rfl, by decide, by rw [q72]; decide⟩, fun g73 e73 => ?_⟩
  have c73 := c72.T zo (by decide) e73
  clear e73 c72 q72
  have q73 := c73.at zo (by decide) (by decide)
  refine ⟨⟨by rw [q73]; rfl, by decide, by rw [q73]; decide⟩, fun g74 e74 => ?_⟩
  have c74 := c73.T zo (by decide) e74
  clear e74 c73 q73
  have q74 := c74.at zo (by decide) (by decide)
  refine ⟨⟨by rw [q74]; rfl, by decide, by rw [q74]; decide⟩, fun g75 e75 => ?_⟩
  have c75 := c74.T zo (by decide) e75
  clear e75 c74 q74
  have q75 := c75.at zo (by decide) (by decide)
  refine ⟨⟨by rw [q75]; rfl, by decide, by rw [q75]; decide⟩, fun g76 e76 => ?_⟩
  have c76 := c75.T zo (by decide) e76
  clear e76 c75 q75
  have q76 := c76.at zo (by decide) (by decide)
  refine ⟨⟨by rw [q76]; rfl, by decide, by rw [q76]; decide⟩, fun g77 e77 => ?_⟩
  have c77 := c76.T zo (by decide) e77
  clear e77 c76 q76
  have q77 := c77.at zo (by decide) (by decide)
  refine ⟨⟨by rw [q77]; rfl, by decide, by rw [q77]; decide⟩, fun g78 e78 => ?_⟩
  have c78 := c77.T zo (by decide) e78
  clear e78 c77 q77
  have q78 := c78.at zo (by decide) (by decide)
  refine ⟨⟨by rw [q78]; rfl, by decide, by rw [q78]; decide⟩, fun g79 e79 => ?_⟩
  have c79 := c78.T zo (by decide) e79
  clear e79 c78 q78
  have q79 := c79.at zo (by decide) (by decide)
  refine ⟨⟨by rw [q79]; rfl, by decide, by rw [q79]; decide⟩, fun g80 e80 => ?_⟩
  have c80 := c79.T zo (by decide) e80
  clear e80 c79 q79
  have q80 := c80.at zo (by decide) (by decide)
  refine ⟨⟨by rw [q80]; rfl, by decide, by rw [q80]; decide⟩, fun g81 e81 => ?_⟩
  have c81 := c80.T zo (by decide) e81
  clear e81 c80 q80
  have q81 := c81.at zo (by decide) (by decide)
  refine ⟨⟨by rw [q81]; rfl, by decide, by rw [q81]; decide⟩, fun g82 e82 => ?_⟩
  have c82 := c81.T zo (by decide) e82
  clear e82 c81 q81
  have q82 := c82.at zo (by decide) (by decide)
  refine ⟨⟨by rw [q82]; rfl, by decide, by rw [q82]; decide⟩, fun g83 e83 => ?_⟩
  have c83 := c82.T zo (by decide) e83
  clear e83 c82 q82
  have q83 := c83.at zo (by decide) (by decide)
  refine ⟨⟨by rw [q83]; rfl, by decide, by rw [q83]; decide⟩, fun g84 e84 => ?_⟩
  have c84 := c83.T zo (by decide) e84
  clear e84 c83 q83
  have q84 := c84.at zo (by decide) (by decide)
  refine ⟨⟨by rw [q84]; rfl, by decide, by rw [q84]; decide⟩, fun g85 e85 => ?_⟩
  have c85 := c84.T zo (by decide) e85
  clear e85 c84 q84
  have q85 := c85.at zo (by decide) (by decide)
  refine ⟨⟨by rw [q85]; rfl, by decide, by rw [q85]; decide⟩, fun g86 e86 => ?_⟩
  have c86 := c85.T zo (by decide) e86
  clear e86 c85 q85
  refine ⟨c86.tag, fun g87 e87 => ?_⟩
  rw [z17] at e87
  have c87 := c86.F e87
  clear e87 c86
  obtain ⟨CM, CA, CB, c87⟩ : ∃ CM : Nat → Nat → Int, (∀ i, i < 68 → CM 5 i = owT.getD i 0) ∧ (∀ j i, j ≠ 5 → CM j i = 0) ∧ OB m h g87 12 5 _ _ CM := ⟨_, by decide +kernel, fun j i hj => by simp only [upC_o hj], c87⟩
  refine ⟨c87.tag, fun g88 e88 => ?_⟩
  have c88 := c87.F e88
  clear e88 c87
  refine ⟨c88.tag, fun g89 e89 => ?_⟩
  have c89 := c88.F e89
  clear e89 c88
  have z89 := c89.sz
  refine ⟨⟨by decide, by decide, by decide, by decide⟩, fun g90 e90 => ?_⟩
  have c90 := c89.N e90 (fun q => CB 6 q (by decide))
  clear e90 c89
  refine ⟨c90.tag, fun g91 e91 => ?_⟩
  rw [z89] at e91
  have c91 := c90.F e91
  clear e91 c90
  refine ⟨c91.tag, fun g92 e92 => ?_⟩
  have c92 := c91.F e92
  clear e92 c91
  have z92 := c92.sz
  refine ⟨⟨by decide, by decide, by decide, by decide⟩, fun g93 e93 => ?_⟩
  have c93 := c92.N e93 (fun q => CB 7 q (by decide))
  clear e93 c92
  refine ⟨c93.tag, fun g94 e94 => ?_⟩
  rw [z92] at e94
  have c94 := c93.F e94
  clear e94 c93
  have z94 := c94.sz
  refine ⟨⟨by decide, by decide, by decide, by decide⟩, fun g95 e95 => ?_⟩
  have c95 := c94.N e95 (fun q => CB 8 q (by decide))
  clear e95 c94
  refine ⟨c95.tag, fun g96 e96 => ?_⟩
  rw [z94] at e96
  have c96 := c95.F e96
  clear e96 c95
  have z96 := c96.sz
  refine ⟨⟨by decide, by decide, by decide, by decide⟩, fun g97 e97 => ?_⟩
  have c97 := c96.N e97 (fun q => CB 9 q (by decide))
  clear e97 c96
  refine ⟨c97.tag, fun g98 e98 => ?_⟩
  rw [z96] at e98
  have c98 := c97.F e98
  clear e98 c97
  have z98 := c98.sz
  refine ⟨⟨by decide, by decide, by decide, by decide⟩, fun g99 e99 => ?_⟩
  have c99 := c98.N e99 (fun q => CB 10 q (by decide))
  clear e99 c98
  refine ⟨c99.tag, fun g100 e100 => ?_⟩
  rw [z98] at e100
  have c100 := c99.F e100
  clear e100 c99
  refine ⟨c100.tag, fun g101 e101 => ?_⟩
  have c101 := c100.F e101
  clear e101 c100
  have z101 := c101.sz
  refine ⟨⟨by decide, by decide, by decide, by decide⟩, fun g102 e102 => ?_⟩
  have c102 := c101.N e102 (fun q => CB 11 q (by decide))
  clear e102 c101
  refine ⟨c102.tag, fun g103 e103 => ?_⟩
  rw [z101] at e103
  have c103 := c102.F e103
  clear e103 c102
  have z103 := c103.sz
  refine ⟨⟨by decide, by decide, by decide, by decide⟩, fun g104 e104 => ?_⟩
  have c104 := c103.N e104 (fun q => CB 12 q (by decide))
  clear e104 c103
  refine ⟨c104.tag, fun g105 e105 => ?_⟩
  rw [z103] at e105
  have c105 := c104.F e105
  clear e105 c104
  have z105 := c105.sz
  refine ⟨⟨by decide, by decide, by decide, by decide⟩, fun g106 e106 => ?_⟩
  have c106 := c105.N e106 (fun q => CB 13 q (by decide))
  clear e106 c105
  refine ⟨c106.tag, fun g107 e107 => ?_⟩
  rw [z105] at e107
  have c107 := c106.F e107
  clear e107 c106
  have z107 := c107.sz
  refine ⟨⟨by decide, by decide, by decide, by decide⟩, fun g108 e108 => ?_⟩
  have c108 := c107.N e108 (fun q => CB 14 q (by decide))
  clear e108 c107
  refine ⟨c108.tag, fun g109 e109 => ?_⟩
  rw [z107] at e109
  have c109 := c108.F e109
  clear e109 c108
  have z109 := c109.sz
  refine ⟨⟨by decide, by decide, by decide, by decide⟩, fun g110 e110 => ?_⟩
  have c110 := c109.N e110 (fun q => CB 15 q (by decide))
  clear e110 c109
  refine ⟨c110.tag, fun g111 e111 => ?_⟩
  rw [z109] at e111
  have c111 := c110.F e111
  clear e111 c110
  refine ⟨c111.tag, fun g112 e112 => ?_⟩
  have c112 := c111.F e112
  clear e112 c111
  have z112 := c112.sz
  refine ⟨⟨by decide, by decide, by decide, by decide⟩, fun g113 e113 => ?_⟩
  have c113 := c112.N e113 (fun q => CB 16 q (by decide))
  clear e113 c112
  refine ⟨c113.tag, fun g114 e114 => ?_⟩
  rw [z112] at e114
  have c114 := c113.F e114
  clear e114 c113
  refine ⟨c114.tag, fun g115 e115 => ?_⟩
  have c115 := c114.F e115
  clear e115 c114
  have z115 := c115.sz
  refine ⟨⟨by decide, by decide, by decide, by decide⟩, fun g116 e116 => ?_⟩
  have c116 := c115.N e116 (fun q => CB 17 q (by decide))
  clear e116 c115
  refine ⟨c116.tag, fun g117 e117 => ?_⟩
  rw [z115] at e117
  have c117 := c116.F e117
  clear e117 c116
  have z117 := c117.sz
  refine ⟨⟨by decide, by decide, by decide, by decide⟩, fun g118 e118 => ?_⟩
  have c118 := c117.N e118 (fun q => CB 18 q (by decide))
  clear e118 c117
  refine ⟨c118.tag, fun g119 e119 => ?_⟩
  rw [z117] at e119
  have c119 := c118.F e119
  clear e119 c118
  have z119 := c119.sz
  refine ⟨⟨by decide, by decide, by decide, by decide⟩, fun g120 e120 => ?_⟩
  have c120 := c119.N e120 (fun q => CB 19 q (by decide))
  clear e120 c119
  refine ⟨c120.tag, fun g121 e121 => ?_⟩
  rw [z119] at e121
  have c121 := c120.F e121
  clear e121 c120
  have ma : modelAt g121 m := ⟨c121.tag, c121.f 0, c121.f 1, c121.f 3, c121.f 4, c121.f 13, c121.f 16, c121.f 18, c121.f 19, c121.f 20, c121.f 21, c121.f 23, c121.f 24, c121.f 25, c121.f 26, c121.f 27, c121.f 29, c121.f 31, c121.f 32, c121.f 33, c121.t 1 (by decide) (by decide), c121.t 2 (by decide) (by decide), c121.t 3 (by decide) (by decide), c121.t 4 (by decide) (by decide), c121.t 5 (by decide) (by decide), c121.t 6 (by decide) (by decide), c121.t 7 (by decide) (by decide), c121.t 8 (by decide) (by decide), c121.t 9 (by decide) (by decide), c121.t 10 (by decide) (by decide), c121.t 11 (by decide) (by decide), c121.t 12 (by decide) (by decide), c121.t 13 (by decide) (by decide), c121.t 14 (by decide) (by decide), c121.t 15 (by decide) (by decide), c121.t 16 (by decide) (by decide), c121.t 17 (by decide) (by decide), c121.t 18 (by decide) (by decide), c121.t 19 (by decide) (by decide)⟩
  have y2 : hpC g121 m 2 = 0 := c121.f 2
  have y5 : hpC g121 m 5 = 0 := c121.f 5
  have y6 : hpC g121 m 6 = 0 := c121.f 6
  have y7 : hpC g121 m 7 = -1 := c121.f 7
  have y22 : hpC g121 m 22 = 0 := (c121.f 22).trans (by first | rfl | exact hz 22)
  have sz : g121.1 = m + 20 := c121.sz
  refine ⟨⟨by omega, by omega, by omega, ma.tag⟩, mi_end ma y2 y5 y6 y7 y22 (fun i hi => ((c121.2.2.2.2 5 (by decide) (by decide)).2 i).trans (CA i hi)) (fun i => ((c121.2.2.2.2 10 (by decide) (by decide)).2 i).trans (CB 10 i (by decide))) (fun i => ((c121.2.2.2.2 2 (by decide) (by decide)).2 i).trans (CB 2 i (by decide))) (fun i => ((c121.2.2.2.2 3 (by decide) (by decide)).2 i).trans (CB 3 i (by decide))) sz c121.B hd H⟩
