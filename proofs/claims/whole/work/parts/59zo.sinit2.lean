/-! ===== a new object of the class, whole ===== -/
def SI (h : Hp) (x : Nat) : Prop := sAt h x ∧ (tapeAt h x ∧ hpC h (x + 1) 1 = 0) ∧ rdAt h x ∧ earAt h (x + 28) (x + 29) ∧ (plAt h (x + 30) ∧ hpC h (x + 30) 2 = 0 ∧ hpC h (x + 30) 3 = 0) ∧ numAt h (x + 36) ∧ TR h (x + 43) wE ∧ ((hpT h (x + 66)).1 = 5 ∧ hpC h (x + 66) 0 = ((x + 67 : Nat) : Int) ∧ hpC h (x + 66) 1 = 0 ∧ hpC h (x + 66) 2 = 0 ∧ hpT h (x + 67) = (24, 20) ∧ ∀ p, hpC h (x + 67) p = 0) ∧ (hpT h (x + 68) = (24, 2) ∧ ∀ p, hpC h (x + 68) p = 0) ∧ (hpT h (x + 69) = (20, 5) ∧ ∀ p, hpC h (x + 69) p = 0) ∧ hpC h x 9 = 0 ∧ hpC h x 10 = -1 ∧ hpC h x 11 = 0
theorem FrB.tr {b : Nat} {h h' h'' : Hp} (a : FrB b (fun _ _ => False) h h') (c : FrB b (fun _ _ => False) h' h'') : FrB b (fun _ _ => False) h h'' := ⟨fun q hq => (c.1 q hq).trans (a.1 q hq), fun q p hq z => (c.2 q p hq z).trans (a.2 q p hq z)⟩
theorem FX.B {b t f : Nat} {g g' : Hp} (x : FX b t f g g') (ht : t < b) : FrB t (fun _ _ => False) g g' := ⟨fun q hq => x.1 q (by omega), fun q p hq _ => x.2.1 q p (by omega) (by omega)⟩
theorem tapeAt.eq {h h' : Hp} {x : Nat} (a : tapeAt h x) (e : eqC h h' (x + 1) (x + 3)) : tapeAt h' x := by
  obtain ⟨a1, a2, a3, a4, a5, a6⟩ := a
  exact ⟨by rw [e.T _ (by omega) (by omega)]; exact a1, by rw [e.C _ _ (by omega) (by omega)]; exact a2, by rw [e.C _ _ (by omega) (by omega)]; exact a3, by rw [e.T _ (by omega) (by omega)]; exact a4, by rw [e.T _ (by omega) (by omega)]; exact a5, fun i hi => by rw [e.C _ _ (by omega) (by omega)]; exact a6 i hi⟩
theorem earAt.eq {h h' : Hp} {e r : Nat} (a : earAt h e r) (c : ∀ q, q = e ∨ q = r → hpT h' q = hpT h q ∧ ∀ p, hpC h' q p = hpC h q p) : earAt h' e r := ⟨by rw [(c e (Or.inl rfl)).1]; exact a.1, by rw [(c e (Or.inl rfl)).2]; exact a.2.1, by rw [(c r (Or.inr rfl)).1]; exact a.2.2.1, a.2.2.2⟩
theorem sp_Sinit {h : Hp} {x : Nat} (hb : h.1 = x + 1) (ht : (hpT h x).1 = 11) (hx : 3 ≤ x) (tx : TX h) {d : Nat} {R : PR} (hd : 7 ≤ d) (H : ∀ h', h'.1 = x + 70 → FrB x (fun _ _ => False) h h' → SI h' x → R none h') : Wp m_S_init 0 [some (xR x)] [] h d 69 3631 R := by
  apply f_S_init_0
  rw [show Int.toNat (2 : Int) = 2 from rfl, show Int.toNat (5 : Int) = 5 from rfl]
  refine ⟨⟨by omega, by omega⟩, ⟨by decide, by decide⟩, fun g1 e1 => ?_⟩
  have l0 : x < h.1 := by omega
  obtain ⟨n1, n2, n3, n4, n5⟩ := nwH hb e1
  have tx1 : TX g1 := ⟨by rw [n3 2 (by omega)]; exact tx.1, fun i hi => by rw [n5 2 i (by omega)]; exact tx.2 i hi⟩
  rw [hb]
  refine ⟨⟨by omega, by decide, by decide, by rw [n2]⟩, sp_Tpinit n1 (by rw [n2]) (by omega) tx1 (n4 1) (by omega) (fun h1 m1 fB fa _ => ?_)⟩
  have T1 : (hpT h1 x).1 = 11 := by rw [fB.1 x (by omega), n3 x (by omega)]; exact ht
  refine ⟨T1, fun g2 e2 => ?_⟩
  rw [← hb] at fB e2
  obtain ⟨m2, s1, k1⟩ := stgO l0 e1 fB e2
  rw [hb] at s1
  have m2 := m2.trans m1
  have T2 : (hpT g2 x).1 = 11 := by rw [(upH e2).2.1]; exact T1
  have tape : tapeAt g2 x ∧ hpC g2 (x + 1) 1 = 0 := by
    obtain ⟨a1, a2, a3, a4, a5, a6, a7⟩ := fa
    have kk : eqC h1 g2 (x + 1) (x + 3) := fun q h1 h2 => k1 q (by omega)
    exact ⟨tapeAt.eq (h := h1) ⟨a1, a2, a4, a5, a6, a7⟩ kk, by rw [kk.C _ _ (by omega) (by omega)]; exact a3⟩
  clear e1 e2 fB k1 T1 m1 n1 n2 n3 n4 n5 tx1 fa
  refine ⟨⟨by decide, by decide⟩, fun g3 e3 => ?_⟩
  have l2 : x < g2.1 := by omega
  obtain ⟨n1, n2, n3, n4, n5⟩ := nwH m2 e3
  rw [m2]
  have r1 : Int.toNat (hpC g3 x 0) = x + 1 := by rw [n5 _ _ (by omega), s1.2.2, Int.toNat_natCast]
  rw [r1]
  refine ⟨by rw [n3 x (by omega)]; exact T2, ?_⟩
  refine ⟨⟨by omega, by decide, by decide, by rw [n2]⟩, sp_Rdinit (r1 := x + 1) n1 (by rw [n2]) (by omega) (by omega) (fun h2 m3 fB fa _ => ?_)⟩
  have T3 : (hpT h2 x).1 = 11 := by rw [fB.1 x (by omega), n3 x (by omega)]; exact T2
  refine ⟨T3, fun g4 e4 => ?_⟩
  rw [← m2] at fB e4
  obtain ⟨m4, s2, k1⟩ := stgO l2 e3 fB e4
  rw [m2] at s2
  have m4 := m4.trans m3
  have T4 : (hpT g4 x).1 = 11 := by rw [(upH e4).2.1]; exact T3
  have kk : eqC h2 g4 (x + 4) (x + 27) := fun q h1 h2 => k1 q (by omega)
  have rd : rdAt g4 x := rdAt.eq (h := h2) kk ⟨fa.1, fa.2.1, fa.2.2.1, fa.2.2.2⟩
  clear r1
  clear e3 e4 fB k1 kk T3 m3 n1 n2 n3 n4 n5 fa
  refine ⟨⟨by decide, by decide⟩, fun g5 e5 => ?_⟩
  have l4 : x < g4.1 := by omega
  obtain ⟨n1, n2, n3, n4, n5⟩ := nwH m4 e5
  rw [m4]
  refine ⟨⟨by omega, by decide, by decide, by rw [n2]⟩, sp_Einit n1 (by rw [n2]) (by omega) (by omega) (fun h3 m5 fB fa _ => ?_)⟩
  have T5 : (hpT h3 x).1 = 11 := by rw [fB.1 x (by omega), n3 x (by omega)]; exact T4
  refine ⟨T5, fun g6 e6 => ?_⟩
  rw [← m4] at fB e6
  obtain ⟨m6, s3, k1⟩ := stgO l4 e5 fB e6
  rw [m4] at s3
  have m6 := m6.trans m5
  have T6 : (hpT g6 x).1 = 11 := by rw [(upH e6).2.1]; exact T5
  have kk : eqC h3 g6 (x + 28) (x + 29) := fun q h1 h2 => k1 q (by omega)
  have ea : earAt g6 (x + 28) (x + 29) := earAt.eq fa (fun q hq => kk q (by omega) (by omega))
  clear e5 e6 fB k1 kk T5 m5 n1 n2 n3 n4 n5 fa
  refine ⟨⟨by decide, by decide⟩, fun g7 e7 => ?_⟩
  have l6 : x < g6.1 := by omega
  obtain ⟨n1, n2, n3, n4, n5⟩ := nwH m6 e7
  rw [m6]
  refine ⟨⟨by omega, by decide, by decide, by rw [n2]⟩, sp_Pinit n1 (by rw [n2]) (by omega) n4 (by omega) (fun h4 m7 fB fa p2 p3 _ => ?_)⟩
  have T7 : (hpT h4 x).1 = 11 := by rw [fB.1 x (by omega), n3 x (by omega)]; exact T6
  refine ⟨T7, fun g8 e8 => ?_⟩
  rw [← m6] at fB e8
  obtain ⟨m8, s4, k1⟩ := stgO l6 e7 fB e8
  rw [m6] at s4
  have m8 := m8.trans m7
  have T8 : (hpT g8 x).1 = 11 := by rw [(upH e8).2.1]; exact T7
  have kk : eqC h4 g8 (x + 30) (x + 35) := fun q h1 h2 => k1 q (by omega)
  have pl : plAt g8 (x + 30) ∧ hpC g8 (x + 30) 2 = 0 ∧ hpC g8 (x + 30) 3 = 0 := ⟨fa.eq (kk.T _ (by omega) (by omega)) (fun p _ _ => kk.C _ _ (by omega) (by omega)) (kk.sub (by omega) (by omega)), by rw [kk.C _ _ (by omega) (by omega)]; exact p2, by rw [kk.C _ _ (by omega) (by omega)]; exact p3⟩
  clear p2 p3
  clear e7 e8 fB k1 kk T7 m7 n1 n2 n3 n4 n5 fa
  refine ⟨⟨by decide, by decide⟩, fun g9 e9 => ?_⟩
  have l8 : x < g8.1 := by omega
  obtain ⟨n1, n2, n3, n4, n5⟩ := nwH m8 e9
  rw [m8]
  refine ⟨⟨by omega, by decide, by decide, by rw [n2]⟩, sp_Nuinit n1 (by rw [n2]) (by omega) (by omega) (fun h5 m9 fB fa _ => ?_)⟩
  have T9 : (hpT h5 x).1 = 11 := by rw [fB.1 x (by omega), n3 x (by omega)]; exact T8
  refine ⟨T9, fun g10 e10 => ?_⟩
  rw [← m8] at fB e10
  obtain ⟨m10, s5, k1⟩ := stgO l8 e9 fB e10
  rw [m8] at s5
  have m10 := m10.trans m9
  have T10 : (hpT g10 x).1 = 11 := by rw [(upH e10).2.1]; exact T9
  have kk : eqC h5 g10 (x + 36) (x + 42) := fun q h1 h2 => k1 q (by omega)
  have nu : numAt g10 (x + 36) := fa.eq kk
  clear e9 e10 fB k1 kk T9 m9 n1 n2 n3 n4 n5 fa
  refine ⟨⟨by decide, by decide⟩, fun g11 e11 => ?_⟩
  have l10 : x < g10.1 := by omega
  obtain ⟨n1, n2, n3, n4, n5⟩ := nwH m10 e11
  rw [m10]
  refine ⟨⟨by omega, by decide, by decide, by rw [n2]⟩, sp_Tinit n1 (by rw [n2]) (by omega) (n4 7) (by omega) (fun h6 m11 fB fa _ => ?_)⟩
  have T11 : (hpT h6 x).1 = 11 := by rw [fB.1 x (by omega), n3 x (by omega)]; exact T10
  refine ⟨T11, fun g12 e12 => ?_⟩
  rw [← m10] at fB e12
  obtain ⟨m12, s6, k1⟩ := stgO l10 e11 fB e12
  rw [m10] at s6
  have m12 := m12.trans m11
  have T12 : (hpT g12 x).1 = 11 := by rw [(upH e12).2.1]; exact T11
  have kk : eqC h6 g12 (x + 43) (x + 65) := fun q h1 h2 => k1 q (by omega)
  have tr : TR g12 (x + 43) wE := fa.eq kk
  clear e11 e12 fB k1 kk T11 m11 n1 n2 n3 n4 n5 fa
  refine ⟨⟨by decide, by decide⟩, fun g13 e13 => ?_⟩
  have l12 : x < g12.1 := by omega
  obtain ⟨n1, n2, n3, n4, n5⟩ := nwH m12 e13
  rw [m12]
  refine ⟨⟨by omega, by decide, by decide, by rw [n2]⟩, sp_Painit n1 (by rw [n2]) (by omega) n4 (by omega) (fun h7 m13 fB fa _ => ?_)⟩
  have T13 : (hpT h7 x).1 = 11 := by rw [fB.1 x (by omega), n3 x (by omega)]; exact T12
  refine ⟨T13, fun g14 e14 => ?_⟩
  rw [← m12] at fB e14
  obtain ⟨m14, s7, k1⟩ := stgO l12 e13 fB e14
  rw [m12] at s7
  have m14 := m14.trans m13
  have T14 : (hpT g14 x).1 = 11 := by rw [(upH e14).2.1]; exact T13
  have kk : eqC h7 g14 (x + 66) (x + 67) := fun q h1 h2 => k1 q (by omega)
  have pa : (hpT g14 (x + 66)).1 = 5 ∧ hpC g14 (x + 66) 0 = ((x + 67 : Nat) : Int) ∧ hpC g14 (x + 66) 1 = 0 ∧ hpC g14 (x + 66) 2 = 0 ∧ hpT g14 (x + 67) = (24, 20) ∧ ∀ p, hpC g14 (x + 67) p = 0 := ⟨by rw [kk.T _ (by omega) (by omega)]; exact fa.1, by rw [kk.C _ _ (by omega) (by omega)]; exact fa.2.1, by rw [kk.C _ _ (by omega) (by omega)]; exact fa.2.2.1, by rw [kk.C _ _ (by omega) (by omega)]; exact fa.2.2.2.1, by rw [kk.T _ (by omega) (by omega)]; exact fa.2.2.2.2.1, fun p => by rw [kk.C _ _ (by omega) (by omega)]; exact fa.2.2.2.2.2 p⟩
  clear e13 e14 fB k1 kk T13 m13 n1 n2 n3 n4 n5 fa
  refine ⟨⟨by decide, by decide, by decide, by decide⟩, fun g15 e15 => ?_⟩
  have l14 : x < g14.1 := by omega
  refine ⟨by rw [(nwH m14 e15).2.2.1 x (by omega)]; exact T14, fun g16 e16 => ?_⟩
  obtain ⟨m16, s8, t8, z8⟩ := stgA l14 e15 e16
  rw [m14] at s8 t8 z8 m16
  have T16 : (hpT g16 x).1 = 11 := by rw [s8.1 x (by omega)]; exact T14
  clear e15 e16
  refine ⟨⟨by decide, by decide, by decide, by decide⟩, fun g17 e17 => ?_⟩
  have l16 : x < g16.1 := by omega
  refine ⟨by rw [(nwH m16 e17).2.2.1 x (by omega)]; exact T16, fun g18 e18 => ?_⟩
  obtain ⟨m18, s9, t9, z9⟩ := stgA l16 e17 e18
  rw [m16] at s9 t9 z9 m18
  have T18 : (hpT g18 x).1 = 11 := by rw [s9.1 x (by omega)]; exact T16
  clear e17 e18
  refine ⟨T18, fun g19 e19 => ?_⟩
  obtain ⟨u1, u2, u3, u4⟩ := upH e19
  refine ⟨by rw [u2]; exact T18, fun g20 e20 => ?_⟩
  obtain ⟨v1, v2, v3, v4⟩ := upH e20
  refine ⟨by rw [v2, u2]; exact T18, fun g21 e21 => ?_⟩
  obtain ⟨w1, w2, w3, w4⟩ := upH e21
  clear e19 e20 e21
  have T21 : ∀ q, hpT g21 q = hpT g18 q := fun q => by rw [w2, v2, u2]
  have C21 : ∀ q p, ¬ (q = x ∧ (p = 9 ∨ p = 10 ∨ p = 11)) → hpC g21 q p = hpC g18 q p := fun q p hq => by rw [w4 _ _ (by omega), v4 _ _ (by omega), u4 _ _ (by omega)]
  have y9 : hpC g21 x 9 = 0 := by rw [w4 _ _ (by omega), v4 _ _ (by omega), u3]
  have y10 : hpC g21 x 10 = -1 := by rw [w4 _ _ (by omega), v3]
  have y11 : hpC g21 x 11 = 0 := by rw [w3]; rfl
  have mm : g21.1 = x + 70 := by rw [w1, v1, u1, m18]
  clear u1 u2 u3 u4 v1 v2 v3 v4 w1 w2 w3 w4
  have E10 : eqC g18 g21 (x + 1) (x + 69) := fun q h1 h2 => ⟨T21 q, fun p => C21 q p (by omega)⟩
  have E9 : eqC g16 g21 (x + 1) (x + 68) := (s9.e (by omega) (by omega)).tr (E10.sub (by omega) (by omega))
  have E8 : eqC g14 g21 (x + 1) (x + 67) := (s8.e (by omega) (by omega)).tr (E9.sub (by omega) (by omega))
  have E7 : eqC g12 g21 (x + 1) (x + 65) := (s7.e (by omega) (by omega)).tr (E8.sub (by omega) (by omega))
  have E6 : eqC g10 g21 (x + 1) (x + 42) := (s6.e (by omega) (by omega)).tr (E7.sub (by omega) (by omega))
  have E5 : eqC g8 g21 (x + 1) (x + 35) := (s5.e (by omega) (by omega)).tr (E6.sub (by omega) (by omega))
  have E4 : eqC g6 g21 (x + 1) (x + 29) := (s4.e (by omega) (by omega)).tr (E5.sub (by omega) (by omega))
  have E3 : eqC g4 g21 (x + 1) (x + 27) := (s3.e (by omega) (by omega)).tr (E4.sub (by omega) (by omega))
  have E2 : eqC g2 g21 (x + 1) (x + 3) := (s2.e (by omega) (by omega)).tr (E3.sub (by omega) (by omega))
  have f9 : ∀ p, p < 9 → hpC g21 x p = hpC g18 x p := fun p hp => C21 x p (by omega)
  have sa : sAt g21 x := ⟨by rw [T21]; exact T18, by rw [f9 _ (by decide), s9.o (by omega) (by decide), s8.o (by omega) (by decide), s7.o (by omega) (by decide), s6.o (by omega) (by decide), s5.o (by omega) (by decide), s4.o (by omega) (by decide), s3.o (by omega) (by decide), s2.o (by omega) (by decide)]; exact s1.2.2, by rw [f9 _ (by decide), s9.o (by omega) (by decide), s8.o (by omega) (by decide), s7.o (by omega) (by decide), s6.o (by omega) (by decide), s5.o (by omega) (by decide), s4.o (by omega) (by decide), s3.o (by omega) (by decide)]; exact s2.2.2, by rw [f9 _ (by decide), s9.o (by omega) (by decide), s8.o (by omega) (by decide), s7.o (by omega) (by decide), s6.o (by omega) (by decide), s5.o (by omega) (by decide), s4.o (by omega) (by decide)]; exact s3.2.2, by rw [f9 _ (by decide), s9.o (by omega) (by decide), s8.o (by omega) (by decide), s7.o (by omega) (by decide), s6.o (by omega) (by decide), s5.o (by omega) (by decide)]; exact s4.2.2, by rw [f9 _ (by decide), s9.o (by omega) (by decide), s8.o (by omega) (by decide), s7.o (by omega) (by decide), s6.o (by omega) (by decide)]; exact s5.2.2, by rw [f9 _ (by decide), s9.o (by omega) (by decide), s8.o (by omega) (by decide), s7.o (by omega) (by decide)]; exact s6.2.2, by rw [f9 _ (by decide), s9.o (by omega) (by decide), s8.o (by omega) (by decide)]; exact s7.2.2, by rw [f9 _ (by decide), s9.o (by omega) (by decide)]; exact s8.2.2, by rw [f9 _ (by decide)]; exact s9.2.2⟩
  refine H g21 mm ?_ ⟨sa, ⟨tapeAt.eq tape.1 E2, by rw [E2.C _ _ (by omega) (by omega)]; exact tape.2⟩, rd.eq (E3.sub (by omega) (by omega)), earAt.eq ea (fun q hq => E4 q (by omega) (by omega)), ⟨pl.1.eq (E5.T _ (by omega) (by omega)) (fun p _ _ => E5.C _ _ (by omega) (by omega)) (E5.sub (by omega) (by omega)), by rw [E5.C _ _ (by omega) (by omega)]; exact pl.2.1, by rw [E5.C _ _ (by omega) (by omega)]; exact pl.2.2⟩, nu.eq (E6.sub (by omega) (by omega)), tr.eq (E7.sub (by omega) (by omega)), ⟨by rw [E8.T _ (by omega) (by omega)]; exact pa.1, by rw [E8.C _ _ (by omega) (by omega)]; exact pa.2.1, by rw [E8.C _ _ (by omega) (by omega)]; exact pa.2.2.1, by rw [E8.C _ _ (by omega) (by omega)]; exact pa.2.2.2.1, by rw [E8.T _ (by omega) (by omega)]; exact pa.2.2.2.2.1, fun p => by rw [E8.C _ _ (by omega) (by omega)]; exact pa.2.2.2.2.2 p⟩, ⟨by rw [E9.T _ (by omega) (by omega)]; exact t8, fun p => by rw [E9.C _ _ (by omega) (by omega)]; exact z8 p⟩, ⟨by rw [E10.T _ (by omega) (by omega)]; exact t9, fun p => by rw [E10.C _ _ (by omega) (by omega)]; exact z9 p⟩, y9, y10, y11⟩
  have B10 : FrB x (fun _ _ => False) g18 g21 := ⟨fun q _ => T21 q, fun q p hq _ => C21 q p (by omega)⟩
  exact (s1.B (by omega)).tr ((s2.B (by omega)).tr ((s3.B (by omega)).tr ((s4.B (by omega)).tr ((s5.B (by omega)).tr ((s6.B (by omega)).tr ((s7.B (by omega)).tr ((s8.B (by omega)).tr ((s9.B (by omega)).tr B10))))))))
