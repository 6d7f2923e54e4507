/-! ===== new towns ===== -/
theorem nwH {h g : Hp} {K n b : Nat} (hb : h.1 = b) (e : g = hpN h K n) : g.1 = b + 1 ∧ hpT g b = (K, n) ∧ (∀ q, q ≠ b → hpT g q = hpT h q) ∧ (∀ p, hpC g b p = 0) ∧ ∀ q p, q ≠ b → hpC g q p = hpC h q p := by
  subst e; subst hb
  refine ⟨rfl, ?_, fun q hq => ?_, fun p => ?_, fun q p hq => ?_⟩
  · show (if h.1 = h.1 then (K, n) else h.2.1 h.1) = (K, n); rw [if_pos rfl]
  · show (if q = h.1 then (K, n) else h.2.1 q) = h.2.1 q; rw [if_neg hq]
  · show (if h.1 = h.1 then 0 else h.2.2 h.1 p) = 0; rw [if_pos rfl]
  · show (if q = h.1 then 0 else h.2.2 q p) = h.2.2 q p; rw [if_neg hq]
theorem upH {h g : Hp} {r f : Nat} {v : Int} (e : g = hpU h r f v) : g.1 = h.1 ∧ (∀ q, hpT g q = hpT h q) ∧ hpC g r f = v ∧ ∀ q p, ¬ (q = r ∧ p = f) → hpC g q p = hpC h q p := by
  subst e
  exact ⟨rfl, fun q => rfl, hpC_same _ _ _ _, fun q p hq => hpC_ne (by omega)⟩
/-- an array and its field -/
theorem arH {h g1 g2 : Hp} {K n b r f : Nat} {v : Int} (hb : h.1 = b) (hr : r < b) (e1 : g1 = hpN h K n) (e2 : g2 = hpU g1 r f v) (hv : v = (b : Int)) : g2.1 = b + 1 ∧ hpT g2 b = (K, n) ∧ (∀ q, q ≠ b → hpT g2 q = hpT h q) ∧ (∀ p, hpC g2 b p = 0) ∧ hpC g2 r f = (b : Int) ∧ ∀ q p, q ≠ b → ¬ (q = r ∧ p = f) → hpC g2 q p = hpC h q p := by
  obtain ⟨n1, n2, n3, n4, n5⟩ := nwH hb e1
  obtain ⟨u1, u2, u3, u4⟩ := upH e2
  refine ⟨by rw [u1, n1], by rw [u2]; exact n2, fun q hq => by rw [u2]; exact n3 q hq, fun p => by rw [u4 _ _ (by omega)]; exact n4 p, by rw [u3, hv], fun q p h1 h2 => by rw [u4 q p h2]; exact n5 q p h1⟩
/-- nothing below a cell changes but there -/
def FrB (b : Nat) (S : Nat → Nat → Prop) (h h' : Hp) : Prop := (∀ q, q < b → hpT h' q = hpT h q) ∧ ∀ q p, q < b → ¬ S q p → hpC h' q p = hpC h q p
theorem sp_Rinit {h : Hp} {r : Nat} (hb : h.1 = r + 1) (ht : (hpT h r).1 = 8) (hr : r ≠ 0) {d : Nat} {R : PR} (hd : 2 ≤ d) (H : ∀ h', h'.1 = r + 6 → FrB r (fun _ _ => False) h h' → rulesAt h' r → (hpC h' r 0 = 1 ∧ hpC h' r 1 = 10 ∧ hpC h' r 2 = 10 ∧ hpC h' r 3 = 0 ∧ hpC h' r 4 = 0 ∧ hpC h' r 5 = 0) → R none h') : Wp m_Rules_init 0 [some (xR r)] [] h d 5 40 R := by
  apply f_Rules_init_0
  rw [tn_8]
  refine ⟨⟨by omega, hr⟩, ⟨by decide, by decide, by decide, by decide⟩, fun g1 e1 => ?_⟩
  have t1 : (hpT g1 r).1 = 8 := by rw [(nwH hb e1).2.2.1 r (by omega)]; exact ht
  refine ⟨t1, fun g2 e2 => ?_⟩
  obtain ⟨a1, a2, a3, a4, a5, a6⟩ := arH hb (by omega) e1 e2 (by rw [hb])
  have T2 : (hpT g2 r).1 = 8 := by rw [a3 r (by omega)]; exact ht
  clear e1 e2 t1
  refine ⟨⟨by decide, by decide, by decide, by decide⟩, fun g3 e3 => ?_⟩
  refine ⟨by rw [(nwH a1 e3).2.2.1 r (by omega)]; exact T2, fun g4 e4 => ?_⟩
  obtain ⟨b1, b2, b3, b4, b5, b6⟩ := arH a1 (by omega) e3 e4 (by rw [a1])
  have T4 : (hpT g4 r).1 = 8 := by rw [b3 r (by omega)]; exact T2
  clear e3 e4
  refine ⟨⟨by decide, by decide, by decide, by decide⟩, fun g5 e5 => ?_⟩
  refine ⟨by rw [(nwH b1 e5).2.2.1 r (by omega)]; exact T4, fun g6 e6 => ?_⟩
  obtain ⟨c1, c2, c3, c4, c5, c6⟩ := arH b1 (by omega) e5 e6 (by rw [b1])
  have T6 : (hpT g6 r).1 = 8 := by rw [c3 r (by omega)]; exact T4
  clear e5 e6
  refine ⟨⟨by decide, by decide, by decide, by decide⟩, fun g7 e7 => ?_⟩
  refine ⟨by rw [(nwH c1 e7).2.2.1 r (by omega)]; exact T6, fun g8 e8 => ?_⟩
  obtain ⟨d1, d2, d3, d4, d5, d6⟩ := arH c1 (by omega) e7 e8 (by rw [c1])
  have T8 : (hpT g8 r).1 = 8 := by rw [d3 r (by omega)]; exact T6
  clear e7 e8
  refine ⟨⟨by decide, by decide, by decide, by decide⟩, fun g9 e9 => ?_⟩
  refine ⟨by rw [(nwH d1 e9).2.2.1 r (by omega)]; exact T8, fun g10 e10 => ?_⟩
  obtain ⟨f1, f2, f3, f4, f5, f6⟩ := arH d1 (by omega) e9 e10 (by rw [d1])
  have T10 : (hpT g10 r).1 = 8 := by rw [f3 r (by omega)]; exact T8
  clear e9 e10
  refine ⟨⟨by omega, T10⟩, ?_⟩
  apply f_Rules_clear_0
  simp only [forall_eq, hpT_up, T10, true_and]
  intro _
  refine H _ f1 ⟨fun q hq => ?_, fun q p hq _ => ?_⟩ ⟨T10, ?_, ?_, ?_, ?_, ?_, ?_, ?_, ?_, ?_, ?_⟩ ?_
  · simp (disch := omega) only [hpT_up, f3, d3, c3, b3, a3]
  · simp (disch := omega) only [hpC_o1, f6, d6, c6, b6, a6]
  · simp (disch := omega) only [hpC_o2, f6, d6, c6, b6]; exact a5
  · simp (disch := omega) only [hpC_o2, f6, d6, c6]; exact b5
  · simp (disch := omega) only [hpC_o2, f6, d6]; exact c5
  · simp (disch := omega) only [hpC_o2, f6]; exact d5
  · simp (disch := omega) only [hpC_o2]; exact f5
  · simp (disch := omega) only [hpT_up, f3, d3, c3, b3]; exact a2
  · simp (disch := omega) only [hpT_up, f3, d3, c3]; exact b2
  · simp (disch := omega) only [hpT_up, f3, d3]; exact c2
  · simp (disch := omega) only [hpT_up, f3]; exact d2
  · simp (disch := omega) only [hpT_up]; exact f2
  · simp only [hpC_up]; simp
theorem sp_Ninit {h : Hp} {r l : Nat} (hb : h.1 = r + 1) (ht : (hpT h r).1 = 3) (hr : r ≠ 0) (hl : l ≤ 30) {d : Nat} {R : PR} (hd : 1 ≤ d) (H : ∀ h', h'.1 = r + 3 → FrB r (fun _ _ => False) h h' → namesAt h' r l → hpC h' r 2 = hpC h r 2 → R none h') : Wp m_Names_init 0 [some (xR r), some (xI (l : Int))] [] h d 2 60 R := by
  apply f_Names_init_0
  rw [Int.toNat_natCast]
  refine ⟨⟨by omega, hr⟩, ⟨by omega, by omega, by decide, by omega⟩, fun g1 e1 => ?_⟩
  refine ⟨by rw [(nwH hb e1).2.2.1 r (by omega)]; exact ht, fun g2 e2 => ?_⟩
  obtain ⟨a1, a2, a3, a4, a5, a6⟩ := arH hb (by omega) e1 e2 (by rw [hb])
  have T2 : (hpT g2 r).1 = 3 := by rw [a3 r (by omega)]; exact ht
  clear e1 e2
  refine ⟨⟨by omega, by omega, by decide, by omega⟩, fun g3 e3 => ?_⟩
  refine ⟨by rw [(nwH a1 e3).2.2.1 r (by omega)]; exact T2, fun g4 e4 => ?_⟩
  obtain ⟨b1, b2, b3, b4, b5, b6⟩ := arH a1 (by omega) e3 e4 (by rw [a1])
  clear e3 e4
  refine H g4 b1 ⟨fun q hq => ?_, fun q p hq _ => ?_⟩ ⟨?_, ?_, ?_, ?_, ?_⟩ ?_
  · simp (disch := omega) only [b3, a3]
  · simp (disch := omega) only [b6, a6]
  · rw [b3 r (by omega)]; exact T2
  · rw [b6 _ _ (by omega) (by omega)]; exact a5
  · exact b5
  · rw [b3 _ (by omega)]; exact a2
  · exact b2
  · rw [b6 _ _ (by omega) (by omega), a6 _ _ (by omega) (by omega)]
theorem sp_Hinit {h : Hp} {r : Nat} (hb : h.1 = r + 1) (ht : (hpT h r).1 = 2) (hr : r ≠ 0) {d : Nat} {R : PR} (hd : 1 ≤ d) (H : ∀ h', h'.1 = r + 5 → FrB r (fun _ _ => False) h h' → homesAt h' r → (∀ p, hpC h' (r + 1) p = 0) → R none h') : Wp m_Homes_init 0 [some (xR r)] [] h d 4 370 R := by
  apply f_Homes_init_0
  rw [tn_10, show Int.toNat (120 : Int) = 120 from rfl]
  refine ⟨⟨by omega, hr⟩, ⟨by decide, by decide, by decide, by decide⟩, fun g1 e1 => ?_⟩
  refine ⟨by rw [(nwH hb e1).2.2.1 r (by omega)]; exact ht, fun g2 e2 => ?_⟩
  obtain ⟨a1, a2, a3, a4, a5, a6⟩ := arH hb (by omega) e1 e2 (by rw [hb])
  have T2 : (hpT g2 r).1 = 2 := by rw [a3 r (by omega)]; exact ht
  clear e1 e2
  refine ⟨⟨by decide, by decide, by decide, by decide⟩, fun g3 e3 => ?_⟩
  refine ⟨by rw [(nwH a1 e3).2.2.1 r (by omega)]; exact T2, fun g4 e4 => ?_⟩
  obtain ⟨b1, b2, b3, b4, b5, b6⟩ := arH a1 (by omega) e3 e4 (by rw [a1])
  have T4 : (hpT g4 r).1 = 2 := by rw [b3 r (by omega)]; exact T2
  clear e3 e4
  refine ⟨⟨by decide, by decide, by decide, by decide⟩, fun g5 e5 => ?_⟩
  refine ⟨by rw [(nwH b1 e5).2.2.1 r (by omega)]; exact T4, fun g6 e6 => ?_⟩
  obtain ⟨c1, c2, c3, c4, c5, c6⟩ := arH b1 (by omega) e5 e6 (by rw [b1])
  have T6 : (hpT g6 r).1 = 2 := by rw [c3 r (by omega)]; exact T4
  clear e5 e6
  refine ⟨⟨by decide, by decide, by decide, by decide⟩, fun g7 e7 => ?_⟩
  refine ⟨by rw [(nwH c1 e7).2.2.1 r (by omega)]; exact T6, fun g8 e8 => ?_⟩
  obtain ⟨d1, d2, d3, d4, d5, d6⟩ := arH c1 (by omega) e7 e8 (by rw [c1])
  clear e7 e8
  refine H g8 d1 ⟨fun q hq => ?_, fun q p hq _ => ?_⟩ ⟨?_, ?_, ?_, ?_, ?_, ?_, ?_, ?_, ?_⟩ (fun p => ?_)
  · simp (disch := omega) only [d3, c3, b3, a3]
  · simp (disch := omega) only [d6, c6, b6, a6]
  · rw [d3 r (by omega)]; exact T6
  · simp (disch := omega) only [d6, c6, b6]; exact a5
  · simp (disch := omega) only [d6, c6]; exact b5
  · simp (disch := omega) only [d6]; exact c5
  · exact d5
  · simp (disch := omega) only [d3, c3, b3]; exact a2
  · simp (disch := omega) only [d3, c3]; exact b2
  · simp (disch := omega) only [d3]; exact c2
  · exact d2
  · simp (disch := omega) only [d6, c6, b6]; exact a4 p
/-- the empty town -/
def wE : Nat → Int := fun p => if p = 0 then 1 else if p = 1 ∨ p = 2 then 10 else if 10 ≤ p ∧ p < 36 then (p : Int) - 9 else 0
theorem wE_far {p : Nat} (h : 36 ≤ p) : wE p = 0 := by unfold wE; rw [if_neg (by omega), if_neg (by omega), if_neg (by omega)]
theorem wE_V : V wE := by
  refine ⟨⟨by decide, by decide, by decide, by decide, by decide, by decide, by decide, by decide, by decide, by decide⟩, fun k hk => ?_, fun k hk => ?_, fun k hk => ?_, fun k hk => ?_, fun k hk => ?_, fun s hs => ⟨?_, fun _ => ?_, fun i hi => ?_, fun i j hi => ?_⟩, fun k hk => ?_⟩
  · unfold wE; rw [if_neg (by omega), if_neg (by omega), if_pos (by omega)]; omega
  · rw [show wE 5 = 0 from by decide] at hk; omega
  · rw [show wE 6 = 0 from by decide] at hk; omega
  · rw [show wE 7 = 0 from by decide] at hk; omega
  · rw [show wE 8 = 0 from by decide] at hk; omega
  · rw [wE_far (by omega)]; omega
  · exact wE_far (by omega)
  · rw [wE_far (by omega)] at hi; omega
  · rw [wE_far (by omega)] at hi; omega
  · rw [show wE 8 = 0 from by decide] at hk; omega
/-- a part of an object is made, its field put -/
def FX (b t f : Nat) (g g' : Hp) : Prop := (∀ q, q < b → hpT g' q = hpT g q) ∧ (∀ q p, q < b → ¬ (q = t ∧ p = f) → hpC g' q p = hpC g q p) ∧ hpC g' t f = (b : Int)
theorem FX.e {b t f : Nat} {g g' : Hp} (x : FX b t f g g') {lo hi : Nat} (h1 : t < lo) (h2 : hi < b) : eqC g g' lo hi := fun q g1 g2 => ⟨x.1 q (by omega), fun p => x.2.1 q p (by omega) (by omega)⟩
theorem FX.o {b t f : Nat} {g g' : Hp} (x : FX b t f g g') (ht : t < b) {p : Nat} (hp : p ≠ f) : hpC g' t p = hpC g t p := x.2.1 t p ht (fun z => hp z.2)
theorem stgO {g g1 h1 g2 : Hp} {t f K : Nat} (ht : t < g.1) (e1 : g1 = hpN g K 0) (fB : FrB g.1 (fun _ _ => False) g1 h1) (e2 : g2 = hpU h1 t f ((g.1 : Nat) : Int)) : g2.1 = h1.1 ∧ FX g.1 t f g g2 ∧ ∀ q, t < q → hpT g2 q = hpT h1 q ∧ ∀ p, hpC g2 q p = hpC h1 q p := by
  obtain ⟨n1, n2, n3, n4, n5⟩ := nwH rfl e1
  obtain ⟨u1, u2, u3, u4⟩ := upH e2
  refine ⟨u1, ⟨fun q hq => by rw [u2, fB.1 q hq, n3 q (by omega)], fun q p hq hne => by rw [u4 q p hne, fB.2 q p hq (fun z => z), n5 q p (by omega)], u3⟩, fun q hq => ⟨u2 q, fun p => u4 q p (by omega)⟩⟩
theorem stgA {g g1 g2 : Hp} {t f K n : Nat} (ht : t < g.1) (e1 : g1 = hpN g K n) (e2 : g2 = hpU g1 t f ((g.1 : Nat) : Int)) : g2.1 = g.1 + 1 ∧ FX g.1 t f g g2 ∧ hpT g2 g.1 = (K, n) ∧ ∀ p, hpC g2 g.1 p = 0 := by
  obtain ⟨a1, a2, a3, a4, a5, a6⟩ := arH rfl ht e1 e2 rfl
  exact ⟨a1, ⟨fun q hq => a3 q (by omega), fun q p hq hne => a6 q p (by omega) hne, a5⟩, a2, a4⟩
theorem tasm {h g2 g4 g6 g8 g10 g12 g14 : Hp} {t : Nat} (hb : h.1 = t + 1) (ht : (hpT h t).1 = 10) (hz : hpC h t 7 = 0)
    (s1 : FX h.1 t 0 h g2) (m1 : g2.1 = h.1 + 6) (rA : rulesAt g2 h.1) (rv : hpC g2 h.1 0 = 1 ∧ hpC g2 h.1 1 = 10 ∧ hpC g2 h.1 2 = 10 ∧ hpC g2 h.1 3 = 0 ∧ hpC g2 h.1 4 = 0 ∧ hpC g2 h.1 5 = 0)
    (s2 : FX g2.1 t 1 g2 g4) (m2 : g4.1 = g2.1 + 3) (sA : namesAt g4 g2.1 10) (sc : hpC g4 g2.1 2 = 0)
    (s3 : FX g4.1 t 2 g4 g6) (m3 : g6.1 = g4.1 + 3) (pA : namesAt g6 g4.1 12) (pc : hpC g6 g4.1 2 = 0)
    (s4 : FX g6.1 t 3 g6 g8) (m4 : g8.1 = g6.1 + 3) (aA : namesAt g8 g6.1 30) (ac : hpC g8 g6.1 2 = 0)
    (s5 : FX g8.1 t 4 g8 g10) (m5 : g10.1 = g8.1 + 1) (t5 : hpT g10 g8.1 = (20, 30))
    (s6 : FX g10.1 t 5 g10 g12) (m6 : g12.1 = g10.1 + 1) (t6 : hpT g12 g10.1 = (20, 30))
    (s7 : FX g12.1 t 6 g12 g14) (m7 : g14.1 = g12.1 + 5) (hA : homesAt g14 g12.1) (hz5 : ∀ p, hpC g14 (g12.1 + 1) p = 0) : g14.1 = t + 23 ∧ FrB t (fun _ _ => False) h g14 ∧ TR g14 t wE := by
  have q2 : g2.1 = t + 7 := by omega
  have q4 : g4.1 = t + 10 := by omega
  have q6 : g6.1 = t + 13 := by omega
  have q8 : g8.1 = t + 16 := by omega
  have q10 : g10.1 = t + 17 := by omega
  have q12 : g12.1 = t + 18 := by omega
  have q14 : g14.1 = t + 23 := by omega
  rw [hb] at s1 rA rv
  rw [q2] at s2 sA sc
  rw [q4] at s3 pA pc
  rw [q6] at s4 aA ac
  rw [q8] at s5 t5
  rw [q10] at s6 t6
  rw [q12] at s7 hA hz5
  clear m1 m2 m3 m4 m5 m6 m7 q2 q4 q6 q8 q10 q12
  refine ⟨q14, ⟨fun q hq => ?_, fun q p hq _ => ?_⟩, ?_⟩
  · rw [s7.1 q (by omega), s6.1 q (by omega), s5.1 q (by omega), s4.1 q (by omega), s3.1 q (by omega), s2.1 q (by omega), s1.1 q (by omega)]
  · rw [s7.2.1 q p (by omega) (by omega), s6.2.1 q p (by omega) (by omega), s5.2.1 q p (by omega) (by omega), s4.2.1 q p (by omega) (by omega), s3.2.1 q p (by omega) (by omega), s2.2.1 q p (by omega) (by omega), s1.2.1 q p (by omega) (by omega)]
  have tt : t < t + 1 := by omega
  have E7 : eqC g12 g14 (t + 1) (t + 17) := s7.e (by omega) (by omega)
  have E6 : eqC g10 g14 (t + 1) (t + 16) := (s6.e (by omega) (by omega)).tr (E7.sub (by omega) (by omega))
  have E5 : eqC g8 g14 (t + 1) (t + 15) := (s5.e (by omega) (by omega)).tr (E6.sub (by omega) (by omega))
  have E4 : eqC g6 g14 (t + 1) (t + 12) := (s4.e (by omega) (by omega)).tr (E5.sub (by omega) (by omega))
  have E3 : eqC g4 g14 (t + 1) (t + 9) := (s3.e (by omega) (by omega)).tr (E4.sub (by omega) (by omega))
  have E2 : eqC g2 g14 (t + 1) (t + 6) := (s2.e (by omega) (by omega)).tr (E3.sub (by omega) (by omega))
  have z7 : wE 7 = 0 := by decide
  have z6 : wE 6 = 0 := by decide
  have z8 : wE 8 = 0 := by decide
  have tA : townAt g14 t := by
    refine ⟨?_, ?_, ?_, ?_, ?_, ?_, ?_, s7.2.2, ?_, ?_, rA.eq E2, sA.eq (E3.sub (by omega) (by omega)), pA.eq (E4.sub (by omega) (by omega)), aA.eq (E5.sub (by omega) (by omega)), hA⟩
    · rw [s7.1 t (by omega), s6.1 t (by omega), s5.1 t (by omega), s4.1 t (by omega), s3.1 t (by omega), s2.1 t (by omega), s1.1 t (by omega)]; exact ht
    · rw [s7.o (by omega) (by decide), s6.o (by omega) (by decide), s5.o (by omega) (by decide), s4.o (by omega) (by decide), s3.o (by omega) (by decide), s2.o (by omega) (by decide)]; exact s1.2.2
    · rw [s7.o (by omega) (by decide), s6.o (by omega) (by decide), s5.o (by omega) (by decide), s4.o (by omega) (by decide), s3.o (by omega) (by decide)]; exact s2.2.2
    · rw [s7.o (by omega) (by decide), s6.o (by omega) (by decide), s5.o (by omega) (by decide), s4.o (by omega) (by decide)]; exact s3.2.2
    · rw [s7.o (by omega) (by decide), s6.o (by omega) (by decide), s5.o (by omega) (by decide)]; exact s4.2.2
    · rw [s7.o (by omega) (by decide), s6.o (by omega) (by decide)]; exact s5.2.2
    · rw [s7.o (by omega) (by decide)]; exact s6.2.2
    · rw [E6.T _ (by omega) (by omega)]; exact t5
    · rw [E7.T _ (by omega) (by omega)]; exact t6
  have c7 : hpC g14 (t + 7) 2 = 0 := by rw [E3.C _ _ (by omega) (by omega)]; exact sc
  have c10 : hpC g14 (t + 10) 2 = 0 := by rw [E4.C _ _ (by omega) (by omega)]; exact pc
  have c13 : hpC g14 (t + 13) 2 = 0 := by rw [E5.C _ _ (by omega) (by omega)]; exact ac
  refine ⟨⟨tA, ?_, ⟨by rw [c7, z7], fun k hk => by omega⟩, ⟨by rw [c10, z6], fun k hk => by omega⟩, ⟨by rw [c13, z8], fun k hk => by omega⟩, fun k hk => by omega, fun s hs => ?_, ?_⟩, fun k hk => by omega, fun k hk => by omega, fun k hk => by omega, fun k hk => by omega⟩
  · have e : ∀ p, hpC g14 (t + 1) p = hpC g2 (t + 1) p := fun p => E2.C _ _ (by omega) (by omega)
    refine ⟨by rw [e]; exact rv.1, by rw [e]; exact rv.2.1, by rw [e]; exact rv.2.2.1, by rw [e]; exact rv.2.2.2.1, by rw [e]; exact rv.2.2.2.2.1, by rw [e]; exact rv.2.2.2.2.2, fun k hk => ?_, fun l h1' h2' => ?_⟩
    · rw [show wE 5 = 0 from by decide] at hk; omega
    · rw [show (wE 4).toNat = 0 from by decide]
      show (l : Int) = wE (10 + l - 1)
      unfold wE
      rw [if_neg (by omega), if_neg (by omega), if_pos (by omega)]; omega
  · refine ⟨?_, fun i hi => ?_⟩
    · rw [show t + 18 + 1 = t + 18 + 1 from rfl, hz5, wE_far (by omega)]
    · rw [wE_far (by omega)] at hi; omega
  · rw [show wE 9 = 0 from by decide, s7.o (by omega) (by decide), s6.o (by omega) (by decide), s5.o (by omega) (by decide), s4.o (by omega) (by decide), s3.o (by omega) (by decide), s2.o (by omega) (by decide), s1.o (by omega) (by decide)]
    exact hz
theorem sp_Tinit {h : Hp} {t : Nat} (hb : h.1 = t + 1) (ht : (hpT h t).1 = 10) (h0 : t ≠ 0) (hz : hpC h t 7 = 0) {d : Nat} {R : PR} (hd : 3 ≤ d) (H : ∀ h', h'.1 = t + 23 → FrB t (fun _ _ => False) h h' → TR h' t wE → R none h') : Wp m_Town_init 0 [some (xR t)] [] h d 22 674 R := by
  have hd1 : 1 ≤ d := by omega
  have hd2 : 2 ≤ d - 1 := by omega
  have hd3 : 1 ≤ d - 1 := by omega
  have l0 : t < h.1 := by omega
  have z0 : h.1 ≠ 0 := by omega
  apply f_Town_init_0
  refine ⟨⟨hd1, h0⟩, ⟨by decide, by decide⟩, fun g1 e1 => ?_⟩
  refine ⟨⟨hd1, by decide, by decide, by rw [(nwH rfl e1).2.1]⟩, sp_Rinit (nwH rfl e1).1 (by rw [(nwH rfl e1).2.1]) z0 hd2 (fun h1 n1 fB1 rA rv _ => ?_)⟩
  have T1 : (hpT h1 t).1 = 10 := by rw [fB1.1 t l0, (nwH rfl e1).2.2.1 t (Nat.ne_of_lt l0)]; exact ht
  refine ⟨T1, fun g2 e2 => ?_⟩
  obtain ⟨m1, s1, k1⟩ := stgO l0 e1 fB1 e2
  have T2 : (hpT g2 t).1 = 10 := by rw [(upH e2).2.1]; exact T1
  have rA := rA.eq (h' := g2) (fun q g1 g2 => k1 q (Nat.lt_of_lt_of_le l0 g1))
  have rv : hpC g2 h.1 0 = 1 ∧ hpC g2 h.1 1 = 10 ∧ hpC g2 h.1 2 = 10 ∧ hpC g2 h.1 3 = 0 ∧ hpC g2 h.1 4 = 0 ∧ hpC g2 h.1 5 = 0 := by
    simp only [(k1 h.1 l0).2]; exact rv
  have m1 := m1.trans n1
  clear e1 e2 fB1 k1 T1 n1
  have l2 : t < g2.1 := by omega
  have z2 : g2.1 ≠ 0 := by omega
  refine ⟨⟨by decide, by decide⟩, fun g3 e3 => ?_⟩
  refine ⟨⟨hd1, by decide, by decide, by rw [(nwH rfl e3).2.1]⟩, sp_Ninit (l := 10) (nwH rfl e3).1 (by rw [(nwH rfl e3).2.1]) z2 (by decide) hd3 (fun h2 n2 fB2 sA sc _ => ?_)⟩
  have T3 : (hpT h2 t).1 = 10 := by rw [fB2.1 t l2, (nwH rfl e3).2.2.1 t (Nat.ne_of_lt l2)]; exact T2
  refine ⟨T3, fun g4 e4 => ?_⟩
  obtain ⟨m2, s2, k2⟩ := stgO l2 e3 fB2 e4
  have T4 : (hpT g4 t).1 = 10 := by rw [(upH e4).2.1]; exact T3
  have sA := sA.eq (h' := g4) (fun q g1 g2 => k2 q (Nat.lt_of_lt_of_le l2 g1))
  have sc : hpC g4 g2.1 2 = 0 := by rw [(k2 _ l2).2, sc, (nwH rfl e3).2.2.2.1]
  have m2 := m2.trans n2
  clear e3 e4 fB2 k2 T2 T3 n2
  have l4 : t < g4.1 := by omega
  have z4 : g4.1 ≠ 0 := by omega
  refine ⟨⟨by decide, by decide⟩, fun g5 e5 => ?_⟩
  refine ⟨⟨hd1, by decide, by decide, by rw [(nwH rfl e5).2.1]⟩, sp_Ninit (l := 12) (nwH rfl e5).1 (by rw [(nwH rfl e5).2.1]) z4 (by decide) hd3 (fun h3 n3 fB3 pA pc _ => ?_)⟩
  have T5 : (hpT h3 t).1 = 10 := by rw [fB3.1 t l4, (nwH rfl e5).2.2.1 t (Nat.ne_of_lt l4)]; exact T4
  refine ⟨T5, fun g6 e6 => ?_⟩
  obtain ⟨m3, s3, k3⟩ := stgO l4 e5 fB3 e6
  have T6 : (hpT g6 t).1 = 10 := by rw [(upH e6).2.1]; exact T5
  have pA := pA.eq (h' := g6) (fun q g1 g2 => k3 q (Nat.lt_of_lt_of_le l4 g1))
  have pc : hpC g6 g4.1 2 = 0 := by rw [(k3 _ l4).2, pc, (nwH rfl e5).2.2.2.1]
  have m3 := m3.trans n3
  clear e5 e6 fB3 k3 T4 T5 n3
  have l6 : t < g6.1 := by omega
  have z6 : g6.1 ≠ 0 := by omega
  refine ⟨⟨by decide, by decide⟩, fun g7 e7 => ?_⟩
  refine ⟨⟨hd1, by decide, by decide, by rw [(nwH rfl e7).2.1]⟩, sp_Ninit (l := 30) (nwH rfl e7).1 (by rw [(nwH rfl e7).2.1]) z6 (by decide) hd3 (fun h4 n4 fB4 aA ac _ => ?_)⟩
  have T7 : (hpT h4 t).1 = 10 := by rw [fB4.1 t l6, (nwH rfl e7).2.2.1 t (Nat.ne_of_lt l6)]; exact T6
  refine ⟨T7, fun g8 e8 => ?_⟩
  obtain ⟨m4, s4, k4⟩ := stgO l6 e7 fB4 e8
  have T8 : (hpT g8 t).1 = 10 := by rw [(upH e8).2.1]; exact T7
  have aA := aA.eq (h' := g8) (fun q g1 g2 => k4 q (Nat.lt_of_lt_of_le l6 g1))
  have ac : hpC g8 g6.1 2 = 0 := by rw [(k4 _ l6).2, ac, (nwH rfl e7).2.2.2.1]
  have m4 := m4.trans n4
  clear e7 e8 fB4 k4 T6 T7 n4
  have l8 : t < g8.1 := by omega
  refine ⟨⟨by decide, by decide, by decide, by decide⟩, fun g9 e9 => ?_⟩
  refine ⟨by rw [(nwH rfl e9).2.2.1 t (Nat.ne_of_lt l8)]; exact T8, fun g10 e10 => ?_⟩
  obtain ⟨m5, s5, t5, _⟩ := stgA l8 e9 e10
  have T10 : (hpT g10 t).1 = 10 := by rw [s5.1 t l8]; exact T8
  clear e9 e10 T8
  have l10 : t < g10.1 := by omega
  refine ⟨⟨by decide, by decide, by decide, by decide⟩, fun g11 e11 => ?_⟩
  refine ⟨by rw [(nwH rfl e11).2.2.1 t (Nat.ne_of_lt l10)]; exact T10, fun g12 e12 => ?_⟩
  obtain ⟨m6, s6, t6, _⟩ := stgA l10 e11 e12
  have T12 : (hpT g12 t).1 = 10 := by rw [s6.1 t l10]; exact T10
  clear e11 e12 T10
  have l12 : t < g12.1 := by omega
  have z12 : g12.1 ≠ 0 := by omega
  refine ⟨⟨by decide, by decide⟩, fun g13 e13 => ?_⟩
  refine ⟨⟨hd1, by decide, by decide, by rw [(nwH rfl e13).2.1]⟩, sp_Hinit (nwH rfl e13).1 (by rw [(nwH rfl e13).2.1]) z12 hd3 (fun h5 n5 fB5 hA hz5 _ => ?_)⟩
  have T13 : (hpT h5 t).1 = 10 := by rw [fB5.1 t l12, (nwH rfl e13).2.2.1 t (Nat.ne_of_lt l12)]; exact T12
  refine ⟨T13, fun g14 e14 => ?_⟩
  obtain ⟨m7, s7, k7⟩ := stgO l12 e13 fB5 e14
  have hA := hA.eq (h' := g14) (fun q g1 g2 => k7 q (Nat.lt_of_lt_of_le l12 g1))
  have hz5 : ∀ p, hpC g14 (g12.1 + 1) p = 0 := fun p => by rw [(k7 _ (Nat.lt_succ_of_lt l12)).2]; exact hz5 p
  have m7 := m7.trans n5
  obtain ⟨r1, r2, r3⟩ := tasm hb ht hz s1 m1 rA rv s2 m2 sA sc s3 m3 pA pc s4 m4 aA ac s5 m5 t5 s6 m6 t6 s7 m7 hA hz5
  exact H g14 r1 r2 r3
