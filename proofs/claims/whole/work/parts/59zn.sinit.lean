/-! ===== a new object of the class ===== -/
/-- an object at r under making: its fields, the arrays behind it -/
def upT (tm : Nat → Nat × Nat) (j : Nat) (v : Nat × Nat) : Nat → Nat × Nat := fun i => if i = j then v else tm i
def upC (cm : Nat → Nat → Int) (j i : Nat) (v : Int) : Nat → Nat → Int := fun a b => if a = j ∧ b = i then v else cm a b
def OB (r : Nat) (h g : Hp) (K0 na : Nat) (tm : Nat → Nat × Nat) (fm : Nat → Int) (cm : Nat → Nat → Int) : Prop := g.1 = r + 1 + na ∧ (∀ q, q < r → hpT g q = hpT h q ∧ ∀ p, hpC g q p = hpC h q p) ∧ (hpT g r).1 = K0 ∧ (∀ p, hpC g r p = fm p) ∧ ∀ j, 1 ≤ j → j ≤ na → hpT g (r + j) = tm j ∧ ∀ p, hpC g (r + j) p = cm j p
theorem OB.st {r K0 : Nat} {h : Hp} (hb : h.1 = r + 1) (ht : (hpT h r).1 = K0) : OB r h h K0 0 (fun _ => (0, 0)) (hpC h r) (fun _ _ => 0) := ⟨hb, fun q _ => ⟨rfl, fun _ => rfl⟩, ht, fun _ => rfl, fun j h1 h2 => by omega⟩
theorem OB.N {r K0 na : Nat} {h g : Hp} {tm : Nat → Nat × Nat} {fm : Nat → Int} {cm : Nat → Nat → Int} (c : OB r h g K0 na tm fm cm) {K n : Nat} {g1 : Hp} (e : g1 = hpN g K n) (hz : ∀ p, cm (na + 1) p = 0) : OB r h g1 K0 (na + 1) (upT tm (na + 1) (K, n)) fm cm := by
  obtain ⟨c1, c2, c3, c4, c5⟩ := c
  obtain ⟨n1, n2, n3, n4, n5⟩ := nwH c1 e
  refine ⟨by rw [n1]; omega, fun q hq => ⟨by rw [n3 q (by omega)]; exact (c2 q hq).1, fun p => by rw [n5 q p (by omega)]; exact (c2 q hq).2 p⟩, by rw [n3 r (by omega)]; exact c3, fun p => by rw [n5 r p (by omega)]; exact c4 p, fun j h1 h2 => ?_⟩
  unfold upT
  by_cases z : j = na + 1
  · subst z
    rw [if_pos rfl, show r + (na + 1) = r + 1 + na by omega]
    exact ⟨n2, fun p => by rw [n4, hz]⟩
  · rw [if_neg z, n3 _ (by omega)]
    exact ⟨(c5 j h1 (by omega)).1, fun p => by rw [n5 _ _ (by omega)]; exact (c5 j h1 (by omega)).2 p⟩
theorem OB.F {r K0 na : Nat} {h g : Hp} {tm : Nat → Nat × Nat} {fm : Nat → Int} {cm : Nat → Nat → Int} (c : OB r h g K0 na tm fm cm) {f : Nat} {v : Int} {g1 : Hp} (e : g1 = hpU g r f v) : OB r h g1 K0 na tm (upD fm f v) cm := by
  obtain ⟨c1, c2, c3, c4, c5⟩ := c
  obtain ⟨u1, u2, u3, u4⟩ := upH e
  refine ⟨by rw [u1]; exact c1, fun q hq => ⟨by rw [u2]; exact (c2 q hq).1, fun p => by rw [u4 q p (by omega)]; exact (c2 q hq).2 p⟩, by rw [u2]; exact c3, fun p => ?_, fun j h1 h2 => ⟨by rw [u2]; exact (c5 j h1 h2).1, fun p => by rw [u4 _ _ (by omega)]; exact (c5 j h1 h2).2 p⟩⟩
  by_cases z : p = f
  · subst z; rw [u3, upD_s]
  · rw [u4 _ _ (fun y => z y.2), upD_o z]; exact c4 p
theorem OB.T {r K0 na : Nat} {h g : Hp} {tm : Nat → Nat × Nat} {fm : Nat → Int} {cm : Nat → Nat → Int} (c : OB r h g K0 na tm fm cm) {j i a : Nat} {v : Int} {g1 : Hp} (ha : a = r + j) (h1 : 1 ≤ j) (e : g1 = hpU g a i v) : OB r h g1 K0 na tm fm (upC cm j i v) := by
  subst ha
  obtain ⟨c1, c2, c3, c4, c5⟩ := c
  obtain ⟨u1, u2, u3, u4⟩ := upH e
  refine ⟨by rw [u1]; exact c1, fun q hq => ⟨by rw [u2]; exact (c2 q hq).1, fun p => by rw [u4 q p (by omega)]; exact (c2 q hq).2 p⟩, by rw [u2]; exact c3, fun p => by rw [u4 _ _ (by omega)]; exact c4 p, fun k k1 k2 => ⟨by rw [u2]; exact (c5 k k1 k2).1, fun p => ?_⟩⟩
  unfold upC
  by_cases z : k = j ∧ p = i
  · obtain ⟨rfl, rfl⟩ := z
    rw [if_pos ⟨rfl, rfl⟩, u3]
  · rw [if_neg z, u4 _ _ (by omega)]; exact (c5 k k1 k2).2 p
theorem OB.tag {r K0 na : Nat} {h g : Hp} {tm : Nat → Nat × Nat} {fm : Nat → Int} {cm : Nat → Nat → Int} (c : OB r h g K0 na tm fm cm) : (hpT g r).1 = K0 := c.2.2.1
theorem OB.sz {r K0 na : Nat} {h g : Hp} {tm : Nat → Nat × Nat} {fm : Nat → Int} {cm : Nat → Nat → Int} (c : OB r h g K0 na tm fm cm) : g.1 = r + 1 + na := c.1
theorem OB.f {r K0 na : Nat} {h g : Hp} {tm : Nat → Nat × Nat} {fm : Nat → Int} {cm : Nat → Nat → Int} (c : OB r h g K0 na tm fm cm) (p : Nat) : hpC g r p = fm p := c.2.2.2.1 p
theorem OB.t {r K0 na : Nat} {h g : Hp} {tm : Nat → Nat × Nat} {fm : Nat → Int} {cm : Nat → Nat → Int} (c : OB r h g K0 na tm fm cm) (j : Nat) (h1 : 1 ≤ j) (h2 : j ≤ na) : hpT g (r + j) = tm j := (c.2.2.2.2 j h1 h2).1
theorem OB.B {r K0 na : Nat} {h g : Hp} {tm : Nat → Nat × Nat} {fm : Nat → Int} {cm : Nat → Nat → Int} (c : OB r h g K0 na tm fm cm) : FrB r (fun _ _ => False) h g := ⟨fun q hq => (c.2.1 q hq).1, fun q p hq _ => (c.2.1 q hq).2 p⟩
theorem sp_Einit {h : Hp} {r : Nat} (hb : h.1 = r + 1) (ht : (hpT h r).1 = 1) (hr : r ≠ 0) {d : Nat} {R : PR} (hd : 1 ≤ d) (H : ∀ h', h'.1 = r + 2 → FrB r (fun _ _ => False) h h' → earAt h' r (r + 1) → R none h') : Wp m_Ear_init 0 [some (xR r)] [] h d 1 11 R := by
  apply f_Ear_init_0
  rw [show Int.toNat (11 : Int) = 11 from rfl]
  refine ⟨⟨hd, hr⟩, ⟨by decide, by decide, by decide, by decide⟩, fun g1 e1 => ?_⟩
  refine ⟨by rw [(nwH hb e1).2.2.1 r (by omega)]; exact ht, fun g2 e2 => ?_⟩
  obtain ⟨a1, a2, a3, a4, a5, a6⟩ := arH hb (by omega) e1 e2 (by rw [hb])
  exact H g2 a1 ⟨fun q hq => a3 q (by omega), fun q p hq _ => a6 q p (by omega) (by omega)⟩ ⟨by rw [a3 r (by omega)]; exact ht, a5, a2, by omega⟩
theorem sp_Pinit {h : Hp} {r : Nat} (hb : h.1 = r + 1) (ht : (hpT h r).1 = 6) (hr : r ≠ 0) (hz : ∀ p, hpC h r p = 0) {d : Nat} {R : PR} (hd : 1 ≤ d) (H : ∀ h', h'.1 = r + 6 → FrB r (fun _ _ => False) h h' → plAt h' r → hpC h' r 2 = 0 → hpC h' r 3 = 0 → R none h') : Wp m_Planner_init 0 [some (xR r)] [] h d 5 108 R := by
  apply f_Planner_init_0
  have c := OB.st hb ht
  refine ⟨⟨hd, hr⟩, ht, fun g0 e0 => ?_⟩
  have c0 := c.F e0
  clear e0 c
  refine ⟨⟨by decide, by decide, by decide, by decide⟩, fun g1 e1 => ?_⟩
  have c1 := c0.N e1 (fun _ => rfl)
  have z0 := c0.sz
  clear e1
  refine ⟨c1.tag, fun g2 e2 => ?_⟩
  rw [z0] at e2
  have c2 := c1.F e2
  clear c1 z0 e2
  refine ⟨⟨by decide, by decide, by decide, by decide⟩, fun g3 e3 => ?_⟩
  have c3 := c2.N e3 (fun _ => rfl)
  have z2 := c2.sz
  clear e3
  refine ⟨c3.tag, fun g4 e4 => ?_⟩
  rw [z2] at e4
  have c4 := c3.F e4
  clear c3 z2 e4
  refine ⟨⟨by decide, by decide, by decide, by decide⟩, fun g5 e5 => ?_⟩
  have c5 := c4.N e5 (fun _ => rfl)
  have z4 := c4.sz
  clear e5
  refine ⟨c5.tag, fun g6 e6 => ?_⟩
  rw [z4] at e6
  have c6 := c5.F e6
  clear c5 z4 e6
  refine ⟨⟨by decide, by decide, by decide, by decide⟩, fun g7 e7 => ?_⟩
  have c7 := c6.N e7 (fun _ => rfl)
  have z6 := c6.sz
  clear e7
  refine ⟨c7.tag, fun g8 e8 => ?_⟩
  rw [z6] at e8
  have c8 := c7.F e8
  clear c7 z6 e8
  refine ⟨⟨by decide, by decide, by decide, by decide⟩, fun g9 e9 => ?_⟩
  have c9 := c8.N e9 (fun _ => rfl)
  have z8 := c8.sz
  clear e9
  refine ⟨c9.tag, fun g10 e10 => ?_⟩
  rw [z8] at e10
  have c10 := c9.F e10
  clear c9 z8 e10
  exact H g10 c10.sz c10.B ⟨c10.tag, c10.f 1, c10.f 6, c10.f 7, c10.f 8, c10.f 9, c10.t 1 (by decide) (by decide), c10.t 2 (by decide) (by decide), c10.t 3 (by decide) (by decide), c10.t 4 (by decide) (by decide), c10.t 5 (by decide) (by decide)⟩ ((c10.f 2).trans (hz 2)) ((c10.f 3).trans (hz 3))
theorem sp_Nuinit {h : Hp} {r : Nat} (hb : h.1 = r + 1) (ht : (hpT h r).1 = 4) (hr : r ≠ 0) {d : Nat} {R : PR} (hd : 1 ≤ d) (H : ∀ h', h'.1 = r + 7 → FrB r (fun _ _ => False) h h' → numAt h' r → R none h') : Wp m_Numbering_init 0 [some (xR r)] [] h d 6 74 R := by
  apply f_Numbering_init_0
  have c0 := OB.st hb ht
  refine ⟨⟨hd, hr⟩, ?_⟩
  refine ⟨⟨by decide, by decide, by decide, by decide⟩, fun g1 e1 => ?_⟩
  have c1 := c0.N e1 (fun _ => rfl)
  have z0 := c0.sz
  clear e1
  refine ⟨c1.tag, fun g2 e2 => ?_⟩
  rw [z0] at e2
  have c2 := c1.F e2
  clear c1 z0 e2
  refine ⟨⟨by decide, by decide, by decide, by decide⟩, fun g3 e3 => ?_⟩
  have c3 := c2.N e3 (fun _ => rfl)
  have z2 := c2.sz
  clear e3
  refine ⟨c3.tag, fun g4 e4 => ?_⟩
  rw [z2] at e4
  have c4 := c3.F e4
  clear c3 z2 e4
  refine ⟨⟨by decide, by decide, by decide, by decide⟩, fun g5 e5 => ?_⟩
  have c5 := c4.N e5 (fun _ => rfl)
  have z4 := c4.sz
  clear e5
  refine ⟨c5.tag, fun g6 e6 => ?_⟩
  rw [z4] at e6
  have c6 := c5.F e6
  clear c5 z4 e6
  refine ⟨⟨by decide, by decide, by decide, by decide⟩, fun g7 e7 => ?_⟩
  have c7 := c6.N e7 (fun _ => rfl)
  have z6 := c6.sz
  clear e7
  refine ⟨c7.tag, fun g8 e8 => ?_⟩
  rw [z6] at e8
  have c8 := c7.F e8
  clear c7 z6 e8
  refine ⟨⟨by decide, by decide, by decide, by decide⟩, fun g9 e9 => ?_⟩
  have c9 := c8.N e9 (fun _ => rfl)
  have z8 := c8.sz
  clear e9
  refine ⟨c9.tag, fun g10 e10 => ?_⟩
  rw [z8] at e10
  have c10 := c9.F e10
  clear c9 z8 e10
  refine ⟨⟨by decide, by decide, by decide, by decide⟩, fun g11 e11 => ?_⟩
  have c11 := c10.N e11 (fun _ => rfl)
  have z10 := c10.sz
  clear e11
  refine ⟨c11.tag, fun g12 e12 => ?_⟩
  rw [z10] at e12
  have c12 := c11.F e12
  clear c11 z10 e12
  exact H g12 c12.sz c12.B ⟨c12.tag, c12.f 0, c12.f 2, c12.f 3, c12.f 4, c12.f 5, c12.f 6, c12.t 1 (by decide) (by decide), c12.t 2 (by decide) (by decide), c12.t 3 (by decide) (by decide), c12.t 4 (by decide) (by decide), c12.t 5 (by decide) (by decide), c12.t 6 (by decide) (by decide)⟩
theorem sp_Painit {h : Hp} {r : Nat} (hb : h.1 = r + 1) (ht : (hpT h r).1 = 5) (hr : r ≠ 0) (hz : ∀ p, hpC h r p = 0) {d : Nat} {R : PR} (hd : 1 ≤ d) (H : ∀ h', h'.1 = r + 2 → FrB r (fun _ _ => False) h h' → ((hpT h' r).1 = 5 ∧ hpC h' r 0 = ((r + 1 : Nat) : Int) ∧ hpC h' r 1 = 0 ∧ hpC h' r 2 = 0 ∧ hpT h' (r + 1) = (24, 20) ∧ ∀ p, hpC h' (r + 1) p = 0) → R none h') : Wp m_Past_init 0 [some (xR r)] [] h d 1 20 R := by
  apply f_Past_init_0
  rw [show Int.toNat (20 : Int) = 20 from rfl]
  refine ⟨⟨hd, hr⟩, ⟨by decide, by decide, by decide, by decide⟩, fun g1 e1 => ?_⟩
  refine ⟨by rw [(nwH hb e1).2.2.1 r (by omega)]; exact ht, fun g2 e2 => ?_⟩
  obtain ⟨a1, a2, a3, a4, a5, a6⟩ := arH hb (by omega) e1 e2 (by rw [hb])
  exact H g2 a1 ⟨fun q hq => a3 q (by omega), fun q p hq _ => a6 q p (by omega) (by omega)⟩ ⟨by rw [a3 r (by omega)]; exact ht, a5, by rw [a6 _ _ (by omega) (by omega)]; exact hz 1, by rw [a6 _ _ (by omega) (by omega)]; exact hz 2, a2, a4⟩
theorem sp_Rdinit {h : Hp} {r r1 : Nat} (hb : h.1 = r + 1) (ht : (hpT h r).1 = 7) (hr : r ≠ 0) {d : Nat} {R : PR} (hd : 4 ≤ d) (H : ∀ h', h'.1 = r + 24 → FrB r (fun _ _ => False) h h' → ((hpT h' r).1 = 7 ∧ hpC h' r 0 = ((r + 1 : Nat) : Int) ∧ hpC h' r 3 = (r1 : Int) ∧ townAt h' (r + 1)) → R none h') : Wp m_Reader_init 0 [some (xR r), some (xR r1)] [] h d 23 682 R := by
  apply f_Reader_init_0
  refine ⟨⟨by omega, hr⟩, ⟨by decide, by decide⟩, fun g1 e1 => ?_⟩
  obtain ⟨n1, n2, n3, n4, n5⟩ := nwH hb e1
  rw [hb]
  refine ⟨⟨by omega, by decide, by decide, by rw [n2]⟩, sp_Tinit n1 (by rw [n2]) (by omega) (n4 7) (by omega) (fun h1 m1 fB tr _ => ?_)⟩
  have T1 : (hpT h1 r).1 = 7 := by rw [fB.1 r (by omega), n3 r (by omega)]; exact ht
  refine ⟨T1, fun g2 e2 => ?_⟩
  obtain ⟨u1, u2, u3, u4⟩ := upH e2
  refine ⟨by rw [u2]; exact T1, fun g3 e3 => ?_⟩
  obtain ⟨w1, w2, w3, w4⟩ := upH e3
  refine H g3 (by rw [w1, u1, m1]) ⟨fun q hq => ?_, fun q p hq _ => ?_⟩ ⟨by rw [w2, u2]; exact T1, ?_, w3, tr.1.1.eq (fun q h1 h2 => ⟨by rw [w2, u2], fun p => by rw [w4 _ _ (by omega), u4 _ _ (by omega)]⟩)⟩
  · rw [w2, u2, fB.1 q (by omega), n3 q (by omega)]
  · rw [w4 _ _ (by omega), u4 _ _ (by omega), fB.2 q p (by omega) (fun z => z), n5 q p (by omega)]
  · rw [w4 _ _ (by omega), u3]
/-! the own words of the tape -/
def txN : List Nat := [110, 101, 97, 114, 32, 32, 108, 97, 115, 116, 32, 32, 115, 116, 101, 112, 32, 32, 109, 117, 116, 101, 32, 32, 115, 97, 109, 101, 32, 32, 112, 97, 105, 114, 32, 32, 115, 116, 114, 101, 101, 116, 104, 111, 117, 115, 101, 32, 108, 101, 102, 116, 32, 32, 114, 105, 103, 104, 116, 32, 97, 108, 105, 97, 115, 32, 111, 102, 32, 32, 32, 32, 112, 111, 111, 108, 32, 32]
def oW : Nat → Nat → Nat
  | 0, _ => 0
  | i + 1, w => if txN.getD i 0 = 32 then oW i w else if w = i / 6 then oW i w ||| ((txN.getD i 0 - 96) * 32 ^ (i % 6)) else oW i w
theorem oW_end : ∀ w, w < 13 → oW 78 w = pkL (owL w) := by decide +kernel
theorem oW_bd : ∀ i, i < 78 → ∀ w, w < 13 → oW i w < 9223372036854775808 := by decide +kernel
theorem tx_bd : ∀ i, i < 78 → (txN.getD i 0 = 32 ∨ (97 ≤ txN.getD i 0 ∧ txN.getD i 0 ≤ 122)) ∧ (txN.getD i 0 - 96) * 32 ^ (i % 6) < 9223372036854775808 := by decide +kernel
def TX (h : Hp) : Prop := hpT h 2 = (26, 78) ∧ ∀ i, i < 78 → hpC h 2 i = (txN.getD i 0 : Int)
theorem sp_Tpinit {h : Hp} {r : Nat} (hb : h.1 = r + 1) (ht : (hpT h r).1 = 9) (hr : 3 ≤ r) (tx : TX h) (hz : hpC h r 1 = 0) {d : Nat} {R : PR} (hd : 6 ≤ d) {o1 o2 : Option AV} (H : ∀ h', h'.1 = r + 3 → FrB r (fun _ _ => False) h h' → ((hpT h' r).1 = 9 ∧ hpC h' r 0 = ((r + 1 : Nat) : Int) ∧ hpC h' r 1 = 0 ∧ hpC h' r 2 = ((r + 2 : Nat) : Int) ∧ hpT h' (r + 1) = (22, 2000) ∧ hpT h' (r + 2) = (21, 13) ∧ ∀ i : Nat, i < 13 → hpC h' (r + 2) i = (pkL (owL i) : Int)) → R none h') : Wp m_Tape_init 0 [some (xR r), o1, o2] [] h d 2 2013 R := by
  apply f_Tape_init_0
  rw [show Int.toNat (2000 : Int) = 2000 from rfl, show Int.toNat (13 : Int) = 13 from rfl]
  refine ⟨⟨by omega, by omega⟩, ⟨by decide, by decide, by decide, by decide⟩, fun g1 e1 => ?_⟩
  refine ⟨by rw [(nwH hb e1).2.2.1 r (by omega)]; exact ht, fun g2 e2 => ?_⟩
  obtain ⟨a1, a2, a3, a4, a5, a6⟩ := arH hb (by omega) e1 e2 (by rw [hb])
  have T2 : (hpT g2 r).1 = 9 := by rw [a3 r (by omega)]; exact ht
  clear e1 e2
  refine ⟨⟨by decide, by decide, by decide, by decide⟩, fun g3 e3 => ?_⟩
  refine ⟨by rw [(nwH a1 e3).2.2.1 r (by omega)]; exact T2, fun g4 e4 => ?_⟩
  obtain ⟨b1, b2, b3, b4, b5, b6⟩ := arH a1 (by omega) e3 e4 (by rw [a1])
  have T4 : (hpT g4 r).1 = 9 := by rw [b3 r (by omega)]; exact T2
  clear e3 e4
  have L : ∀ (j i : Nat) (g : Hp) (o2 : Option AV), i + j = 78 → FrP (fun q _ => q = r + 2) g4 g → (∀ w, w < 13 → hpC g (r + 2) w = (oW i w : Int)) → Wp m_Tape_init 23 [some (xR r), some (xI (i : Int)), o2] [] g d (2 - 1 - 1) (2013 - 2000 - 13) R := by
    intro j
    induction j with
    | zero =>
      intro i g o2 hi f z
      obtain rfl : i = 78 := by omega
      apply f_Tape_init_23
      rw [if_neg (by decide)]
      have no : ∀ q p, q ≠ r + 2 → hpC g q p = hpC g4 q p := fun q p hq => f.2.2 q p hq
      refine H g (by rw [f.1, b1]) ⟨fun q hq => ?_, fun q p hq _ => ?_⟩ ⟨by rw [f.2.1]; exact T4, ?_, ?_, ?_, ?_, by rw [f.2.1]; exact b2, fun i hi => by rw [z i hi, oW_end i hi]⟩
      · rw [f.2.1, b3 q (by omega), a3 q (by omega)]
      · rw [no _ _ (by omega), b6 _ _ (by omega) (by omega), a6 _ _ (by omega) (by omega)]
      · rw [no _ _ (by omega), b6 _ _ (by omega) (by omega)]; exact a5
      · rw [no _ _ (by omega), b6 _ _ (by omega) (by omega), a6 _ _ (by omega) (by omega)]; exact hz
      · rw [no _ _ (by omega)]; exact b5
      · rw [f.2.1, b3 _ (by omega)]; exact a2
    | succ j ih =>
      intro i g o2 hi f z
      have no : ∀ q p, q ≠ r + 2 → hpC g q p = hpC g4 q p := fun q p hq => f.2.2 q p hq
      have t2 : hpT g 2 = (26, 78) := by rw [f.2.1, b3 2 (by omega), a3 2 (by omega)]; exact tx.1
      have c2 : hpC g 2 i = (txN.getD i 0 : Int) := by rw [no _ _ (by omega), b6 _ _ (by omega) (by omega), a6 _ _ (by omega) (by omega)]; exact tx.2 i (by omega)
      obtain ⟨bd1, bd2⟩ := tx_bd i (by omega)
      apply f_Tape_init_23
      rw [if_pos (by omega), t2, Int.toNat_natCast, c2, ab_1 (by omega)]
      refine ⟨⟨by omega, rfl, by omega, by show (i : Int) < 78; omega⟩, ?_⟩
      by_cases y : txN.getD i 0 = 32
      · rw [if_pos (by omega)]
        exact ih (i + 1) g _ (by omega) f (fun w hw => by rw [z w hw]; simp only [oW]; rw [if_pos y])
      · rw [if_neg (by omega)]
        have r2 : Int.toNat (hpC g r 2) = r + 2 := by rw [no _ _ (by omega), b5, Int.toNat_natCast]
        have tg : hpT g (r + 2) = (21, 13) := by rw [f.2.1]; exact b2
        rw [r2, tg, ai_div_eq (by omega) (by omega) (by decide) (by decide), ai_rem_eq (by omega) (by omega) (by decide) (by decide), show (i : Int) / 6 = ((i / 6 : Nat) : Int) by omega, show (i : Int) % 6 = ((i % 6 : Nat) : Int) by omega, Int.toNat_natCast, z (i / 6) (by omega), show ai_add (ai_sub (txN.getD i 0 : Int) 97) 1 = ((txN.getD i 0 - 96 : Nat) : Int) from by rw [ai_sub_eq (by omega) (by omega), ai_add_eq (by omega) (by omega)]; omega]
        refine ⟨by rw [f.2.1]; exact T4, by decide, ⟨rfl, by omega, by show ((i / 6 : Nat) : Int) < 13; omega⟩, by decide, by omega, sp_letterPut (by omega) (by omega) (fun v ee => ?_)⟩
        have ev := xL_inj ee
        rw [ev, tg, al_or_nat (oW_bd i (by omega) _ (by omega)) bd2]
        refine ⟨⟨rfl, by omega, by show ((i / 6 : Nat) : Int) < 13; omega⟩, fun g5 e5 => ?_⟩
        refine ih (i + 1) g5 _ (by omega) (f.tr (by subst e5; exact FrP.up rfl)) (fun w hw => ?_)
        subst e5
        simp only [oW]
        rw [if_neg y]
        by_cases u : w = i / 6
        · subst u; rw [hpC_same, if_pos rfl]
        · rw [hpC_o2 u, if_neg u]; exact z w hw
  exact L 78 0 g4 _ (by omega) FrP.rf (fun w hw => by rw [b4]; rfl)
