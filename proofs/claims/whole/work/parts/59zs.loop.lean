/-! ===== the law, whole (by program: genloop.py) ===== -/
theorem law_loop {L : Nat} (hL : L ≤ 3072) : ∀ (f i mc ms : Nat) (h : Hp), INV L h → L < i + 6 * f → i ≤ L + 6 → 23 * f ≤ mc → 682 * f ≤ ms → Wp 1000 18 [some (xR 1), some (xR 3), some (xR 73), some (xI (i : Int))] [] h 2000 mc ms (fun rv _ => rv = some (xI 1)) := by
  intro f
  induction f with
  | zero =>
    intro i mc ms h iv hf hi hm hs
    obtain ⟨_, _, _, _, _, _, _, _, _, _, _, _, _, _, _, _, _, t1⟩ := id iv
    apply b_law_18
    rw [t1]
    refine ⟨rfl, ?_⟩
    rw [if_pos (by show ai_sub (L : Int) 6 < (i : Int); rw [ai_sub_eq (by omega) (by omega)]; omega)]
    exact b_law_1527 _ _ _ _ ⟨by simp, rfl⟩
  | succ f ih =>
    intro i mc ms h iv hf hi hm hs
    obtain ⟨_, _, _, _, _, _, _, _, _, _, _, _, _, _, _, _, _, t1⟩ := id iv
    have nx : ∀ h2 mc' ms', INV L h2 → mc ≤ mc' + 23 → ms ≤ ms' + 682 → i + 6 ≤ L → Wp 1000 1521 [some (xR 1), some (xR 3), some (xR 73), some (xI (i : Int))] [] h2 2000 mc' ms' (fun rv _ => rv = some (xI 1)) := fun h2 mc' ms' iv2 e1 e2 e3 => by
      apply b_law_1521
      rw [show ai_add (i : Int) 6 = ((i + 6 : Nat) : Int) from by rw [ai_add_eq (by omega) (by omega)]; omega]
      exact ih (i + 6) mc' ms' h2 iv2 (by omega) (by omega) (by omega) (by omega)
    by_cases e : L < i + 6
    · apply b_law_18
      rw [t1]
      refine ⟨rfl, ?_⟩
      rw [if_pos (by show ai_sub (L : Int) 6 < (i : Int); rw [ai_sub_eq (by omega) (by omega)]; omega)]
      exact b_law_1527 _ _ _ _ ⟨by simp, rfl⟩
    · have hi6 : i + 6 ≤ L := by omega
      have m23 : 23 ≤ mc := by omega
      have m682 : 682 ≤ ms := by omega
      have nx' : ∀ h2 mc' ms', INV L h2 → mc ≤ mc' + 23 → ms ≤ ms' + 682 → Wp 1000 1521 [some (xR 1), some (xR 3), some (xR 73), some (xI (i : Int))] [] h2 2000 mc' ms' (fun rv _ => rv = some (xI 1)) := fun h2 mc' ms' iv2 e1 e2 => nx h2 mc' ms' iv2 e1 e2 hi6
      apply b_law_18
      rw [t1]
      refine ⟨rfl, ?_⟩
      rw [if_neg (by show ¬ ai_sub (L : Int) 6 < (i : Int); rw [ai_sub_eq (by omega) (by omega)]; omega)]
      refine ⟨⟨rfl, by omega, by show (i : Int) < (L : Int); omega⟩, ?_⟩
      generalize ai_and (hpC h 1 (Int.toNat (i : Int))) (63 : Int) = u
      by_cases c0 : u = ((0 : Nat) : Int)
      · rw [if_pos c0]; exact lb_220 iv hi6 hL m23 m682 nx'
      rw [if_neg c0]
      by_cases c1 : u = ((1 : Nat) : Int)
      · rw [if_pos c1]; exact lb_283 iv hi6 hL m23 m682 nx'
      rw [if_neg c1]
      by_cases c2 : u = ((2 : Nat) : Int)
      · rw [if_pos c2]; exact lb_306 iv hi6 hL m23 m682 nx'
      rw [if_neg c2]
      by_cases c3 : u = ((3 : Nat) : Int)
      · rw [if_pos c3]; exact lb_319 iv hi6 hL m23 m682 nx'
      rw [if_neg c3]
      by_cases c4 : u = ((4 : Nat) : Int)
      · rw [if_pos c4]; exact lb_342 iv hi6 hL m23 m682 nx'
      rw [if_neg c4]
      by_cases c5 : u = ((5 : Nat) : Int)
      · rw [if_pos c5]; exact lb_365 iv hi6 hL m23 m682 nx'
      rw [if_neg c5]
      by_cases c6 : u = ((6 : Nat) : Int)
      · rw [if_pos c6]; exact lb_408 iv hi6 hL m23 m682 nx'
      rw [if_neg c6]
      by_cases c7 : u = ((7 : Nat) : Int)
      · rw [if_pos c7]; exact lb_451 iv hi6 hL m23 m682 nx'
      rw [if_neg c7]
      by_cases c8 : u = ((8 : Nat) : Int)
      · rw [if_pos c8]; exact lb_504 iv hi6 hL m23 m682 nx'
      rw [if_neg c8]
      by_cases c9 : u = ((9 : Nat) : Int)
      · rw [if_pos c9]; exact lb_557 iv hi6 hL m23 m682 nx'
      rw [if_neg c9]
      by_cases c10 : u = ((10 : Nat) : Int)
      · rw [if_pos c10]; exact lb_590 iv hi6 hL m23 m682 nx'
      rw [if_neg c10]
      by_cases c11 : u = ((11 : Nat) : Int)
      · rw [if_pos c11]; exact lb_603 iv hi6 hL m23 m682 nx'
      rw [if_neg c11]
      by_cases c12 : u = ((12 : Nat) : Int)
      · rw [if_pos c12]; exact lb_626 iv hi6 hL m23 m682 nx'
      rw [if_neg c12]
      by_cases c13 : u = ((13 : Nat) : Int)
      · rw [if_pos c13]; exact lb_639 iv hi6 hL m23 m682 nx'
      rw [if_neg c13]
      by_cases c14 : u = ((14 : Nat) : Int)
      · rw [if_pos c14]; exact lb_652 iv hi6 hL m23 m682 nx'
      rw [if_neg c14]
      by_cases c15 : u = ((15 : Nat) : Int)
      · rw [if_pos c15]; exact lb_695 iv hi6 hL m23 m682 nx'
      rw [if_neg c15]
      by_cases c16 : u = ((16 : Nat) : Int)
      · rw [if_pos c16]; exact lb_718 iv hi6 hL m23 m682 nx'
      rw [if_neg c16]
      by_cases c17 : u = ((17 : Nat) : Int)
      · rw [if_pos c17]; exact lb_741 iv hi6 hL m23 m682 nx'
      rw [if_neg c17]
      by_cases c18 : u = ((18 : Nat) : Int)
      · rw [if_pos c18]; exact lb_774 iv hi6 hL m23 m682 nx'
      rw [if_neg c18]
      by_cases c19 : u = ((19 : Nat) : Int)
      · rw [if_pos c19]; exact lb_807 iv hi6 hL m23 m682 nx'
      rw [if_neg c19]
      by_cases c20 : u = ((20 : Nat) : Int)
      · rw [if_pos c20]; exact lb_830 iv hi6 hL m23 m682 nx'
      rw [if_neg c20]
      by_cases c21 : u = ((21 : Nat) : Int)
      · rw [if_pos c21]; exact lb_853 iv hi6 hL m23 m682 nx'
      rw [if_neg c21]
      by_cases c22 : u = ((22 : Nat) : Int)
      · rw [if_pos c22]; exact lb_866 iv hi6 hL m23 m682 nx'
      rw [if_neg c22]
      by_cases c23 : u = ((23 : Nat) : Int)
      · rw [if_pos c23]; exact lb_889 iv hi6 hL m23 m682 nx'
      rw [if_neg c23]
      by_cases c24 : u = ((24 : Nat) : Int)
      · rw [if_pos c24]; exact lb_932 iv hi6 hL m23 m682 nx'
      rw [if_neg c24]
      by_cases c25 : u = ((25 : Nat) : Int)
      · rw [if_pos c25]; exact lb_965 iv hi6 hL m23 m682 nx'
      rw [if_neg c25]
      by_cases c26 : u = ((26 : Nat) : Int)
      · rw [if_pos c26]; exact lb_988 iv hi6 hL m23 m682 nx'
      rw [if_neg c26]
      by_cases c27 : u = ((27 : Nat) : Int)
      · rw [if_pos c27]; exact lb_1011 iv hi6 hL m23 m682 nx'
      rw [if_neg c27]
      by_cases c28 : u = ((28 : Nat) : Int)
      · rw [if_pos c28]; exact lb_1044 iv hi6 hL m23 m682 nx'
      rw [if_neg c28]
      by_cases c29 : u = ((29 : Nat) : Int)
      · rw [if_pos c29]; exact lb_1087 iv hi6 hL m23 m682 nx'
      rw [if_neg c29]
      by_cases c30 : u = ((30 : Nat) : Int)
      · rw [if_pos c30]; exact lb_1120 iv hi6 hL m23 m682 nx'
      rw [if_neg c30]
      by_cases c31 : u = ((31 : Nat) : Int)
      · rw [if_pos c31]; exact lb_1153 iv hi6 hL m23 m682 nx'
      rw [if_neg c31]
      by_cases c32 : u = ((32 : Nat) : Int)
      · rw [if_pos c32]; exact lb_1186 iv hi6 hL m23 m682 nx'
      rw [if_neg c32]
      by_cases c33 : u = ((33 : Nat) : Int)
      · rw [if_pos c33]; exact lb_1199 iv hi6 hL m23 m682 nx'
      rw [if_neg c33]
      by_cases c34 : u = ((34 : Nat) : Int)
      · rw [if_pos c34]; exact lb_1222 iv hi6 hL m23 m682 nx'
      rw [if_neg c34]
      by_cases c35 : u = ((35 : Nat) : Int)
      · rw [if_pos c35]; exact lb_1265 iv hi6 hL m23 m682 nx'
      rw [if_neg c35]
      by_cases c36 : u = ((36 : Nat) : Int)
      · rw [if_pos c36]; exact lb_1298 iv hi6 hL m23 m682 nx'
      rw [if_neg c36]
      by_cases c37 : u = ((37 : Nat) : Int)
      · rw [if_pos c37]; exact lb_1321 iv hi6 hL m23 m682 nx'
      rw [if_neg c37]
      by_cases c38 : u = ((38 : Nat) : Int)
      · rw [if_pos c38]; exact lb_1334 iv hi6 hL m23 m682 nx'
      rw [if_neg c38]
      by_cases c39 : u = ((39 : Nat) : Int)
      · rw [if_pos c39]; exact lb_1398 iv hi6 hL m23 m682 nx'
      rw [if_neg c39]
      by_cases c40 : u = ((40 : Nat) : Int)
      · rw [if_pos c40]; exact lb_1452 iv hi6 hL m23 m682 nx'
      rw [if_neg c40]
      by_cases c41 : u = ((41 : Nat) : Int)
      · rw [if_pos c41]; exact lb_1475 iv hi6 hL m23 m682 nx'
      rw [if_neg c41]
      by_cases c42 : u = ((42 : Nat) : Int)
      · rw [if_pos c42]; exact lb_1498 iv hi6 hL m23 m682 nx'
      rw [if_neg c42]
      exact nx' h mc ms iv (by omega) (by omega)
theorem law_go {L : Nat} (hL : L ≤ 3072) {h : Hp} (h1 : h.1 = 3) (t1 : hpT h 1 = (25, L)) (tx : TX h) : Wp 1000 0 [some (xR 1), none, none, none] [] h 2000 600000 7302250 (fun rv _ => rv = some (xI 1)) := by
  apply b_law_0
  refine ⟨⟨by decide, by decide⟩, fun g1 e1 => ?_⟩
  obtain ⟨n1, n2, n3, n4, n5⟩ := nwH h1 e1
  rw [h1]
  have tx1 : TX g1 := ⟨by rw [n3 2 (by omega)]; exact tx.1, fun i hi => by rw [n5 2 i (by omega)]; exact tx.2 i hi⟩
  refine ⟨⟨by decide, by decide, by decide, by rw [n2]⟩, fun _ h' => h'.1 = 73 ∧ FrB 3 (fun _ _ => False) g1 h' ∧ SI h' 3, sp_Sinit n1 (by rw [n2]) (by omega) tx1 (by omega) (fun h' a1 a2 a3 => ⟨a1, a2, a3⟩), fun h2 q => ?_⟩
  obtain ⟨a1, a2, a3⟩ := q
  refine ⟨⟨by decide, by decide⟩, fun g2 e2 => ?_⟩
  obtain ⟨p1, p2, p3, p4, p5⟩ := nwH a1 e2
  rw [a1]
  refine ⟨⟨by decide, by decide, by decide, by rw [p2]⟩, fun _ h' => h'.1 = 73 + 20 ∧ FrB 73 (fun _ _ => False) g2 h' ∧ (∀ b U iw, MS h' 73 wE b 0 [] 0 U (fun _ => false) iw) ∧ hpC h' 73 6 = 0 ∧ hpC h' 73 7 = -1 ∧ ∀ i, hpC h' (73 + 3) i = 0, sp_Minit p1 (by rw [p2]) (by omega) p4 (by omega) (fun h' b1 b2 b3 b4 b5 b6 => ⟨b1, b2, b3, b4, b5, b6⟩), fun h3 q => ?_⟩
  obtain ⟨b1, b2, b3, b4, b5, b6⟩ := q
  have E : eqC h2 h3 3 72 := fun q h1 h2 => ⟨by rw [b2.1 q (by omega), p3 q (by omega)], fun p => by rw [b2.2 q p (by omega) (fun z => z), p5 q p (by omega)]⟩
  obtain ⟨s1, s2, s3, s4, s5, s6, s7, s8, s9, s10, s11, s12, s13⟩ := a3
  have T31 : hpT h3 1 = (25, L) := by rw [b2.1 1 (by omega), p3 1 (by omega), a2.1 1 (by omega), n3 1 (by omega)]; exact t1
  have C : ∀ q p, 3 ≤ q → q ≤ 72 → hpC h3 q p = hpC h2 q p := fun q p h1 h2 => E.C q p h1 h2
  have cs : CS h3 3 wE (fun _ => 0) 0 [] (fun _ => 0) 0 0 (fun _ => wE) (fun _ => false) (fun _ => wE) := by
    refine ⟨s1.eq (E.T _ (by omega) (by omega)) (fun p _ => E.C _ _ (by omega) (by omega)), ⟨tapeAt.eq s2.1 (E.sub (by omega) (by omega)), by rw [C _ _ (by omega) (by omega)]; exact s2.2, by omega, fun i hi => by omega⟩, s3.eq (E.sub (by omega) (by omega)), earAt.eq s4 (fun q hq => E q (by omega) (by omega)), ⟨s5.1.eq (E.T _ (by omega) (by omega)) (fun p _ _ => E.C _ _ (by omega) (by omega)) (E.sub (by omega) (by omega)), fun z => ?_, fun z => ?_⟩, s6.eq (E.sub (by omega) (by omega)), s7.eq (E.sub (by omega) (by omega)), ⟨⟨by rw [E.T _ (by omega) (by omega)]; exact s8.1, by rw [C _ _ (by omega) (by omega)]; exact s8.2.1, by rw [C _ _ (by omega) (by omega)]; exact s8.2.2.1, by rw [C _ _ (by omega) (by omega)]; exact s8.2.2.2.1, by rw [E.T _ (by omega) (by omega)]; exact s8.2.2.2.2.1, by rw [E.T _ (by omega) (by omega)]; exact s9.1, by omega, by omega⟩, ⟨fun k hk => by rw [C _ _ (by omega) (by omega)]; exact s8.2.2.2.2.2 k, fun k hk => by rw [C _ _ (by omega) (by omega)]; exact s9.2 k⟩, ⟨fun s hs => Or.inl rfl, fun s s' _ _ _ z => absurd rfl z⟩, fun i hi => by omega, fun k hk => ⟨fun z => (by cases z), fun _ => rfl⟩⟩, by rw [E.T _ (by omega) (by omega)]; exact s10.1, ?_, by rw [b1]; omega⟩
    · rw [C _ _ (by omega) (by omega)] at z; exact absurd s5.2.1 z
    · rw [C _ _ (by omega) (by omega)] at z; exact absurd s5.2.2 z
    · unfold heC; rw [C _ _ (by omega) (by omega)]; exact s13
  have iv : INV L h3 := ⟨wE, fun _ => 0, 0, [], fun _ => 0, 0, 0, fun _ => wE, fun _ => false, fun _ => wE, cs, b3 _ _ _, wE_V, ⟨fun c hc => (by cases hc), by decide⟩, fun i hi => by rw [C _ _ (by omega) (by omega), s10.2 i, b6 i], by rw [C _ _ (by omega) (by omega), s11, b4], by rw [C _ _ (by omega) (by omega), s12, b5], T31⟩
  exact law_loop hL 513 0 _ _ h3 iv (by omega) (by omega) (by decide) (by decide)
