/-! ===== the class's acts: undo, images, the tape ===== -/
theorem sAt.eq {h h' : Hp} {x : Nat} (c : sAt h x) (t : hpT h' x = hpT h x) (e : ∀ p, p ≤ 8 → hpC h' x p = hpC h x p) : sAt h' x := by
  obtain ⟨p1, p2, p3, p4, p5, p6, p7, p8, p9, p10⟩ := c
  exact ⟨by rw [t]; exact p1, by rw [e _ (by omega)]; exact p2, by rw [e _ (by omega)]; exact p3, by rw [e _ (by omega)]; exact p4, by rw [e _ (by omega)]; exact p5, by rw [e _ (by omega)]; exact p6, by rw [e _ (by omega)]; exact p7, by rw [e _ (by omega)]; exact p8, by rw [e _ (by omega)]; exact p9, by rw [e _ (by omega)]; exact p10⟩
theorem TPc.eq {h h' : Hp} {x : Nat} {b : Nat → Nat} {n : Nat} (c : TPc h x b n) (a1 : eqC h h' (x + 1) (x + 3)) : TPc h' x b n := by
  obtain ⟨⟨q1, q2, q3, q4, q5, q6⟩, t2, t3, t4⟩ := c
  exact ⟨⟨by rw [a1.T _ (by omega) (by omega)]; exact q1, by rw [a1.C _ _ (by omega) (by omega)]; exact q2, by rw [a1.C _ _ (by omega) (by omega)]; exact q3, by rw [a1.T _ (by omega) (by omega)]; exact q4, by rw [a1.T _ (by omega) (by omega)]; exact q5, fun i hi => by rw [a1.C _ _ (by omega) (by omega)]; exact q6 i hi⟩, by rw [a1.C _ _ (by omega) (by omega)]; exact t2, t3, fun i hi => by rw [a1.C _ _ (by omega) (by omega)]; exact t4 i hi⟩
theorem numAt.eq {h h' : Hp} {r : Nat} (c : numAt h r) (a2 : eqC h h' r (r + 6)) : numAt h' r := by
  obtain ⟨n1, n2, n3, n4, n5, n6, n7, n8, n9, n10, n11, n12, n13⟩ := c
  exact ⟨by rw [a2.T _ (by omega) (by omega)]; exact n1, by rw [a2.C _ _ (by omega) (by omega)]; exact n2, by rw [a2.C _ _ (by omega) (by omega)]; exact n3, by rw [a2.C _ _ (by omega) (by omega)]; exact n4, by rw [a2.C _ _ (by omega) (by omega)]; exact n5, by rw [a2.C _ _ (by omega) (by omega)]; exact n6, by rw [a2.C _ _ (by omega) (by omega)]; exact n7, by rw [a2.T _ (by omega) (by omega)]; exact n8, by rw [a2.T _ (by omega) (by omega)]; exact n9, by rw [a2.T _ (by omega) (by omega)]; exact n10, by rw [a2.T _ (by omega) (by omega)]; exact n11, by rw [a2.T _ (by omega) (by omega)]; exact n12, by rw [a2.T _ (by omega) (by omega)]; exact n13⟩
theorem plAt.eq {h h' : Hp} {r : Nat} (c : plAt h r) (t : hpT h' r = hpT h r) (e : ∀ p, p ≠ 2 → p ≠ 3 → hpC h' r p = hpC h r p) (a2 : eqC h h' (r + 1) (r + 5)) : plAt h' r := by
  obtain ⟨p1, p2, p3, p4, p5, p6, p7, p8, p9, p10, p11⟩ := c
  exact ⟨by rw [t]; exact p1, by rw [e _ (by omega) (by omega)]; exact p2, by rw [e _ (by omega) (by omega)]; exact p3, by rw [e _ (by omega) (by omega)]; exact p4, by rw [e _ (by omega) (by omega)]; exact p5, by rw [e _ (by omega) (by omega)]; exact p6, by rw [a2.T _ (by omega) (by omega)]; exact p7, by rw [a2.T _ (by omega) (by omega)]; exact p8, by rw [a2.T _ (by omega) (by omega)]; exact p9, by rw [a2.T _ (by omega) (by omega)]; exact p10, by rw [a2.T _ (by omega) (by omega)]; exact p11⟩
theorem CK.eq {h h' : Hp} {x : Nat} {w : Nat → Int} (c : CK h x w) (a : eqC h h' (x + 30) (x + 35)) : CK h' x w := by
  obtain ⟨c1, c2, c3⟩ := c
  refine ⟨c1.eq (a.T _ (by omega) (by omega)) (fun p _ _ => a.C _ _ (by omega) (by omega)) (a.sub (by omega) (by omega)), fun z s hs => ?_, fun z => ?_⟩
  · rw [a.C _ _ (by omega) (by omega)] at z
    rw [a.C _ _ (by omega) (by omega)]; exact c2 z s hs
  · rw [a.C _ _ (by omega) (by omega)] at z
    obtain ⟨z1, z2, z3⟩ := c3 z
    refine ⟨by rw [a.C _ _ (by omega) (by omega)]; exact z1, by rw [a.C _ _ (by omega) (by omega)]; exact z2, ?_⟩
    rw [a.C _ _ (by omega) (by omega)]
    intro q hq
    obtain ⟨l, l1, l2⟩ := z3 q hq
    exact ⟨l, l1, fun t ht hb => by rw [a.C _ _ (by omega) (by omega)]; exact l2 t ht hb⟩
/-- the rest stands, town and past are new -/
theorem CS.mk2 {h : Hp} {x : Nat} {w : Nat → Int} {b : Nat → Nat} {n : Nat} {K : List Nat} {A : Nat → Nat} {nx cnt : Nat} {U : Nat → Nat → Int} {ik : Nat → Bool} {iw : Nat → Nat → Int} (c : CS h x w b n K A nx cnt U ik iw) {h' : Hp} {v : Nat → Int} {A' : Nat → Nat} {nx' cnt' : Nat} {U' : Nat → Nat → Int} {ik' : Nat → Bool} {iw' : Nat → Nat → Int} (e1 : eqC h h' x (x + 29)) (e2 : eqC h h' (x + 31) (x + 42)) (e3 : hpT h' (x + 30) = hpT h (x + 30)) (e4 : ∀ p, p ≠ 2 → p ≠ 3 → hpC h' (x + 30) p = hpC h (x + 30) p) (z : hpC h' (x + 30) 2 = 0 ∧ hpC h' (x + 30) 3 = 0) (t : TR h' (x + 43) v) (p : CP h' x A' nx' cnt' U' ik' iw') (e5 : hpT h' (x + 69) = hpT h (x + 69)) (hb : h.1 ≤ h'.1) : CS h' x v b n K A' nx' cnt' U' ik' iw' := by
  obtain ⟨c1, c2, c3, c4, c5, c6, c7, c8, c9, c10, c11⟩ := c
  exact ⟨c1.eq (e1.T _ (by omega) (by omega)) (fun p _ => e1.C _ _ (by omega) (by omega)), c2.eq (e1.sub (by omega) (by omega)), c3.eq (e1.sub (by omega) (by omega)), ⟨by rw [e1.T _ (by omega) (by omega)]; exact c4.1, by rw [e1.C _ _ (by omega) (by omega)]; exact c4.2.1, by rw [e1.T _ (by omega) (by omega)]; exact c4.2.2.1, c4.2.2.2⟩, ⟨c5.1.eq e3 e4 (e2.sub (by omega) (by omega)), fun y => absurd z.1 y, fun y => absurd z.2 y⟩, c6.eq (e2.sub (by omega) (by omega)), t, p, by rw [e5]; exact c9, by unfold heC; rw [e1.C _ _ (by omega) (by omega)]; exact c10, by omega⟩
/-- all but past stands -/
theorem CS.mk3 {h : Hp} {x : Nat} {w : Nat → Int} {b : Nat → Nat} {n : Nat} {K : List Nat} {A : Nat → Nat} {nx cnt : Nat} {U : Nat → Nat → Int} {ik : Nat → Bool} {iw : Nat → Nat → Int} (c : CS h x w b n K A nx cnt U ik iw) {h' : Hp} {A' : Nat → Nat} {nx' cnt' : Nat} {U' : Nat → Nat → Int} {ik' : Nat → Bool} {iw' : Nat → Nat → Int} (e1 : eqC h h' x (x + 65)) (p : CP h' x A' nx' cnt' U' ik' iw') (e5 : hpT h' (x + 69) = hpT h (x + 69)) (hb : h.1 ≤ h'.1) : CS h' x w b n K A' nx' cnt' U' ik' iw' := by
  obtain ⟨c1, c2, c3, c4, c5, c6, c7, c8, c9, c10, c11⟩ := c
  exact ⟨c1.eq (e1.T _ (by omega) (by omega)) (fun p _ => e1.C _ _ (by omega) (by omega)), c2.eq (e1.sub (by omega) (by omega)), c3.eq (e1.sub (by omega) (by omega)), ⟨by rw [e1.T _ (by omega) (by omega)]; exact c4.1, by rw [e1.C _ _ (by omega) (by omega)]; exact c4.2.1, by rw [e1.T _ (by omega) (by omega)]; exact c4.2.2.1, c4.2.2.2⟩, c5.eq (e1.sub (by omega) (by omega)), c6.eq (e1.sub (by omega) (by omega)), c7.eq (e1.sub (by omega) (by omega)), p, by rw [e5]; exact c9, by unfold heC; rw [e1.C _ _ (by omega) (by omega)]; exact c10, by omega⟩
theorem sp_forget {h : Hp} {r : Nat} (t : (hpT h r).1 = 6) {d mc ms : Nat} {R : PR} (H : ∀ h', h'.1 = h.1 → hpT h' = hpT h → (hpC h' r 2 = 0 ∧ hpC h' r 3 = 0) → (∀ q p, ¬ (q = r ∧ (p = 2 ∨ p = 3)) → hpC h' q p = hpC h q p) → R none h') : Wp m_Planner_forget 0 [some (xR r)] [] h d mc ms R := by
  apply f_Planner_forget_0
  refine ⟨t, by simp, fun g1 e1 => ⟨by subst e1; exact t, by simp, fun g2 e2 => ?_⟩⟩
  refine H g2 (by subst e2; subst e1; rfl) (by subst e2; subst e1; rfl) ⟨by subst e2; subst e1; rw [hpC_o2 (by decide), hpC_same], by subst e2; rw [hpC_same]⟩ (fun q p hq => by subst e2; subst e1; rw [hpC_ne (by omega), hpC_ne (by omega)])
def unU (U : Nat → Nat → Int) : Nat → Nat → Int := fun i => U (i + 1)
/-- the town now becomes one of those kept, the past is shortened -/
theorem CS.bk {h : Hp} {x : Nat} {w : Nat → Int} {b : Nat → Nat} {n : Nat} {K : List Nat} {A : Nat → Nat} {nx cnt : Nat} {U : Nat → Nat → Int} {ik : Nat → Bool} {iw : Nat → Nat → Int} (c : CS h x w b n K A nx cnt U ik iw) {g h' : Hp} {v : Nat → Int} {nx' cnt' : Nat} {U' : Nat → Nat → Int} (f : FrP (SD (x + 43)) h g) (t : TR g (x + 43) v) (n1 : h'.1 = g.1) (T1 : hpT h' = hpT g) (z : hpC h' (x + 30) 2 = 0 ∧ hpC h' (x + 30) 3 = 0) (o : ∀ q p, ¬ (q = x + 30 ∧ (p = 2 ∨ p = 3)) → ¬ (q = x + 66 ∧ (p = 1 ∨ p = 2)) → hpC h' q p = hpC g q p) (p1 : hpC h' (x + 66) 1 = (nx' : Int)) (p2 : hpC h' (x + 66) 2 = (cnt' : Int)) (hx : nx' < 20) (hc : cnt' ≤ 20) (hU : ∀ i, i < cnt' → ∃ j, j < cnt ∧ (nx' + 19 - i) % 20 = (nx + 19 - j) % 20 ∧ U' i = U j) : CS h' x v b n K A nx' cnt' U' ik iw ∧ FrC h h' x ∧ KO h h' x 5 := by
  have T : hpT h' = hpT h := by rw [T1, f.2.1]
  have off : ∀ q p, (q < x + 43 ∨ x + 66 ≤ q) → ¬ (q = x + 30 ∧ (p = 2 ∨ p = 3)) → ¬ (q = x + 66 ∧ (p = 1 ∨ p = 2)) → hpC h' q p = hpC h q p := fun q p h1 h2 h3 => by rw [o q p h2 h3, f.2.2 q p (fun z => by unfold SD at z; omega)]
  have e1 : eqC h h' x (x + 29) := fun q h1 h2 => ⟨by rw [T], fun p => off q p (by omega) (by omega) (by omega)⟩
  have e2 : eqC h h' (x + 31) (x + 42) := fun q h1 h2 => ⟨by rw [T], fun p => off q p (by omega) (by omega) (by omega)⟩
  have t' : TR h' (x + 43) v := t.eq (fun q h1 h2 => ⟨by rw [T1], fun p => o q p (by omega) (by omega)⟩)
  have hb : h'.1 = h.1 := by rw [n1, f.1]
  have c8 := c.2.2.2.2.2.2.2.1
  have c11 := c.2.2.2.2.2.2.2.2.2.2
  have cp : CP h' x A nx' cnt' U' ik iw := by
    obtain ⟨⟨k1, k2, k3, k4, k5, k6, k7, k8⟩, ⟨k9, k10⟩, ⟨k11, k12⟩, k13, k14⟩ := c8
    have tw : ∀ s, s < 22 → A s ≠ 0 → eqC h h' (A s) (A s + 22) := fun s hs h0 q h1 h2 => by
      rcases k11 s hs with y | y
      · exact absurd y h0
      · exact ⟨by rw [T], fun p => off q p (by omega) (by omega) (by omega)⟩
    refine ⟨⟨by rw [T]; exact k1, by rw [off _ _ (by omega) (by omega) (by omega)]; exact k2, p1, p2, by rw [T]; exact k5, by rw [T]; exact k6, hx, hc⟩, ⟨fun k hk => by rw [off _ _ (by omega) (by omega) (by omega)]; exact k9 k hk, fun k hk => by rw [off _ _ (by omega) (by omega) (by omega)]; exact k10 k hk⟩, ⟨fun s hs => ?_, k12⟩, fun i hi => ?_, fun k hk => ⟨fun y => ?_, (k14 k hk).2⟩⟩
    · by_cases h0 : A s = 0
      · exact Or.inl h0
      · rcases k11 s hs with y | ⟨y1, y2, y3⟩
        · exact Or.inl y
        · exact Or.inr ⟨y1, by omega, y3.eq (tw s hs h0)⟩
    · obtain ⟨j, hj, ej, eu⟩ := hU i hi
      rw [ej, eu]
      obtain ⟨y1, y2, y3⟩ := k13 j hj
      exact ⟨y1, y2.eq (tw _ (by omega) y1), y3⟩
    · obtain ⟨y1, y2, y3⟩ := (k14 k hk).1 y
      exact ⟨y1, y2.eq (tw _ (by omega) y1), y3⟩
  refine ⟨c.mk2 e1 e2 (by rw [T]) (fun p h1 h2 => off _ _ (by omega) (by omega) (by omega)) z t' cp (by rw [T]) (by omega), ⟨by omega, fun q hq => ⟨by rw [T], fun p => off q p (by omega) (by omega) (by omega)⟩⟩, KO.of (fun p hp => off _ _ (by omega) (by omega) (by omega)) (fun p => off _ _ (by omega) (by omega) (by omega))⟩
theorem sp_cundo {h : Hp} {x : Nat} {w : Nat → Int} {b : Nat → Nat} {n : Nat} {K : List Nat} {A : Nat → Nat} {nx cnt : Nat} {U : Nat → Nat → Int} {ik : Nat → Bool} {iw : Nat → Nat → Int} (c : CS h x w b n K A nx cnt U ik iw) (hV : V w) {d mc ms : Nat} {R : PR} (hd : 5 ≤ d) (H1 : 0 < cnt → V (U 0) → ∀ h' nx', CS h' x (U 0) b n K A nx' (cnt - 1) (unU U) ik iw → FrC h h' x → KO h h' x 5 → R (some (xI 1)) h') (H2 : cnt = 0 → ∀ h', CS h' x w b n K A nx cnt U ik iw → FrC h h' x → KO h h' x 3 → R (some (xI 0)) h') : Wp m_S_undo 0 [some (xR x)] [] h d mc ms R := by
  obtain ⟨⟨k1, k2, k3, k4, k5, k6, k7, k8⟩, ⟨k9, k10⟩, ⟨k11, k12⟩, k13, k14⟩ := c.2.2.2.2.2.2.2.1
  apply f_S_undo_0
  rw [c.1.past_n, c.1.now_n, k4]
  refine ⟨c.1.tag, k1, ?_⟩
  by_cases c0 : cnt = 0
  · rw [if_pos (by omega)]
    refine ⟨⟨by omega, c.1.tag⟩, sp_refuse (i := 3) c.1 c.2.2.2.2.2.2.2.2.1 (by omega) (fun v e => ?_)⟩
    obtain ⟨r1, r2⟩ := c.rf 3 (ai_add (hpC h (x + 69) 3) 1)
    exact ⟨by simp, H2 c0 _ r1 r2 KO.up⟩
  rw [if_neg (by omega)]
  refine ⟨c.1.tag, c.1.tag, ⟨by omega, k1⟩, ?_⟩
  obtain ⟨y1, y2, y3⟩ := k13 0 (by omega)
  rw [Nat.sub_zero] at y1 y2
  have er : ai_rem (ai_sub (ai_add (nx : Int) 20) 1) 20 = (((nx + 19) % 20 : Nat) : Int) := by
    rw [ai_add_eq (by omega) (by omega), ai_sub_eq (by omega) (by omega), ai_rem_eq (by omega) (by omega) (by omega) (by omega)]; omega
  have bd : x + 90 ≤ A ((nx + 19) % 20) := by
    rcases k11 ((nx + 19) % 20) (by omega) with y | y
    · exact absurd y y1
    · exact y.1
  have tr := c.2.2.2.2.2.2.1
  apply f_Past_bringBack_0
  rw [k2, Int.toNat_natCast, k3, k4, er, Int.toNat_natCast, k5, k9 _ (by omega), Int.toNat_natCast, if_pos (by omega), if_neg y1]
  refine ⟨k1, by decide, k1, k1, ⟨rfl, by omega, by show (((nx + 19) % 20 : Nat) : Int) < 20; omega⟩, k1, ⟨rfl, by omega, by show (((nx + 19) % 20 : Nat) : Int) < 20; omega⟩, ⟨by omega, tr.1.1.tag⟩, sp_Tcopy tr.1.1 y2 y3 (by omega) (by omega) (fun g f t1 _ => ?_)⟩
  have g66 : ∀ p, hpC g (x + 66) p = hpC h (x + 66) p := fun p => f.2.2 _ _ (fun z => by unfold SD at z; omega)
  refine ⟨by rw [f.2.1]; exact k1, fun g1 e1 => ⟨by subst e1; show (hpT g _).1 = 5; rw [f.2.1]; exact k1, by subst e1; show (hpT g _).1 = 5; rw [f.2.1]; exact k1, fun g2 e2 _ => ?_⟩⟩
  have w2 : hpC g1 (x + 66) 2 = (cnt : Int) := by subst e1; rw [hpC_o2 (by decide), g66]; exact k4
  rw [w2, ai_sub_eq (by omega) (by omega)] at e2
  have T2 : hpT g2 = hpT g := by subst e2; subst e1; rfl
  have N2 : g2.1 = g.1 := by subst e2; subst e1; rfl
  have o2 : ∀ q p, ¬ (q = x + 66 ∧ (p = 1 ∨ p = 2)) → hpC g2 q p = hpC g q p := fun q p hq => by subst e2; subst e1; rw [hpC_ne (by omega), hpC_ne (by omega)]
  have q1 : hpC g2 (x + 66) 1 = (((nx + 19) % 20 : Nat) : Int) := by subst e2; subst e1; rw [hpC_o2 (by decide), hpC_same]
  have q2 : hpC g2 (x + 66) 2 = ((cnt - 1 : Nat) : Int) := by subst e2; rw [hpC_same]; omega
  clear e1 e2
  have s2 : sAt g2 x := c.1.eq (by rw [T2, f.2.1]) (fun p _ => by rw [o2 _ _ (by omega), f.2.2 _ _ (fun z => by unfold SD at z; omega)])
  rw [s2.planner_n]
  have tg : (hpT g2 (x + 30)).1 = 6 := by rw [T2, f.2.1]; exact c.2.2.2.2.1.1.tag
  refine ⟨s2.tag, ⟨by omega, tg⟩, sp_forget tg (fun g3 N3 T3 z o3 _ => ?_)⟩
  obtain ⟨r1, r2, r3⟩ := c.bk (nx' := (nx + 19) % 20) (cnt' := cnt - 1) (U' := unU U) f t1 (by rw [N3, N2]) (by rw [T3, T2]) z (fun q p h1 h2 => by rw [o3 q p h1, o2 q p h2]) (by rw [o3 _ _ (by omega)]; exact q1) (by rw [o3 _ _ (by omega)]; exact q2) (by omega) (by omega) (fun i hi => ⟨i + 1, by omega, by omega, rfl⟩)
  exact ⟨by simp, H1 (by omega) y3 g3 _ r1 r2 r3⟩
theorem sp_becomes {h : Hp} {x : Nat} {w : Nat → Int} {b : Nat → Nat} {n : Nat} {K : List Nat} {A : Nat → Nat} {nx cnt : Nat} {U : Nat → Nat → Int} {ik : Nat → Bool} {iw : Nat → Nat → Int} (c : CS h x w b n K A nx cnt U ik iw) (hV : V w) {t : Nat} {v : Nat → Int} (a : TR h t v) (hv : V v) (ht : t + 23 ≤ x + 43 ∨ x + 66 ≤ t) {d mc ms : Nat} {R : PR} (hd : 3 ≤ d) (H : ∀ h', CS h' x v b n K A nx 0 U ik iw → FrC h h' x → KO h h' x 5 → R none h') : Wp m_S_becomes 0 [some (xR x), some (xR t)] [] h d mc ms R := by
  have c8 := c.2.2.2.2.2.2.2.1
  have tr := c.2.2.2.2.2.2.1
  apply f_S_becomes_0
  rw [c.1.now_n]
  refine ⟨c.1.tag, ⟨by omega, tr.1.1.tag⟩, sp_Tcopy tr.1.1 a hv (by omega) (by omega) (fun g f t1 _ => ?_)⟩
  have no : ∀ q p, (q < x + 43 ∨ x + 66 ≤ q) → hpC g q p = hpC h q p := fun q p hq => f.2.2 _ _ (fun z => by unfold SD at z; omega)
  have s1 : sAt g x := c.1.eq (by rw [f.2.1]) (fun p _ => no _ _ (by omega))
  rw [s1.past_n]
  refine ⟨s1.tag, by rw [f.2.1]; exact c8.1.1, fun g2 e2 => ?_⟩
  have T2 : hpT g2 = hpT g := by subst e2; rfl
  have N2 : g2.1 = g.1 := by subst e2; rfl
  have o2 : ∀ q p, ¬ (q = x + 66 ∧ p = 2) → hpC g2 q p = hpC g q p := fun q p hq => by subst e2; exact hpC_ne (by omega)
  have q2 : hpC g2 (x + 66) 2 = 0 := by subst e2; rw [hpC_same]
  clear e2
  have s2 : sAt g2 x := s1.eq (by rw [T2]) (fun p _ => o2 _ _ (by omega))
  have tg : (hpT g2 (x + 30)).1 = 6 := by rw [T2, f.2.1]; exact c.2.2.2.2.1.1.tag
  rw [s2.planner_n]
  refine ⟨s2.tag, ⟨by omega, tg⟩, sp_forget tg (fun g3 N3 T3 z o3 _ => ?_)⟩
  obtain ⟨r1, r2, r3⟩ := c.bk (nx' := nx) (cnt' := 0) (U' := U) f t1 (by rw [N3, N2]) (by rw [T3, T2]) z (fun q p h1 h2 => by rw [o3 q p h1, o2 q p (by omega)]) (by rw [o3 _ _ (by omega), o2 _ _ (by omega), no _ _ (by omega)]; exact c8.1.2.2.1) (by rw [o3 _ _ (by omega)]; exact q2) c8.1.2.2.2.2.2.2.1 (by omega) (fun i hi => by omega)
  exact H g3 r1 r2 r3
def isK (ik : Nat → Bool) (i : Int) : Prop := 0 ≤ i ∧ i ≤ 1 ∧ ik i.toNat = true
theorem sp_cback {h : Hp} {x : Nat} {w : Nat → Int} {b : Nat → Nat} {n : Nat} {K : List Nat} {A : Nat → Nat} {nx cnt : Nat} {U : Nat → Nat → Int} {ik : Nat → Bool} {iw : Nat → Nat → Int} (c : CS h x w b n K A nx cnt U ik iw) (hV : V w) {i : Int} {d mc ms : Nat} {R : PR} (hd : 5 ≤ d) (H1 : isK ik i → V (iw i.toNat) → ∀ h', CS h' x (iw i.toNat) b n K A nx 0 U ik iw → FrC h h' x → KO h h' x 5 → R (some (xI 1)) h') (H2 : ¬ isK ik i → ∀ h', CS h' x w b n K A nx cnt U ik iw → FrC h h' x → KO h h' x 4 → R (some (xI 0)) h') : Wp m_S_back 0 [some (xR x), some (xI i)] [] h d mc ms R := by
  obtain ⟨⟨k1, k2, k3, k4, k5, k6, k7, k8⟩, ⟨k9, k10⟩, ⟨k11, k12⟩, k13, k14⟩ := c.2.2.2.2.2.2.2.1
  have ref : ¬ isK ik i → (1 ≤ d ∧ (hpT h x).1 = 11) ∧ Wp m_S_refuse 0 [some (xR x), some (xI (4 : Int))] [] h (d - 1) 0 0 (fun rv h1 => ∀ v1 : Int, rv = some (xI v1) → (((0 : Int) = 0 ∨ (0 : Int) = 1) ∧ R (some (xI (0 : Int))) h1)) := fun z => by
    refine ⟨⟨by omega, c.1.tag⟩, sp_refuse (i := 4) c.1 c.2.2.2.2.2.2.2.2.1 (by omega) (fun v e => ?_)⟩
    obtain ⟨r1, r2⟩ := c.rf 4 (ai_add (hpC h (x + 69) 4) 1)
    exact ⟨by simp, H2 z _ r1 r2 KO.up⟩
  apply f_S_back_0
  by_cases c1 : i < 0
  · rw [if_pos c1]; exact ref (fun z => by have := z.1; omega)
  rw [if_neg c1]
  by_cases c2 : i < 2
  · rw [if_pos c2]
    obtain ⟨k, rfl⟩ : ∃ q : Nat, i = (q : Int) := ⟨i.toNat, by omega⟩
    have hk : k < 2 := by omega
    unfold isK at H1 ref
    rw [Int.toNat_natCast] at H1 ref
    rw [c.1.images_n, k6, Int.toNat_natCast, k10 k hk, Int.toNat_natCast]
    refine ⟨c.1.tag, ⟨rfl, by omega, by show (k : Int) < 2; omega⟩, ?_⟩
    by_cases c3 : A (20 + k) = 0
    · rw [if_pos c3]
      exact ref (fun z => ((k14 k hk).1 z.2.2).1 c3)
    · rw [if_neg c3]
      have hik : ik k = true := by
        cases e : ik k with
        | true => rfl
        | false => exact absurd ((k14 k hk).2 e) c3
      obtain ⟨y1, y2, y3⟩ := (k14 k hk).1 hik
      have bd : x + 90 ≤ A (20 + k) := by
        rcases k11 (20 + k) (by omega) with y | y
        · exact absurd y c3
        · exact y.1
      refine ⟨c.1.tag, ⟨rfl, by omega, by show (k : Int) < 2; omega⟩, ⟨by omega, c.1.tag⟩, sp_becomes c hV y2 y3 (by omega) (by omega) (fun g r1 r2 r3 _ => ?_)⟩
      exact ⟨by simp, H1 ⟨by omega, by omega, hik⟩ y3 g r1 r2 r3⟩
  · rw [if_neg c2]; exact ref (fun z => by have := z.2.1; omega)
