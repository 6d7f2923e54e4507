/-! ===== the past and the images ===== -/
def eqU (h h' : Hp) (b : Nat) : Prop := h.1 ≤ h'.1 ∧ ∀ q, b ≤ q → q < h.1 → hpT h' q = hpT h q ∧ ∀ p, hpC h' q p = hpC h q p
theorem eqU.sub {h h' : Hp} {b lo hi : Nat} (e : eqU h h' b) (h1 : b ≤ lo) (h2 : hi < h.1) : eqC h h' lo hi := fun q g1 g2 => e.2 q (by omega) (by omega)
def CP (h : Hp) (x : Nat) (A : Nat → Nat) (nx cnt : Nat) (U : Nat → Nat → Int) (ik : Nat → Bool) (iw : Nat → Nat → Int) : Prop :=
  ((hpT h (x + 66)).1 = 5 ∧ hpC h (x + 66) 0 = ((x + 67 : Nat) : Int) ∧ hpC h (x + 66) 1 = (nx : Int) ∧ hpC h (x + 66) 2 = (cnt : Int) ∧ hpT h (x + 67) = (24, 20) ∧ hpT h (x + 68) = (24, 2) ∧ nx < 20 ∧ cnt ≤ 20) ∧
  ((∀ k, k < 20 → hpC h (x + 67) k = (A k : Int)) ∧ ∀ k, k < 2 → hpC h (x + 68) k = (A (20 + k) : Int)) ∧
  ((∀ s, s < 22 → A s = 0 ∨ (x + 90 ≤ A s ∧ A s + 23 ≤ h.1 ∧ townAt h (A s))) ∧ ∀ s s', s < 22 → s' < 22 → s ≠ s' → A s ≠ 0 → A s' ≠ 0 → A s + 23 ≤ A s' ∨ A s' + 23 ≤ A s) ∧
  (∀ i, i < cnt → A ((nx + 19 - i) % 20) ≠ 0 ∧ TR h (A ((nx + 19 - i) % 20)) (U i) ∧ V (U i)) ∧
  (∀ k, k < 2 → (ik k = true → A (20 + k) ≠ 0 ∧ TR h (A (20 + k)) (iw k) ∧ V (iw k)) ∧ (ik k = false → A (20 + k) = 0))
theorem CP.fr {h h' : Hp} {x : Nat} {A : Nat → Nat} {nx cnt : Nat} {U : Nat → Nat → Int} {ik : Nat → Bool} {iw : Nat → Nat → Int} (c : CP h x A nx cnt U ik iw) (e1 : eqC h h' (x + 66) (x + 68)) (e2 : eqU h h' (x + 90)) : CP h' x A nx cnt U ik iw := by
  obtain ⟨⟨c1, c2, c3, c4, c5, c6, c7, c8⟩, ⟨c9, c10⟩, ⟨c11, c12⟩, c13, c14⟩ := c
  have ad : ∀ s, s < 22 → A s ≠ 0 → x + 90 ≤ A s ∧ A s + 23 ≤ h.1 := fun s hs h0 => by
    rcases c11 s hs with z | z
    · exact absurd z h0
    · exact ⟨z.1, z.2.1⟩
  refine ⟨⟨by rw [e1.T _ (by omega) (by omega)]; exact c1, by rw [e1.C _ _ (by omega) (by omega)]; exact c2, by rw [e1.C _ _ (by omega) (by omega)]; exact c3, by rw [e1.C _ _ (by omega) (by omega)]; exact c4, by rw [e1.T _ (by omega) (by omega)]; exact c5, by rw [e1.T _ (by omega) (by omega)]; exact c6, c7, c8⟩, ⟨fun k hk => by rw [e1.C _ _ (by omega) (by omega)]; exact c9 k hk, fun k hk => by rw [e1.C _ _ (by omega) (by omega)]; exact c10 k hk⟩, ⟨fun s hs => ?_, c12⟩, fun i hi => ?_, fun k hk => ⟨fun z => ?_, (c14 k hk).2⟩⟩
  · rcases c11 s hs with z | ⟨z1, z2, z3⟩
    · exact Or.inl z
    · exact Or.inr ⟨z1, Nat.le_trans z2 e2.1, z3.eq (e2.sub (by omega) (by omega))⟩
  · obtain ⟨z1, z2, z3⟩ := c13 i hi
    have := ad _ (by omega) z1
    exact ⟨z1, z2.eq (e2.sub (by omega) (by omega)), z3⟩
  · obtain ⟨z1, z2, z3⟩ := (c14 k hk).1 z
    have := ad _ (by omega) z1
    exact ⟨z1, z2.eq (e2.sub (by omega) (by omega)), z3⟩
def stA (A : Nat → Nat) (k t : Nat) : Nat → Nat := fun s => if s = k then t else A s
def stU (w : Nat → Int) (U : Nat → Nat → Int) : Nat → Nat → Int := fun i => if i = 0 then w else U (i - 1)
/-- a town comes to a slot that has one, or to a new one: the address there, all others as they were -/
def FrS (h h' : Hp) (x : Nat) : Prop := h.1 ≤ h'.1 ∧ (∀ q, q < x + 66 ∨ (x + 69 ≤ q ∧ q ≤ x + 89) → hpT h' q = hpT h q ∧ ∀ p, hpC h' q p = hpC h q p)
theorem sp_store {h : Hp} {x : Nat} {A : Nat → Nat} {nx cnt : Nat} {U : Nat → Nat → Int} {ik : Nat → Bool} {iw : Nat → Nat → Int} {w : Nat → Int} (c : CP h x A nx cnt U ik iw) (a : TR h (x + 43) w) (hV : V w) (hb : x + 90 ≤ h.1) {d : Nat} {R : PR} (hd : 4 ≤ d) (H : ∀ h' A', FrS h h' x → CP h' x A' ((nx + 1) % 20) (min (cnt + 1) 20) (stU w U) ik iw → R none h') : Wp m_Past_store 0 [some (xR (x + 66)), some (xR (x + 43))] [] h d 23 682 R := by
  have c0 := c
  obtain ⟨⟨c1, c2, c3, c4, c5, c6, c7, c8⟩, ⟨c9, c10⟩, ⟨c11, c12⟩, c13, c14⟩ := c
  have n67 : Int.toNat (hpC h (x + 66) 0) = x + 67 := by rw [c2, Int.toNat_natCast]
  -- the second half: a slot that has a town
  have second : ∀ (g : Hp) (B : Nat → Nat) (mc ms : Nat), FrS h g x → hpC g (x + 66) 0 = ((x + 67 : Nat) : Int) → (hpT g (x + 66)).1 = 5 → hpC g (x + 66) 1 = (nx : Int) → hpC g (x + 66) 2 = (cnt : Int) → hpT g (x + 67) = (24, 20) → hpT g (x + 68) = (24, 2) → (∀ k, k < 20 → hpC g (x + 67) k = (B k : Int)) → (∀ k, k < 2 → hpC g (x + 68) k = (B (20 + k) : Int)) → (∀ s, s < 22 → B s = 0 ∨ (x + 90 ≤ B s ∧ B s + 23 ≤ g.1 ∧ townAt g (B s))) → (∀ s s', s < 22 → s' < 22 → s ≠ s' → B s ≠ 0 → B s' ≠ 0 → B s + 23 ≤ B s' ∨ B s' + 23 ≤ B s) → B nx ≠ 0 → (∀ i, i < cnt → (nx + 19 - i) % 20 ≠ nx → B ((nx + 19 - i) % 20) ≠ 0 ∧ TR g (B ((nx + 19 - i) % 20)) (U i) ∧ V (U i)) → (∀ k, k < 2 → (ik k = true → B (20 + k) ≠ 0 ∧ TR g (B (20 + k)) (iw k) ∧ V (iw k)) ∧ (ik k = false → B (20 + k) = 0)) → Wp m_Past_store 28 [some (xR (x + 66)), some (xR (x + 43))] [] g d mc ms R := by
    intro g B mc ms F k1 k2 k3 k4 k5 k6 k7 k8 k9 k10 k11 k12 k13
    have ag : TR g (x + 43) w := a.eq (fun q h1 h2 => F.2 q (by omega))
    have bd : ∀ s, s < 22 → B s ≠ 0 → x + 90 ≤ B s ∧ B s + 23 ≤ g.1 := fun s hs h0 => by
      rcases k9 s hs with z | z
      · exact absurd z h0
      · exact ⟨z.1, z.2.1⟩
    obtain ⟨t1, t2⟩ := bd nx (by omega) k11
    have tT : townAt g (B nx) := by
      rcases k9 nx (by omega) with z | z
      · exact absurd z k11
      · exact z.2.2
    apply f_Past_store_28
    rw [k1, Int.toNat_natCast, k3, Int.toNat_natCast, k5, k7 nx (by omega), Int.toNat_natCast]
    refine ⟨k2, k2, ⟨rfl, by omega, by show (nx : Int) < 20; omega⟩, ⟨by omega, tT.tag⟩, sp_Tcopy tT ag hV (by omega) (by omega) (fun g1 f1 r1 _ => ?_)⟩
    have off : ∀ q, (q < B nx ∨ B nx + 23 ≤ q) → hpT g1 q = hpT g q ∧ ∀ p, hpC g1 q p = hpC g q p := fun q hq => ⟨by rw [f1.2.1], fun p => f1.2.2 q p (fun z => by unfold SD at z; omega)⟩
    have x1 : hpC g1 (x + 66) 1 = (nx : Int) := by rw [(off _ (by omega)).2]; exact k3
    have x2 : hpC g1 (x + 66) 2 = (cnt : Int) := by rw [(off _ (by omega)).2]; exact k4
    have xt : (hpT g1 (x + 66)).1 = 5 := by rw [(off _ (by omega)).1]; exact k2
    have er : ai_rem (ai_add (nx : Int) 1) 20 = (((nx + 1) % 20 : Nat) : Int) := by
      rw [ab_1 (by omega), ai_rem_eq (by omega) (by omega) (by omega) (by omega)]; omega
    rw [x1, er]
    refine ⟨xt, by decide, xt, fun g2 e2 => ?_⟩
    have y1 : hpC g2 (x + 66) 1 = (((nx + 1) % 20 : Nat) : Int) := by subst e2; rw [hpC_same]
    have y2 : hpC g2 (x + 66) 2 = (cnt : Int) := by subst e2; rw [hpC_o2 (by decide)]; exact x2
    have yo : ∀ q p, ¬ (q = x + 66 ∧ p = 1) → hpC g2 q p = hpC g1 q p := fun q p hq => by subst e2; exact hpC_ne (by omega)
    have yT : hpT g2 = hpT g1 := by subst e2; rfl
    have yn : g2.1 = g1.1 := by subst e2; rfl
    clear e2
    rw [y2, ab_1 (by omega)]
    refine ⟨by rw [yT]; exact xt, by omega, by rw [yT]; exact xt, fun g3 e3 => ?_⟩
    have z2 : hpC g3 (x + 66) 2 = ((min (cnt + 1) 20 : Nat) : Int) := by subst e3; rw [hpC_same]; split <;> omega
    have zo : ∀ q p, ¬ (q = x + 66 ∧ p = 2) → hpC g3 q p = hpC g2 q p := fun q p hq => by subst e3; exact hpC_ne (by omega)
    have zT : hpT g3 = hpT g1 := by subst e3; exact yT
    have zn : g3.1 = g.1 := by subst e3; show g2.1 = g.1; rw [yn, f1.1]
    clear e3
    -- all in all
    have all : ∀ q p, ¬ (q = x + 66 ∧ (p = 1 ∨ p = 2)) → hpC g3 q p = hpC g1 q p := fun q p hq => by rw [zo q p (by omega), yo q p (by omega)]
    have alo : ∀ q, q ≠ x + 66 → (q < B nx ∨ B nx + 23 ≤ q) → hpT g3 q = hpT g q ∧ ∀ p, hpC g3 q p = hpC g q p := fun q h1 h2 => ⟨by rw [zT]; exact (off q h2).1, fun p => by rw [all q p (by omega)]; exact (off q h2).2 p⟩
    have inn : eqC g1 g3 (x + 90) g.1 := fun q h1 h2 => ⟨by rw [zT], fun p => all q p (by omega)⟩
    have keepT : ∀ s, s < 22 → s ≠ nx → B s ≠ 0 → eqC g g3 (B s) (B s + 22) := fun s hs hne h0 q h1 h2 => by
      have := bd s hs h0
      have := k10 s nx hs (by omega) hne h0 k11
      exact alo q (by omega) (by omega)
    have tr1 : TR g3 (B nx) w := r1.eq (inn.sub (by omega) (by omega))
    refine H g3 B ⟨by have := F.1; omega, fun q hq => ?_⟩ ⟨⟨?_, ?_, ?_, z2, ?_, ?_, by omega, by omega⟩, ⟨fun k hk => ?_, fun k hk => ?_⟩, ⟨fun s hs => ?_, k10⟩, fun i hi => ?_, fun k hk => ?_⟩
    · obtain ⟨u1, u2⟩ := alo q (by omega) (by omega)
      obtain ⟨v1, v2⟩ := F.2 q hq
      exact ⟨by rw [u1, v1], fun p => by rw [u2, v2]⟩
    · rw [zT]; exact xt
    · rw [all _ _ (by omega), (off _ (by omega)).2]; exact k1
    · rw [zo _ _ (by omega)]; exact y1
    · rw [(alo _ (by omega) (by omega)).1]; exact k5
    · rw [(alo _ (by omega) (by omega)).1]; exact k6
    · rw [(alo _ (by omega) (by omega)).2]; exact k7 k hk
    · rw [(alo _ (by omega) (by omega)).2]; exact k8 k hk
    · by_cases e : s = nx
      · subst e; exact Or.inr ⟨t1, by omega, tr1.1.1⟩
      · rcases k9 s hs with z | ⟨w1, w2, w3⟩
        · exact Or.inl z
        · exact Or.inr ⟨w1, by omega, w3.eq (keepT s hs e (by omega))⟩
    · unfold stU
      by_cases e : i = 0
      · subst e
        rw [show ((nx + 1) % 20 + 19 - 0) % 20 = nx by omega, if_pos rfl]
        exact ⟨k11, tr1, hV⟩
      · have es : ((nx + 1) % 20 + 19 - i) % 20 = (nx + 19 - (i - 1)) % 20 := by omega
        have ne : (nx + 19 - (i - 1)) % 20 ≠ nx := by omega
        rw [es, if_neg e]
        obtain ⟨w1, w2, w3⟩ := k12 (i - 1) (by omega) ne
        exact ⟨w1, w2.eq (keepT _ (by omega) ne w1), w3⟩
    · refine ⟨fun z => ?_, (k13 k hk).2⟩
      obtain ⟨w1, w2, w3⟩ := (k13 k hk).1 z
      exact ⟨w1, w2.eq (keepT _ (by omega) (by omega) w1), w3⟩
  apply f_Past_store_0
  rw [n67, c3, Int.toNat_natCast, c5, c9 nx (by omega), Int.toNat_natCast]
  refine ⟨c1, c1, ⟨rfl, by omega, by show (nx : Int) < 20; omega⟩, ?_⟩
  by_cases e0 : A nx = 0
  · rw [if_pos e0]
    refine ⟨c1, c1, ⟨by decide, by decide⟩, fun g1 e1 => ?_⟩
    obtain ⟨n1, n2, n3, n4, n5⟩ := nwH rfl e1
    clear e1
    refine ⟨⟨by omega, by decide, by decide, by rw [n2]⟩, sp_Tinit n1 (by rw [n2]) (by omega) (n4 7) (by omega) (fun g2 m1 fB tr _ => ?_)⟩
    have lo : ∀ q, q < h.1 → hpT g2 q = hpT h q ∧ ∀ p, hpC g2 q p = hpC h q p := fun q hq => ⟨by rw [fB.1 q hq, n3 q (by omega)], fun p => by rw [fB.2 q p hq (fun z => z), n5 q p (by omega)]⟩
    refine ⟨⟨by rw [(lo _ (by omega)).1, c5], by omega, by rw [(lo _ (by omega)).1, c5]; show (nx : Int) < 20; omega⟩, by have := tr.1.1.tag; exact this, fun g3 e3 => ?_⟩
    have yo : ∀ q p, ¬ (q = x + 67 ∧ p = nx) → hpC g3 q p = hpC g2 q p := fun q p hq => by subst e3; exact hpC_ne (by omega)
    have y0 : hpC g3 (x + 67) nx = (h.1 : Int) := by subst e3; rw [hpC_same]
    have yT : hpT g3 = hpT g2 := by subst e3; rfl
    have yn : g3.1 = h.1 + 23 := by subst e3; exact m1
    clear e3
    have lo3 : ∀ q, q < h.1 → q ≠ x + 67 → hpT g3 q = hpT h q ∧ ∀ p, hpC g3 q p = hpC h q p := fun q hq hn => ⟨by rw [yT]; exact (lo q hq).1, fun p => by rw [yo q p (by omega)]; exact (lo q hq).2 p⟩
    have tr3 : TR g3 h.1 wE := tr.eq (fun q h1 h2 => ⟨by rw [yT], fun p => yo q p (by omega)⟩)
    have kp : ∀ s, s < 22 → A s ≠ 0 → eqC h g3 (A s) (A s + 22) := fun s hs h0 q h1 h2 => by
      rcases c11 s hs with z | z
      · exact absurd z h0
      · exact lo3 q (by omega) (by omega)
    refine second g3 (stA A nx h.1) _ _ ⟨by omega, fun q hq => lo3 q (by omega) (by omega)⟩ ?_ ?_ ?_ ?_ ?_ ?_ (fun k hk => ?_) (fun k hk => ?_) (fun s hs => ?_) (fun s s' h1 h2 h3 h4 h5 => ?_) ?_ (fun i hi hne => ?_) (fun k hk => ?_)
    · rw [(lo3 _ (by omega) (by omega)).2]; exact c2
    · rw [(lo3 _ (by omega) (by omega)).1]; exact c1
    · rw [(lo3 _ (by omega) (by omega)).2]; exact c3
    · rw [(lo3 _ (by omega) (by omega)).2]; exact c4
    · rw [yT, (lo _ (by omega)).1]; exact c5
    · rw [(lo3 _ (by omega) (by omega)).1]; exact c6
    · unfold stA
      by_cases e : k = nx
      · subst e; rw [if_pos rfl]; exact y0
      · rw [if_neg e, yo _ _ (by omega), (lo _ (by omega)).2]; exact c9 k hk
    · unfold stA
      rw [if_neg (by omega), (lo3 _ (by omega) (by omega)).2]; exact c10 k hk
    · unfold stA
      by_cases e : s = nx
      · rw [if_pos e]; exact Or.inr ⟨hb, by omega, tr3.1.1⟩
      · rw [if_neg e]
        rcases c11 s hs with z | ⟨z1, z2, z3⟩
        · exact Or.inl z
        · exact Or.inr ⟨z1, by omega, z3.eq (kp s hs (by omega))⟩
    · unfold stA at h4 h5 ⊢
      by_cases e : s = nx
      · have e' : s' ≠ nx := by omega
        rw [if_pos e, if_neg e']
        rw [if_neg e'] at h5
        rcases c11 s' h2 with z | z
        · exact absurd z h5
        · omega
      · rw [if_neg e]
        rw [if_neg e] at h4
        by_cases e' : s' = nx
        · rw [if_pos e']
          rcases c11 s h1 with z | z
          · exact absurd z h4
          · omega
        · rw [if_neg e']
          rw [if_neg e'] at h5
          exact c12 s s' h1 h2 h3 h4 h5
    · unfold stA; rw [if_pos rfl]; omega
    · unfold stA
      rw [if_neg hne]
      obtain ⟨w1, w2, w3⟩ := c13 i hi
      exact ⟨w1, w2.eq (kp _ (by omega) w1), w3⟩
    · unfold stA
      rw [if_neg (by omega)]
      refine ⟨fun z => ?_, (c14 k hk).2⟩
      obtain ⟨w1, w2, w3⟩ := (c14 k hk).1 z
      exact ⟨w1, w2.eq (kp _ (by omega) w1), w3⟩
  · rw [if_neg e0]
    exact second h A _ _ ⟨Nat.le_refl _, fun q _ => ⟨rfl, fun p => rfl⟩⟩ c2 c1 c3 c4 c5 c6 c9 c10 c11 c12 e0 (fun i hi _ => c13 i hi) c14
/-! the reference's past -/
def UR (h : Hp) (m cnt : Nat) (U : Nat → Nat → Int) : Prop := ∀ i, i < cnt → ∀ p, p < 1010 → hpC h (m + 1) (4040 + 1010 * (cnt - 1 - i) + p) = U i p
def Skp (m : Nat) : Nat → Nat → Prop := fun q p => (q = m ∧ p = 2) ∨ (q = m + 1 ∧ 4040 ≤ p)
theorem Skp_off (m : Nat) : offM m (Skp m) := by
  intro p hp z
  rcases z with ⟨-, rfl⟩ | z
  · revert hp; decide
  · omega
theorem sp_keeps {h : Hp} {m : Nat} {w : Nat → Int} (a : RD h m w) (hV : V w) {cnt : Nat} {U : Nat → Nat → Int} (hc : hpC h m 2 = (cnt : Int)) (hc20 : cnt ≤ 20) (u : UR h m cnt U) {d mc ms : Nat} {R : PR} (hd : 1 ≤ d) {o1 : Option AV} (H : ∀ h', FrP (Skp m) h h' → hpC h' m 2 = ((min (cnt + 1) 20 : Nat) : Int) → UR h' m (min (cnt + 1) 20) (stU w U) → R none h') : Wp m_M_keeps 0 [some (xR m), o1] [] h d mc ms R := by
  have up2 : ∀ {g g' : Hp} {v : Int}, g' = hpU g m 2 v → FrP (Skp m) g g' := fun e => by subst e; exact FrP.up (Or.inl ⟨rfl, rfl⟩)
  apply f_M_keeps_0
  rw [hc]
  refine ⟨a.1.tag, ?_⟩
  by_cases c : cnt = 20
  · subst c
    rw [if_pos (show ((20 : Nat) : Int) = 20 from rfl), show ai_sub ((20 : Nat) : Int) 1 = 19 from by decide]
    refine ⟨a.1.tag, a.1.tag, fun g e => ?_⟩
    have f0 := up2 e
    have x0 : hpC g m 2 = 19 := by subst e; rw [hpC_same]
    have r0 : ∀ p, hpC g (m + 1) p = hpC h (m + 1) p := fun p => by subst e; rw [hpC_o1 (by omega)]
    clear e
    have L : ∀ (j k : Nat) (g : Hp), k + j = 19 → FrP (Skp m) h g → hpC g m 2 = 19 → (∀ b, b < k → ∀ p, p < 1010 → hpC g (m + 1) (4040 + 1010 * b + p) = hpC h (m + 1) (4040 + 1010 * (b + 1) + p)) → (∀ b, k ≤ b → b < 20 → ∀ p, p < 1010 → hpC g (m + 1) (4040 + 1010 * b + p) = hpC h (m + 1) (4040 + 1010 * b + p)) → Wp m_M_keeps 21 [some (xR m), some (xI (k : Int))] [] g d mc ms R := by
      intro j
      induction j with
      | zero =>
        intro k g hk f x k1 k2
        obtain rfl : k = 19 := by omega
        have ag : modelAt g m := a.1.fo f (Skp_off m)
        apply f_M_keeps_21
        rw [x, if_neg (by decide), show ai_add 4040 (ai_mul 1010 19) = ((23230 : Nat) : Int) from by decide]
        refine ⟨ag.tag, ag.tag, ⟨by omega, ag.tag⟩, ?_⟩
        have cp := sp_copies (d := d - 1) (mc := 0) (ms := 0) (o3 := none) (R := fun rv h1 => rv = none → ((hpT h1 m).1 = 12 ∧ ((hpT h1 m).1 = 12 ∧ (∀ g1 : Hp, g1 = hpU h1 m 2 (ai_add (hpC h1 m 2) (1 : Int)) → R none g1)))) ag (o := 23230) (o' := 0) (by omega) (by omega) (by omega)
        refine cp (fun g2 f2 k3 _ => ?_)
        have f2' : FrP (Skp m) g g2 := f2.wk (fun q p z => Or.inr ⟨z.1, by omega⟩)
        have a2 : modelAt g2 m := ag.fo f2' (Skp_off m)
        have x2 : hpC g2 m 2 = 19 := by rw [f2.2.2 _ _ (by omega)]; exact x
        rw [x2, show ai_add 19 1 = 20 from by decide]
        refine ⟨a2.tag, a2.tag, fun g3 e3 => ?_⟩
        have f3 := up2 e3
        subst e3
        refine H _ (f.tr (f2'.tr f3)) (by rw [hpC_same]; decide) (fun i hi p hp => ?_)
        have hi : i < 20 := by omega
        rw [hpC_o1 (by omega), show min (20 + 1) 20 - 1 - i = 19 - i by omega]
        unfold stU
        by_cases e : i = 0
        · subst e
          rw [if_pos rfl, show 4040 + 1010 * (19 - 0) + p = 23230 + p by omega, k3 p hp, Nat.zero_add, f.2.2 _ _ (by unfold Skp; omega)]
          exact a.2 p hp
        · rw [if_neg e, f2.2.2 _ _ (by omega), k1 (19 - i) (by omega) p hp]
          have := u (i - 1) (by omega) p hp
          rw [show 19 - i + 1 = 20 - 1 - (i - 1) by omega]
          exact this
      | succ j ih =>
        intro k g hk f x k1 k2
        have ag : modelAt g m := a.1.fo f (Skp_off m)
        apply f_M_keeps_21
        rw [x, if_pos (by omega), ab_1 (by omega), am_1010 (by omega), am_1010 (by omega), aa_4040 (by omega), aa_4040 (by omega)]
        refine ⟨ag.tag, ⟨by omega, ag.tag⟩, sp_copies ag (by omega) (by omega) (by omega) (fun g2 f2 k3 _ => ?_)⟩
        refine ih (k + 1) g2 (by omega) (f.tr (f2.wk (fun q p z => Or.inr ⟨z.1, by omega⟩))) (by rw [f2.2.2 _ _ (by omega)]; exact x) (fun b hb p hp => ?_) (fun b hb1 hb2 p hp => ?_)
        · by_cases e : b = k
          · subst e
            rw [k3 p hp]; exact k2 (b + 1) (by omega) (by omega) p hp
          · rw [f2.2.2 _ _ (by omega)]; exact k1 b (by omega) p hp
        · rw [f2.2.2 _ _ (by omega)]; exact k2 b (by omega) hb2 p hp
    exact L 19 0 g (by omega) f0 x0 (fun b hb => by omega) (fun b _ hb p hp => r0 _)
  · rw [if_neg (by omega), am_1010 (by omega), aa_4040 (by omega)]
    refine ⟨a.1.tag, ⟨by omega, a.1.tag⟩, ?_⟩
    have cp := sp_copies (d := d - 1) (mc := 0) (ms := 0) (o3 := none) (R := fun rv h1 => rv = none → ((hpT h1 m).1 = 12 ∧ ((hpT h1 m).1 = 12 ∧ (∀ g1 : Hp, g1 = hpU h1 m 2 (ai_add (hpC h1 m 2) (1 : Int)) → R none g1)))) a.1 (o := 4040 + 1010 * cnt) (o' := 0) (by omega) (by omega) (by omega)
    refine cp (fun g2 f2 k3 _ => ?_)
    have f2' : FrP (Skp m) h g2 := f2.wk (fun q p z => Or.inr ⟨z.1, by omega⟩)
    have a2 : modelAt g2 m := a.1.fo f2' (Skp_off m)
    have x2 : hpC g2 m 2 = (cnt : Int) := by rw [f2.2.2 _ _ (by omega)]; exact hc
    rw [x2, ab_1 (by omega)]
    refine ⟨a2.tag, a2.tag, fun g3 e3 => ?_⟩
    have f3 := up2 e3
    subst e3
    refine H _ (f2'.tr f3) (by rw [hpC_same]; omega) (fun i hi p hp => ?_)
    rw [hpC_o1 (by omega), show min (cnt + 1) 20 - 1 - i = cnt - i by omega]
    unfold stU
    by_cases e : i = 0
    · subst e
      rw [if_pos rfl, Nat.sub_zero, k3 p hp, Nat.zero_add]
      exact a.2 p hp
    · rw [if_neg e, f2.2.2 _ _ (by omega)]
      have := u (i - 1) (by omega) p hp
      rw [show cnt - i = cnt - 1 - (i - 1) by omega]
      exact this
