/-! ===== the class's acts: keep, the tape's calls ===== -/
def kpB (ik : Nat → Bool) (k : Nat) : Nat → Bool := fun j => if j = k then true else ik j
def kpI (iw : Nat → Nat → Int) (k : Nat) (w : Nat → Int) : Nat → Nat → Int := fun j => if j = k then w else iw j
theorem sp_ckeep {h : Hp} {x : Nat} {w : Nat → Int} {b : Nat → Nat} {n : Nat} {K : List Nat} {A : Nat → Nat} {nx cnt : Nat} {U : Nat → Nat → Int} {ik : Nat → Bool} {iw : Nat → Nat → Int} (c : CS h x w b n K A nx cnt U ik iw) (hV : V w) {i : Int} {d mc ms : Nat} {R : PR} (hd : 5 ≤ d) (hmc : 23 ≤ mc) (hms : 682 ≤ ms) (H1 : (0 ≤ i ∧ i ≤ 1) → ∀ h' A', CS h' x w b n K A' nx cnt U (kpB ik i.toNat) (kpI iw i.toNat w) → FrC h h' x → KO h h' x 5 → R (some (xI 1)) h') (H2 : ¬ (0 ≤ i ∧ i ≤ 1) → ∀ h', CS h' x w b n K A nx cnt U ik iw → FrC h h' x → KO h h' x 4 → R (some (xI 0)) h') : Wp m_S_keep 0 [some (xR x), some (xI i)] [] h d mc ms R := by
  have c8 := c.2.2.2.2.2.2.2.1
  have tr := c.2.2.2.2.2.2.1
  have c11 := c.2.2.2.2.2.2.2.2.2.2
  obtain ⟨⟨k1, k2, k3, k4, k5, k6, k7, k8⟩, ⟨k9, k10⟩, ⟨k11, k12⟩, k13, k14⟩ := c8
  have ref : ¬ (0 ≤ i ∧ i ≤ 1) → (1 ≤ d ∧ (hpT h x).1 = 11) ∧ Wp m_S_refuse 0 [some (xR x), some (xI (4 : Int))] [] h (d - 1) 0 0 (fun rv h1 => ∀ v1 : Int, rv = some (xI v1) → (((0 : Int) = 0 ∨ (0 : Int) = 1) ∧ R (some (xI (0 : Int))) h1)) := fun z => by
    refine ⟨⟨by omega, c.1.tag⟩, sp_refuse (i := 4) c.1 c.2.2.2.2.2.2.2.2.1 (by omega) (fun v e => ?_)⟩
    obtain ⟨r1, r2⟩ := c.rf 4 (ai_add (hpC h (x + 69) 4) 1)
    exact ⟨by simp, H2 z _ r1 r2 KO.up⟩
  apply f_S_keep_0
  by_cases d1 : i < 0
  · rw [if_pos d1]; exact ref (by omega)
  rw [if_neg d1]
  by_cases d2 : i < 2
  · rw [if_pos d2]
    obtain ⟨k, rfl⟩ : ∃ q : Nat, i = (q : Int) := ⟨i.toNat, by omega⟩
    have hk : k < 2 := by omega
    have H1 := H1 (by omega)
    rw [Int.toNat_natCast] at H1
    -- the copy
    have fin : ∀ (g g2 : Hp) (B : Nat → Nat), h.1 ≤ g.1 → eqC h g x (x + 67) → hpT g (x + 68) = (24, 2) → (∀ j, j < 2 → hpC g (x + 68) j = (B (20 + j) : Int)) → (∀ q, (q < x ∨ (x + 69 ≤ q ∧ q ≤ x + 89)) → hpT g q = hpT h q ∧ ∀ p, hpC g q p = hpC h q p) → (∀ j, j < 20 → hpC g (x + 67) j = (B j : Int)) → (∀ s, s < 22 → B s = 0 ∨ (x + 90 ≤ B s ∧ B s + 23 ≤ g.1 ∧ townAt g (B s))) → (∀ s s', s < 22 → s' < 22 → s ≠ s' → B s ≠ 0 → B s' ≠ 0 → B s + 23 ≤ B s' ∨ B s' + 23 ≤ B s) → B (20 + k) ≠ 0 → (∀ i, i < cnt → B ((nx + 19 - i) % 20) ≠ 0 ∧ TR g (B ((nx + 19 - i) % 20)) (U i)) → (∀ j, j < 2 → j ≠ k → (ik j = true → B (20 + j) ≠ 0 ∧ TR g (B (20 + j)) (iw j)) ∧ (ik j = false → B (20 + j) = 0)) → FrP (SD (B (20 + k))) g g2 → TR g2 (B (20 + k)) w → R (some (xI 1)) g2 := by
      intro g g2 B l1 l2 l3 l4 l5 l6 l7 l8 l9 l10 l11 f t
      have bd : x + 90 ≤ B (20 + k) ∧ B (20 + k) + 23 ≤ g.1 := by
        rcases l7 (20 + k) (by omega) with y | y
        · exact absurd y l9
        · exact ⟨y.1, y.2.1⟩
      have off : ∀ q, (q < B (20 + k) ∨ B (20 + k) + 23 ≤ q) → hpT g2 q = hpT g q ∧ ∀ p, hpC g2 q p = hpC g q p := fun q hq => ⟨by rw [f.2.1], fun p => f.2.2 q p (fun z => by unfold SD at z; omega)⟩
      have tw : ∀ s, s < 22 → s ≠ 20 + k → B s ≠ 0 → eqC g g2 (B s) (B s + 22) := fun s hs hne h0 q h1 h2 => by
        have := l8 s (20 + k) hs (by omega) hne h0 l9
        exact off q (by omega)
      have E : eqC h g2 x (x + 67) := fun q h1 h2 => ⟨by rw [(off q (by omega)).1, l2.T _ h1 h2], fun p => by rw [(off q (by omega)).2, l2.C _ _ h1 h2]⟩
      have n2 : g2.1 = g.1 := f.1
      have cp : CP g2 x B nx cnt U (kpB ik k) (kpI iw k w) := by
        refine ⟨⟨by rw [E.T _ (by omega) (by omega)]; exact k1, by rw [E.C _ _ (by omega) (by omega)]; exact k2, by rw [E.C _ _ (by omega) (by omega)]; exact k3, by rw [E.C _ _ (by omega) (by omega)]; exact k4, by rw [E.T _ (by omega) (by omega)]; exact k5, by rw [(off _ (by omega)).1]; exact l3, k7, k8⟩, ⟨fun j hj => by rw [(off _ (by omega)).2]; exact l6 j hj, fun j hj => by rw [(off _ (by omega)).2]; exact l4 j hj⟩, ⟨fun s hs => ?_, l8⟩, fun i hi => ?_, fun j hj => ?_⟩
        · by_cases e : s = 20 + k
          · subst e; exact Or.inr ⟨bd.1, by omega, t.1.1⟩
          · by_cases h0 : B s = 0
            · exact Or.inl h0
            · rcases l7 s hs with y | ⟨y1, y2, y3⟩
              · exact Or.inl y
              · exact Or.inr ⟨y1, by omega, y3.eq (tw s hs e h0)⟩
        · obtain ⟨y1, y2⟩ := l10 i hi
          exact ⟨y1, y2.eq (tw _ (by omega) (by omega) y1), (k13 i hi).2.2⟩
        · unfold kpB kpI
          by_cases e : j = k
          · subst e
            rw [if_pos rfl, if_pos rfl]
            exact ⟨fun _ => ⟨l9, t, hV⟩, fun z => Bool.noConfusion z⟩
          · rw [if_neg e, if_neg e]
            refine ⟨fun z => ?_, (l11 j hj e).2⟩
            obtain ⟨y1, y2⟩ := (l11 j hj e).1 z
            exact ⟨y1, y2.eq (tw _ (by omega) (by omega) y1), ((k14 j hj).1 z).2.2⟩
      have fr : ∀ q, (q < x ∨ (x + 69 ≤ q ∧ q ≤ x + 89)) → hpT g2 q = hpT h q ∧ ∀ p, hpC g2 q p = hpC h q p := fun q hq => ⟨by rw [(off q (by omega)).1]; exact (l5 q hq).1, fun p => by rw [(off q (by omega)).2]; exact (l5 q hq).2 p⟩
      exact H1 g2 B (c.mk3 (E.sub (by omega) (by omega)) cp (fr _ (by omega)).1 (by omega)) ⟨by omega, fun q hq => fr q (by omega)⟩ (KO.of (fun p hp => E.C _ _ (by omega) (by omega)) (fun p => (fr _ (by omega)).2 p))
    rw [c.1.images_n, k6, Int.toNat_natCast, k10 k hk, Int.toNat_natCast]
    refine ⟨c.1.tag, ⟨rfl, by omega, by show (k : Int) < 2; omega⟩, ?_⟩
    by_cases c3 : A (20 + k) = 0
    · rw [if_pos c3]
      refine ⟨c.1.tag, ⟨by omega, by omega⟩, fun g1 e1 => ?_⟩
      obtain ⟨n1, n2, n3, n4, n5⟩ := nwH rfl e1
      clear e1
      refine ⟨⟨by omega, by omega, by omega, by rw [n2]⟩, sp_Tinit n1 (by rw [n2]) (by omega) (n4 7) (by omega) (fun g2 m1 fB tr2 _ => ?_)⟩
      have lo : ∀ q, q < h.1 → hpT g2 q = hpT h q ∧ ∀ p, hpC g2 q p = hpC h q p := fun q hq => ⟨by rw [fB.1 q hq, n3 q (by omega)], fun p => by rw [fB.2 q p hq (fun z => z), n5 q p (by omega)]⟩
      refine ⟨⟨by rw [(lo _ (by omega)).1, k6], by omega, by rw [(lo _ (by omega)).1, k6]; show (k : Int) < 2; omega⟩, tr2.1.1.tag, fun g3 e3 => ?_⟩
      have yo : ∀ q p, ¬ (q = x + 68 ∧ p = k) → hpC g3 q p = hpC g2 q p := fun q p hq => by subst e3; exact hpC_ne (by omega)
      have y0 : hpC g3 (x + 68) k = (h.1 : Int) := by subst e3; rw [hpC_same]
      have yT : hpT g3 = hpT g2 := by subst e3; rfl
      have yn : g3.1 = h.1 + 23 := by subst e3; exact m1
      clear e3
      have lo3 : ∀ q, q < h.1 → q ≠ x + 68 → hpT g3 q = hpT h q ∧ ∀ p, hpC g3 q p = hpC h q p := fun q hq hn => ⟨by rw [yT]; exact (lo q hq).1, fun p => by rw [yo q p (by omega)]; exact (lo q hq).2 p⟩
      have tr3 : TR g3 h.1 wE := tr2.eq (fun q h1 h2 => ⟨by rw [yT], fun p => yo q p (by omega)⟩)
      have kp : ∀ s, s < 22 → A s ≠ 0 → eqC h g3 (A s) (A s + 22) := fun s hs h0 q h1 h2 => by
        rcases k11 s hs with z | z
        · exact absurd z h0
        · exact lo3 q (by omega) (by omega)
      have s3 : sAt g3 x := c.1.eq (lo3 _ (by omega) (by omega)).1 (fun p _ => (lo3 _ (by omega) (by omega)).2 p)
      have e68 : hpT g3 (x + 68) = (24, 2) := by rw [yT, (lo _ (by omega)).1]; exact k6
      rw [s3.images_n, s3.now_n, e68, y0, Int.toNat_natCast]
      have tn3 : TR g3 (x + 43) w := tr.eq (fun q h1 h2 => lo3 q (by omega) (by omega))
      refine ⟨s3.tag, ⟨rfl, by omega, by show (k : Int) < 2; omega⟩, s3.tag, ⟨by omega, tr3.1.1.tag⟩, sp_Tcopy tr3.1.1 tn3 hV (by omega) (by omega) (fun g4 f4 t4 _ => ⟨by simp, ?_⟩)⟩
      have eB : stA A (20 + k) h.1 (20 + k) = h.1 := by unfold stA; rw [if_pos rfl]
      have eO : ∀ s, s ≠ 20 + k → stA A (20 + k) h.1 s = A s := fun s hs => by unfold stA; rw [if_neg hs]
      refine fin g3 g4 (stA A (20 + k) h.1) (by omega) (fun q h1 h2 => lo3 q (by omega) (by omega)) e68 (fun j hj => ?_) (fun q hq => lo3 q (by omega) (by omega)) (fun j hj => by rw [eO _ (by omega), (lo3 _ (by omega) (by omega)).2]; exact k9 j hj) (fun s hs => ?_) (fun s s' h1 h2 h3 h4 h5 => ?_) (by rw [eB]; omega) (fun i hi => ?_) (fun j hj hne => ?_) (by rw [eB]; exact f4) (by rw [eB]; exact t4)
      · by_cases e : j = k
        · subst e; rw [eB]; exact y0
        · rw [eO _ (by omega), yo _ _ (by omega), (lo _ (by omega)).2]; exact k10 j hj
      · by_cases e : s = 20 + k
        · subst e; rw [eB]; exact Or.inr ⟨c11, by omega, tr3.1.1⟩
        · rw [eO _ e]
          rcases k11 s hs with z | ⟨z1, z2, z3⟩
          · exact Or.inl z
          · exact Or.inr ⟨z1, by omega, z3.eq (kp s hs (by omega))⟩
      · by_cases e : s = 20 + k
        · have e' : s' ≠ 20 + k := by omega
          rw [eO _ e'] at h5 ⊢
          rw [e, eB]
          rcases k11 s' h2 with z | z
          · exact absurd z h5
          · omega
        · rw [eO _ e] at h4 ⊢
          by_cases e' : s' = 20 + k
          · rw [e', eB]
            rcases k11 s h1 with z | z
            · exact absurd z h4
            · omega
          · rw [eO _ e'] at h5 ⊢
            exact k12 s s' h1 h2 h3 h4 h5
      · rw [eO _ (by omega)]
        obtain ⟨w1, w2, w3⟩ := k13 i hi
        exact ⟨w1, w2.eq (kp _ (by omega) w1)⟩
      · rw [eO _ (by omega)]
        refine ⟨fun z => ?_, (k14 j hj).2⟩
        obtain ⟨w1, w2, w3⟩ := (k14 j hj).1 z
        exact ⟨w1, w2.eq (kp _ (by omega) w1)⟩
    · rw [if_neg c3]
      have bd : x + 90 ≤ A (20 + k) ∧ townAt h (A (20 + k)) := by
        rcases k11 (20 + k) (by omega) with y | y
        · exact absurd y c3
        · exact ⟨y.1, y.2.2⟩
      rw [c.1.now_n]
      refine ⟨c.1.tag, ⟨rfl, by omega, by show (k : Int) < 2; omega⟩, c.1.tag, ⟨by omega, bd.2.tag⟩, sp_Tcopy bd.2 tr hV (by omega) (by omega) (fun g4 f4 t4 _ => ⟨by simp, ?_⟩)⟩
      exact fin h g4 A (Nat.le_refl _) (fun q _ _ => ⟨rfl, fun p => rfl⟩) k6 k10 (fun q _ => ⟨rfl, fun p => rfl⟩) k9 k11 k12 c3 (fun i hi => ⟨(k13 i hi).1, (k13 i hi).2.1⟩) (fun j hj _ => ⟨fun z => ⟨((k14 j hj).1 z).1, ((k14 j hj).1 z).2.1⟩, (k14 j hj).2⟩) f4 t4
  · rw [if_neg d2]; exact ref (by omega)
/-- the tape changes -/
theorem CS.tp {h : Hp} {x : Nat} {w : Nat → Int} {b : Nat → Nat} {n : Nat} {K : List Nat} {A : Nat → Nat} {nx cnt : Nat} {U : Nat → Nat → Int} {ik : Nat → Bool} {iw : Nat → Nat → Int} (c : CS h x w b n K A nx cnt U ik iw) {h' : Hp} {b' : Nat → Nat} {n' : Nat} (f : FrP (Stq x) h h') (t : TPc h' x b' n') : CS h' x w b' n' K A nx cnt U ik iw ∧ FrC h h' x ∧ KO h h' x 5 := by
  have f' : FrP (scr x) h h' := f.wk (fun q p z => by unfold Stq at z; unfold scr; omega)
  have no : ∀ q p, ¬ Stq x q p → hpC h' q p = hpC h q p := f.2.2
  obtain ⟨k1, k2, k3⟩ := (c.2.2.2.2.1).eq (h' := h') (f.eqC (fun q p h1 h2 => by unfold Stq; omega))
  exact ⟨c.up f' t k2 k3 k1 (c.2.2.2.2.2.1.eq (f.eqC (fun q p h1 h2 => by unfold Stq; omega))) (by unfold heC; rw [no _ _ (by unfold Stq; omega)]; exact c.2.2.2.2.2.2.2.2.2.1), scr_C f', KO.of (fun p hp => no _ _ (by unfold Stq; omega)) (fun p => no _ _ (by unfold Stq; omega))⟩
def feB (b : Nat → Nat) (n : Nat) (v1 v2 v3 v4 v5 : Int) : Nat → Nat := putB (putB (putB (putB (putB b n v1 4) (n + 4) v2 4) (n + 8) v3 4) (n + 12) v4 4) (n + 16) v5 4
theorem sp_cfeed {h : Hp} {x : Nat} {w : Nat → Int} {b : Nat → Nat} {n : Nat} {K : List Nat} {A : Nat → Nat} {nx cnt : Nat} {U : Nat → Nat → Int} {ik : Nat → Bool} {iw : Nat → Nat → Int} (c : CS h x w b n K A nx cnt U ik iw) {v1 v2 v3 v4 v5 : Int} {d mc ms : Nat} {R : PR} (hd : 2 ≤ d) (H1 : n + 20 ≤ 2000 → ∀ h', CS h' x w (feB b n v1 v2 v3 v4 v5) (n + 20) K A nx cnt U ik iw → FrC h h' x → KO h h' x 5 → R (some (xI ((n + 20 : Nat) : Int))) h') (H2 : ¬ n + 20 ≤ 2000 → ∀ h', CS h' x w b n K A nx cnt U ik iw → FrC h h' x → KO h h' x 0 → R (some (xI (-1))) h') : Wp m_S_feed 0 [some (xR x), some (xI v1), some (xI v2), some (xI v3), some (xI v4), some (xI v5)] [] h d mc ms R := by
  have t := c.2.1
  have tg : ∀ {g : Hp} {b' : Nat → Nat} {n' : Nat}, CS g x w b' n' K A nx cnt U ik iw → (hpT g (x + 1)).1 = 9 := fun c => c.2.1.1.1
  have hn := t.2.2.1
  apply f_S_feed_0
  rw [c.1.tape_n]
  refine ⟨c.1.tag, ⟨by omega, tg c⟩, ?_⟩
  apply f_Tape_hasRoom_0
  rw [t.2.1, ai_add_eq (by omega) (by omega)]
  refine ⟨tg c, ?_⟩
  by_cases c0 : n + 20 ≤ 2000
  · rw [if_neg (by omega)]
    have H1 := H1 c0
    refine ⟨by simp, fun v e => ?_⟩
    cases e
    rw [if_neg (by decide), c.1.tape_n]
    refine ⟨c.1.tag, ⟨by omega, tg c⟩, sp_put t (by omega) (fun g1 f1 t1 _ => ?_)⟩
    obtain ⟨c1, q1, p1⟩ := c.tp f1 t1
    rw [c1.1.tape_n]
    refine ⟨c1.1.tag, ⟨by omega, tg c1⟩, sp_put t1 (by omega) (fun g2 f2 t2 _ => ?_)⟩
    obtain ⟨c2, q2, p2⟩ := c1.tp f2 t2
    rw [c2.1.tape_n]
    refine ⟨c2.1.tag, ⟨by omega, tg c2⟩, sp_put t2 (by omega) (fun g3 f3 t3 _ => ?_)⟩
    obtain ⟨c3, q3, p3⟩ := c2.tp f3 t3
    rw [c3.1.tape_n]
    refine ⟨c3.1.tag, ⟨by omega, tg c3⟩, sp_put t3 (by omega) (fun g4 f4 t4 _ => ?_)⟩
    obtain ⟨c4, q4, p4⟩ := c3.tp f4 t4
    rw [c4.1.tape_n]
    refine ⟨c4.1.tag, ⟨by omega, tg c4⟩, sp_put t4 (by omega) (fun g5 f5 t5 _ => ?_)⟩
    obtain ⟨c5, q5, p5⟩ := c4.tp f5 t5
    rw [c5.1.tape_n, t5.2.1]
    exact ⟨c5.1.tag, tg c5, H1 g5 c5 ((((q1.tr q2).tr q3).tr q4).tr q5) ((((p1.tr p2).tr p3).tr p4).tr p5)⟩
  · rw [if_pos (by omega)]
    refine ⟨by simp, fun v e => ?_⟩
    cases e
    rw [if_pos rfl]
    refine ⟨⟨by omega, c.1.tag⟩, sp_refuse (i := 0) c.1 c.2.2.2.2.2.2.2.2.1 (by omega) (fun v e => ?_)⟩
    cases e
    obtain ⟨r1, r2⟩ := c.rf 0 (ai_add (hpC h (x + 69) 0) 1)
    exact H2 c0 _ r1 r2 KO.up
theorem sp_cend {h : Hp} {x : Nat} {w : Nat → Int} {b : Nat → Nat} {n : Nat} {K : List Nat} {A : Nat → Nat} {nx cnt : Nat} {U : Nat → Nat → Int} {ik : Nat → Bool} {iw : Nat → Nat → Int} (c : CS h x w b n K A nx cnt U ik iw) {i : Int} {d mc ms : Nat} {R : PR} (hd : 2 ≤ d) (H1 : (0 ≤ i ∧ i ≤ (n : Int)) → ∀ h', CS h' x w b i.toNat K A nx cnt U ik iw → FrC h h' x → KO h h' x 5 → R (some (xI 1)) h') (H2 : ¬ (0 ≤ i ∧ i ≤ (n : Int)) → ∀ h', CS h' x w b n K A nx cnt U ik iw → FrC h h' x → KO h h' x 0 → R (some (xI 0)) h') : Wp m_S_end 0 [some (xR x), some (xI i)] [] h d mc ms R := by
  have t := c.2.1
  have ref : ¬ (0 ≤ i ∧ i ≤ (n : Int)) → (1 ≤ d ∧ (hpT h x).1 = 11) ∧ Wp m_S_refuse 0 [some (xR x), some (xI (0 : Int))] [] h (d - 1) 0 0 (fun rv h1 => ∀ v1 : Int, rv = some (xI v1) → (((0 : Int) = 0 ∨ (0 : Int) = 1) ∧ R (some (xI (0 : Int))) h1)) := fun z => by
    refine ⟨⟨by omega, c.1.tag⟩, sp_refuse (i := 0) c.1 c.2.2.2.2.2.2.2.2.1 (by omega) (fun v e => ?_)⟩
    obtain ⟨r1, r2⟩ := c.rf 0 (ai_add (hpC h (x + 69) 0) 1)
    exact ⟨by simp, H2 z _ r1 r2 KO.up⟩
  apply f_S_end_0
  by_cases c1 : i < 0
  · rw [if_pos c1]; exact ref (by omega)
  rw [if_neg c1, c.1.tape_n, t.2.1]
  refine ⟨c.1.tag, t.1.1, ?_⟩
  by_cases c2 : (n : Int) < i
  · rw [if_pos c2]; exact ref (by omega)
  rw [if_neg c2]
  refine ⟨c.1.tag, t.1.1, fun g e => ⟨by simp, ?_⟩⟩
  have f : FrP (Stq x) h g := by subst e; exact FrP.up (Or.inl ⟨rfl, rfl⟩)
  have t' : TPc g x b i.toNat := ⟨by subst e; exact t.1.fr rfl (fun r p hr => hpC_ne (by omega)), by subst e; rw [hpC_same]; omega, by have := t.2.2.1; omega, fun j hj => by subst e; rw [hpC_o1 (by omega)]; exact t.2.2.2 j (by omega)⟩
  obtain ⟨r1, r2, r3⟩ := c.tp f t'
  exact H1 (by omega) g r1 r2 r3
theorem sp_cfault {h : Hp} {x : Nat} (s : sAt h x) {i : Int} {d mc ms : Nat} {R : PR} (H : R (some (xI (if i = 0 then hpC h x 9 else if i = 1 then hpC h x 10 else -1))) h) : Wp m_S_fault 0 [some (xR x), some (xI i)] [] h d mc ms R := by
  apply f_S_fault_0
  by_cases c0 : i = 0
  · rw [if_pos c0] at H
    rw [if_pos (show i = ((0 : Nat) : Int) from c0)]; exact ⟨s.tag, H⟩
  · rw [if_neg c0] at H
    rw [if_neg (show ¬ i = ((0 : Nat) : Int) from c0)]
    by_cases c1 : i = 1
    · rw [if_pos c1] at H
      rw [if_pos (show i = ((1 : Nat) : Int) from c1)]; exact ⟨s.tag, H⟩
    · rw [if_neg c1] at H
      rw [if_neg (show ¬ i = ((1 : Nat) : Int) from c1)]; exact H
theorem sp_cstatus {h : Hp} {x : Nat} (s : sAt h x) (ht : hpT h (x + 69) = (20, 5)) {i : Int} {d mc ms : Nat} {R : PR} (H : R (some (xI (if 0 ≤ i ∧ i < 5 then hpC h (x + 69) i.toNat else -1))) h) : Wp m_S_status 0 [some (xR x), some (xI i)] [] h d mc ms R := by
  apply f_S_status_0
  by_cases c0 : i < 0
  · rw [if_neg (by omega)] at H
    rw [if_pos c0]; exact H
  rw [if_neg c0]
  by_cases c1 : i < 5
  · rw [if_pos (by omega)] at H
    rw [if_pos c1, s.refused_n, ht]
    exact ⟨s.tag, ⟨rfl, by omega, by show i < 5; omega⟩, H⟩
  · rw [if_neg (by omega)] at H
    rw [if_neg c1]; exact H
