/-! ===== the states of both sides between calls ===== -/
def rdAt (h : Hp) (x : Nat) : Prop := (hpT h (x + 4)).1 = 7 ∧ hpC h (x + 4) 0 = ((x + 5 : Nat) : Int) ∧ hpC h (x + 4) 3 = ((x + 1 : Nat) : Int) ∧ townAt h (x + 5)
def CK (h : Hp) (x : Nat) (w : Nat → Int) : Prop := plAt h (x + 30) ∧ (hpC h (x + 30) 2 ≠ 0 → clC h (x + 30) w) ∧ (hpC h (x + 30) 3 ≠ 0 → plK h (x + 30) w)
def CS (h : Hp) (x : Nat) (w : Nat → Int) (b : Nat → Nat) (n : Nat) (K : List Nat) (A : Nat → Nat) (nx cnt : Nat) (U : Nat → Nat → Int) (ik : Nat → Bool) (iw : Nat → Nat → Int) : Prop :=
  sAt h x ∧ TPc h x b n ∧ rdAt h x ∧ earAt h (x + 28) (x + 29) ∧ CK h x w ∧ numAt h (x + 36) ∧ TR h (x + 43) w ∧ CP h x A nx cnt U ik iw ∧ hpT h (x + 69) = (20, 5) ∧ heC h x K ∧ x + 90 ≤ h.1
theorem rdAt.eq {h h' : Hp} {x : Nat} (e : eqC h h' (x + 4) (x + 27)) (a : rdAt h x) : rdAt h' x := ⟨by rw [e.T _ (by omega) (by omega)]; exact a.1, by rw [e.C _ _ (by omega) (by omega)]; exact a.2.1, by rw [e.C _ _ (by omega) (by omega)]; exact a.2.2.1, a.2.2.2.eq (e.sub (by omega) (by omega))⟩
/-- cells that queries, feeds and refusals write -/
def scr (x : Nat) : Nat → Nat → Prop := fun q p => (q = x + 1 ∧ p = 1) ∨ q = x + 2 ∨ q = x + 29 ∨ SP (x + 30) q p ∨ SN (x + 36) q p ∨ (q = x ∧ 9 ≤ p) ∨ q = x + 69
theorem scr_no {x q p : Nat} (h : (q < x) ∨ (q = x ∧ p ≤ 8) ∨ (q = x + 1 ∧ p ≠ 1) ∨ (x + 3 ≤ q ∧ q ≤ x + 28) ∨ (x + 43 ≤ q ∧ q ≤ x + 68) ∨ x + 70 ≤ q) : ¬ scr x q p := by
  unfold scr SP SN; omega
theorem CS.up {h h' : Hp} {x : Nat} {w : Nat → Int} {b b' : Nat → Nat} {n n' : Nat} {K K' : List Nat} {A : Nat → Nat} {nx cnt : Nat} {U : Nat → Nat → Int} {ik : Nat → Bool} {iw : Nat → Nat → Int} (c : CS h x w b n K A nx cnt U ik iw) (f : FrP (scr x) h h') (t : TPc h' x b' n') (k1 : hpC h' (x + 30) 2 ≠ 0 → clC h' (x + 30) w) (k2 : hpC h' (x + 30) 3 ≠ 0 → plK h' (x + 30) w) (k3 : plAt h' (x + 30)) (k4 : numAt h' (x + 36)) (he : heC h' x K') : CS h' x w b' n' K' A nx cnt U ik iw := by
  obtain ⟨c1, c2, c3, c4, c5, c6, c7, c8, c9, c10, c11⟩ := c
  refine ⟨c1.fr f (fun p hp => scr_no (by omega)), t, c3.eq (f.eqC (fun q p h1 h2 => scr_no (by omega))), ⟨by rw [f.2.1]; exact c4.1, by rw [f.2.2 _ _ (scr_no (by omega))]; exact c4.2.1, by rw [f.2.1]; exact c4.2.2.1, c4.2.2.2⟩, ⟨k3, k1, k2⟩, k4, c7.eq (f.eqC (fun q p h1 h2 => scr_no (by omega))), c8.fr (f.eqC (fun q p h1 h2 => scr_no (by omega))) ⟨by rw [f.1]; exact Nat.le_refl _, fun q h1 h2 => ⟨by rw [f.2.1], fun p => f.2.2 q p (scr_no (by omega))⟩⟩, by rw [f.2.1]; exact c9, he, by rw [f.1]; exact c11⟩
/-- nothing of the rest changes: the reference, the script -/
def FrC (h h' : Hp) (x : Nat) : Prop := h.1 ≤ h'.1 ∧ ∀ q, (q < x ∨ (x + 70 ≤ q ∧ q ≤ x + 89)) → hpT h' q = hpT h q ∧ ∀ p, hpC h' q p = hpC h q p
theorem scr_C {h h' : Hp} {x : Nat} (f : FrP (scr x) h h') : FrC h h' x := ⟨by rw [f.1]; exact Nat.le_refl _, fun q hq => ⟨by rw [f.2.1], fun p => f.2.2 q p (scr_no (by omega))⟩⟩
theorem FrC.tr {h h' h'' : Hp} {x : Nat} (a : FrC h h' x) (b : FrC h' h'' x) : FrC h h'' x := ⟨Nat.le_trans a.1 b.1, fun q hq => ⟨(b.2 q hq).1.trans (a.2 q hq).1, fun p => ((b.2 q hq).2 p).trans ((a.2 q hq).2 p)⟩⟩
theorem FrC.rf {h : Hp} {x : Nat} : FrC h h x := ⟨Nat.le_refl _, fun q _ => ⟨rfl, fun p => rfl⟩⟩
/-- faults kept; refusals: one more at c (5: none) -/
def KO (h h' : Hp) (x c : Nat) : Prop := hpC h' x 9 = hpC h x 9 ∧ hpC h' x 10 = hpC h x 10 ∧ ∀ i, i < 5 → hpC h' (x + 69) i = if i = c then ai_add (hpC h (x + 69) i) 1 else hpC h (x + 69) i
def KM (h h' : Hp) (m c : Nat) : Prop := hpC h' m 6 = hpC h m 6 ∧ hpC h' m 7 = hpC h m 7 ∧ ∀ i, i < 5 → hpC h' (m + 3) i = if i = c then ai_add (hpC h (m + 3) i) 1 else hpC h (m + 3) i
theorem KO.rf {h : Hp} {x : Nat} : KO h h x 5 := ⟨rfl, rfl, fun i hi => by rw [if_neg (by omega)]⟩
theorem KM.rf {h : Hp} {m : Nat} : KM h h m 5 := ⟨rfl, rfl, fun i hi => by rw [if_neg (by omega)]⟩
theorem KO.of {h h' : Hp} {x : Nat} (h1 : ∀ p, (p = 9 ∨ p = 10) → hpC h' x p = hpC h x p) (h2 : ∀ p, hpC h' (x + 69) p = hpC h (x + 69) p) : KO h h' x 5 := ⟨h1 9 (Or.inl rfl), h1 10 (Or.inr rfl), fun i hi => by rw [if_neg (by omega)]; exact h2 i⟩
theorem KM.of {h h' : Hp} {m : Nat} (h1 : ∀ p, (p = 6 ∨ p = 7) → hpC h' m p = hpC h m p) (h2 : ∀ p, hpC h' (m + 3) p = hpC h (m + 3) p) : KM h h' m 5 := ⟨h1 6 (Or.inl rfl), h1 7 (Or.inr rfl), fun i hi => by rw [if_neg (by omega)]; exact h2 i⟩
theorem KO.tr {h h' h'' : Hp} {x c : Nat} (a : KO h h' x 5) (b : KO h' h'' x c) : KO h h'' x c := ⟨b.1.trans a.1, b.2.1.trans a.2.1, fun i hi => by
  have := a.2.2 i hi
  rw [if_neg (by omega)] at this
  rw [b.2.2 i hi, this]⟩
theorem KM.tr {h h' h'' : Hp} {m c : Nat} (a : KM h h' m 5) (b : KM h' h'' m c) : KM h h'' m c := ⟨b.1.trans a.1, b.2.1.trans a.2.1, fun i hi => by
  have := a.2.2 i hi
  rw [if_neg (by omega)] at this
  rw [b.2.2 i hi, this]⟩
theorem KO.up {h : Hp} {x c : Nat} : KO h (hpU h (x + 69) c (ai_add (hpC h (x + 69) c) 1)) x c := ⟨hpC_o1 (by omega), hpC_o1 (by omega), fun i hi => by
  by_cases e : i = c
  · subst e; rw [if_pos rfl, hpC_same]
  · rw [if_neg e, hpC_o2 e]⟩
theorem KM.up {h : Hp} {m c : Nat} : KM h (hpU h (m + 3) c (ai_add (hpC h (m + 3) c) 1)) m c := ⟨hpC_o1 (by omega), hpC_o1 (by omega), fun i hi => by
  by_cases e : i = c
  · subst e; rw [if_pos rfl, hpC_same]
  · rw [if_neg e, hpC_o2 e]⟩
/-- the reference -/
def MS (h : Hp) (m : Nat) (w : Nat → Int) (b : Nat → Nat) (n : Nat) (K : List Nat) (cnt : Nat) (U : Nat → Nat → Int) (ik : Nat → Bool) (iw : Nat → Nat → Int) : Prop :=
  RD h m w ∧ TPm h m b n ∧ owM h m ∧ heM h m K ∧ hpC h m 2 = (cnt : Int) ∧ UR h m cnt U ∧ (∀ k, k < 2 → hpC h (m + 2) k = if ik k then 1 else 0) ∧ (∀ k, k < 2 → ik k = true → ∀ p, p < 1010 → hpC h (m + 1) (2020 + 1010 * k + p) = iw k p)
def FrM (h h' : Hp) (m : Nat) : Prop := FrP (fun q _ => m ≤ q ∧ q ≤ m + 19) h h'
/-- cells that the reference's queries, feeds and refusals write -/
def mcr (m : Nat) : Nat → Nat → Prop := fun q p => (q = m ∧ (p = 5 ∨ p = 6 ∨ p = 7 ∨ p = 8 ∨ p = 9 ∨ p = 10 ∨ p = 11 ∨ p = 12 ∨ p = 14 ∨ p = 15 ∨ p = 17 ∨ p = 22 ∨ p = 28 ∨ p = 30)) ∨ q = m + 3 ∨ q = m + 4 ∨ (m + 6 ≤ q ∧ q ≤ m + 19)
theorem mcr_off (m : Nat) : offM m (mcr m) := by
  intro p hp z
  rcases z with ⟨-, z⟩ | z
  · rcases z with rfl | rfl | rfl | rfl | rfl | rfl | rfl | rfl | rfl | rfl | rfl | rfl | rfl | rfl <;> (revert hp; decide)
  · omega
theorem mcr_M {h h' : Hp} {m : Nat} (f : FrP (mcr m) h h') : FrM h h' m := f.wk (fun q p z => by unfold mcr at z; omega)
theorem MS.up {h h' : Hp} {m : Nat} {w : Nat → Int} {b b' : Nat → Nat} {n n' : Nat} {K K' : List Nat} {cnt : Nat} {U : Nat → Nat → Int} {ik : Nat → Bool} {iw : Nat → Nat → Int} (c : MS h m w b n K cnt U ik iw) (f : FrP (mcr m) h h') (t : TPm h' m b' n') (he : heM h' m K') : MS h' m w b' n' K' cnt U ik iw := by
  obtain ⟨c1, c2, c3, c4, c5, c6, c7, c8⟩ := c
  have no : ∀ q p, (q = m + 1 ∨ q = m + 2 ∨ q = m + 5) → hpC h' q p = hpC h q p := fun q p hq => f.2.2 q p (by unfold mcr; omega)
  refine ⟨c1.fx f (mcr_off m) (fun p => by unfold mcr; omega), t, fun i hi => by rw [no _ _ (by omega)]; exact c3 i hi, he, by rw [f.2.2 _ _ (by unfold mcr; omega)]; exact c5, fun i hi p hp => by rw [no _ _ (by omega)]; exact c6 i hi p hp, fun k hk => by rw [no _ _ (by omega)]; exact c7 k hk, fun k hk z p hp => by rw [no _ _ (by omega)]; exact c8 k hk z p hp⟩
theorem SM_mcr {h h' : Hp} {m : Nat} (f : FrP (SM m) h h') : FrP (mcr m) h h' := f.wk (fun q p z => by unfold SM at z; unfold mcr; omega)
theorem SH_mcr {h h' : Hp} {m : Nat} (f : FrP (SH m) h h') : FrP (mcr m) h h' := f.wk (fun q p z => by unfold SH SM at z; unfold mcr; omega)
theorem MS.q {h h' : Hp} {m : Nat} {w : Nat → Int} {b : Nat → Nat} {n : Nat} {K : List Nat} {cnt : Nat} {U : Nat → Nat → Int} {ik : Nat → Bool} {iw : Nat → Nat → Int} (c : MS h m w b n K cnt U ik iw) (f : FrP (SM m) h h') : MS h' m w b n K cnt U ik iw ∧ FrM h h' m ∧ KM h h' m 5 := by
  have no : ∀ q p, ((q = m ∧ (p = 5 ∨ p = 6 ∨ p = 7 ∨ p = 22)) ∨ q = m + 3 ∨ q = m + 4 ∨ q = m + 10) → hpC h' q p = hpC h q p := fun q p hq => f.2.2 q p (by unfold SM; omega)
  refine ⟨c.up (SM_mcr f) ⟨by rw [no _ _ (by omega)]; exact c.2.1.1, c.2.1.2.1, fun i hi => by rw [no _ _ (by omega)]; exact c.2.1.2.2 i hi⟩ ⟨by rw [no _ _ (by omega)]; exact c.2.2.2.1.1, fun i hi => by rw [no _ _ (by omega)]; exact c.2.2.2.1.2 i hi⟩, mcr_M (SM_mcr f), KM.of (fun p hp => no _ _ (by omega)) (fun p => no _ _ (by omega))⟩
theorem CS.q {h h' : Hp} {x : Nat} {w : Nat → Int} {b : Nat → Nat} {n : Nat} {K : List Nat} {A : Nat → Nat} {nx cnt : Nat} {U : Nat → Nat → Int} {ik : Nat → Bool} {iw : Nat → Nat → Int} {S : Nat → Nat → Prop} (c : CS h x w b n K A nx cnt U ik iw) (f : FrP S h h') (hS : ∀ q p, S q p → q = x + 29 ∨ SN (x + 36) q p) : CS h' x w b n K A nx cnt U ik iw ∧ FrC h h' x ∧ KO h h' x 5 := by
  have f' : FrP (scr x) h h' := f.wk (fun q p z => by have := hS q p z; unfold scr SN at *; omega)
  have no : ∀ q p, ((q = x ∨ q = x + 1 ∨ q = x + 2 ∨ q = x + 3) ∨ (x + 30 ≤ q ∧ q ≤ x + 35) ∨ q = x + 69) → hpC h' q p = hpC h q p := fun q p hq => f.2.2 q p (fun z => by have := hS q p z; unfold SN at this; omega)
  obtain ⟨k1, k2, k3⟩ := c.2.2.2.2.1
  have t := c.2.1
  have pl : plAt h' (x + 30) := by
    obtain ⟨p1, p2, p3, p4, p5, p6, p7⟩ := k1
    exact ⟨by rw [f.2.1]; exact p1, by rw [no _ _ (by omega)]; exact p2, by rw [no _ _ (by omega)]; exact p3, by rw [no _ _ (by omega)]; exact p4, by rw [no _ _ (by omega)]; exact p5, by rw [no _ _ (by omega)]; exact p6, by rw [f.2.1]; exact p7⟩
  have nu : numAt h' (x + 36) := by
    obtain ⟨n1, n2, n3, n4, n5, n6, n7, n8⟩ := c.2.2.2.2.2.1
    have nn : ∀ p, p ≠ 1 → hpC h' (x + 36) p = hpC h (x + 36) p := fun p hp => f.2.2 _ p (fun z => by have := hS _ p z; unfold SN at this; omega)
    exact ⟨by rw [f.2.1]; exact n1, by rw [nn _ (by decide)]; exact n2, by rw [nn _ (by decide)]; exact n3, by rw [nn _ (by decide)]; exact n4, by rw [nn _ (by decide)]; exact n5, by rw [nn _ (by decide)]; exact n6, by rw [nn _ (by decide)]; exact n7, by rw [f.2.1]; exact n8⟩
  have tt : TPc h' x b n := ⟨t.1.fr f.2.1 (fun r p hr => no _ _ (by omega)), by rw [no _ _ (by omega)]; exact t.2.1, t.2.2.1, fun i hi => by rw [no _ _ (by omega)]; exact t.2.2.2 i hi⟩
  refine ⟨c.up f' tt (fun z s hs => ?_) (fun z => ?_) pl nu (by unfold heC; rw [no _ _ (by omega)]; exact c.2.2.2.2.2.2.2.2.2.1), scr_C f', KO.of (fun p hp => no _ _ (by omega)) (fun p => no _ _ (by omega))⟩
  · rw [no _ _ (by omega)] at z
    rw [no _ _ (by omega)]; exact k2 z s hs
  · rw [no _ _ (by omega)] at z
    obtain ⟨z1, z2, z3⟩ := k3 z
    refine ⟨by rw [no _ _ (by omega)]; exact z1, by rw [no _ _ (by omega)]; exact z2, ?_⟩
    rw [no _ _ (by omega)]
    intro q hq
    obtain ⟨l, l1, l2⟩ := z3 q hq
    exact ⟨l, l1, fun t ht hb => by rw [no _ _ (by omega)]; exact l2 t ht hb⟩
/-- what the planner writes -/
theorem CS.p {h h' : Hp} {x : Nat} {w : Nat → Int} {b : Nat → Nat} {n : Nat} {K : List Nat} {A : Nat → Nat} {nx cnt : Nat} {U : Nat → Nat → Int} {ik : Nat → Bool} {iw : Nat → Nat → Int} (c : CS h x w b n K A nx cnt U ik iw) (f : FrP (SP (x + 30)) h h') (k1 : hpC h' (x + 30) 2 ≠ 0 → clC h' (x + 30) w) (k2 : hpC h' (x + 30) 3 ≠ 0 → plK h' (x + 30) w) : CS h' x w b n K A nx cnt U ik iw ∧ FrC h h' x ∧ KO h h' x 5 := by
  have f' : FrP (scr x) h h' := f.wk (fun q p z => by unfold scr; exact Or.inr (Or.inr (Or.inr (Or.inl z))))
  have no : ∀ q p, (q ≤ x + 29 ∨ x + 36 ≤ q) → hpC h' q p = hpC h q p := fun q p hq => f.2.2 q p (fun z => by unfold SP at z; omega)
  have t := c.2.1
  have nu : numAt h' (x + 36) := by
    obtain ⟨n1, n2, n3, n4, n5, n6, n7, n8⟩ := c.2.2.2.2.2.1
    exact ⟨by rw [f.2.1]; exact n1, by rw [no _ _ (by omega)]; exact n2, by rw [no _ _ (by omega)]; exact n3, by rw [no _ _ (by omega)]; exact n4, by rw [no _ _ (by omega)]; exact n5, by rw [no _ _ (by omega)]; exact n6, by rw [no _ _ (by omega)]; exact n7, by rw [f.2.1]; exact n8⟩
  have tt : TPc h' x b n := ⟨t.1.fr f.2.1 (fun r p hr => no _ _ (by omega)), by rw [no _ _ (by omega)]; exact t.2.1, t.2.2.1, fun i hi => by rw [no _ _ (by omega)]; exact t.2.2.2 i hi⟩
  exact ⟨c.up f' tt k1 k2 (c.2.2.2.2.1.1.fr f) nu (by unfold heC; rw [no _ _ (by omega)]; exact c.2.2.2.2.2.2.2.2.2.1), scr_C f', KO.of (fun p hp => no _ _ (by omega)) (fun p => no _ _ (by omega))⟩
/-- a refusal -/
theorem CS.rf {h : Hp} {x : Nat} {w : Nat → Int} {b : Nat → Nat} {n : Nat} {K : List Nat} {A : Nat → Nat} {nx cnt : Nat} {U : Nat → Nat → Int} {ik : Nat → Bool} {iw : Nat → Nat → Int} (c : CS h x w b n K A nx cnt U ik iw) (i : Nat) (v : Int) : CS (hpU h (x + 69) i v) x w b n K A nx cnt U ik iw ∧ FrC h (hpU h (x + 69) i v) x := by
  have f' : FrP (scr x) h (hpU h (x + 69) i v) := FrP.up (by unfold scr; omega)
  have no : ∀ q p, q ≠ x + 69 → hpC (hpU h (x + 69) i v) q p = hpC h q p := fun q p hq => hpC_o1 hq
  have t := c.2.1
  obtain ⟨k1, k2, k3⟩ := c.2.2.2.2.1
  have pl : plAt (hpU h (x + 69) i v) (x + 30) := by
    obtain ⟨p1, p2, p3, p4, p5, p6, p7⟩ := k1
    exact ⟨p1, by rw [no _ _ (by omega)]; exact p2, by rw [no _ _ (by omega)]; exact p3, by rw [no _ _ (by omega)]; exact p4, by rw [no _ _ (by omega)]; exact p5, by rw [no _ _ (by omega)]; exact p6, p7⟩
  have nu : numAt (hpU h (x + 69) i v) (x + 36) := by
    obtain ⟨n1, n2, n3, n4, n5, n6, n7, n8⟩ := c.2.2.2.2.2.1
    exact ⟨n1, by rw [no _ _ (by omega)]; exact n2, by rw [no _ _ (by omega)]; exact n3, by rw [no _ _ (by omega)]; exact n4, by rw [no _ _ (by omega)]; exact n5, by rw [no _ _ (by omega)]; exact n6, by rw [no _ _ (by omega)]; exact n7, n8⟩
  have tt : TPc (hpU h (x + 69) i v) x b n := ⟨t.1.fr rfl (fun r p hr => no _ _ (by omega)), by rw [no _ _ (by omega)]; exact t.2.1, t.2.2.1, fun j hj => by rw [no _ _ (by omega)]; exact t.2.2.2 j hj⟩
  refine ⟨c.up f' tt (fun z s hs => ?_) (fun z => ?_) pl nu (by unfold heC; rw [no _ _ (by omega)]; exact c.2.2.2.2.2.2.2.2.2.1), scr_C f'⟩
  · rw [no _ _ (by omega)] at z
    rw [no _ _ (by omega)]; exact k2 z s hs
  · rw [no _ _ (by omega)] at z
    obtain ⟨z1, z2, z3⟩ := k3 z
    refine ⟨by rw [no _ _ (by omega)]; exact z1, by rw [no _ _ (by omega)]; exact z2, ?_⟩
    rw [no _ _ (by omega)]
    intro q hq
    obtain ⟨l, l1, l2⟩ := z3 q hq
    exact ⟨l, l1, fun t ht hb => by rw [no _ _ (by omega)]; exact l2 t ht hb⟩
theorem MS.rf {h : Hp} {m : Nat} {w : Nat → Int} {b : Nat → Nat} {n : Nat} {K : List Nat} {cnt : Nat} {U : Nat → Nat → Int} {ik : Nat → Bool} {iw : Nat → Nat → Int} (c : MS h m w b n K cnt U ik iw) (i : Nat) (v : Int) : MS (hpU h (m + 3) i v) m w b n K cnt U ik iw ∧ FrM h (hpU h (m + 3) i v) m := by
  have f : FrP (mcr m) h (hpU h (m + 3) i v) := FrP.up (Or.inr (Or.inl rfl))
  have no : ∀ q p, q ≠ m + 3 → hpC (hpU h (m + 3) i v) q p = hpC h q p := fun q p hq => hpC_o1 hq
  exact ⟨c.up f ⟨by rw [no _ _ (by omega)]; exact c.2.1.1, c.2.1.2.1, fun j hj => by rw [no _ _ (by omega)]; exact c.2.1.2.2 j hj⟩ ⟨by rw [no _ _ (by omega)]; exact c.2.2.2.1.1, fun j hj => by rw [no _ _ (by omega)]; exact c.2.2.2.1.2 j hj⟩, mcr_M f⟩
