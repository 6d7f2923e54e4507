/-! ===== both sides between calls ===== -/
theorem modelAt.eq {h h' : Hp} {m : Nat} (e : eqC h h' m (m + 19)) (a : modelAt h m) : modelAt h' m := by
  unfold modelAt at *
  simp (disch := omega) only [e.T, e.C]
  exact a
theorem MS.eqC {h : Hp} {m : Nat} {w : Nat → Int} {b : Nat → Nat} {n : Nat} {K : List Nat} {cnt : Nat} {U : Nat → Nat → Int} {ik : Nat → Bool} {iw : Nat → Nat → Int} (c : MS h m w b n K cnt U ik iw) {h' : Hp} (e : eqC h h' m (m + 19)) : MS h' m w b n K cnt U ik iw := by
  obtain ⟨c1, c2, c3, c4, c5, c6, c7, c8⟩ := c
  have C : ∀ q p, m ≤ q → q ≤ m + 19 → hpC h' q p = hpC h q p := fun q p h1 h2 => e.C q p h1 h2
  exact ⟨⟨c1.1.eq e, fun p hp => by rw [C _ _ (by omega) (by omega)]; exact c1.2 p hp⟩, ⟨by rw [C _ _ (by omega) (by omega)]; exact c2.1, c2.2.1, fun i hi => by rw [C _ _ (by omega) (by omega)]; exact c2.2.2 i hi⟩, fun i hi => by rw [C _ _ (by omega) (by omega)]; exact c3 i hi, ⟨by rw [C _ _ (by omega) (by omega)]; exact c4.1, fun i hi => by rw [C _ _ (by omega) (by omega)]; exact c4.2 i hi⟩, by rw [C _ _ (by omega) (by omega)]; exact c5, fun i hi p hp => by rw [C _ _ (by omega) (by omega)]; exact c6 i hi p hp, fun k hk => by rw [C _ _ (by omega) (by omega)]; exact c7 k hk, fun k hk z p hp => by rw [C _ _ (by omega) (by omega)]; exact c8 k hk z p hp⟩
theorem CS.eqM {h : Hp} {x : Nat} {w : Nat → Int} {b : Nat → Nat} {n : Nat} {K : List Nat} {A : Nat → Nat} {nx cnt : Nat} {U : Nat → Nat → Int} {ik : Nat → Bool} {iw : Nat → Nat → Int} (c : CS h x w b n K A nx cnt U ik iw) {h' : Hp} {m : Nat} (hm : m = x + 70) (f : FrM h h' m) : CS h' x w b n K A nx cnt U ik iw := by
  subst hm
  obtain ⟨c1, c2, c3, c4, c5, c6, c7, c8, c9, c10, c11⟩ := c
  have no : ∀ q p, (q < x + 70 ∨ x + 90 ≤ q) → hpC h' q p = hpC h q p := fun q p hq => f.2.2 q p (by omega)
  have e : eqC h h' x (x + 69) := f.eqC (fun q p h1 h2 z => by omega)
  refine ⟨c1.fr f (fun p hp z => by omega), c2.eq (e.sub (by omega) (by omega)), c3.eq (e.sub (by omega) (by omega)), earAt.eq c4 (fun q hq => e q (by omega) (by omega)), c5.eq (e.sub (by omega) (by omega)), c6.eq (e.sub (by omega) (by omega)), c7.eq (e.sub (by omega) (by omega)), c8.fr (e.sub (by omega) (by omega)) ⟨by rw [f.1]; exact Nat.le_refl _, fun q h1 h2 => ⟨by rw [f.2.1], fun p => no q p (by omega)⟩⟩, by rw [f.2.1]; exact c9, by unfold heC; rw [no _ _ (by omega)]; exact c10, by rw [f.1]; exact c11⟩
theorem CS.lk {h : Hp} {x : Nat} {w : Nat → Int} {b : Nat → Nat} {n : Nat} {K : List Nat} {A : Nat → Nat} {nx cnt : Nat} {U : Nat → Nat → Int} {ik : Nat → Bool} {iw : Nat → Nat → Int} (c : CS h x w b n K A nx cnt U ik iw) {h' : Hp} (f : FrP (Slk (x + 30)) h h') (k : hpC h' (x + 30) 2 ≠ 0 → clC h' (x + 30) w) : CS h' x w b n K A nx cnt U ik iw ∧ FrC h h' x ∧ KO h h' x 5 := by
  have no : ∀ q p, ¬ ((q = x + 30 ∧ p = 2) ∨ q = x + 30 + 2) → hpC h' q p = hpC h q p := f.2.2
  refine c.p (Slk_SP f) k (fun z => ?_)
  rw [no _ _ (by omega)] at z
  obtain ⟨z1, z2, z3⟩ := c.2.2.2.2.1.2.2 z
  refine ⟨by rw [no _ _ (by omega)]; exact z1, by rw [no _ _ (by omega)]; exact z2, ?_⟩
  rw [no _ _ (by omega)]
  intro q hq
  obtain ⟨l, l1, l2⟩ := z3 q hq
  exact ⟨l, l1, fun t ht hb => by rw [no _ _ (by omega)]; exact l2 t ht hb⟩
/-- the tape is taken -/
theorem CS.tz {h : Hp} {x : Nat} {w : Nat → Int} {b : Nat → Nat} {n : Nat} {K : List Nat} {A : Nat → Nat} {nx cnt : Nat} {U : Nat → Nat → Int} {ik : Nat → Bool} {iw : Nat → Nat → Int} (c : CS h x w b n K A nx cnt U ik iw) {h' : Hp} (f : FrP (Sfd x) h h') (h1 : hpC h' (x + 1) 1 = 0) : CS h' x w b 0 K A nx cnt U ik iw ∧ FrC h h' x ∧ KO h h' x 5 := by
  have no : ∀ q p, ¬ ((q = x + 1 ∧ p = 1) ∨ q = x + 29) → hpC h' q p = hpC h q p := f.2.2
  have f' : FrP (scr x) h h' := f.wk (fun q p z => by unfold Sfd at z; unfold scr; omega)
  have t := c.2.1
  obtain ⟨k1, k2, k3⟩ := (c.2.2.2.2.1).eq (h' := h') (f.eqC (fun q p h1 h2 => by unfold Sfd; omega))
  exact ⟨c.up f' ⟨t.1.fr f.2.1 (fun r p hr => no _ _ (by omega)), h1, by omega, fun i hi => by omega⟩ k2 k3 k1 (c.2.2.2.2.2.1.eq (f.eqC (fun q p h1 h2 => by unfold Sfd; omega))) (by unfold heC; rw [no _ _ (by omega)]; exact c.2.2.2.2.2.2.2.2.2.1), scr_C f', KO.of (fun p hp => no _ _ (by omega)) (fun p => no _ _ (by omega))⟩
theorem CS.hd {h : Hp} {x : Nat} {w : Nat → Int} {b : Nat → Nat} {n : Nat} {K : List Nat} {A : Nat → Nat} {nx cnt : Nat} {U : Nat → Nat → Int} {ik : Nat → Bool} {iw : Nat → Nat → Int} (c : CS h x w b n K A nx cnt U ik iw) (K' : List Nat) : CS (hpU (hpU h (x + 1) 1 0) x 11 (pkL K' : Int)) x w b 0 K' A nx cnt U ik iw ∧ FrC h (hpU (hpU h (x + 1) 1 0) x 11 (pkL K' : Int)) x ∧ KO h (hpU (hpU h (x + 1) 1 0) x 11 (pkL K' : Int)) x 5 := by
  have f : FrP (fun q p => (q = x + 1 ∧ p = 1) ∨ (q = x ∧ p = 11)) h (hpU (hpU h (x + 1) 1 0) x 11 (pkL K' : Int)) := (FrP.up (Or.inl ⟨rfl, rfl⟩)).tr (FrP.up (Or.inr ⟨rfl, rfl⟩))
  generalize hg : hpU (hpU h (x + 1) 1 0) x 11 (pkL K' : Int) = g at *
  have z1 : hpC g (x + 1) 1 = 0 := by rw [← hg, hpC_o1 (by omega), hpC_same]
  have z11 : hpC g x 11 = (pkL K' : Int) := by rw [← hg, hpC_same]
  have no : ∀ q p, ¬ ((q = x + 1 ∧ p = 1) ∨ (q = x ∧ p = 11)) → hpC g q p = hpC h q p := f.2.2
  have f' : FrP (scr x) h g := f.wk (fun q p z => by unfold scr; omega)
  have t := c.2.1
  obtain ⟨k1, k2, k3⟩ := (c.2.2.2.2.1).eq (h' := g) (f.eqC (fun q p h1 h2 => by omega))
  exact ⟨c.up f' ⟨t.1.fr f.2.1 (fun r p hr => no _ _ (by omega)), z1, by omega, fun i hi => by omega⟩ k2 k3 k1 (c.2.2.2.2.2.1.eq (f.eqC (fun q p h1 h2 => by omega))) z11, scr_C f', KO.of (fun p hp => no _ _ (by omega)) (fun p => no _ _ (by omega))⟩
theorem MS.tz {h : Hp} {m : Nat} {w : Nat → Int} {b : Nat → Nat} {n : Nat} {K : List Nat} {cnt : Nat} {U : Nat → Nat → Int} {ik : Nat → Bool} {iw : Nat → Nat → Int} (c : MS h m w b n K cnt U ik iw) {h' : Hp} (f : FrP (SH m) h h') (h5 : hpC h' m 5 = 0) : MS h' m w b 0 K cnt U ik iw ∧ FrM h h' m ∧ KM h h' m 5 := by
  have no : ∀ q p, ((q = m ∧ (p = 6 ∨ p = 7 ∨ p = 22)) ∨ q = m + 3 ∨ q = m + 10) → hpC h' q p = hpC h q p := fun q p hq => f.2.2 q p (by unfold SH SM; omega)
  exact ⟨c.up (SH_mcr f) ⟨h5, by omega, fun i hi => by omega⟩ ⟨by rw [no _ _ (by omega)]; exact c.2.2.2.1.1, fun i hi => by rw [no _ _ (by omega)]; exact c.2.2.2.1.2 i hi⟩, mcr_M (SH_mcr f), KM.of (fun p hp => no _ _ (by omega)) (fun p => no _ _ (by omega))⟩
theorem MS.hd {h : Hp} {m : Nat} {w : Nat → Int} {b : Nat → Nat} {n : Nat} {K : List Nat} {cnt : Nat} {U : Nat → Nat → Int} {ik : Nat → Bool} {iw : Nat → Nat → Int} (c : MS h m w b n K cnt U ik iw) {h' : Hp} {K' : List Nat} (f : FrP (SHd m) h h') (h5 : hpC h' m 5 = 0) (he : heM h' m K') : MS h' m w b 0 K' cnt U ik iw ∧ FrM h h' m ∧ KM h h' m 5 := by
  have no : ∀ q p, ((q = m ∧ (p = 6 ∨ p = 7)) ∨ q = m + 3) → hpC h' q p = hpC h q p := fun q p hq => f.2.2 q p (by unfold SHd Shr; omega)
  have f' : FrP (mcr m) h h' := f.wk (fun q p z => by unfold SHd Shr at z; unfold mcr; omega)
  exact ⟨c.up f' ⟨h5, by omega, fun i hi => by omega⟩ he, mcr_M f', KM.of (fun p hp => no _ _ (by omega)) (fun p => no _ _ (by omega))⟩
def INV (L : Nat) (h : Hp) : Prop := ∃ w b n K A nx cnt U ik iw, CS h 3 w b n K A nx cnt U ik iw ∧ MS h 73 w b n K cnt U ik iw ∧ V w ∧ heK K ∧ (∀ i, i < 5 → hpC h (3 + 69) i = hpC h (73 + 3) i) ∧ hpC h 3 9 = hpC h 73 6 ∧ hpC h 3 10 = hpC h 73 7 ∧ hpT h 1 = (25, L)
def CqQ (h : Hp) (w : Nat → Int) (b : Nat → Nat) (n : Nat) (K : List Nat) (cnt : Nat) (U : Nat → Nat → Int) (ik : Nat → Bool) (iw : Nat → Nat → Int) (c : Nat) (a : AV) : PR := fun rv h1 => rv = some a ∧ (∃ A nx, CS h1 3 w b n K A nx cnt U ik iw) ∧ FrC h h1 3 ∧ KO h h1 3 c
def MqQ (h : Hp) (w : Nat → Int) (b : Nat → Nat) (n : Nat) (K : List Nat) (cnt : Nat) (U : Nat → Nat → Int) (ik : Nat → Bool) (iw : Nat → Nat → Int) (c : Nat) (a : AV) : PR := fun rv h1 => rv = some a ∧ MS h1 73 w b n K cnt U ik iw ∧ FrM h h1 73 ∧ KM h h1 73 c
theorem CqQ.of {h h1 : Hp} {w : Nat → Int} {b : Nat → Nat} {n : Nat} {K : List Nat} {A : Nat → Nat} {nx cnt : Nat} {U : Nat → Nat → Int} {ik : Nat → Bool} {iw : Nat → Nat → Int} {c : Nat} {a : AV} (t : CS h1 3 w b n K A nx cnt U ik iw ∧ FrC h h1 3 ∧ KO h h1 3 c) : CqQ h w b n K cnt U ik iw c a (some a) h1 := ⟨rfl, ⟨A, nx, t.1⟩, t.2⟩
theorem MqQ.of {h h1 : Hp} {w : Nat → Int} {b : Nat → Nat} {n : Nat} {K : List Nat} {cnt : Nat} {U : Nat → Nat → Int} {ik : Nat → Bool} {iw : Nat → Nat → Int} {c : Nat} {a : AV} (t : MS h1 73 w b n K cnt U ik iw ∧ FrM h h1 73 ∧ KM h h1 73 c) : MqQ h w b n K cnt U ik iw c a (some a) h1 := ⟨rfl, t⟩
theorem FrC.ms {h h1 : Hp} (f : FrC h h1 3) : eqC h h1 73 (73 + 19) := fun q h1 h2 => f.2 q (by omega)
theorem lb_mid {L : Nat} {h h1 : Hp} {w : Nat → Int} {b : Nat → Nat} {n : Nat} {K : List Nat} {cnt : Nat} {U : Nat → Nat → Int} {ik : Nat → Bool} {iw : Nat → Nat → Int} (m : MS h 73 w b n K cnt U ik iw) (t : hpT h 1 = (25, L)) (f : FrC h h1 3) : MS h1 73 w b n K cnt U ik iw ∧ hpT h1 1 = (25, L) ∧ hpC h1 1 = hpC h 1 := ⟨m.eqC f.ms, by rw [(f.2 1 (by omega)).1]; exact t, funext (fun p => (f.2 1 (by omega)).2 p)⟩
theorem lb_inv {L : Nat} {h h1 h2 : Hp} (iv : INV L h) {w : Nat → Int} {b : Nat → Nat} {n : Nat} {K : List Nat} {cnt : Nat} {U : Nat → Nat → Int} {ik : Nat → Bool} {iw : Nat → Nat → Int} (c1 : ∃ A nx, CS h1 3 w b n K A nx cnt U ik iw) (f1 : FrC h h1 3) (m2 : MS h2 73 w b n K cnt U ik iw) (f2 : FrM h1 h2 73) (r : ∀ i, i < 5 → hpC h2 (3 + 69) i = hpC h2 (73 + 3) i) (r9 : hpC h2 3 9 = hpC h2 73 6) (r10 : hpC h2 3 10 = hpC h2 73 7) (hV : V w) (hK : heK K) : INV L h2 := by
  obtain ⟨A, nx, c1⟩ := c1
  obtain ⟨_, _, _, _, _, _, _, _, _, _, _, _, _, _, _, _, _, t1⟩ := iv
  exact ⟨w, b, n, K, A, nx, cnt, U, ik, iw, c1.eqM rfl f2, m2, hV, hK, r, r9, r10, by rw [f2.2.1, (f1.2 1 (by omega)).1]; exact t1⟩
theorem lb_fin {L : Nat} {h h1 h2 : Hp} (iv : INV L h) {w : Nat → Int} {b : Nat → Nat} {n : Nat} {K : List Nat} {cnt : Nat} {U : Nat → Nat → Int} {ik : Nat → Bool} {iw : Nat → Nat → Int} {c : Nat} {a : AV} {v1 v2 : AV} (q1 : CqQ h w b n K cnt U ik iw c a (some v1) h1) (q2 : MqQ h1 w b n K cnt U ik iw c a (some v2) h2) (hV : V w) (hK : heK K) : v1 = v2 ∧ INV L h2 := by
  obtain ⟨e1, c1, f1, k1⟩ := q1
  obtain ⟨e2, m2, f2, k2⟩ := q2
  obtain ⟨_, _, _, _, _, _, _, _, _, _, _, _, _, _, r, r9, r10, _⟩ := id iv
  have n1 : ∀ q p, 73 ≤ q → q ≤ 92 → hpC h1 q p = hpC h q p := fun q p h1 h2 => (f1.2 q (by omega)).2 p
  have n2 : ∀ q p, q < 73 → hpC h2 q p = hpC h1 q p := fun q p hq => f2.2.2 q p (by omega)
  refine ⟨by cases e1; cases e2; rfl, lb_inv iv c1 f1 m2 f2 (fun i hi => ?_) ?_ ?_ hV hK⟩
  · rw [n2 _ _ (by omega), k1.2.2 i hi, k2.2.2 i hi, n1 _ _ (by omega) (by omega), r i hi]
  · rw [n2 _ _ (by omega), k1.1, k2.1, n1 _ _ (by omega) (by omega)]; exact r9
  · rw [n2 _ _ (by omega), k1.2.1, k2.2.1, n1 _ _ (by omega) (by omega)]; exact r10
theorem xI_v {a b : Int} (h : xI a = xI b) : a = b := by cases h; rfl
theorem xL_v {a b : Int} (h : xL a = xL b) : a = b := by cases h; rfl
