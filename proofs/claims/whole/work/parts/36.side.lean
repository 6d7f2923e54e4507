/-! ===== the houses of a side by yards: pure ===== -/
theorem sumN_le {f g : Nat → Int} : ∀ n : Nat, (∀ i, i < n → f i ≤ g i) → sumN f n ≤ sumN g n
  | 0, _ => Int.le_refl _
  | n + 1, h => by
    simp only [sumN]
    have := sumN_le n (fun i hi => h i (by omega))
    have := h n (by omega)
    omega
theorem sumN_lt {f g : Nat → Int} {k : Nat} : ∀ n : Nat, (∀ i, i < n → f i ≤ g i) → k < n → f k < g k → sumN f n < sumN g n
  | 0, _, hk, _ => by omega
  | n + 1, h, hk, hs => by
    simp only [sumN]
    have h1 := h n (by omega)
    by_cases e : k = n
    · subst e
      have := sumN_le k (fun i hi => h i (by omega))
      omega
    · have := sumN_lt n (fun i hi => h i (by omega)) (by omega) hs
      omega
theorem sumN_add (f g : Nat → Int) : ∀ n : Nat, sumN (fun i => f i + g i) n = sumN f n + sumN g n
  | 0 => rfl
  | n + 1 => by simp only [sumN]; rw [sumN_add f g n]; omega
theorem sumN_zero {f : Nat → Int} : ∀ n : Nat, (∀ i, i < n → f i = 0) → sumN f n = 0
  | 0, _ => rfl
  | n + 1, h => by simp only [sumN]; rw [sumN_zero n (fun i hi => h i (by omega)), h n (by omega)]; rfl
/-- the houses of a street: g 0 sides, g 1 yards, g 2 numbers -/
def GV (g : Nat → Nat → Int) (n : Nat) : Prop := n ≤ 12 ∧ (∀ i, i < n → (0 ≤ g 0 i ∧ g 0 i ≤ 1) ∧ (0 ≤ g 1 i ∧ g 1 i ≤ 9999) ∧ (1 ≤ g 2 i ∧ g 2 i ≤ 999)) ∧ ∀ i j, i < n → j < n → g 0 i = g 0 j → g 1 i = g 1 j → i = j
def rkG (g : Nat → Nat → Int) (n : Nat) (side y : Int) : Int := sumN (fun i => if g 0 i = side ∧ g 1 i < y then 1 else 0) n
def szG (g : Nat → Nat → Int) (n : Nat) (side : Int) : Int := sumN (fun i => if g 0 i = side then 1 else 0) n
def orG (g : Nat → Nat → Int) (n : Nat) (side : Int) (r : Nat) : Nat := (fst1 (fun i => decide (g 0 i = side ∧ rkG g n side (g 1 i) = (r : Int))) n 0).toNat
theorem rkG_bd (g : Nat → Nat → Int) (n : Nat) (side y : Int) : 0 ≤ rkG g n side y ∧ rkG g n side y ≤ n := by
  have := sumN_bd (f := fun i => if g 0 i = side ∧ g 1 i < y then 1 else 0) (c := 1) (fun i => by split <;> omega) n
  unfold rkG; omega
theorem szG_bd (g : Nat → Nat → Int) (n : Nat) (side : Int) : 0 ≤ szG g n side ∧ szG g n side ≤ n := by
  have := sumN_bd (f := fun i => if g 0 i = side then 1 else 0) (c := 1) (fun i => by split <;> omega) n
  unfold szG; omega
theorem rkG_lt (g : Nat → Nat → Int) {n : Nat} {side y : Int} {i : Nat} (hi : i < n) (hs : g 0 i = side) (hy : g 1 i < y) : rkG g n side (g 1 i) < rkG g n side y := by
  unfold rkG
  apply sumN_lt (k := i) n _ hi
  · rw [if_neg (by omega), if_pos ⟨hs, hy⟩]; omega
  · intro j hj
    by_cases c : g 0 j = side ∧ g 1 j < g 1 i
    · rw [if_pos c, if_pos ⟨c.1, by omega⟩]; omega
    · rw [if_neg c]; split <;> omega
theorem rkG_full {g : Nat → Nat → Int} {n : Nat} (hG : GV g n) (side : Int) : rkG g n side 10000 = szG g n side := by
  apply sumN_ext
  intro i hi
  have := hG.2.1 i hi
  by_cases c : g 0 i = side
  · rw [if_pos c, if_pos ⟨c, by omega⟩]
  · rw [if_neg c, if_neg (fun z => c z.1)]
theorem rkG_sz {g : Nat → Nat → Int} {n : Nat} (hG : GV g n) {side : Int} {i : Nat} (hi : i < n) (hs : g 0 i = side) : rkG g n side (g 1 i) < szG g n side := by
  rw [← rkG_full hG]
  exact rkG_lt g hi hs (by have := hG.2.1 i hi; omega)
theorem rkG_inj {g : Nat → Nat → Int} {n : Nat} (hG : GV g n) {side : Int} {i j : Nat} (hi : i < n) (hj : j < n) (si : g 0 i = side) (sj : g 0 j = side) (e : rkG g n side (g 1 i) = rkG g n side (g 1 j)) : i = j := by
  rcases Int.lt_trichotomy (g 1 i) (g 1 j) with c | c | c
  · have := rkG_lt g hi si c; omega
  · exact hG.2.2 i j hi hj (by omega) c
  · have := rkG_lt g hj sj c; omega
theorem one_of {p : Nat → Prop} [DecidablePred p] : ∀ n : Nat, (∀ i j, i < n → j < n → p i → p j → i = j) → sumN (fun i => if p i then 1 else 0) n = 0 ∨ (sumN (fun i => if p i then 1 else 0) n = 1 ∧ ∃ i, i < n ∧ p i)
  | 0, _ => Or.inl rfl
  | n + 1, h => by
    simp only [sumN]
    by_cases c : p n
    · rw [if_pos c, sumN_zero n (fun i hi => if_neg (fun z => by have := h i n (by omega) (by omega) z c; omega))]
      exact Or.inr ⟨rfl, n, by omega, c⟩
    · rw [if_neg c]
      rcases one_of n (fun i j hi hj => h i j (by omega) (by omega)) with e | ⟨e, i, hi, z⟩
      · exact Or.inl (by omega)
      · exact Or.inr ⟨by omega, i, by omega, z⟩
theorem rkG_step {g : Nat → Nat → Int} {n : Nat} (hG : GV g n) (side y : Int) : rkG g n side (y + 1) = rkG g n side y ∨ (rkG g n side (y + 1) = rkG g n side y + 1 ∧ ∃ i, i < n ∧ g 0 i = side ∧ g 1 i = y) := by
  have e : rkG g n side (y + 1) = rkG g n side y + sumN (fun i => if g 0 i = side ∧ g 1 i = y then 1 else 0) n := by
    unfold rkG
    rw [← sumN_add]
    apply sumN_ext
    intro i _
    by_cases c0 : g 0 i = side
    · rcases Int.lt_trichotomy (g 1 i) y with c | c | c
      · rw [if_pos ⟨c0, by omega⟩, if_pos ⟨c0, c⟩, if_neg (by omega)]; rfl
      · rw [if_pos ⟨c0, by omega⟩, if_neg (by omega), if_pos ⟨c0, c⟩]; rfl
      · rw [if_neg (by omega), if_neg (by omega), if_neg (by omega)]; rfl
    · rw [if_neg (fun z => c0 z.1), if_neg (fun z => c0 z.1), if_neg (fun z => c0 z.1)]; rfl
  rcases one_of (p := fun i => g 0 i = side ∧ g 1 i = y) n (fun i j hi hj a b => hG.2.2 i j hi hj (by omega) (by omega)) with c | ⟨c, i, hi, z⟩
  · left; omega
  · right; exact ⟨by omega, i, hi, z⟩
theorem rkG_onto {g : Nat → Nat → Int} {n : Nat} (hG : GV g n) {side : Int} {r : Nat} (hr : (r : Int) < szG g n side) : ∃ i, i < n ∧ g 0 i = side ∧ rkG g n side (g 1 i) = (r : Int) := by
  have key : ∀ Y : Nat, (r : Int) < rkG g n side (Y : Int) → ∃ i, i < n ∧ g 0 i = side ∧ rkG g n side (g 1 i) = (r : Int) := by
    intro Y
    induction Y with
    | zero =>
      intro h
      have : rkG g n side ((0 : Nat) : Int) = 0 := by
        apply sumN_zero; intro i hi
        have := hG.2.1 i hi
        exact if_neg (by omega)
      omega
    | succ Y ih =>
      intro h
      rw [show ((Y + 1 : Nat) : Int) = (Y : Int) + 1 by omega] at h
      rcases rkG_step hG side (Y : Int) with e | ⟨e, i, hi, s, y⟩
      · exact ih (by omega)
      · by_cases c : (r : Int) < rkG g n side (Y : Int)
        · exact ih c
        · exact ⟨i, hi, s, by rw [y]; omega⟩
  apply key 10000
  have := rkG_full hG side
  rw [show ((10000 : Nat) : Int) = 10000 from rfl, this]; exact hr
theorem orG_spec {g : Nat → Nat → Int} {n : Nat} (hG : GV g n) {side : Int} {r : Nat} (hr : (r : Int) < szG g n side) : orG g n side r < n ∧ g 0 (orG g n side r) = side ∧ rkG g n side (g 1 (orG g n side r)) = (r : Int) := by
  obtain ⟨i, h1, h2, h3⟩ := rkG_onto hG hr
  unfold orG
  rcases fst1_cases (fun i => decide (g 0 i = side ∧ rkG g n side (g 1 i) = (r : Int))) n 0 with ⟨e, q⟩ | ⟨j, g1, g2, g3, g4, _⟩
  · have := q i (by omega) (by omega)
    simp only [h2, h3, true_and, decide_true] at this
    exact absurd this (by decide)
  · rw [g4, Int.toNat_natCast]
    have := of_decide_eq_true g3
    exact ⟨by omega, this.1, this.2⟩
theorem orG_rk {g : Nat → Nat → Int} {n : Nat} (hG : GV g n) {side : Int} {i : Nat} (hi : i < n) (hs : g 0 i = side) : orG g n side (rkG g n side (g 1 i)).toNat = i := by
  have b := rkG_bd g n side (g 1 i)
  have e : (((rkG g n side (g 1 i)).toNat : Nat) : Int) = rkG g n side (g 1 i) := by omega
  have z := orG_spec hG (side := side) (r := (rkG g n side (g 1 i)).toNat) (by rw [e]; exact rkG_sz hG hi hs)
  exact rkG_inj hG z.1 hi z.2.1 hs (by rw [z.2.2, e])
