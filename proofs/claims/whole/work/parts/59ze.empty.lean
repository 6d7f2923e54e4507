/-! ===== the draft is emptied ===== -/
def Sdr (m : Nat) : Nat → Nat → Prop := fun q p => q = m + 1 ∧ 1010 ≤ p ∧ p < 2020
theorem Sdr_mr {h h' : Hp} {m : Nat} (f : FrP (Sdr m) h h') : FrP (Smr m) h h' := f.wk (fun q p z => Or.inr z)
theorem sp_empties {h : Hp} {m : Nat} (a : modelAt h m) {d mc ms : Nat} {R : PR} {o2 : Option AV} (H : ∀ h', FrP (Sdr m) h h' → DR h' m wE → R none h') : Wp m_M_empties 0 [some (xR m), some (xI (1010 : Int)), o2] [] h d mc ms R := by
  have up : ∀ {g g' : Hp} {p : Nat} {v : Int}, 1010 ≤ p → p < 2020 → g' = hpU g (m + 1) p v → FrP (Sdr m) g g' := fun h1 h2 e => by subst e; exact FrP.up ⟨rfl, h1, h2⟩
  have M : ∀ {g : Hp}, FrP (Sdr m) h g → modelAt g m := fun f => a.fo (Sdr_mr f) (Smr_off m)
  have B : ∀ (j i : Nat) (g : Hp), i + j = 26 → FrP (Sdr m) h g → (∀ p, p < 1010 → hpC g (m + 1) (1010 + p) = if 10 + i ≤ p ∧ p < 36 then 0 else wE p) → Wp m_M_empties 55 [some (xR m), some (xI (1010 : Int)), some (xI (i : Int))] [] g d mc ms R := by
    intro j
    induction j with
    | zero =>
      intro i g hi f r
      apply f_M_empties_55
      rw [if_neg (by omega)]
      exact H g f (fun p hp => by rw [r p hp, if_neg (by omega)])
    | succ j ih =>
      intro i g hi f r
      have ag := M f
      apply f_M_empties_55
      rw [if_pos (by omega), show ai_add (1010 : Int) 10 = ((1020 : Nat) : Int) from by decide, ai_add_nn (a := 1020) (by omega), ab_1 (by omega), Int.toNat_natCast, ag.row_n, ag.row_t]
      refine ⟨ag.tag, ⟨rfl, by omega, by show ((1020 + i : Nat) : Int) < 24240; omega⟩, fun g1 e1 => ?_⟩
      refine ih (i + 1) g1 (by omega) (f.tr (up (by omega) (by omega) e1)) (fun p hp => ?_)
      subst e1
      by_cases q : p = 10 + i
      · rw [q, show 1010 + (10 + i) = 1020 + i by omega, hpC_same, if_neg (by omega)]
        unfold wE
        rw [if_neg (by omega), if_neg (by omega), if_pos (by omega)]; omega
      · rw [hpC_o2 (by omega), r p hp]
        by_cases y : 10 + i ≤ p ∧ p < 36
        · rw [if_pos y, if_pos (by omega)]
        · rw [if_neg y, if_neg (by omega)]
  have L : ∀ (j i : Nat) (g : Hp), i + j = 1010 → FrP (Sdr m) h g → (∀ p, p < i → hpC g (m + 1) (1010 + p) = 0) → Wp m_M_empties 2 [some (xR m), some (xI (1010 : Int)), some (xI (i : Int))] [] g d mc ms R := by
    intro j
    induction j with
    | zero =>
      intro i g hi f r
      have ag := M f
      apply f_M_empties_2
      rw [if_neg (by omega), show ai_add (1010 : Int) 0 = 1010 from by decide, show ai_add (1010 : Int) 1 = 1011 from by decide, show ai_add (1010 : Int) 2 = 1012 from by decide, ag.row_n, ag.row_t]
      refine ⟨ag.tag, ⟨rfl, by decide, by decide⟩, fun g1 e1 => ?_⟩
      have f1 := f.tr (up (by decide) (by decide) e1)
      have a1 := M f1
      rw [a1.row_n, a1.row_t]
      refine ⟨a1.tag, ⟨rfl, by decide, by decide⟩, fun g2 e2 => ?_⟩
      have f2 := f1.tr (up (by decide) (by decide) e2)
      have a2 := M f2
      rw [a2.row_n, a2.row_t]
      refine ⟨a2.tag, ⟨rfl, by decide, by decide⟩, fun g3 e3 => ?_⟩
      have f3 := f2.tr (up (by decide) (by decide) e3)
      refine B 26 0 g3 (by omega) f3 (fun p hp => ?_)
      subst e3; subst e2; subst e1
      by_cases q2 : p = 2
      · subst q2; rw [show 1010 + 2 = Int.toNat (1012 : Int) from rfl, hpC_same]; rfl
      rw [hpC_o2 (show 1010 + p ≠ Int.toNat (1012 : Int) by show 1010 + p ≠ 1012; omega)]
      by_cases q1 : p = 1
      · subst q1; rw [show 1010 + 1 = Int.toNat (1011 : Int) from rfl, hpC_same]; rfl
      rw [hpC_o2 (show 1010 + p ≠ Int.toNat (1011 : Int) by show 1010 + p ≠ 1011; omega)]
      by_cases q0 : p = 0
      · subst q0; rw [show 1010 + 0 = Int.toNat (1010 : Int) from rfl, hpC_same]; rfl
      rw [hpC_o2 (show 1010 + p ≠ Int.toNat (1010 : Int) by show 1010 + p ≠ 1010; omega), r p (by omega)]
      by_cases y : 10 + 0 ≤ p ∧ p < 36
      · rw [if_pos y]
      · rw [if_neg y]; unfold wE; rw [if_neg q0, if_neg (by omega), if_neg (by omega)]
    | succ j ih =>
      intro i g hi f r
      have ag := M f
      apply f_M_empties_2
      rw [if_pos (by omega), aa_1010 (by omega), ab_1 (by omega), Int.toNat_natCast, ag.row_n, ag.row_t]
      refine ⟨ag.tag, ⟨rfl, by omega, by show ((1010 + i : Nat) : Int) < 24240; omega⟩, fun g1 e1 => ?_⟩
      refine ih (i + 1) g1 (by omega) (f.tr (up (by omega) (by omega) e1)) (fun p hp => ?_)
      subst e1
      by_cases q : p = i
      · rw [q, hpC_same]
      · rw [hpC_o2 (by omega)]; exact r p (by omega)
  apply f_M_empties_0
  exact L 1010 0 h (by omega) FrP.rf (fun p hp => by omega)
