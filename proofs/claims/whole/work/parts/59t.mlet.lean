/-! ===== the reference: sets of letters, once, names put ===== -/
def lbF (b : Nat → Nat) (s : Nat) : Nat → Nat
  | 0 => 0
  | k + 1 => lbF b s k ||| 2 ^ (b (s + k) - 97)
def lbD (b : Nat → Nat) (s : Nat) : Nat → Bool
  | 0 => true
  | k + 1 => lbD b s k && !(lbF b s k).testBit (b (s + k) - 97)
theorem lbF_bd {b : Nat → Nat} {s : Nat} : ∀ k, (∀ i, i < k → 97 ≤ b (s + i) ∧ b (s + i) ≤ 122) → lbF b s k < 2 ^ 26
  | 0, _ => by simp [lbF]
  | k + 1, h => by
    have := lbF_bd k (fun i hi => h i (by omega))
    have := h k (by omega)
    simp only [lbF]
    exact Nat.or_lt_two_pow (by assumption) (Nat.pow_lt_pow_right (by decide) (by omega))
theorem and_pow {x j : Nat} : x &&& 2 ^ j = 0 ↔ x.testBit j = false := by
  constructor
  · intro h
    have := congrArg (fun y => y.testBit j) h
    simp only [Nat.testBit_and, Nat.testBit_two_pow_self, Bool.and_true, Nat.zero_testBit] at this
    exact this
  · intro h
    apply Nat.eq_of_testBit_eq
    intro i
    rw [Nat.testBit_and, Nat.zero_testBit, Nat.testBit_two_pow]
    by_cases e : j = i
    · subst e; rw [h]; rfl
    · simp [e]
abbrev leS (b : Nat → Nat) (n e lo hi : Nat) : Prop := kS b n e = 1 ∧ lo ≤ tE b n e - tS b n e ∧ tE b n e - tS b n e ≤ hi
def lbS (b : Nat → Nat) (n e : Nat) : Nat := lbF b (tS b n e) (tE b n e - tS b n e)
def ldS (b : Nat → Nat) (n e : Nat) : Bool := lbD b (tS b n e) (tE b n e - tS b n e)
theorem lbS_bd {b : Nat → Nat} {n e : Nat} (h : kS b n e = 1) : lbS b n e < 67108864 := lbF_bd _ (fun i hi => (tL_al (kS_1.1 h).1 i hi).2)
theorem sp_mletN {h : Hp} {m : Nat} {b : Nat → Nat} {n : Nat} (c : MB h m b n) {f : Int} (e : hpC h m 11 = f) (hf : f ≠ 0) {lo hi dup : Int} {d mc ms : Nat} {R : PR} (hd : 2 ≤ d) {o4 o5 o6 : Option AV} (H : R (some (xI 0)) h) : Wp m_M_letters 0 [some (xR m), some (xI lo), some (xI hi), some (xI dup), o4, o5, o6] [] h d mc ms R := by
  apply f_M_letters_0
  refine ⟨⟨by omega, c.tag⟩, sp_passesN c e hf (by omega) (fun _ => ?_)⟩
  refine ⟨⟨by omega, c.tag⟩, sp_goesWell c e (fun v ee => ?_)⟩
  have ev := xI_inj ee
  rw [if_neg hf] at ev
  rw [if_pos ev]; exact H
theorem sp_mlet48N {h : Hp} {m : Nat} {b : Nat → Nat} {n : Nat} (c : MB h m b n) {f : Int} (e : hpC h m 11 = f) (hf : f ≠ 0) {dup v i : Int} {d mc ms : Nat} {R : PR} (hd : 1 ≤ d) {o1 o2 o6 : Option AV} (H : R (some (xI v)) h) : Wp m_M_letters 48 [some (xR m), o1, o2, some (xI dup), some (xI v), some (xI i), o6] [] h d mc ms R := by
  apply f_M_letters_48
  refine ⟨c.tag, ?_⟩
  by_cases z : i < hpC h m 9
  · rw [if_pos z]
    refine ⟨⟨by omega, c.tag⟩, sp_goesWell c e (fun v ee => ?_)⟩
    have ev := xI_inj ee
    rw [if_neg hf] at ev
    rw [if_pos ev]; exact H
  · rw [if_neg z]; exact H
theorem sp_mlet {h : Hp} {m : Nat} {b : Nat → Nat} {n : Nat} (c : MB h m b n) (e11 : hpC h m 11 = 0) {e : Nat} (e9 : hpC h m 9 = (e : Int)) (he : e ≤ n) {lo hi : Nat} {dup : Int} {d mc ms : Nat} {R : PR} (hd : 3 ≤ d) {o4 o5 o6 : Option AV} (H1 : leS b n e lo hi → (dup ≠ 0 ∨ ldS b n e = true) → ∀ h', FrP (F910 m) h h' → hpC h' m 9 = (tE b n e : Int) → hpC h' m 10 = (tS b n e : Int) → R (some (xI (lbS b n e : Int))) h') (H3 : leS b n e lo hi → ¬ (dup ≠ 0 ∨ ldS b n e = true) → ∀ h' v, FrP (Smr m) h h' → hpC h' m 11 = 3 → hpC h' m 12 = (tS b n e : Int) → R (some (xI v)) h') (H0 : ¬ leS b n e lo hi → ∀ h', FrP (Smr m) h h' → hpC h' m 11 = 1 → hpC h' m 12 = (tS b n e : Int) → R (some (xI 0)) h') : Wp m_M_letters 0 [some (xR m), some (xI (lo : Int)), some (xI (hi : Int)), some (xI dup), o4, o5, o6] [] h d mc ms R := by
  have hn := c.2.1.2.1
  have E0 := tE_spec b n e he
  apply f_M_letters_0
  refine ⟨⟨by omega, c.tag⟩, sp_passes c e11 e9 he (by omega) (fun k1 g f q9 q10 _ => ?_) (fun k1 g f q11 q12 _ => ?_)⟩
  · have cg := c.fr (F910_mr f)
    have g11 : hpC g m 11 = 0 := by rw [FrP.c910 f (by omega)]; exact e11
    have al := tL_al (kS_1.1 k1).1
    refine ⟨⟨by omega, cg.tag⟩, sp_goesWell cg g11 (fun v ee => ?_)⟩
    have ev := xI_inj ee
    clear ee
    rw [if_pos rfl] at ev
    rw [if_neg (by omega), q9, q10, ai_sub_eq (by omega) (by omega)]
    refine ⟨cg.tag, cg.tag, by omega, sp_isIn (fun v ee => ?_)⟩
    have ev := xI_inj ee
    clear ee
    by_cases z : (lo : Int) ≤ (tE b n e : Int) - (tS b n e : Int) ∧ (tE b n e : Int) - (tS b n e : Int) ≤ (hi : Int)
    · rw [if_pos z] at ev
      rw [if_neg (by omega), q10]
      have lS : leS b n e lo hi := ⟨k1, by omega, by omega⟩
      refine ⟨cg.tag, ?_⟩
      have L : ∀ (j k : Nat) (o1 o2 o6 : Option AV), k + j = tE b n e - tS b n e → (dup ≠ 0 ∨ lbD b (tS b n e) k = true) → Wp m_M_letters 48 [some (xR m), o1, o2, some (xI dup), some (xI (lbF b (tS b n e) k : Int)), some (xI ((tS b n e + k : Nat) : Int)), o6] [] g d mc ms R := by
        intro j
        induction j with
        | zero =>
          intro k o1 o2 o6 hk ok
          apply f_M_letters_48
          rw [q9, if_neg (by omega)]
          have := H1 lS (by unfold ldS; rw [show tE b n e - tS b n e = k by omega]; exact ok) g f q9 q10
          unfold lbS at this
          rw [show tE b n e - tS b n e = k by omega] at this
          exact ⟨cg.tag, this⟩
        | succ j ih =>
          intro k o1 o2 o6 hk ok
          obtain ⟨l1, l2, l3⟩ := al k (by omega)
          have lb := lbF_bd (b := b) (s := tS b n e) k (fun i hi => (al i (by omega)).2)
          have pb : 2 ^ (b (tS b n e + k) - 97) < 2 ^ 26 := Nat.pow_lt_pow_right (by decide) (by omega)
          apply f_M_letters_48
          rw [q9, if_pos (by omega)]
          refine ⟨cg.tag, ⟨by omega, cg.tag⟩, sp_goesWell cg g11 (fun v ee => ?_)⟩
          have ev := xI_inj ee
          clear ee
          rw [if_pos rfl] at ev
          rw [if_neg (by omega), cg.1.tape_n, cg.1.tape_t, Int.toNat_natCast, (cg.2.1.2.2 _ l1).1, ai_sub_eq (by omega) (by omega), show (b (tS b n e + k) : Int) - 97 = ((b (tS b n e + k) - 97 : Nat) : Int) by omega, ai_shl_one _ (by omega), ai_and_nat (by omega) (by omega), ai_or_nat (by omega) (by omega), ab_1 (by omega)]
          refine ⟨cg.tag, ⟨rfl, by omega, by show ((tS b n e + k : Nat) : Int) < 2000; omega⟩, ?_⟩
          by_cases y : lbF b (tS b n e) k &&& 2 ^ (b (tS b n e + k) - 97) = 0
          · rw [if_pos (by omega)]
            refine ih (k + 1) _ _ _ (by omega) ?_
            rcases ok with q | q
            · exact Or.inl q
            · exact Or.inr (by simp only [lbD]; rw [q, and_pow.1 y]; rfl)
          · rw [if_neg (by omega)]
            by_cases d0 : dup = 0
            · rw [if_pos d0]
              refine ⟨cg.tag, ⟨by omega, cg.tag⟩, sp_faultsG cg g11 (fun g2 f2 a1 a2 _ _ => ?_)⟩
              refine sp_mlet48N (cg.fr f2) a1 (by decide) (by omega) (H3 lS (fun q => ?_) g2 _ ((F910_mr f).tr f2) a1 (by rw [a2]; exact q10))
              rcases q with q | q
              · exact q d0
              · have mono : ∀ (j k : Nat), lbD b (tS b n e) (k + j) = true → lbD b (tS b n e) k = true := by
                  intro j
                  induction j with
                  | zero => intro k q; exact q
                  | succ j ih => intro k q; rw [← Nat.add_assoc] at q; simp only [lbD, Bool.and_eq_true] at q; exact ih k q.1
                have q2 := mono j (k + 1) (by rw [show k + 1 + j = tE b n e - tS b n e by omega]; exact q)
                simp only [lbD, Bool.and_eq_true, Bool.not_eq_true'] at q2
                exact y (and_pow.2 q2.2)
            · rw [if_neg d0]
              exact ih (k + 1) _ _ _ (by omega) (Or.inl d0)
      exact L (tE b n e - tS b n e) 0 _ _ _ (by omega) (Or.inr rfl)
    · rw [if_neg z] at ev
      rw [if_pos ev]
      refine ⟨cg.tag, ⟨by omega, cg.tag⟩, sp_faultsG cg g11 (fun g2 f2 a1 a2 _ _ => ?_)⟩
      have cg2 := cg.fr f2
      exact ⟨cg2.tag, sp_mlet48N cg2 a1 (by decide) (by omega) (H0 (fun y => z (by have := y.2; omega)) g2 ((F910_mr f).tr f2) a1 (by rw [a2]; exact q10))⟩
  · have cg := c.fr f
    refine ⟨⟨by omega, cg.tag⟩, sp_goesWell cg q11 (fun v ee => ?_)⟩
    have ev := xI_inj ee
    rw [if_neg (by decide)] at ev
    rw [if_pos ev]; exact H0 (fun y => k1 y.1) g f q11 q12
/-! once -/
theorem sp_monce {h : Hp} {m : Nat} {b : Nat → Nat} {n : Nat} (c : MB h m b n) (e11 : hpC h m 11 = 0) {T i : Nat} (e14 : hpC h m 14 = (T : Int)) (hT : T < 65536) (hi : i < 16) {d mc ms : Nat} {R : PR} (hd : 1 ≤ d) (H1 : T.testBit i ≠ true → ∀ h', FrP (fun q p => q = m ∧ p = 14) h h' → hpC h' m 14 = ((T ||| 2 ^ i : Nat) : Int) → R none h') (H0 : T.testBit i = true → ∀ h', FrP (Smr m) h h' → hpC h' m 11 = 1 → hpC h' m 12 = hpC h m 10 → R none h') : Wp m_M_once 0 [some (xR m), some (xI (i : Int))] [] h d mc ms R := by
  have pb : 2 ^ i < 2 ^ 16 := Nat.pow_lt_pow_right (by decide) hi
  apply f_M_once_0
  rw [e14, ai_bit (by omega) (by omega)]
  refine ⟨c.tag, ?_⟩
  by_cases z : T.testBit i = true
  · rw [if_pos z, if_pos rfl]
    refine ⟨c.tag, ⟨by omega, c.tag⟩, sp_faultsG c e11 (fun g2 f2 a1 a2 a3 _ => ?_)⟩
    have cg := c.fr f2
    refine ⟨cg.tag, cg.tag, fun g3 e3 => H0 z g3 (f2.tr (Smr_up (by omega) e3)) (by subst e3; rw [hpC_o2 (by decide)]; exact a1) (by subst e3; rw [hpC_o2 (by decide)]; exact a2)⟩
  · rw [if_neg z, if_neg (by decide), ai_shl_one _ (by omega), ai_or_nat (by omega) (by omega)]
    exact ⟨c.tag, c.tag, fun g e => H1 z g (by subst e; exact FrP.up ⟨rfl, rfl⟩) (by subst e; rw [hpC_same])⟩
/-! a name of the tape is put into the draft -/
def ptW (D : Nat → Int) (o : Nat) (v : Nat → Int) : Nat → Int := fun p => if o ≤ p ∧ p < o + 10 then v (p - o) else D p
theorem sp_mputs {h : Hp} {m : Nat} {b : Nat → Nat} {n : Nat} (c : MB h m b n) {e : Nat} (he : e ≤ n) (hN : nmS b n e) (e9 : hpC h m 9 = (tE b n e : Int)) (e10 : hpC h m 10 = (tS b n e : Int)) {D : Nat → Int} (hD : DR h m D) {o : Nat} (ho : o + 10 ≤ 1010) {d mc ms : Nat} {R : PR} {o2 : Option AV} (H : ∀ h', FrP (fun q p => q = m + 1 ∧ 1010 ≤ p ∧ p < 2020) h h' → DR h' m (ptW D o (tV b n e)) → R none h') : Wp m_M_puts 0 [some (xR m), some (xI ((1010 + o : Nat) : Int)), o2] [] h d mc ms R := by
  have hn := c.2.1.2.1
  have E0 := tE_spec b n e he
  have al := tL_al (kS_1.1 hN.1).1
  have L : ∀ (j i : Nat) (g : Hp), i + j = 10 → FrP (fun q p => q = m + 1 ∧ 1010 ≤ p ∧ p < 2020) h g → (∀ p, p < 1010 → hpC g (m + 1) (1010 + p) = if o ≤ p ∧ p < o + i then tV b n e (p - o) else D p) → Wp m_M_puts 2 [some (xR m), some (xI ((1010 + o : Nat) : Int)), some (xI (i : Int))] [] g d mc ms R := by
    intro j
    induction j with
    | zero =>
      intro i g hi f r
      apply f_M_puts_2
      rw [if_neg (by omega)]
      obtain rfl : i = 10 := by omega
      exact H g f r
    | succ j ih =>
      intro i g hi f r
      have cg := c.fr (f.wk (fun q p z => Or.inr z))
      have g9 : hpC g m 9 = (tE b n e : Int) := by rw [f.2.2 _ _ (by omega)]; exact e9
      have g10 : hpC g m 10 = (tS b n e : Int) := by rw [f.2.2 _ _ (by omega)]; exact e10
      have nx : ∀ (g1 : Hp) (v : Int), g1 = hpU g (m + 1) (1010 + o + i) v → v = tV b n e i → Wp m_M_puts 2 [some (xR m), some (xI ((1010 + o : Nat) : Int)), some (xI ((i + 1 : Nat) : Int))] [] g1 d mc ms R := fun g1 v e1 ev => by
        refine ih (i + 1) g1 (by omega) (f.tr (by subst e1; exact FrP.up ⟨rfl, by omega, by omega⟩)) (fun p hp => ?_)
        subst e1
        by_cases q : p = o + i
        · subst q
          rw [← Nat.add_assoc, hpC_same, if_pos (by omega), show o + i - o = i by omega]; exact ev
        · rw [hpC_o2 (by omega), r p hp]
          by_cases y : o ≤ p ∧ p < o + i
          · rw [if_pos y, if_pos (by omega)]
          · rw [if_neg y, if_neg (by omega)]
      apply f_M_puts_2
      rw [if_pos (by omega), g9, g10, ai_add_nn (by omega), ai_add_nn (by omega), ab_1 (by omega), Int.toNat_natCast, Int.toNat_natCast, cg.1.row_n, cg.1.row_t, cg.1.tape_n, cg.1.tape_t]
      refine ⟨cg.tag, cg.tag, cg.tag, ?_⟩
      by_cases z : tS b n e + i < tE b n e
      · have li := al i (by omega)
        rw [if_pos (by omega), (cg.2.1.2.2 _ li.1).1, ai_sub_eq (by omega) (by omega)]
        refine ⟨cg.tag, cg.tag, ⟨rfl, by omega, by show ((tS b n e + i : Nat) : Int) < 2000; omega⟩, ⟨rfl, by omega, by show ((1010 + o + i : Nat) : Int) < 24240; omega⟩, fun g1 e1 => nx g1 _ e1 ?_⟩
        unfold tV tvW; rw [if_pos (by omega)]
      · rw [if_neg (by omega)]
        refine ⟨⟨rfl, by omega, by show ((1010 + o + i : Nat) : Int) < 24240; omega⟩, fun g1 e1 => nx g1 _ e1 ?_⟩
        unfold tV tvW; rw [if_neg (by omega)]
  apply f_M_puts_0
  exact L 10 0 h (by omega) FrP.rf (fun p hp => by rw [if_neg (by omega)]; exact hD p hp)
