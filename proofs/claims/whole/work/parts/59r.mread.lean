/-! ===== the reference reads: own words, names, numbers, ends ===== -/
def oS (b : Nat → Nat) (n e : Nat) : Int := tO b n (lgT b n e) e
theorem oS_1 {b : Nat → Nat} {n e : Nat} (h : kS b n e = 1) : oS b n e = ownI (tL b n e) := by unfold kS at h; unfold oS tO; rw [if_pos h]
theorem oS_0 {b : Nat → Nat} {n e : Nat} (h : kS b n e ≠ 1) : oS b n e = -1 := by unfold kS at h; unfold oS tO; rw [if_neg h]
def F910 (m : Nat) : Nat → Nat → Prop := fun q p => q = m ∧ (p = 9 ∨ p = 10)
theorem F910_mr {h h' : Hp} {m : Nat} (f : FrP (F910 m) h h') : FrP (Smr m) h h' := f.wk (fun q p z => Or.inl ⟨z.1, by have := z.2; omega⟩)
theorem FrP.c910 {h h' : Hp} {m q p : Nat} (f : FrP (F910 m) h h') (hq : q ≠ m ∨ (p ≠ 9 ∧ p ≠ 10)) : hpC h' q p = hpC h q p := f.2.2 _ _ (by unfold F910; omega)
theorem sp_mownB {h : Hp} {m : Nat} {b : Nat → Nat} {n : Nat} (c : MB h m b n) {e : Nat} (he : e ≤ n) (k1 : kS b n e = 1) (e9 : hpC h m 9 = (tE b n e : Int)) (e10 : hpC h m 10 = (tS b n e : Int)) {d mc ms : Nat} {R : PR} {o3 o4 o5 : Option AV} (H : R (some (xI (ownI (tL b n e)))) h) : Wp m_M_ownBetween 0 [some (xR m), some (xI (hpC h m 10)), some (xI (hpC h m 9)), o3, o4, o5] [] h d mc ms R := by
  have E0 := tE_spec b n e he
  have hn := c.2.1.2.1
  have al := tL_al (kS_1.1 k1).1
  rw [e9, e10, show (tE b n e : Int) = ((tS b n e + (tE b n e - tS b n e) : Nat) : Int) by omega]
  exact sp_ownBetween c.1 c.2.2 (by omega) (fun i hi => ⟨(c.2.1.2.2 _ (al i hi).1).1, (al i hi).2⟩) H
theorem sp_mownN {h : Hp} {m : Nat} {b : Nat → Nat} {n : Nat} (c : MB h m b n) {f : Int} (e : hpC h m 11 = f) (hf : f ≠ 0) {d mc ms : Nat} {R : PR} (hd : 2 ≤ d) (H : R (some (xI (-1))) h) : Wp m_M_own 0 [some (xR m)] [] h d mc ms R := by
  apply f_M_own_0
  refine ⟨⟨by omega, c.tag⟩, sp_passesN c e hf (by omega) (fun _ => ?_)⟩
  refine ⟨⟨by omega, c.tag⟩, sp_goesWell c e (fun v ee => ?_)⟩
  have ev := xI_inj ee
  rw [if_neg hf] at ev
  rw [if_pos ev]; exact H
theorem sp_mown {h : Hp} {m : Nat} {b : Nat → Nat} {n : Nat} (c : MB h m b n) (e11 : hpC h m 11 = 0) {e : Nat} (e9 : hpC h m 9 = (e : Int)) (he : e ≤ n) {d mc ms : Nat} {R : PR} (hd : 3 ≤ d) (H1 : kS b n e = 1 → ∀ h', FrP (F910 m) h h' → hpC h' m 9 = (tE b n e : Int) → hpC h' m 10 = (tS b n e : Int) → R (some (xI (oS b n e))) h') (H0 : kS b n e ≠ 1 → ∀ h', FrP (Smr m) h h' → hpC h' m 11 = 1 → hpC h' m 12 = (tS b n e : Int) → R (some (xI (-1))) h') : Wp m_M_own 0 [some (xR m)] [] h d mc ms R := by
  apply f_M_own_0
  refine ⟨⟨by omega, c.tag⟩, sp_passes c e11 e9 he (by omega) (fun k1 g f q9 q10 _ => ?_) (fun k1 g f q11 q12 _ => ?_)⟩
  · have cg := c.fr (F910_mr f)
    have g11 : hpC g m 11 = 0 := by rw [FrP.c910 f (by omega)]; exact e11
    refine ⟨⟨by omega, cg.tag⟩, sp_goesWell cg g11 (fun v ee => ?_)⟩
    have ev := xI_inj ee
    clear ee
    rw [if_pos rfl] at ev
    rw [if_neg (by omega)]
    refine ⟨cg.tag, cg.tag, ⟨by omega, cg.tag⟩, sp_mownB cg he k1 q9 q10 (fun v ee => ?_)⟩
    have ev := xI_inj ee
    rw [ev]
    have := H1 k1 g f q9 q10
    rw [oS_1 k1] at this
    exact this
  · have cg := c.fr f
    refine ⟨⟨by omega, cg.tag⟩, sp_goesWell cg q11 (fun v ee => ?_)⟩
    have ev := xI_inj ee
    rw [if_neg (by decide)] at ev
    rw [if_pos ev]; exact H0 k1 g f q11 q12
theorem sp_mmustN {h : Hp} {m : Nat} {b : Nat → Nat} {n : Nat} (c : MB h m b n) {f : Int} (e : hpC h m 11 = f) (hf : f ≠ 0) {i : Int} {d mc ms : Nat} {R : PR} (hd : 3 ≤ d) {o2 : Option AV} (H : R none h) : Wp m_M_must 0 [some (xR m), some (xI i), o2] [] h d mc ms R := by
  apply f_M_must_0
  refine ⟨⟨by omega, c.tag⟩, sp_mownN c e hf (by omega) (fun v1 _ => ?_)⟩
  refine ⟨⟨by omega, c.tag⟩, sp_goesWell c e (fun v ee => ?_)⟩
  have ev := xI_inj ee
  rw [if_neg hf] at ev
  rw [if_pos ev]; exact H
theorem sp_mmust {h : Hp} {m : Nat} {b : Nat → Nat} {n : Nat} (c : MB h m b n) (e11 : hpC h m 11 = 0) {e : Nat} (e9 : hpC h m 9 = (e : Int)) (he : e ≤ n) {i : Int} (hi : 0 ≤ i) {d mc ms : Nat} {R : PR} (hd : 4 ≤ d) {o2 : Option AV} (H1 : oS b n e = i → ∀ h', FrP (F910 m) h h' → hpC h' m 9 = (tE b n e : Int) → hpC h' m 10 = (tS b n e : Int) → R none h') (H0 : oS b n e ≠ i → ∀ h', FrP (Smr m) h h' → hpC h' m 11 = 1 → hpC h' m 12 = (tS b n e : Int) → R none h') : Wp m_M_must 0 [some (xR m), some (xI i), o2] [] h d mc ms R := by
  apply f_M_must_0
  refine ⟨⟨by omega, c.tag⟩, sp_mown c e11 e9 he (by omega) (fun k1 g f q9 q10 v1 ee => ?_) (fun k1 g f q11 q12 v1 ee => ?_)⟩
  · have ev1 := xI_inj ee
    clear ee
    have cg := c.fr (F910_mr f)
    have g11 : hpC g m 11 = 0 := by rw [FrP.c910 f (by omega)]; exact e11
    refine ⟨⟨by omega, cg.tag⟩, sp_goesWell cg g11 (fun v ee => ?_)⟩
    have ev := xI_inj ee
    clear ee
    rw [if_pos rfl] at ev
    rw [if_neg (by omega)]
    by_cases z : v1 = i
    · rw [if_pos z]; exact H1 (by omega) g f q9 q10
    · rw [if_neg z]
      exact ⟨cg.tag, ⟨by omega, cg.tag⟩, sp_faultsG cg g11 (fun g2 f2 a1 a2 _ _ => H0 (by omega) g2 ((F910_mr f).tr f2) a1 (by rw [a2]; exact q10))⟩
  · have cg := c.fr f
    refine ⟨⟨by omega, cg.tag⟩, sp_goesWell cg q11 (fun v ee => ?_)⟩
    have ev := xI_inj ee
    rw [if_neg (by decide)] at ev
    rw [if_pos ev]; exact H0 (by rw [oS_0 k1]; omega) g f q11 q12
theorem sp_mmarkN {h : Hp} {m : Nat} {b : Nat → Nat} {n : Nat} (c : MB h m b n) {f : Int} (e : hpC h m 11 = f) (hf : f ≠ 0) {d mc ms : Nat} {R : PR} (hd : 1 ≤ d) (H : R none h) : Wp m_M_mark 0 [some (xR m)] [] h d mc ms R := by
  apply f_M_mark_0
  refine ⟨⟨by omega, c.tag⟩, sp_goesWell c e (fun v ee => ?_)⟩
  have ev := xI_inj ee
  rw [if_neg hf] at ev
  rw [if_pos ev]; exact H
theorem kS_3 {b : Nat → Nat} {n e : Nat} : kS b n e = 3 ↔ tR b n e = 3 := by
  unfold kS tK
  by_cases c : (tR b n e = 1 ∨ tR b n e = 2) ∧ lgT b n e = true ∧ tS b n e = e
  · rw [if_pos c]; omega
  · rw [if_neg c]
theorem sp_mmark {h : Hp} {m : Nat} {b : Nat → Nat} {n : Nat} (c : MB h m b n) (e11 : hpC h m 11 = 0) {e : Nat} (e9 : hpC h m 9 = (e : Int)) (he : e ≤ n) {d mc ms : Nat} {R : PR} (hd : 2 ≤ d) (H1 : kS b n e = 3 → ∀ h', FrP (fun q p => q = m ∧ p = 9) h h' → hpC h' m 9 = (tE b n e : Int) → R none h') (H0 : kS b n e ≠ 3 → ∀ h', FrP (Smr m) h h' → hpC h' m 11 = 1 → hpC h' m 12 = (tS b n e : Int) → R none h') : Wp m_M_mark 0 [some (xR m)] [] h d mc ms R := by
  have hn := c.2.1.2.1
  have S1 := (tS_spec b n e).1.2 he
  apply f_M_mark_0
  refine ⟨⟨by omega, c.tag⟩, sp_goesWell c e11 (fun v ee => ?_)⟩
  have ev := xI_inj ee
  clear ee
  rw [if_pos rfl] at ev
  rw [if_neg (by omega)]
  refine ⟨⟨by omega, c.tag⟩, sp_here c e9 he (by omega) (fun g f q9 v2 ee => ?_)⟩
  have ev2 := xI_inj ee
  clear ee
  have F : FrP (Smr m) h g := f.wk (fun q p z => Or.inl ⟨z.1, Or.inl z.2⟩)
  have cg := c.fr F
  have g11 : hpC g m 11 = 0 := by rw [f.2.2 _ _ (by omega)]; exact e11
  have key : kS b n e = 3 ↔ v2 = 59 := by
    rw [kS_3, ev2]
    unfold tR
    rw [kdT_stop]
    unfold bvT
    by_cases z : tS b n e < n
    · rw [if_pos (by omega), Int.toNat_natCast]; omega
    · rw [if_neg (by omega)]; omega
  by_cases z : v2 = 59
  · rw [if_pos z, q9, ab_1 (by omega)]
    have k3 := key.2 z
    refine ⟨cg.tag, cg.tag, fun g1 e1 => H1 k3 g1 (f.tr (by subst e1; exact FrP.up ⟨rfl, rfl⟩)) ?_⟩
    subst e1
    rw [hpC_same]
    have r3 := kS_3.1 k3
    unfold tE
    rw [if_neg (by omega), if_neg (by omega), if_neg (by omega)]
  · rw [if_neg z]
    exact ⟨cg.tag, ⟨by omega, cg.tag⟩, sp_faultsG cg g11 (fun g2 f2 a1 a2 _ _ => H0 (fun y => z (key.1 y)) g2 (F.tr f2) a1 (by rw [a2]; exact q9))⟩
/-! names -/
abbrev nmS (b : Nat → Nat) (n e : Nat) : Prop := kS b n e = 1 ∧ tE b n e - tS b n e ≤ 10 ∧ ownI (tL b n e) = -1
theorem sp_mnameN {h : Hp} {m : Nat} {b : Nat → Nat} {n : Nat} (c : MB h m b n) {f : Int} (e : hpC h m 11 = f) (hf : f ≠ 0) {d mc ms : Nat} {R : PR} (hd : 2 ≤ d) (H : R none h) : Wp m_M_name 0 [some (xR m)] [] h d mc ms R := by
  apply f_M_name_0
  refine ⟨⟨by omega, c.tag⟩, sp_passesN c e hf (by omega) (fun _ => ?_)⟩
  refine ⟨⟨by omega, c.tag⟩, sp_goesWell c e (fun v ee => ?_)⟩
  have ev := xI_inj ee
  rw [if_neg hf] at ev
  rw [if_pos ev]; exact H
theorem sp_mname {h : Hp} {m : Nat} {b : Nat → Nat} {n : Nat} (c : MB h m b n) (e11 : hpC h m 11 = 0) {e : Nat} (e9 : hpC h m 9 = (e : Int)) (he : e ≤ n) {d mc ms : Nat} {R : PR} (hd : 3 ≤ d) (H1 : nmS b n e → ∀ h', FrP (F910 m) h h' → hpC h' m 9 = (tE b n e : Int) → hpC h' m 10 = (tS b n e : Int) → R none h') (H0 : ¬ nmS b n e → ∀ h', FrP (Smr m) h h' → hpC h' m 11 = 1 → hpC h' m 12 = (tS b n e : Int) → R none h') : Wp m_M_name 0 [some (xR m)] [] h d mc ms R := by
  have hn := c.2.1.2.1
  have E0 := tE_spec b n e he
  apply f_M_name_0
  refine ⟨⟨by omega, c.tag⟩, sp_passes c e11 e9 he (by omega) (fun k1 g f q9 q10 _ => ?_) (fun k1 g f q11 q12 _ => ?_)⟩
  · have cg := c.fr (F910_mr f)
    have g11 : hpC g m 11 = 0 := by rw [FrP.c910 f (by omega)]; exact e11
    have bad : ¬ nmS b n e → (hpT g m).1 = 12 ∧ ((1 ≤ d ∧ (hpT g m).1 = 12) ∧ Wp m_M_faults 0 [some (xR m), some (xI (1 : Int)), some (xI (hpC g m 10))] [] g (d - 1) 0 0 (fun rv h3 => rv = none → R none h3)) := fun z =>
      ⟨cg.tag, ⟨by omega, cg.tag⟩, sp_faultsG cg g11 (fun g2 f2 a1 a2 _ _ => H0 z g2 ((F910_mr f).tr f2) a1 (by rw [a2]; exact q10))⟩
    refine ⟨⟨by omega, cg.tag⟩, sp_goesWell cg g11 (fun v ee => ?_)⟩
    have ev := xI_inj ee
    clear ee
    rw [if_pos rfl] at ev
    rw [if_neg (by omega)]
    refine ⟨cg.tag, cg.tag, ?_⟩
    by_cases z : 10 < ai_sub (hpC g m 9) (hpC g m 10)
    · rw [if_pos z]
      rw [q9, q10, ai_sub_eq (by omega) (by omega)] at z
      exact bad (fun y => by have := y.2.1; omega)
    · rw [if_neg z]
      rw [q9, q10, ai_sub_eq (by omega) (by omega)] at z
      refine ⟨cg.tag, cg.tag, ⟨by omega, cg.tag⟩, sp_mownB cg he k1 q9 q10 (fun v ee => ?_)⟩
      have ev := xI_inj ee
      clear ee
      by_cases y : v = -1
      · rw [if_pos y]; exact H1 ⟨k1, by omega, by omega⟩ g f q9 q10
      · rw [if_neg y]; exact bad (fun y2 => y (by have := y2.2.2; omega))
  · have cg := c.fr f
    refine ⟨⟨by omega, cg.tag⟩, sp_goesWell cg q11 (fun v ee => ?_)⟩
    have ev := xI_inj ee
    rw [if_neg (by decide)] at ev
    rw [if_pos ev]; exact H0 (fun y => k1 y.1) g f q11 q12
/-! numbers -/
def dv (b : Nat → Nat) (s : Nat) : Nat → Int
  | 0 => 0
  | k + 1 => 10 * dv b s k + (b (s + k) : Int) - 48
theorem dv_bd {b : Nat → Nat} {s : Nat} : ∀ k, (∀ i, i < k → 48 ≤ b (s + i) ∧ b (s + i) ≤ 57) → 0 ≤ dv b s k ∧ dv b s k < 10 ^ k
  | 0, _ => by simp [dv]
  | k + 1, h => by
    have := dv_bd k (fun i hi => h i (by omega))
    have := h k (by omega)
    simp only [dv]
    have e : (10 : Int) ^ (k + 1) = 10 * 10 ^ k := by rw [Int.pow_succ, Int.mul_comm]
    rw [e]
    omega
abbrev nuS (b : Nat → Nat) (n e : Nat) : Prop := kS b n e = 2 ∧ tE b n e - tS b n e ≤ 4
def nuV (b : Nat → Nat) (n e : Nat) : Int := dv b (tS b n e) (tE b n e - tS b n e)
theorem tD_dg {b : Nat → Nat} {n e : Nat} (h : tR b n e = 2) : (∀ i, tS b n e ≤ i → i < tE b n e → i < n ∧ 48 ≤ b i ∧ b i ≤ 57) ∧ dgP b n (tE b n e) ≠ true := by
  have E : tE b n e = ruN (dgP b n) n (tS b n e) := by unfold tE; rw [if_neg (by omega), if_pos h]
  rw [E]
  exact ⟨fun i h1 h2 => of_decide_eq_true ((ruN_spec dgP_lt (tS b n e)).2.1 i h1 h2), (ruN_spec dgP_lt (tS b n e)).2.2⟩
theorem nuV_bd {b : Nat → Nat} {n e : Nat} (h : nuS b n e) : 0 ≤ nuV b n e ∧ nuV b n e ≤ 9999 := by
  have := (tD_dg (kS_2.1 h.1).1).1
  have d := dv_bd (b := b) (s := tS b n e) (tE b n e - tS b n e) (fun i hi => (this (tS b n e + i) (by omega) (by omega)).2)
  have h4 := h.2
  unfold nuV
  have : (10 : Int) ^ (tE b n e - tS b n e) ≤ 10 ^ 4 := by
    rcases (by omega : tE b n e - tS b n e = 0 ∨ tE b n e - tS b n e = 1 ∨ tE b n e - tS b n e = 2 ∨ tE b n e - tS b n e = 3 ∨ tE b n e - tS b n e = 4) with q | q | q | q | q <;> rw [q] <;> decide
  omega
theorem sp_mnumN {h : Hp} {m : Nat} {b : Nat → Nat} {n : Nat} (c : MB h m b n) {f : Int} (e : hpC h m 11 = f) (hf : f ≠ 0) {lo hi : Int} {d mc ms : Nat} {R : PR} (hd : 1 ≤ d) {o3 : Option AV} (H : R (some (xI 0)) h) : Wp m_M_number 0 [some (xR m), some (xI lo), some (xI hi), o3] [] h d mc ms R := by
  apply f_M_number_0
  refine ⟨⟨by omega, c.tag⟩, sp_goesWell c e (fun v ee => ?_)⟩
  have ev := xI_inj ee
  rw [if_neg hf] at ev
  rw [if_pos ev]; exact H
theorem sp_mnum {h : Hp} {m : Nat} {b : Nat → Nat} {n : Nat} (c : MB h m b n) (e11 : hpC h m 11 = 0) {e : Nat} (e9 : hpC h m 9 = (e : Int)) (he : e ≤ n) {lo hi : Int} {d mc ms : Nat} {R : PR} (hd : 2 ≤ d) {o3 : Option AV} (H1 : nuS b n e → (lo ≤ nuV b n e ∧ nuV b n e ≤ hi) → ∀ h', FrP (F910 m) h h' → hpC h' m 9 = (tE b n e : Int) → hpC h' m 10 = (tS b n e : Int) → R (some (xI (nuV b n e))) h') (H2 : nuS b n e → ¬ (lo ≤ nuV b n e ∧ nuV b n e ≤ hi) → ∀ h', FrP (Smr m) h h' → hpC h' m 11 = 2 → hpC h' m 12 = (tS b n e : Int) → R (some (xI 0)) h') (H0 : ¬ nuS b n e → ∀ h', FrP (Smr m) h h' → hpC h' m 11 = 1 → hpC h' m 12 = (tS b n e : Int) → R (some (xI 0)) h') : Wp m_M_number 0 [some (xR m), some (xI lo), some (xI hi), o3] [] h d mc ms R := by
  have hn := c.2.1.2.1
  have S1 := (tS_spec b n e).1.2 he
  have E0 := tE_spec b n e he
  apply f_M_number_0
  refine ⟨⟨by omega, c.tag⟩, sp_goesWell c e11 (fun v ee => ?_)⟩
  have ev := xI_inj ee
  clear ee
  rw [if_pos rfl] at ev
  rw [if_neg (by omega)]
  refine ⟨⟨by omega, c.tag⟩, sp_here c e9 he (by omega) (fun g0 f0 p9 v2 ee => ?_)⟩
  clear ee
  have cg0 := c.fr (f0.wk (fun q p z => Or.inl ⟨z.1, Or.inl z.2⟩))
  refine ⟨cg0.tag, cg0.tag, fun g eg => ?_⟩
  have f : FrP (F910 m) h g := (f0.wk (fun q p z => ⟨z.1, Or.inl z.2⟩)).tr (by subst eg; exact FrP.up ⟨rfl, Or.inr rfl⟩)
  have q9 : hpC g m 9 = (tS b n e : Int) := by subst eg; rw [hpC_o2 (by decide)]; exact p9
  have q10 : hpC g m 10 = (tS b n e : Int) := by subst eg; rw [hpC_same]; exact p9
  clear eg
  have cg := c.fr (F910_mr f)
  have g11 : hpC g m 11 = 0 := by rw [FrP.c910 f (by omega)]; exact e11
  have bad : ¬ nuS b n e → (hpT g m).1 = 12 ∧ ((1 ≤ d ∧ (hpT g m).1 = 12) ∧ Wp m_M_faults 0 [some (xR m), some (xI (1 : Int)), some (xI (hpC g m 9))] [] g (d - 1) 0 0 (fun rv h3 => rv = none → R (some (xI 0)) h3)) := fun z =>
    ⟨cg.tag, ⟨by omega, cg.tag⟩, sp_faultsG cg g11 (fun g2 f2 a1 a2 _ _ => H0 z g2 ((F910_mr f).tr f2) a1 (by rw [a2]; exact q9))⟩
  rw [q9]
  refine ⟨cg.tag, ⟨by omega, cg.tag⟩, sp_isDigit cg (by omega) (fun sd v3 ee => ?_) (fun sd v3 ee => ?_)⟩
  · cases ee
    have hR : tR b n e = 2 := kdT_dg.2 (bvT_dg.1 sd)
    obtain ⟨inn, out⟩ := tD_dg hR
    rw [if_neg (by decide), q9, ai_sub_eq (by omega) (by omega)]
    refine ⟨cg.tag, ⟨by omega, cg.tag⟩, sp_isSmall cg.1 cg.2.1 (by omega) (fun s2 v5 ee => ?_) (fun s2 v5 ee => ?_)⟩
    · cases ee
      rw [if_neg (by decide)]
      exact bad (fun z => (kS_2.1 z.1).2 ((kS_touch (Or.inr hR)).2 (Or.inl s2)))
    · cases ee
      rw [if_pos rfl, q9, ai_sub_eq (by omega) (by omega)]
      refine ⟨cg.tag, ⟨by omega, cg.tag⟩, sp_isDigit cg (by omega) (fun s3 v7 ee => ?_) (fun s3 v7 ee => ?_)⟩
      · cases ee
        rw [if_neg (by decide)]
        exact bad (fun z => (kS_2.1 z.1).2 ((kS_touch (Or.inr hR)).2 (Or.inr s3)))
      · cases ee
        rw [if_pos rfl]
        have k2 : kS b n e = 2 := kS_2.2 ⟨hR, fun z => ((kS_touch (Or.inr hR)).1 z).elim s2 s3⟩
        have L : ∀ (j a : Nat) (g : Hp), a + j = tE b n e → tS b n e ≤ a → FrP (F910 m) h g → hpC g m 9 = (a : Int) → hpC g m 10 = (tS b n e : Int) → Wp m_M_number 72 [some (xR m), some (xI lo), some (xI hi), some (xI (dv b (tS b n e) (min (a - tS b n e) 4)))] [] g d mc ms R := by
          intro j
          induction j with
          | zero =>
            intro a g ha h1 f q9 q10
            obtain rfl : a = tE b n e := by omega
            have cg := c.fr (F910_mr f)
            have g11 : hpC g m 11 = 0 := by rw [FrP.c910 f (by omega)]; exact e11
            apply f_M_number_72
            rw [q9]
            refine ⟨cg.tag, ⟨by omega, cg.tag⟩, sp_isDigit cg (by omega) (fun y _ _ => absurd (bvT_dg.1 y) out) (fun y v ee => ?_)⟩
            cases ee
            rw [if_pos rfl, q9, q10, ai_sub_eq (by omega) (by omega)]
            refine ⟨cg.tag, cg.tag, ?_⟩
            by_cases c4 : 4 < (tE b n e : Int) - (tS b n e : Int)
            · rw [if_pos c4]
              refine ⟨cg.tag, ⟨by omega, cg.tag⟩, sp_faultsG cg g11 (fun g2 f2 a1 a2 _ _ => ?_)⟩
              have cg2 := cg.fr f2
              apply f_M_number_152
              refine ⟨⟨by omega, cg2.tag⟩, sp_goesWell cg2 a1 (fun v ee => ?_)⟩
              have ev := xI_inj ee
              clear ee
              rw [if_neg (by decide)] at ev
              rw [if_pos ev]
              refine ⟨⟨by omega, cg2.tag⟩, sp_goesWell cg2 a1 (fun v ee => ?_)⟩
              have ev := xI_inj ee
              clear ee
              rw [if_neg (by decide)] at ev
              rw [if_pos ev]
              exact H0 (fun z => by have := z.2; omega) g2 ((F910_mr f).tr f2) a1 a2
            · rw [if_neg c4]
              have nS : nuS b n e := ⟨k2, by omega⟩
              have ev4 : dv b (tS b n e) (min (tE b n e - tS b n e) 4) = nuV b n e := by unfold nuV; rw [show min (tE b n e - tS b n e) 4 = tE b n e - tS b n e by omega]
              rw [ev4]
              apply f_M_number_152
              refine ⟨⟨by omega, cg.tag⟩, sp_goesWell cg g11 (fun v ee => ?_)⟩
              have ev := xI_inj ee
              clear ee
              rw [if_pos rfl] at ev
              rw [if_neg (by omega)]
              refine ⟨by omega, sp_isIn (fun v ee => ?_)⟩
              have ev := xI_inj ee
              clear ee
              by_cases r : lo ≤ nuV b n e ∧ nuV b n e ≤ hi
              · rw [if_pos r] at ev
                rw [if_neg (by omega)]
                refine ⟨⟨by omega, cg.tag⟩, sp_goesWell cg g11 (fun v ee => ?_)⟩
                have ev := xI_inj ee
                clear ee
                rw [if_pos rfl] at ev
                rw [if_neg (by omega)]
                exact H1 nS r g f q9 q10
              · rw [if_neg r] at ev
                rw [if_pos ev]
                refine ⟨cg.tag, ⟨by omega, cg.tag⟩, sp_faultsG cg g11 (fun g2 f2 a1 a2 _ _ => ?_)⟩
                have cg2 := cg.fr f2
                refine ⟨⟨by omega, cg2.tag⟩, sp_goesWell cg2 a1 (fun v ee => ?_)⟩
                have ev := xI_inj ee
                clear ee
                rw [if_neg (by decide)] at ev
                rw [if_pos ev]
                exact H2 nS r g2 ((F910_mr f).tr f2) a1 (by rw [a2]; exact q10)
          | succ j ih =>
            intro a g ha h1 f q9 q10
            have cg := c.fr (F910_mr f)
            obtain ⟨i1, i2, i3⟩ := inn a h1 (by omega)
            apply f_M_number_72
            rw [q9]
            refine ⟨cg.tag, ⟨by omega, cg.tag⟩, sp_isDigit cg (by omega) (fun y v ee => ?_) (fun y _ _ => absurd (bvT_dg.2 (decide_eq_true ⟨i1, i2, i3⟩)) y)⟩
            cases ee
            rw [if_neg (by decide), q9, q10, ai_sub_eq (by omega) (by omega)]
            refine ⟨cg.tag, cg.tag, ?_⟩
            by_cases c4 : (a : Int) - (tS b n e : Int) < 4
            · rw [if_pos c4]
              refine ⟨cg.tag, ⟨by omega, cg.tag⟩, sp_byteAt cg.1 cg.2.1 (fun v ee => ?_)⟩
              have ev := xI_inj ee
              clear ee
              rw [bvT_nat i1] at ev
              have d0 := dv_bd (b := b) (s := tS b n e) (a - tS b n e) (fun i hi => (inn (tS b n e + i) (by omega) (by omega)).2)
              have d1 : (10 : Int) ^ (a - tS b n e) ≤ 1000 := by
                rcases (by omega : a - tS b n e = 0 ∨ a - tS b n e = 1 ∨ a - tS b n e = 2 ∨ a - tS b n e = 3) with q | q | q | q <;> rw [q] <;> decide
              rw [show min (a - tS b n e) 4 = a - tS b n e by omega, ev, q9, ab_1 (b := a) (by omega), ai_mul_eq (by omega) (by omega), ai_add_eq (by omega) (by omega), ai_sub_eq (by omega) (by omega)]
              refine ⟨cg.tag, cg.tag, fun g1 e1 => ?_⟩
              have := ih (a + 1) g1 (by omega) (by omega) (f.tr (by subst e1; exact FrP.up ⟨rfl, Or.inl rfl⟩)) (by subst e1; rw [hpC_same]) (by subst e1; rw [hpC_o2 (by decide)]; exact q10)
              rw [show min (a + 1 - tS b n e) 4 = (a - tS b n e) + 1 by omega] at this
              simp only [dv] at this
              rw [show tS b n e + (a - tS b n e) = a by omega] at this
              exact this
            · rw [if_neg c4]
              refine ⟨cg.tag, cg.tag, fun g1 e1 => ?_⟩
              rw [ab_1 (by omega)] at e1
              have := ih (a + 1) g1 (by omega) (by omega) (f.tr (by subst e1; exact FrP.up ⟨rfl, Or.inl rfl⟩)) (by subst e1; rw [hpC_same]) (by subst e1; rw [hpC_o2 (by decide)]; exact q10)
              rw [show min (a + 1 - tS b n e) 4 = min (a - tS b n e) 4 by omega] at this
              exact this
        have := L (tE b n e - tS b n e) (tS b n e) g (by omega) (Nat.le_refl _) f q9 q10
        rw [Nat.sub_self] at this
        exact this
  · cases ee
    rw [if_pos rfl]
    exact bad (fun z => sd (bvT_dg.2 (kdT_dg.1 (kS_2.1 z.1).1)))
