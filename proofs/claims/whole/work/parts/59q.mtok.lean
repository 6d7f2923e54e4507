/-! ===== the reference reads signs ===== -/
def Smr (m : Nat) : Nat → Nat → Prop := fun q p => (q = m ∧ (p = 9 ∨ p = 10 ∨ p = 11 ∨ p = 12 ∨ p = 14 ∨ p = 15)) ∨ (q = m + 1 ∧ 1010 ≤ p ∧ p < 2020)
theorem Smr_off (m : Nat) : offM m (Smr m) := by
  intro p hp z
  rcases z with ⟨-, z⟩ | z
  · rcases z with rfl | rfl | rfl | rfl | rfl | rfl <;> (revert hp; decide)
  · omega
def MB (h : Hp) (m : Nat) (b : Nat → Nat) (n : Nat) : Prop := modelAt h m ∧ szM h m b n ∧ owM h m
theorem MB.fr {h h' : Hp} {m : Nat} {b : Nat → Nat} {n : Nat} (c : MB h m b n) (f : FrP (Smr m) h h') : MB h' m b n :=
  ⟨c.1.fo f (Smr_off m), ⟨by rw [f.2.2 _ _ (by unfold Smr; omega)]; exact c.2.1.1, c.2.1.2.1, fun i hi => by rw [f.2.2 _ _ (by unfold Smr; omega)]; exact c.2.1.2.2 i hi⟩, fun i hi => by rw [f.2.2 _ _ (by unfold Smr; omega)]; exact c.2.2 i hi⟩
theorem MB.tag {h : Hp} {m : Nat} {b : Nat → Nat} {n : Nat} (c : MB h m b n) : (hpT h m).1 = 12 := c.1.tag
theorem Smr_up {g g' : Hp} {m p : Nat} {v : Int} (hp : p = 9 ∨ p = 10 ∨ p = 11 ∨ p = 12 ∨ p = 14 ∨ p = 15) (e : g' = hpU g m p v) : FrP (Smr m) g g' := by subst e; exact FrP.up (Or.inl ⟨rfl, hp⟩)
theorem sp_goesWell {h : Hp} {m : Nat} {b : Nat → Nat} {n : Nat} (c : MB h m b n) {v : Int} (e : hpC h m 11 = v) {d mc ms : Nat} {R : PR} (H : R (some (xI (if v = 0 then 1 else 0))) h) : Wp m_M_goesWell 0 [some (xR m)] [] h d mc ms R := by
  apply f_M_goesWell_0
  rw [e]
  refine ⟨c.tag, ?_⟩
  by_cases z : v = 0
  · rw [if_pos z] at H ⊢; exact ⟨by simp, H⟩
  · rw [if_neg z] at H ⊢; exact ⟨by simp, H⟩
/-- what stays and what a fault says -/
theorem sp_faultsG {h : Hp} {m : Nat} {b : Nat → Nat} {n : Nat} (c : MB h m b n) (e : hpC h m 11 = 0) {f p : Int} {d mc ms : Nat} {R : PR} (H : ∀ h', FrP (Smr m) h h' → hpC h' m 11 = f → hpC h' m 12 = p → (∀ q, q ≠ 11 → q ≠ 12 → hpC h' m q = hpC h m q) → R none h') : Wp m_M_faults 0 [some (xR m), some (xI f), some (xI p)] [] h d mc ms R := by
  apply f_M_faults_0
  rw [e, if_pos rfl]
  refine ⟨c.tag, c.tag, fun g1 e1 => ⟨by subst e1; exact c.tag, fun g2 e2 => ?_⟩⟩
  refine H g2 ((Smr_up (by omega) e1).tr (Smr_up (by omega) e2)) (by subst e2; subst e1; rw [hpC_o2 (by decide), hpC_same]) (by subst e2; rw [hpC_same]) (fun q h1 h2 => by subst e2; subst e1; rw [hpC_o2 h2, hpC_o2 h1])
theorem sp_faultsN {h : Hp} {m : Nat} {b : Nat → Nat} {n : Nat} (c : MB h m b n) {f : Int} (e : hpC h m 11 = f) (hf : f ≠ 0) {f' p' : Int} {d mc ms : Nat} {R : PR} (H : R none h) : Wp m_M_faults 0 [some (xR m), some (xI f'), some (xI p')] [] h d mc ms R := by
  apply f_M_faults_0
  rw [e, if_neg hf]
  exact ⟨c.tag, H⟩
theorem bvT_bl {b : Nat → Nat} {n a : Nat} : (bvT b n (a : Int) = 10 ∨ bvT b n (a : Int) = 32) ↔ blP b n a = true := by
  unfold bvT blP
  rw [decide_eq_true_iff]
  by_cases c : a < n
  · rw [if_pos (by omega), Int.toNat_natCast]; omega
  · rw [if_neg (by omega)]; omega
theorem smT_al {b : Nat → Nat} {n a : Nat} : smT b n (a : Int) ↔ alP b n a = true := by
  unfold smT bvT alP
  rw [decide_eq_true_iff]
  by_cases c : a < n
  · rw [if_pos (by omega), Int.toNat_natCast]; omega
  · rw [if_neg (by omega)]; omega
theorem bvT_dg {b : Nat → Nat} {n a : Nat} : (48 ≤ bvT b n (a : Int) ∧ bvT b n (a : Int) ≤ 57) ↔ dgP b n a = true := by
  unfold bvT dgP
  rw [decide_eq_true_iff]
  by_cases c : a < n
  · rw [if_pos (by omega), Int.toNat_natCast]; omega
  · rw [if_neg (by omega)]; omega
theorem sp_isDigit {h : Hp} {m : Nat} {b : Nat → Nat} {n : Nat} (c : MB h m b n) {i : Int} {d mc ms : Nat} {R : PR} (hd : 1 ≤ d) (H1 : (48 ≤ bvT b n i ∧ bvT b n i ≤ 57) → R (some (xI 1)) h) (H0 : ¬ (48 ≤ bvT b n i ∧ bvT b n i ≤ 57) → R (some (xI 0)) h) : Wp m_M_isDigit 0 [some (xR m), some (xI i)] [] h d mc ms R := by
  apply f_M_isDigit_0
  refine ⟨⟨hd, c.tag⟩, sp_byteAt c.1 c.2.1 (fun v e => ?_)⟩
  have e1 := xI_inj e
  clear e
  by_cases z : v < 48
  · rw [if_pos z]; exact ⟨by simp, H0 (fun y => by omega)⟩
  · rw [if_neg z]
    refine ⟨⟨hd, c.tag⟩, sp_byteAt c.1 c.2.1 (fun v2 e => ?_)⟩
    have e2 := xI_inj e
    clear e
    by_cases z2 : 57 < v2
    · rw [if_pos z2]; exact ⟨by simp, H0 (fun y => by omega)⟩
    · rw [if_neg z2]; exact ⟨by simp, H1 (by omega)⟩
theorem sp_here {h : Hp} {m : Nat} {b : Nat → Nat} {n : Nat} (c : MB h m b n) {e : Nat} (e9 : hpC h m 9 = (e : Int)) (he : e ≤ n) {d mc ms : Nat} {R : PR} (hd : 1 ≤ d) (H : ∀ h', FrP (fun q p => q = m ∧ p = 9) h h' → hpC h' m 9 = (tS b n e : Int) → R (some (xI (bvT b n (tS b n e : Int)))) h') : Wp m_M_here 0 [some (xR m)] [] h d mc ms R := by
  have hn := c.2.1.2.1
  have S0 := tS_spec b n e
  have S1 := S0.1.2 he
  have L : ∀ (j a : Nat) (g : Hp), a + j = tS b n e → e ≤ a → FrP (fun q p => q = m ∧ p = 9) h g → hpC g m 9 = (a : Int) → Wp m_M_here 0 [some (xR m)] [] g d mc ms R := by
    intro j
    induction j with
    | zero =>
      intro a g ha hea f q9
      have cg := c.fr (f.wk (fun q p z => Or.inl ⟨z.1, Or.inl z.2⟩))
      have nb : ¬ (bvT b n (a : Int) = 10 ∨ bvT b n (a : Int) = 32) := fun z => S0.2.2 (by rw [show tS b n e = a by omega]; exact bvT_bl.1 z)
      apply f_M_here_0
      rw [q9]
      refine ⟨cg.tag, ⟨by omega, cg.tag⟩, sp_byteAt cg.1 cg.2.1 (fun v ee => ?_)⟩
      have ev := xI_inj ee
      clear ee
      rw [if_neg (fun z => nb (Or.inl (by rw [← ev]; exact z))), q9]
      refine ⟨cg.tag, ⟨by omega, cg.tag⟩, sp_byteAt cg.1 cg.2.1 (fun v2 ee => ?_)⟩
      have ev2 := xI_inj ee
      clear ee
      rw [if_neg (fun z => nb (Or.inr (by rw [← ev2]; exact z))), q9]
      refine ⟨cg.tag, ⟨by omega, cg.tag⟩, sp_byteAt cg.1 cg.2.1 (fun v3 ee => ?_)⟩
      have ev3 := xI_inj ee
      rw [ev3]
      rw [show a = tS b n e by omega] at q9 ⊢
      exact H g f q9
    | succ j ih =>
      intro a g ha hea f q9
      have cg := c.fr (f.wk (fun q p z => Or.inl ⟨z.1, Or.inl z.2⟩))
      have bl := bvT_bl.2 (S0.2.1 a hea (by omega))
      have nx : ∀ g1, g1 = hpU g m 9 (ai_add (hpC g m 9) 1) → Wp m_M_here 0 [some (xR m)] [] g1 d mc ms R := fun g1 e1 => by
        rw [q9, ab_1 (by omega)] at e1
        refine ih (a + 1) g1 (by omega) (by omega) (f.tr (by subst e1; exact FrP.up ⟨rfl, rfl⟩)) (by subst e1; rw [hpC_same])
      apply f_M_here_0
      rw [q9]
      refine ⟨cg.tag, ⟨by omega, cg.tag⟩, sp_byteAt cg.1 cg.2.1 (fun v ee => ?_)⟩
      have ev := xI_inj ee
      clear ee
      by_cases c1 : v = 10
      · rw [if_pos c1]
        exact ⟨cg.tag, cg.tag, nx⟩
      · rw [if_neg c1, q9]
        refine ⟨cg.tag, ⟨by omega, cg.tag⟩, sp_byteAt cg.1 cg.2.1 (fun v2 ee => ?_)⟩
        have ev2 := xI_inj ee
        clear ee
        rw [if_pos (by omega)]
        exact ⟨cg.tag, cg.tag, nx⟩
  exact L (tS b n e - e) e h (by omega) (Nat.le_refl _) FrP.rf e9
/-- the kind of the next sign, as both see it -/
def kS (b : Nat → Nat) (n e : Nat) : Int := tK b n (lgT b n e) e
theorem kS_touch {b : Nat → Nat} {n e : Nat} (h : tR b n e = 1 ∨ tR b n e = 2) : kS b n e = 4 ↔ (smT b n ((tS b n e : Int) - 1) ∨ (48 ≤ bvT b n ((tS b n e : Int) - 1) ∧ bvT b n ((tS b n e : Int) - 1) ≤ 57)) := by
  have S0 := tS_spec b n e
  unfold kS tK
  by_cases c : 0 < tS b n e
  · rw [show (tS b n e : Int) - 1 = ((tS b n e - 1 : Nat) : Int) by omega, smT_al, bvT_dg]
    by_cases c2 : tS b n e = e
    · have : lgT b n e = true ↔ (alP b n (tS b n e - 1) = true ∨ dgP b n (tS b n e - 1) = true) := by
        rw [c2] at c ⊢
        unfold lgT; simp [c]
      rw [← this]
      by_cases c3 : lgT b n e = true
      · rw [if_pos ⟨h, c3, c2⟩]; exact ⟨fun _ => c3, fun _ => rfl⟩
      · rw [if_neg (fun z => c3 z.2.1)]; exact ⟨fun z => by omega, fun z => absurd z c3⟩
    · rw [if_neg (fun z => c2 z.2.2)]
      have bl := of_decide_eq_true (S0.2.1 (tS b n e - 1) (by omega) (by omega))
      refine ⟨fun z => by omega, fun z => ?_⟩
      rcases z with z | z
      · have := of_decide_eq_true z; omega
      · have := of_decide_eq_true z; omega
  · have e0 : e = 0 := by omega
    have : lgT b n e ≠ true := by unfold lgT; rw [e0]; simp
    rw [if_neg (fun z => this z.2.1)]
    refine ⟨fun z => by omega, fun z => ?_⟩
    unfold smT at z
    rw [bvT_out (by omega)] at z
    omega
theorem kS_1 {b : Nat → Nat} {n e : Nat} : kS b n e = 1 ↔ tR b n e = 1 ∧ kS b n e ≠ 4 := by
  unfold kS tK
  by_cases c : (tR b n e = 1 ∨ tR b n e = 2) ∧ lgT b n e = true ∧ tS b n e = e
  · rw [if_pos c]; omega
  · rw [if_neg c]; omega
theorem kS_2 {b : Nat → Nat} {n e : Nat} : kS b n e = 2 ↔ tR b n e = 2 ∧ kS b n e ≠ 4 := by
  unfold kS tK
  by_cases c : (tR b n e = 1 ∨ tR b n e = 2) ∧ lgT b n e = true ∧ tS b n e = e
  · rw [if_pos c]; omega
  · rw [if_neg c]; omega
theorem sp_passesN {h : Hp} {m : Nat} {b : Nat → Nat} {n : Nat} (c : MB h m b n) {f : Int} (e : hpC h m 11 = f) (hf : f ≠ 0) {d mc ms : Nat} {R : PR} (hd : 1 ≤ d) (H : R none h) : Wp m_M_passesWord 0 [some (xR m)] [] h d mc ms R := by
  apply f_M_passesWord_0
  refine ⟨⟨hd, c.tag⟩, sp_goesWell c e (fun v ee => ?_)⟩
  have ev := xI_inj ee
  rw [if_neg hf] at ev
  rw [if_pos ev]; exact H
theorem sp_passes {h : Hp} {m : Nat} {b : Nat → Nat} {n : Nat} (c : MB h m b n) (e11 : hpC h m 11 = 0) {e : Nat} (e9 : hpC h m 9 = (e : Int)) (he : e ≤ n) {d mc ms : Nat} {R : PR} (hd : 2 ≤ d) (H1 : kS b n e = 1 → ∀ h', FrP (fun q p => q = m ∧ (p = 9 ∨ p = 10)) h h' → hpC h' m 9 = (tE b n e : Int) → hpC h' m 10 = (tS b n e : Int) → R none h') (H0 : kS b n e ≠ 1 → ∀ h', FrP (Smr m) h h' → hpC h' m 11 = 1 → hpC h' m 12 = (tS b n e : Int) → R none h') : Wp m_M_passesWord 0 [some (xR m)] [] h d mc ms R := by
  have hn := c.2.1.2.1
  have S1 := (tS_spec b n e).1.2 he
  have E0 := tE_spec b n e he
  apply f_M_passesWord_0
  refine ⟨⟨by omega, c.tag⟩, sp_goesWell c e11 (fun v ee => ?_)⟩
  have ev := xI_inj ee
  clear ee
  rw [if_pos rfl] at ev
  rw [if_neg (by omega)]
  refine ⟨⟨by omega, c.tag⟩, sp_here c e9 he (by omega) (fun g f q9 v2 ee => ?_)⟩
  clear ee
  have F : FrP (Smr m) h g := f.wk (fun q p z => Or.inl ⟨z.1, Or.inl z.2⟩)
  have cg := c.fr F
  have g11 : hpC g m 11 = 0 := by rw [f.2.2 _ _ (by omega)]; exact e11
  have bad : kS b n e ≠ 1 → ∀ (RR : PR), (RR = fun rv h4 => rv = none → R none h4) → (hpT g m).1 = 12 ∧ ((1 ≤ d ∧ (hpT g m).1 = 12) ∧ Wp m_M_faults 0 [some (xR m), some (xI (1 : Int)), some (xI (hpC g m 9))] [] g (d - 1) 0 0 RR) := fun k RR eR => by
    subst eR
    exact ⟨cg.tag, ⟨by omega, cg.tag⟩, sp_faultsG cg g11 (fun g2 f2 a1 a2 _ _ => H0 k g2 (F.tr f2) a1 (by rw [a2]; exact q9))⟩
  rw [q9]
  refine ⟨cg.tag, ⟨by omega, cg.tag⟩, sp_isSmall cg.1 cg.2.1 (by omega) (fun sm v3 ee => ?_) (fun sm v3 ee => ?_)⟩
  · cases ee
    have hR : tR b n e = 1 := kdT_al.2 (smT_al.1 sm)
    rw [if_neg (by decide), q9, ai_sub_eq (by omega) (by omega)]
    refine ⟨cg.tag, ⟨by omega, cg.tag⟩, sp_isSmall cg.1 cg.2.1 (by omega) (fun s2 v5 ee => ?_) (fun s2 v5 ee => ?_)⟩
    · cases ee
      rw [if_neg (by decide)]
      exact bad (fun z => (kS_1.1 z).2 ((kS_touch (Or.inl hR)).2 (Or.inl s2))) _ rfl
    · cases ee
      rw [if_pos rfl, q9, ai_sub_eq (by omega) (by omega)]
      refine ⟨cg.tag, ⟨by omega, cg.tag⟩, sp_isDigit cg (by omega) (fun s3 v7 ee => ?_) (fun s3 v7 ee => ?_)⟩
      · cases ee
        rw [if_neg (by decide)]
        exact bad (fun z => (kS_1.1 z).2 ((kS_touch (Or.inl hR)).2 (Or.inr s3))) _ rfl
      · cases ee
        rw [if_pos rfl]
        have k1 : kS b n e = 1 := kS_1.2 ⟨hR, fun z => ((kS_touch (Or.inl hR)).1 z).elim s2 s3⟩
        have H1 := H1 k1
        refine ⟨cg.tag, cg.tag, fun g1 e1 => ?_⟩
        have f1 : FrP (fun q p => q = m ∧ (p = 9 ∨ p = 10)) h g1 := (f.wk (fun q p z => ⟨z.1, Or.inl z.2⟩)).tr (by subst e1; exact FrP.up ⟨rfl, Or.inr rfl⟩)
        have y9 : hpC g1 m 9 = (tS b n e : Int) := by subst e1; rw [hpC_o2 (by decide)]; exact q9
        have y10 : hpC g1 m 10 = (tS b n e : Int) := by subst e1; rw [hpC_same]; exact q9
        clear e1
        have inn : ∀ i, tS b n e ≤ i → i < tE b n e → alP b n i = true := fun i h1 h2 => by
          unfold tE at h2; rw [if_pos hR] at h2
          exact (ruN_spec alP_lt (tS b n e)).2.1 i h1 h2
        have out : alP b n (tE b n e) ≠ true := by unfold tE; rw [if_pos hR]; exact (ruN_spec alP_lt (tS b n e)).2.2
        have L : ∀ (j a : Nat) (g : Hp), a + j = tE b n e → tS b n e ≤ a → FrP (fun q p => q = m ∧ (p = 9 ∨ p = 10)) h g → hpC g m 9 = (a : Int) → hpC g m 10 = (tS b n e : Int) → Wp m_M_passesWord 68 [some (xR m)] [] g d mc ms R := by
          intro j
          induction j with
          | zero =>
            intro a g ha h1 f q9 q10
            have cg := c.fr (f.wk (fun q p z => Or.inl ⟨z.1, by omega⟩))
            apply f_M_passesWord_68
            rw [q9]
            refine ⟨cg.tag, ⟨by omega, cg.tag⟩, sp_isSmall cg.1 cg.2.1 (by omega) (fun sm v ee => ?_) (fun sm v ee => ?_)⟩
            · exact absurd (smT_al.1 sm) (by rw [show a = tE b n e by omega]; exact out)
            · cases ee
              rw [if_pos rfl]
              exact H1 g f (by rw [q9]; omega) q10
          | succ j ih =>
            intro a g ha h1 f q9 q10
            have cg := c.fr (f.wk (fun q p z => Or.inl ⟨z.1, by omega⟩))
            apply f_M_passesWord_68
            rw [q9]
            refine ⟨cg.tag, ⟨by omega, cg.tag⟩, sp_isSmall cg.1 cg.2.1 (by omega) (fun sm v ee => ?_) (fun sm v ee => ?_)⟩
            · cases ee
              rw [if_neg (by decide), q9, ab_1 (by omega)]
              refine ⟨cg.tag, cg.tag, fun g1 e1 => ?_⟩
              exact ih (a + 1) g1 (by omega) (by omega) (f.tr (by subst e1; exact FrP.up ⟨rfl, Or.inl rfl⟩)) (by subst e1; rw [hpC_same]) (by subst e1; rw [hpC_o2 (by decide)]; exact q10)
            · exact absurd (smT_al.2 (inn a h1 (by omega))) sm
        exact L (tE b n e - tS b n e) (tS b n e) g1 (by omega) (Nat.le_refl _) f1 y9 y10
  · cases ee
    rw [if_pos rfl]
    exact bad (fun z => sm (smT_al.2 (kdT_al.1 (kS_1.1 z).1))) _ rfl
