/-! ===== the reference looks names up in the draft ===== -/
def DR (h : Hp) (m : Nat) (D : Nat → Int) : Prop := ∀ p, p < 1010 → hpC h (m + 1) (1010 + p) = D p
def wS (b : Nat → Nat) (n e : Nat) : Nat := pkL (tL b n e)
def tV (b : Nat → Nat) (n e : Nat) : Nat → Int := tvW b (tS b n e) (tE b n e - tS b n e)
theorem tV_ok {b : Nat → Nat} {n e : Nat} (he : e ≤ n) (h : nmS b n e) : okName (tV b n e) 0 ∧ wordW (tV b n e) 0 = wS b n e := by
  have hR := (kS_1.1 h.1).1
  have al := tL_al hR
  have E0 := (tE_spec b n e he).2.2 (by omega)
  exact ⟨tvW_ok (by omega) h.2.1 al, tvW_word h.2.1 al⟩
theorem sp_isHere {h : Hp} {m : Nat} {b : Nat → Nat} {n : Nat} (c : MB h m b n) {e : Nat} (he : e ≤ n) (hN : nmS b n e) (e9 : hpC h m 9 = (tE b n e : Int)) (e10 : hpC h m 10 = (tS b n e : Int)) {D : Nat → Int} (hD : DR h m D) {o : Nat} (ho : o + 10 ≤ 1010) (hO : okName D o) {d mc ms : Nat} {R : PR} {o2 o3 : Option AV} (H : R (some (xI (if wordW D o = wS b n e then 1 else 0))) h) : Wp m_M_isHere 0 [some (xR m), some (xI ((1010 + o : Nat) : Int)), o2, o3] [] h d mc ms R := by
  have hn := c.2.1.2.1
  obtain ⟨t1, t2⟩ := tV_ok he hN
  have E0 := tE_spec b n e he
  have al := tL_al (kS_1.1 hN.1).1
  rw [← t2] at H
  have L : ∀ (j i : Nat) (o3 : Option AV), i + j = 10 → (∀ q, q < i → D (o + q) = tV b n e (0 + q)) → Wp m_M_isHere 2 [some (xR m), some (xI ((1010 + o : Nat) : Int)), some (xI (i : Int)), o3] [] h d mc ms R := by
    intro j
    induction j with
    | zero =>
      intro i o3 hi q
      apply f_M_isHere_2
      rw [if_neg (by omega)]
      rw [if_pos ((wordW_inj hO t1).mpr (fun i2 h2 => q i2 (by omega)))] at H
      exact ⟨by simp, H⟩
    | succ j ih =>
      intro i o3 hi q
      have nq : ∀ x : Int, ¬ D (o + i) = tV b n e (0 + i) → R (some (xI 0)) h := fun _ z => by
        rw [if_neg (fun y => z ((wordW_inj hO t1).mp y i (by omega)))] at H; exact H
      have yq : D (o + i) = tV b n e (0 + i) → ∀ o3, Wp m_M_isHere 2 [some (xR m), some (xI ((1010 + o : Nat) : Int)), some (xI ((i + 1 : Nat) : Int)), o3] [] h d mc ms R := fun z o3 => ih (i + 1) o3 (by omega) (fun q2 h2 => by
        by_cases e : q2 = i
        · rw [e]; exact z
        · exact q q2 (by omega))
      have hd := hD (o + i) (by omega)
      rw [← Nat.add_assoc] at hd
      apply f_M_isHere_2
      rw [if_pos (by omega), e9, e10, ai_add_nn (by omega), ai_add_nn (by omega), ab_1 (by omega), Int.toNat_natCast, Int.toNat_natCast, c.1.row_n, c.1.row_t, c.1.tape_n, c.1.tape_t, hd]
      refine ⟨c.tag, c.tag, ?_⟩
      by_cases z : tS b n e + i < tE b n e
      · have li := al i (by omega)
        have tv : tV b n e (0 + i) = (b (tS b n e + i) : Int) - 96 := by unfold tV tvW; rw [if_pos (by omega), Nat.zero_add]
        rw [if_pos (by omega), (c.2.1.2.2 _ li.1).1, ai_sub_eq (by omega) (by omega)]
        refine ⟨c.tag, c.tag, ⟨rfl, by omega, by show ((tS b n e + i : Nat) : Int) < 2000; omega⟩, c.tag, ⟨rfl, by omega, by show ((1010 + o + i : Nat) : Int) < 24240; omega⟩, ?_⟩
        by_cases y : D (o + i) = (b (tS b n e + i) : Int) - 96
        · rw [if_pos y]; exact yq (by rw [tv]; exact y) _
        · rw [if_neg y]; exact ⟨by simp, nq 0 (by rw [tv]; exact y)⟩
      · have tv : tV b n e (0 + i) = 0 := by unfold tV tvW; rw [if_neg (by omega)]
        rw [if_neg (by omega)]
        refine ⟨c.tag, ⟨rfl, by omega, by show ((1010 + o + i : Nat) : Int) < 24240; omega⟩, ?_⟩
        by_cases y : D (o + i) = 0
        · rw [if_pos y]; exact yq (by rw [tv]; exact y) _
        · rw [if_neg y]; exact ⟨by simp, nq 0 (by rw [tv]; exact y)⟩
  apply f_M_isHere_0
  exact L 10 0 _ (by omega) (fun q hq => by omega)
theorem sp_mfound {h : Hp} {m : Nat} {b : Nat → Nat} {n : Nat} (c : MB h m b n) {e : Nat} (he : e ≤ n) (hN : nmS b n e) (e9 : hpC h m 9 = (tE b n e : Int)) (e10 : hpC h m 10 = (tS b n e : Int)) {D : Nat → Int} (hD : DR h m D) {o : Nat} {k : Int} (hk : 0 ≤ k ∧ k ≤ 30) (ho : o + 10 * k.toNat ≤ 1010) (hO : ∀ i : Nat, (i : Int) < k → okName D (o + 10 * i)) {d mc ms : Nat} {R : PR} (hd : 1 ≤ d) {o4 : Option AV} (H : R (some (xI (plW D o k (wS b n e)))) h) : Wp m_M_found 0 [some (xR m), some (xI 1010), some (xI (o : Int)), some (xI k), o4] [] h d mc ms R := by
  unfold plW at H
  have L : ∀ (j i : Nat), ((i + j : Nat) : Int) = k → R (some (xI (fst1 (fun a => decide (wordW D (o + 10 * a) = wS b n e)) j i))) h → Wp m_M_found 3 [some (xR m), some (xI 1010), some (xI (o : Int)), some (xI k), some (xI (i : Int))] [] h d mc ms R := by
    intro j
    induction j with
    | zero =>
      intro i hi H
      apply f_M_found_3
      rw [if_neg (by omega)]
      exact H
    | succ j ih =>
      intro i hi H
      simp only [fst1, decide_eq_true_eq] at H
      apply f_M_found_3
      rw [if_pos (by omega), am_10 (by omega), aa_1010 (by omega), ai_add_nn (by omega), ab_1 (by omega), Nat.add_assoc 1010]
      refine ⟨⟨hd, c.tag⟩, sp_isHere c he hN e9 e10 hD (by omega) (hO i (by omega)) (fun v ee => ?_)⟩
      have ev := xI_inj ee
      clear ee
      by_cases z : wordW D (o + 10 * i) = wS b n e
      · rw [if_pos z] at ev H
        rw [if_neg (by omega)]; exact H
      · rw [if_neg z] at ev H
        rw [if_pos ev]; exact ih (i + 1) (by omega) H
  apply f_M_found_0
  exact L k.toNat 0 (by omega) H
/-- the draft knows the name -/
abbrev toS (D : Nat → Int) (W : Nat) : Prop := plW D 60 (D 6) W ≠ -1 ∨ plW D 180 (D 7) W ≠ -1 ∨ plW D 650 (D 8) W ≠ -1
theorem sp_misTold {h : Hp} {m : Nat} {b : Nat → Nat} {n : Nat} (c : MB h m b n) {e : Nat} (he : e ≤ n) (hN : nmS b n e) (e9 : hpC h m 9 = (tE b n e : Int)) (e10 : hpC h m 10 = (tS b n e : Int)) {D : Nat → Int} (hD : DR h m D) (hV : V D) {d mc ms : Nat} {R : PR} (hd : 2 ≤ d) (H1 : toS D (wS b n e) → R (some (xI 1)) h) (H0 : ¬ toS D (wS b n e) → R (some (xI 0)) h) : Wp m_M_isTold 0 [some (xR m)] [] h d mc ms R := by
  obtain ⟨⟨_, _, _, _, _, _, v6, v7, v8, _⟩, _, _, w3, w4, w5, _⟩ := hV
  unfold toS at H1 H0
  have t16 : Int.toNat (1016 : Int) = 1010 + 6 := rfl
  have t17 : Int.toNat (1017 : Int) = 1010 + 7 := rfl
  have t18 : Int.toNat (1018 : Int) = 1010 + 8 := rfl
  apply f_M_isTold_0
  rw [c.1.row_n, c.1.row_t, t16, t17, t18, hD 6 (by omega)]
  refine ⟨c.tag, ⟨rfl, by omega, by decide⟩, ⟨by omega, c.tag⟩, sp_mfound (o := 60) c he hN e9 e10 hD (by omega) (by omega) w3 (by omega) (fun v ee => ?_)⟩
  have ev := xI_inj ee
  clear ee
  by_cases z : v = -1
  · rw [if_pos z, c.1.row_n, c.1.row_t, hD 7 (by omega)]
    refine ⟨c.tag, ⟨rfl, by omega, by decide⟩, ⟨by omega, c.tag⟩, sp_mfound (o := 180) c he hN e9 e10 hD (by omega) (by omega) w4 (by omega) (fun v2 ee => ?_)⟩
    have ev2 := xI_inj ee
    clear ee
    by_cases z2 : v2 = -1
    · rw [if_pos z2, c.1.row_n, c.1.row_t, hD 8 (by omega)]
      refine ⟨c.tag, ⟨rfl, by omega, by decide⟩, ⟨by omega, c.tag⟩, sp_mfound (o := 650) c he hN e9 e10 hD (by omega) (by omega) w5 (by omega) (fun v3 ee => ?_)⟩
      have ev3 := xI_inj ee
      clear ee
      by_cases z3 : v3 = -1
      · rw [if_pos z3]; exact ⟨by simp, H0 (by omega)⟩
      · rw [if_neg z3]; exact ⟨by simp, H1 (by omega)⟩
    · rw [if_neg z2]; exact ⟨by simp, H1 (by omega)⟩
  · rw [if_neg z]; exact ⟨by simp, H1 (by omega)⟩
/-- what a name that must be new, or a street's, says: 0 or the fault -/
theorem sp_mfreshN {h : Hp} {m : Nat} {b : Nat → Nat} {n : Nat} (c : MB h m b n) {f : Int} (e : hpC h m 11 = f) (hf : f ≠ 0) {d mc ms : Nat} {R : PR} (hd : 3 ≤ d) (H : R none h) : Wp m_M_fresh 0 [some (xR m)] [] h d mc ms R := by
  apply f_M_fresh_0
  refine ⟨⟨by omega, c.tag⟩, sp_mnameN c e hf (by omega) (fun _ => ?_)⟩
  refine ⟨⟨by omega, c.tag⟩, sp_goesWell c e (fun v ee => ?_)⟩
  have ev := xI_inj ee
  rw [if_neg hf] at ev
  rw [if_pos ev]; exact H
theorem DR.fr {h h' : Hp} {m : Nat} {D : Nat → Int} {S : Nat → Nat → Prop} (a : DR h m D) (f : FrP S h h') (hS : ∀ p, ¬ S (m + 1) p) : DR h' m D := fun p hp => by rw [f.2.2 _ _ (hS _)]; exact a p hp
theorem F910_row {m : Nat} : ∀ p, ¬ F910 m (m + 1) p := fun p z => by unfold F910 at z; omega
theorem sp_mfresh {h : Hp} {m : Nat} {b : Nat → Nat} {n : Nat} (c : MB h m b n) (e11 : hpC h m 11 = 0) {e : Nat} (e9 : hpC h m 9 = (e : Int)) (he : e ≤ n) {D : Nat → Int} (hD : DR h m D) (hV : V D) {d mc ms : Nat} {R : PR} (hd : 4 ≤ d) (H1 : nmS b n e → ¬ toS D (wS b n e) → ∀ h', FrP (F910 m) h h' → hpC h' m 9 = (tE b n e : Int) → hpC h' m 10 = (tS b n e : Int) → R none h') (H3 : nmS b n e → toS D (wS b n e) → ∀ h', FrP (Smr m) h h' → hpC h' m 11 = 3 → hpC h' m 12 = (tS b n e : Int) → R none h') (H0 : ¬ nmS b n e → ∀ h', FrP (Smr m) h h' → hpC h' m 11 = 1 → hpC h' m 12 = (tS b n e : Int) → R none h') : Wp m_M_fresh 0 [some (xR m)] [] h d mc ms R := by
  apply f_M_fresh_0
  refine ⟨⟨by omega, c.tag⟩, sp_mname c e11 e9 he (by omega) (fun k1 g f q9 q10 _ => ?_) (fun k1 g f q11 q12 _ => ?_)⟩
  · have cg := c.fr (F910_mr f)
    have g11 : hpC g m 11 = 0 := by rw [FrP.c910 f (by omega)]; exact e11
    refine ⟨⟨by omega, cg.tag⟩, sp_goesWell cg g11 (fun v ee => ?_)⟩
    have ev := xI_inj ee
    clear ee
    rw [if_pos rfl] at ev
    rw [if_neg (by omega)]
    refine ⟨⟨by omega, cg.tag⟩, sp_misTold cg he k1 q9 q10 (hD.fr f F910_row) hV (by omega) (fun z v ee => ?_) (fun z v ee => ?_)⟩
    · cases ee
      rw [if_neg (by decide)]
      exact ⟨cg.tag, ⟨by omega, cg.tag⟩, sp_faultsG cg g11 (fun g2 f2 a1 a2 _ _ => H3 k1 z g2 ((F910_mr f).tr f2) a1 (by rw [a2]; exact q10))⟩
    · cases ee
      rw [if_pos rfl]; exact H1 k1 z g f q9 q10
  · have cg := c.fr f
    refine ⟨⟨by omega, cg.tag⟩, sp_goesWell cg q11 (fun v ee => ?_)⟩
    have ev := xI_inj ee
    rw [if_neg (by decide)] at ev
    rw [if_pos ev]; exact H0 k1 g f q11 q12
theorem sp_mstreetN {h : Hp} {m : Nat} {b : Nat → Nat} {n : Nat} (c : MB h m b n) {f : Int} (e : hpC h m 11 = f) (hf : f ≠ 0) {d mc ms : Nat} {R : PR} (hd : 3 ≤ d) {o1 : Option AV} (H : R (some (xI (-1))) h) : Wp m_M_street 0 [some (xR m), o1] [] h d mc ms R := by
  apply f_M_street_0
  refine ⟨⟨by omega, c.tag⟩, sp_mnameN c e hf (by omega) (fun _ => ?_)⟩
  refine ⟨⟨by omega, c.tag⟩, sp_goesWell c e (fun v ee => ?_)⟩
  have ev := xI_inj ee
  clear ee
  rw [if_neg hf] at ev
  rw [if_pos ev]
  apply f_M_street_33
  refine ⟨⟨by omega, c.tag⟩, sp_goesWell c e (fun v ee => ?_)⟩
  have ev := xI_inj ee
  clear ee
  rw [if_neg hf] at ev
  rw [if_pos ev]; exact H
theorem sp_mstreet {h : Hp} {m : Nat} {b : Nat → Nat} {n : Nat} (c : MB h m b n) (e11 : hpC h m 11 = 0) {e : Nat} (e9 : hpC h m 9 = (e : Int)) (he : e ≤ n) {D : Nat → Int} (hD : DR h m D) (hV : V D) {d mc ms : Nat} {R : PR} (hd : 4 ≤ d) {o1 : Option AV} (H1 : nmS b n e → plW D 180 (D 7) (wS b n e) ≠ -1 → ∀ h', FrP (F910 m) h h' → hpC h' m 9 = (tE b n e : Int) → hpC h' m 10 = (tS b n e : Int) → R (some (xI (plW D 180 (D 7) (wS b n e)))) h') (H3 : nmS b n e → plW D 180 (D 7) (wS b n e) = -1 → ∀ h', FrP (Smr m) h h' → hpC h' m 11 = 3 → hpC h' m 12 = (tS b n e : Int) → R (some (xI (-1))) h') (H0 : ¬ nmS b n e → ∀ h', FrP (Smr m) h h' → hpC h' m 11 = 1 → hpC h' m 12 = (tS b n e : Int) → R (some (xI (-1))) h') : Wp m_M_street 0 [some (xR m), o1] [] h d mc ms R := by
  apply f_M_street_0
  refine ⟨⟨by omega, c.tag⟩, sp_mname c e11 e9 he (by omega) (fun k1 g f q9 q10 _ => ?_) (fun k1 g f q11 q12 _ => ?_)⟩
  · have cg := c.fr (F910_mr f)
    have g11 : hpC g m 11 = 0 := by rw [FrP.c910 f (by omega)]; exact e11
    have dg := hD.fr f F910_row
    refine ⟨⟨by omega, cg.tag⟩, sp_goesWell cg g11 (fun v ee => ?_)⟩
    have ev := xI_inj ee
    clear ee
    rw [if_pos rfl] at ev
    rw [if_neg (by omega), cg.1.row_n, cg.1.row_t, show Int.toNat (1017 : Int) = 1010 + 7 from rfl, dg 7 (by omega)]
    have v7 := hV.1.2.2.2.2.2.2.2.1
    refine ⟨cg.tag, ⟨rfl, by omega, by decide⟩, ⟨by omega, cg.tag⟩, sp_mfound (o := 180) cg he k1 q9 q10 dg (by omega) (by omega) hV.2.2.2.2.1 (by omega) (fun v3 ee => ?_)⟩
    have ev3 := xI_inj ee
    clear ee
    apply f_M_street_33
    refine ⟨⟨by omega, cg.tag⟩, sp_goesWell cg g11 (fun v ee => ?_)⟩
    have ev := xI_inj ee
    clear ee
    rw [if_pos rfl] at ev
    rw [if_neg (by omega)]
    by_cases z : v3 = -1
    · rw [if_pos z]
      refine ⟨cg.tag, ⟨by omega, cg.tag⟩, sp_faultsG cg g11 (fun g2 f2 a1 a2 _ _ => ?_)⟩
      rw [z]
      exact H3 k1 (by omega) g2 ((F910_mr f).tr f2) a1 (by rw [a2]; exact q10)
    · rw [if_neg z]
      have := H1 k1 (by omega) g f q9 q10
      rw [← ev3] at this
      exact this
  · have cg := c.fr f
    refine ⟨⟨by omega, cg.tag⟩, sp_goesWell cg q11 (fun v ee => ?_)⟩
    have ev := xI_inj ee
    clear ee
    rw [if_neg (by decide)] at ev
    rw [if_pos ev]
    apply f_M_street_33
    refine ⟨⟨by omega, cg.tag⟩, sp_goesWell cg q11 (fun v ee => ?_)⟩
    have ev := xI_inj ee
    clear ee
    rw [if_neg (by decide)] at ev
    rw [if_pos ev]; exact H0 k1 g f q11 q12
