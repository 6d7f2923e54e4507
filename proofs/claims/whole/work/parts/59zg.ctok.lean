/-! ===== the class's Reader at a sign ===== -/
def Scr2 (x : Nat) : Nat → Nat → Prop := fun q p => (q = x + 4 ∧ (p = 1 ∨ p = 2 ∨ (4 ≤ p ∧ p ≤ 9))) ∨ SD (x + 5) q p
theorem Srd_2 {h h' : Hp} {x : Nat} (f : FrP (Srd x) h h') : FrP (Scr2 x) h h' := f.wk (fun q p z => Or.inl ⟨z.1, by have := z.2; omega⟩)
theorem SD_2 {h h' : Hp} {x : Nat} (f : FrP (SD (x + 5)) h h') : FrP (Scr2 x) h h' := f.wk (fun q p z => Or.inr z)
theorem Scr2_no {x q p : Nat} (h : q < x + 4 ∨ x + 28 ≤ q ∨ (q = x + 4 ∧ (p = 0 ∨ p = 3))) : ¬ Scr2 x q p := by unfold Scr2 SD; omega
theorem rd2.f2 {h h' : Hp} {x : Nat} (r : rd2 h x) (f : FrP (Scr2 x) h h') : rd2 h' x := r.fr f (Scr2_no (by omega)) (Scr2_no (by omega))
theorem TPc.f2 {h h' : Hp} {x : Nat} {b : Nat → Nat} {n : Nat} (t : TPc h x b n) (f : FrP (Scr2 x) h h') : TPc h' x b n := t.fp f (fun q p h1 h2 => Scr2_no (by omega))
theorem townAt.f2 {h h' : Hp} {x : Nat} (a : townAt h (x + 5)) (f : FrP (Scr2 x) h h') : townAt h' (x + 5) := by
  refine a.fr f ?_ ?_ ?_ ?_ ?_ ?_ ?_ (a.rules_a.fr f ?_ ?_ ?_ ?_ ?_) (a.streets_a.fr f ?_ ?_) (a.pool_a.fr f ?_ ?_) (a.aliases_a.fr f ?_ ?_) (a.homes_a.fr f ?_ ?_ ?_ ?_) <;> (intro z; unfold Scr2 SD at z; omega)
def CB (h : Hp) (x : Nat) (b : Nat → Nat) (n e : Nat) : Prop := rd2 h x ∧ TPc h x b n ∧ TKc h x b n (lgT b n e) e ∧ e ≤ n ∧ townAt h (x + 5)
def CF (h : Hp) (x : Nat) (b : Nat → Nat) (n : Nat) (f : Int) (p : Nat) : Prop := rd2 h x ∧ TPc h x b n ∧ townAt h (x + 5) ∧ (∃ s0 z0 : Nat, hpC h (x + 4) 5 = (s0 : Int) ∧ hpC h (x + 4) 6 = (z0 : Int) ∧ s0 + z0 ≤ n) ∧ f ≠ 0 ∧ hpC h (x + 4) 1 = f ∧ hpC h (x + 4) 2 = (p : Int)
theorem CB.tag {h : Hp} {x : Nat} {b : Nat → Nat} {n e : Nat} (c : CB h x b n e) : (hpT h (x + 4)).1 = 7 := c.1.1
theorem CB.le {h : Hp} {x : Nat} {b : Nat → Nat} {n e : Nat} (c : CB h x b n e) : e ≤ n := c.2.2.2.1
theorem CB.town {h : Hp} {x : Nat} {b : Nat → Nat} {n e : Nat} (c : CB h x b n e) : townAt h (x + 5) := c.2.2.2.2
theorem CB.k {h : Hp} {x : Nat} {b : Nat → Nat} {n e : Nat} (c : CB h x b n e) : hpC h (x + 4) 4 = kS b n e := c.2.2.1.1
theorem CB.s {h : Hp} {x : Nat} {b : Nat → Nat} {n e : Nat} (c : CB h x b n e) : hpC h (x + 4) 5 = (tS b n e : Int) := c.2.2.1.2.1
theorem CB.z {h : Hp} {x : Nat} {b : Nat → Nat} {n e : Nat} (c : CB h x b n e) : hpC h (x + 4) 6 = ((tE b n e - tS b n e : Nat) : Int) := c.2.2.1.2.2.1
theorem CB.o {h : Hp} {x : Nat} {b : Nat → Nat} {n e : Nat} (c : CB h x b n e) : hpC h (x + 4) 8 = oS b n e := c.2.2.1.2.2.2.2
/-- frames that leave the sign as it is -/
theorem CB.fr {h : Hp} {x : Nat} {b : Nat → Nat} {n e : Nat} (c : CB h x b n e) {h' : Hp} (f : FrP (Scr2 x) h h') (k : ∀ p, 4 ≤ p → p ≤ 8 → hpC h' (x + 4) p = hpC h (x + 4) p) : CB h' x b n e := ⟨c.1.f2 f, c.2.1.f2 f, ⟨by rw [k 4 (by omega) (by omega)]; exact c.2.2.1.1, by rw [k 5 (by omega) (by omega)]; exact c.2.2.1.2.1, by rw [k 6 (by omega) (by omega)]; exact c.2.2.1.2.2.1, by rw [k 7 (by omega) (by omega)]; exact c.2.2.1.2.2.2.1, by rw [k 8 (by omega) (by omega)]; exact c.2.2.1.2.2.2.2⟩, c.le, c.town.f2 f⟩
theorem sp_fails {h : Hp} {x : Nat} {b : Nat → Nat} {n e : Nat} (c : CB h x b n e) {f : Int} (hf : f ≠ 0) {d mc ms : Nat} {R : PR} (H : ∀ h', FrP (Scr2 x) h h' → CF h' x b n f (tS b n e) → R (some (xI 0)) h') : Wp m_Reader_fails 0 [some (xR (x + 4)), some (xI f)] [] h d mc ms R := by
  have E0 := tE_spec b n e c.le
  apply f_Reader_fails_0
  refine ⟨c.tag, fun g1 e1 => ?_⟩
  have f1 : FrP (Scr2 x) h g1 := by subst e1; exact FrP.up (Or.inl ⟨rfl, by omega⟩)
  have o1 : ∀ p, p ≠ 1 → hpC g1 (x + 4) p = hpC h (x + 4) p := fun p hp => by subst e1; exact hpC_o2 hp
  have c1 := c.fr f1 (fun p h1 h2 => o1 p (by omega))
  refine ⟨c1.tag, c1.tag, fun g2 e2 => ⟨by simp, ?_⟩⟩
  have f2 : FrP (Scr2 x) g1 g2 := by subst e2; exact FrP.up (Or.inl ⟨rfl, by omega⟩)
  have o2 : ∀ p, p ≠ 2 → hpC g2 (x + 4) p = hpC g1 (x + 4) p := fun p hp => by subst e2; exact hpC_o2 hp
  have c2 := c1.fr f2 (fun p h1 h2 => o2 p (by omega))
  refine H g2 (f1.tr f2) ⟨c2.1, c2.2.1, c2.town, ⟨_, _, c2.s, c2.z, by omega⟩, hf, by rw [o2 _ (by decide)]; subst e1; rw [hpC_same], by subst e2; rw [hpC_same]; exact c1.s⟩
theorem sp_failsA {h : Hp} {x : Nat} {b : Nat → Nat} {n e : Nat} (c : CB h x b n e) {f : Int} (hf : f ≠ 0) {d : Nat} {R : PR} (hd : 1 ≤ d) (H : ∀ h', FrP (Scr2 x) h h' → CF h' x b n f (tS b n e) → R (some (xI 0)) h') : ((1 ≤ d ∧ (hpT h (x + 4)).1 = 7) ∧ Wp m_Reader_fails 0 [some (xR (x + 4)), some (xI f)] [] h (d - 1) 0 0 (fun rv h2 => ∀ v2 : Int, rv = some (xI v2) → (if v2 = (0 : Int) then (((0 : Int) = 0 ∨ (0 : Int) = 1) ∧ R (some (xI (0 : Int))) h2) else (((1 : Int) = 0 ∨ (1 : Int) = 1) ∧ R (some (xI (1 : Int))) h2)))) :=
  ⟨⟨hd, c.tag⟩, sp_fails c hf (fun h' f k v ee => by have ev := xI_inj ee; rw [if_pos ev]; exact ⟨by simp, H h' f k⟩)⟩
theorem sp_failsB {h : Hp} {x : Nat} {b : Nat → Nat} {n e : Nat} (c : CB h x b n e) {f : Int} (hf : f ≠ 0) {d : Nat} {R : PR} (hd : 1 ≤ d) (H : ∀ h', FrP (Scr2 x) h h' → CF h' x b n f (tS b n e) → R (some (xI 0)) h') : ((1 ≤ d ∧ (hpT h (x + 4)).1 = 7) ∧ Wp m_Reader_fails 0 [some (xR (x + 4)), some (xI f)] [] h (d - 1) 0 0 (fun rv h2 => ∀ v2 : Int, rv = some (xI v2) → ((v2 = 0 ∨ v2 = 1) ∧ R (some (xI v2)) h2))) :=
  ⟨⟨hd, c.tag⟩, sp_fails c hf (fun h' f k v ee => by have ev := xI_inj ee; rw [ev]; exact ⟨by simp, H h' f k⟩)⟩
theorem lgT_next {b : Nat → Nat} {n e : Nat} (he : e ≤ n) (hk : kS b n e = 1 ∨ kS b n e = 2 ∨ kS b n e = 3) : decide (kS b n e = 1 ∨ kS b n e = 2) = lgT b n (tE b n e) := by
  have E0 := tE_spec b n e he
  rcases hk with k | k | k
  · have r := (kS_1.1 k).1
    have E1 := E0.2.2 (by omega)
    have al := tL_al r (tE b n e - 1 - tS b n e) (by omega)
    rw [show tS b n e + (tE b n e - 1 - tS b n e) = tE b n e - 1 by omega] at al
    rw [decide_eq_true (Or.inl k)]
    unfold lgT
    rw [show alP b n (tE b n e - 1) = true from decide_eq_true al, decide_eq_true (show 0 < tE b n e by omega)]; rfl
  · have r := (kS_2.1 k).1
    have E1 := E0.2.2 (by omega)
    have dg := (tD_dg r).1 (tE b n e - 1) (by omega) (by omega)
    rw [decide_eq_true (Or.inr k)]
    unfold lgT
    rw [show dgP b n (tE b n e - 1) = true from decide_eq_true dg, decide_eq_true (show 0 < tE b n e by omega), Bool.or_true]; rfl
  · have r := kS_3.1 k
    have st := kdT_stop.1 r
    have eE : tE b n e = tS b n e + 1 := by unfold tE; rw [if_neg (by omega), if_neg (by omega), if_neg (by omega)]
    rw [decide_eq_false (by omega), eE]
    unfold lgT
    rw [Nat.add_sub_cancel]
    rw [show alP b n (tS b n e) = false from decide_eq_false (by omega), show dgP b n (tS b n e) = false from decide_eq_false (by omega)]
    simp
theorem sp_stp {h : Hp} {x : Nat} {b : Nat → Nat} {n e : Nat} (c : CB h x b n e) (hk : kS b n e = 1 ∨ kS b n e = 2 ∨ kS b n e = 3) {d mc ms : Nat} {R : PR} (hd : 2 ≤ d) {o1 o2 : Option AV} (H : ∀ h', FrP (Srd x) h h' → CB h' x b n (tE b n e) → R none h') : Wp m_Reader_step 0 [some (xR (x + 4)), o1, o2] [] h d mc ms R := by
  have E0 := tE_spec b n e c.le
  refine sp_step c.1 c.2.1 c.k c.s c.z (by omega) hd (fun h' f t => ?_)
  rw [lgT_next c.le hk, show tS b n e + (tE b n e - tS b n e) = tE b n e by omega] at t
  exact H h' f ⟨c.1.f2 (Srd_2 f), c.2.1.f2 (Srd_2 f), t, E0.2.1, c.town.f2 (Srd_2 f)⟩
theorem sp_isFirst {h : Hp} {x : Nat} {b : Nat → Nat} {n e : Nat} (c : CB h x b n e) {T i : Nat} (e9 : hpC h (x + 4) 9 = (T : Int)) (hT : T < 65536) (hi : i < 16) (e8 : oS b n e = (i : Int)) {d mc ms : Nat} {R : PR} (hd : 1 ≤ d) (H1 : T.testBit i ≠ true → ∀ h', FrP (fun q p => q = x + 4 ∧ p = 9) h h' → hpC h' (x + 4) 9 = ((T ||| 2 ^ i : Nat) : Int) → R (some (xI 1)) h') (H0 : T.testBit i = true → ∀ h', FrP (Scr2 x) h h' → CF h' x b n 1 (tS b n e) → R (some (xI 0)) h') : Wp m_Reader_isFirst 0 [some (xR (x + 4))] [] h d mc ms R := by
  have pb : 2 ^ i < 2 ^ 16 := Nat.pow_lt_pow_right (by decide) hi
  have o8 := c.o
  rw [e8] at o8
  apply f_Reader_isFirst_0
  rw [e9, o8, ai_bit (by omega) (by omega)]
  refine ⟨c.tag, c.tag, ?_⟩
  by_cases z : T.testBit i = true
  · rw [if_pos z, if_pos rfl]
    exact sp_failsB c (by decide) hd (H0 z)
  · rw [if_neg z, if_neg (by decide), ai_shl_one _ (by omega), ai_or_nat (by omega) (by omega)]
    exact ⟨c.tag, c.tag, c.tag, fun g eg => ⟨by simp, H1 z g (by subst eg; exact FrP.up ⟨rfl, rfl⟩) (by subst eg; rw [hpC_same])⟩⟩
theorem sp_isNumber {h : Hp} {x : Nat} {b : Nat → Nat} {n e : Nat} (c : CB h x b n e) {d mc ms : Nat} {R : PR} (hd : 1 ≤ d) (H1 : nuS b n e → R (some (xI 1)) h) (H0 : ¬ nuS b n e → ∀ h', FrP (Scr2 x) h h' → CF h' x b n 1 (tS b n e) → R (some (xI 0)) h') : Wp m_Reader_isNumber 0 [some (xR (x + 4))] [] h d mc ms R := by
  apply f_Reader_isNumber_0
  rw [c.k, c.z]
  refine ⟨c.tag, ?_⟩
  by_cases z : kS b n e = 2
  · rw [if_pos z]
    refine ⟨c.tag, ?_⟩
    by_cases y : tE b n e - tS b n e ≤ 4
    · rw [if_neg (by omega)]; exact ⟨by simp, H1 ⟨z, y⟩⟩
    · rw [if_pos (by omega)]; exact sp_failsA c (by decide) hd (H0 (fun q => y q.2))
  · rw [if_neg z]; exact sp_failsA c (by decide) hd (H0 (fun q => z q.1))
theorem sp_cnumber {h : Hp} {x : Nat} {b : Nat → Nat} {n e : Nat} (c : CB h x b n e) (hn : nuS b n e) {d mc ms : Nat} {R : PR} {o1 o2 : Option AV} (H : R (some (xI (nuV b n e))) h) : Wp m_Reader_number 0 [some (xR (x + 4)), o1, o2] [] h d mc ms R := by
  have E0 := tE_spec b n e c.le
  have E1 := c.2.1.2.2.1
  have dg := (tD_dg (kS_2.1 hn.1).1).1
  unfold nuV at H
  have t := c.2.1
  apply f_Reader_number_0
  rw [c.s]
  refine ⟨c.tag, ?_⟩
  have L : ∀ j k : Nat, k + j = tE b n e - tS b n e → Wp m_Reader_number 7 [some (xR (x + 4)), some (xI (dv b (tS b n e) k)), some (xI ((tS b n e + k : Nat) : Int))] [] h d mc ms R := by
    intro j
    induction j with
    | zero =>
      intro k hk
      apply f_Reader_number_7
      rw [c.s, c.z, ai_add_nn (by omega), if_neg (by omega)]
      rw [show tE b n e - tS b n e = k by omega] at H
      exact ⟨c.tag, c.tag, H⟩
    | succ j ih =>
      intro k hk
      obtain ⟨d1, d2, d3⟩ := dg (tS b n e + k) (by omega) (by omega)
      have bd := dv_bd (b := b) (s := tS b n e) k (fun i hi => (dg (tS b n e + i) (by omega) (by omega)).2)
      have p4 : (10 : Int) ^ k ≤ 10 ^ 4 := by
        have : k ≤ 4 := by have := hn.2; omega
        exact_mod_cast Nat.pow_le_pow_right (by decide) this
      have ih1 := ih (k + 1) (by omega)
      apply f_Reader_number_7
      rw [c.s, c.z, ai_add_nn (by omega), if_pos (by omega), c.1.tape_n, t.2.1, if_pos (by omega), t.1.bytes_n, t.1.bytes_t, Int.toNat_natCast, (t.2.2.2 _ d1).1]
      refine ⟨c.tag, c.tag, c.tag, t.1.tag, c.tag, t.1.tag, ⟨rfl, by omega, by show ((tS b n e + k : Nat) : Int) < 2000; omega⟩, ?_⟩
      have sg : sgB (b (tS b n e + k)) = (b (tS b n e + k) : Int) := by unfold sgB; rw [if_pos (by omega)]
      rw [sg, show ai_sub (ai_add (ai_mul (10 : Int) (dv b (tS b n e) k)) (b (tS b n e + k) : Int)) 48 = dv b (tS b n e) (k + 1) from by
        rw [ai_mul_eq (by omega) (by omega), ai_add_eq (by omega) (by omega), ai_sub_eq (by omega) (by omega)]; try (simp only [dv]; try omega), ab_1 (by omega)]
      exact ih1
  exact L (tE b n e - tS b n e) 0 (by omega)
theorem sp_areLetters {h : Hp} {x : Nat} {b : Nat → Nat} {n e : Nat} (c : CB h x b n e) {lo hi : Nat} {d mc ms : Nat} {R : PR} (hd : 1 ≤ d) (H1 : leS b n e lo hi → R (some (xI 1)) h) (H0 : ¬ leS b n e lo hi → ∀ h', FrP (Scr2 x) h h' → CF h' x b n 1 (tS b n e) → R (some (xI 0)) h') : Wp m_Reader_areLetters 0 [some (xR (x + 4)), some (xI (lo : Int)), some (xI (hi : Int))] [] h d mc ms R := by
  apply f_Reader_areLetters_0
  rw [c.k, c.z]
  refine ⟨c.tag, ?_⟩
  by_cases z : kS b n e = 1
  · rw [if_pos z]
    refine ⟨c.tag, ?_⟩
    by_cases y : lo ≤ tE b n e - tS b n e
    · rw [if_neg (by omega)]
      refine ⟨c.tag, ?_⟩
      by_cases u : tE b n e - tS b n e ≤ hi
      · rw [if_neg (by omega)]; exact ⟨by simp, H1 ⟨z, y, u⟩⟩
      · rw [if_pos (by omega)]; exact sp_failsA c (by decide) hd (H0 (fun q => u q.2.2))
    · rw [if_pos (by omega)]; exact sp_failsA c (by decide) hd (H0 (fun q => y q.2.1))
  · rw [if_neg z]; exact sp_failsA c (by decide) hd (H0 (fun q => z q.1))
theorem two_or (x y : Nat) : 2 * x ||| 2 * y = 2 * (x ||| y) := by
  apply Nat.eq_of_testBit_eq
  intro i
  cases i with
  | zero => rw [Nat.testBit_or]; simp [Nat.testBit_zero]
  | succ i => rw [Nat.testBit_or, Nat.testBit_succ, Nat.testBit_succ, Nat.testBit_succ, Nat.mul_div_cancel_left _ (by decide), Nat.mul_div_cancel_left _ (by decide), Nat.mul_div_cancel_left _ (by decide), Nat.testBit_or]
theorem two_and (x y : Nat) : 2 * x &&& 2 * y = 2 * (x &&& y) := by
  apply Nat.eq_of_testBit_eq
  intro i
  cases i with
  | zero => rw [Nat.testBit_and]; simp [Nat.testBit_zero]
  | succ i => rw [Nat.testBit_and, Nat.testBit_succ, Nat.testBit_succ, Nat.testBit_succ, Nat.mul_div_cancel_left _ (by decide), Nat.mul_div_cancel_left _ (by decide), Nat.mul_div_cancel_left _ (by decide), Nat.testBit_and]
theorem sp_letterBits {h : Hp} {x : Nat} {b : Nat → Nat} {n e : Nat} (c : CB h x b n e) (k1 : kS b n e = 1) {d mc ms : Nat} {R : PR} (hd : 1 ≤ d) {o1 o2 : Option AV} (H : R (some (xI ((2 * lbS b n e : Nat) : Int))) h) : Wp m_Reader_letterBits 0 [some (xR (x + 4)), o1, o2] [] h d mc ms R := by
  have E0 := tE_spec b n e c.le
  have E1 := c.2.1.2.2.1
  have al := tL_al (kS_1.1 k1).1
  have t := c.2.1
  unfold lbS at H
  apply f_Reader_letterBits_0
  rw [c.s]
  refine ⟨c.tag, ?_⟩
  have L : ∀ j k : Nat, k + j = tE b n e - tS b n e → Wp m_Reader_letterBits 7 [some (xR (x + 4)), some (xI ((2 * lbF b (tS b n e) k : Nat) : Int)), some (xI ((tS b n e + k : Nat) : Int))] [] h d mc ms R := by
    intro j
    induction j with
    | zero =>
      intro k hk
      apply f_Reader_letterBits_7
      rw [c.s, c.z, ai_add_nn (by omega), if_neg (by omega)]
      rw [show tE b n e - tS b n e = k by omega] at H
      exact ⟨c.tag, c.tag, H⟩
    | succ j ih =>
      intro k hk
      obtain ⟨l1, l2, l3⟩ := al k (by omega)
      have lb := lbF_bd (b := b) (s := tS b n e) k (fun i hi => (al i (by omega)).2)
      have pb : 2 ^ (b (tS b n e + k) - 97) < 2 ^ 26 := Nat.pow_lt_pow_right (by decide) (by omega)
      have ih1 := ih (k + 1) (by omega)
      apply f_Reader_letterBits_7
      rw [c.s, c.z, ai_add_nn (by omega), if_pos (by omega), c.1.tape_n]
      refine ⟨c.tag, c.tag, c.tag, ⟨hd, t.1.tag⟩, sp_tletterAt t (by omega) (fun v ee => ?_)⟩
      have ev := xI_inj ee
      have lr : lrB b n (tS b n e + k) = b (tS b n e + k) - 97 + 1 := by unfold lrB; rw [if_pos ⟨l1, l2, l3⟩]; omega
      have pe : 2 ^ (b (tS b n e + k) - 97 + 1) = 2 * 2 ^ (b (tS b n e + k) - 97) := by rw [Nat.pow_succ, Nat.mul_comm]
      rw [ev, lr, ai_shl_one _ (by omega), pe, ai_or_nat (by omega) (by omega), two_or, ab_1 (by omega)]
      exact ih1
  exact L (tE b n e - tS b n e) 0 (by omega)
theorem or_popc {y j : Nat} (hy : y < 2 ^ 26) (hj : j < 26) (h : y.testBit j = false) : popc (y ||| 2 ^ j) = popc y + 1 := by
  have pb : 2 ^ j < 2 ^ 26 := Nat.pow_lt_pow_right (by decide) hj
  have hb : (y ||| 2 ^ j).testBit j = true := by rw [or_bit]; simp
  have := clr_popc (S := y ||| 2 ^ j) (s0 := j) (n := 26) (by decide) (Nat.or_lt_two_pow hy pb) hj hb
  have e : (y ||| 2 ^ j) ^^^ 2 ^ j = y := by
    apply Nat.eq_of_testBit_eq
    intro t
    rw [clr_bit hb, or_bit]
    by_cases q : t = j
    · subst q; rw [h]; simp
    · simp [q]
  rw [e] at this
  omega
theorem or_same {y j : Nat} (h : y.testBit j = true) : y ||| 2 ^ j = y := by
  apply Nat.eq_of_testBit_eq
  intro t
  rw [or_bit]
  by_cases q : t = j
  · subst q; rw [h]; simp
  · simp [q]
theorem lb_popc {b : Nat → Nat} {s : Nat} : ∀ k, (∀ i, i < k → 97 ≤ b (s + i) ∧ b (s + i) ≤ 122) → popc (lbF b s k) ≤ k ∧ (popc (lbF b s k) = k ↔ lbD b s k = true)
  | 0, _ => by simp only [lbF, lbD]; rw [popc_zero]; simp
  | k + 1, hl => by
    have lb := lbF_bd (b := b) (s := s) k (fun i hi => hl i (by omega))
    obtain ⟨p1, p2⟩ := lb_popc k (fun i hi => hl i (by omega))
    have l := hl k (by omega)
    simp only [lbF, lbD]
    by_cases q : (lbF b s k).testBit (b (s + k) - 97) = true
    · rw [or_same q, q]
      refine ⟨by omega, fun z => by omega, fun z => ?_⟩
      simp at z
    · have q' : (lbF b s k).testBit (b (s + k) - 97) = false := by simpa using q
      rw [or_popc lb (by omega) q', q', Bool.not_false, Bool.and_true, ← p2]
      omega
theorem sp_areUnlike {h : Hp} {x : Nat} {b : Nat → Nat} {n e : Nat} (c : CB h x b n e) (k1 : kS b n e = 1) {d mc ms : Nat} {R : PR} (hd : 2 ≤ d) (H1 : ldS b n e = true → R (some (xI 1)) h) (H0 : ldS b n e ≠ true → R (some (xI 0)) h) : Wp m_Reader_areUnlike 0 [some (xR (x + 4))] [] h d mc ms R := by
  have lb := lbS_bd k1
  have al := tL_al (kS_1.1 k1).1
  have pp : popc (lbS b n e) ≤ tE b n e - tS b n e ∧ (popc (lbS b n e) = tE b n e - tS b n e ↔ ldS b n e = true) := lb_popc (b := b) (s := tS b n e) (tE b n e - tS b n e) (fun i hi => (al i hi).2)
  have p2 := popc_two (lbS b n e) (by omega)
  apply f_Reader_areUnlike_0
  refine ⟨⟨by omega, c.tag⟩, sp_letterBits c k1 (by omega) (fun v ee => ?_)⟩
  have ev := xI_inj ee
  clear ee
  rw [ev]
  refine ⟨by omega, sp_bitCount (by omega) (fun v2 ee2 => ?_)⟩
  have ev2 := xI_inj ee2
  clear ee2
  rw [p2] at ev2
  clear p2
  generalize popc (lbS b n e) = P at pp ev2
  refine ⟨c.tag, ?_⟩
  rw [c.z]
  by_cases q : v2 = ((tE b n e - tS b n e : Nat) : Int)
  · rw [if_pos q]; exact ⟨by simp, H1 (pp.2.1 (by omega))⟩
  · rw [if_neg q]; exact ⟨by simp, H0 (fun z => q (by have := pp.2.2 z; omega))⟩
theorem CB.w {h : Hp} {x : Nat} {b : Nat → Nat} {n e : Nat} (c : CB h x b n e) (hN : nmS b n e) : hpC h (x + 4) 7 = (wS b n e : Int) := by
  rw [c.2.2.1.2.2.2.1]
  unfold tW wS
  have := hN.1
  unfold kS at this
  rw [if_pos ⟨this, hN.2.1⟩]
theorem wS_pos {b : Nat → Nat} {n e : Nat} (he : e ≤ n) (k1 : kS b n e = 1) : wS b n e ≠ 0 := by
  have r := (kS_1.1 k1).1
  have E0 := (tE_spec b n e he).2.2 (by omega)
  intro z
  unfold wS at z
  have := pkL_inj (K1 := tL b n e) (K2 := []) (ltL'_mem (tL_al r)) (fun c hc => by cases hc) z
  have l := congrArg List.length this
  unfold tL at l
  rw [ltL'_len] at l
  simp at l
  omega
theorem sp_isName {h : Hp} {x : Nat} {b : Nat → Nat} {n e : Nat} (c : CB h x b n e) {d mc ms : Nat} {R : PR} (hd : 1 ≤ d) (H1 : nmS b n e → R (some (xI 1)) h) (H0 : ¬ nmS b n e → ∀ h', FrP (Scr2 x) h h' → CF h' x b n 1 (tS b n e) → R (some (xI 0)) h') : Wp m_Reader_isName 0 [some (xR (x + 4))] [] h d mc ms R := by
  apply f_Reader_isName_0
  refine ⟨c.tag, ?_⟩
  have w7 := c.2.2.1.2.2.2.1
  by_cases z : kS b n e = 1 ∧ tE b n e - tS b n e ≤ 10
  · have w7' : hpC h (x + 4) 7 = (wS b n e : Int) := by
      rw [w7]; unfold tW wS; have := z.1; unfold kS at this; rw [if_pos ⟨this, z.2⟩]
    have wp := wS_pos c.le z.1
    rw [w7', if_neg (by rw [al_cmp_eq]; omega), c.o, oS_1 z.1]
    refine ⟨c.tag, ?_⟩
    by_cases y : ownI (tL b n e) = -1
    · rw [if_pos y]; exact ⟨by simp, H1 ⟨z.1, z.2, y⟩⟩
    · rw [if_neg y]; exact sp_failsA c (by decide) hd (H0 (fun q => y q.2.2))
  · have w7' : hpC h (x + 4) 7 = ((0 : Nat) : Int) := by
      rw [w7]; unfold tW; have z' : ¬ (tK b n (lgT b n e) e = 1 ∧ tE b n e - tS b n e ≤ 10) := z; rw [if_neg z']
    rw [w7', if_pos (by rw [al_cmp_eq])]
    exact sp_failsA c (by decide) hd (H0 (fun q => z ⟨q.1, q.2.1⟩))
