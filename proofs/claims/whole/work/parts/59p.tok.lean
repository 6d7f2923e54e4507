/-! ===== signs of the tape ===== -/
def ru (p : Nat → Bool) : Nat → Nat → Nat
  | 0, a => a
  | j + 1, a => if p a = true then ru p j (a + 1) else a
def ruN (p : Nat → Bool) (n a : Nat) : Nat := ru p (n - a) a
theorem ruN_step {p : Nat → Bool} {n : Nat} (hp : ∀ i, p i = true → i < n) (a : Nat) : ruN p n a = if p a = true then ruN p n (a + 1) else a := by
  unfold ruN
  by_cases c : a < n
  · rw [show n - a = (n - (a + 1)) + 1 by omega]; rfl
  · rw [show n - a = 0 by omega, if_neg (fun z => c (hp a z))]; rfl
theorem ru_spec {p : Nat → Bool} {n : Nat} (hp : ∀ i, p i = true → i < n) : ∀ j a, j = n - a → (a ≤ ruN p n a ∧ (a ≤ n → ruN p n a ≤ n)) ∧ (∀ i, a ≤ i → i < ruN p n a → p i = true) ∧ p (ruN p n a) ≠ true
  | 0, a, h => by
    have : p a ≠ true := fun z => by have := hp a z; omega
    rw [ruN_step hp, if_neg this]
    exact ⟨⟨Nat.le_refl _, fun z => z⟩, fun i h1 h2 => by omega, this⟩
  | j + 1, a, h => by
    rw [ruN_step hp]
    by_cases c : p a = true
    · rw [if_pos c]
      obtain ⟨⟨h1, h2⟩, h3, h4⟩ := ru_spec hp j (a + 1) (by omega)
      have := hp a c
      refine ⟨⟨by omega, fun _ => h2 (by omega)⟩, fun i i1 i2 => ?_, h4⟩
      by_cases e : i = a
      · rw [e]; exact c
      · exact h3 i (by omega) i2
    · rw [if_neg c]
      exact ⟨⟨Nat.le_refl _, fun z => z⟩, fun i h1 h2 => by omega, c⟩
theorem ruN_spec {p : Nat → Bool} {n : Nat} (hp : ∀ i, p i = true → i < n) (a : Nat) : (a ≤ ruN p n a ∧ (a ≤ n → ruN p n a ≤ n)) ∧ (∀ i, a ≤ i → i < ruN p n a → p i = true) ∧ p (ruN p n a) ≠ true := ru_spec hp (n - a) a rfl
def blP (b : Nat → Nat) (n i : Nat) : Bool := decide (i < n ∧ (b i = 32 ∨ b i = 10))
def alP (b : Nat → Nat) (n i : Nat) : Bool := decide (i < n ∧ 97 ≤ b i ∧ b i ≤ 122)
def dgP (b : Nat → Nat) (n i : Nat) : Bool := decide (i < n ∧ 48 ≤ b i ∧ b i ≤ 57)
theorem blP_lt {b : Nat → Nat} {n : Nat} : ∀ i, blP b n i = true → i < n := fun i h => (of_decide_eq_true h).1
theorem alP_lt {b : Nat → Nat} {n : Nat} : ∀ i, alP b n i = true → i < n := fun i h => (of_decide_eq_true h).1
theorem dgP_lt {b : Nat → Nat} {n : Nat} : ∀ i, dgP b n i = true → i < n := fun i h => (of_decide_eq_true h).1
def kdT (b : Nat → Nat) (n i : Nat) : Int := if i < n then (if b i = 32 ∨ b i = 10 then 5 else if b i = 59 then 3 else if 48 ≤ b i ∧ b i ≤ 57 then 2 else if 97 ≤ b i ∧ b i ≤ 122 then 1 else 4) else 0
theorem kdT_bl {b : Nat → Nat} {n i : Nat} : kdT b n i = 5 ↔ blP b n i = true := by
  unfold kdT blP; rw [decide_eq_true_iff]; constructor
  · intro h; repeat' split at h
    all_goals first | omega | (exact ⟨by assumption, by assumption⟩)
  · rintro ⟨h1, h2⟩; rw [if_pos h1, if_pos h2]
theorem kdT_al {b : Nat → Nat} {n i : Nat} : kdT b n i = 1 ↔ alP b n i = true := by
  unfold kdT alP; rw [decide_eq_true_iff]; constructor
  · intro h; repeat' split at h
    all_goals first | omega | (exact ⟨by assumption, by assumption⟩)
  · rintro ⟨h1, h2⟩; rw [if_pos h1, if_neg (by omega), if_neg (by omega), if_neg (by omega), if_pos h2]
theorem kdT_dg {b : Nat → Nat} {n i : Nat} : kdT b n i = 2 ↔ dgP b n i = true := by
  unfold kdT dgP; rw [decide_eq_true_iff]; constructor
  · intro h; repeat' split at h
    all_goals first | omega | (exact ⟨by assumption, by assumption⟩)
  · rintro ⟨h1, h2⟩; rw [if_pos h1, if_neg (by omega), if_neg (by omega), if_pos h2]
theorem kdT_end {b : Nat → Nat} {n i : Nat} : kdT b n i = 0 ↔ ¬ i < n := by
  unfold kdT; constructor
  · intro h z; rw [if_pos z] at h; repeat' split at h
    all_goals omega
  · intro h; rw [if_neg h]
theorem kdT_stop {b : Nat → Nat} {n i : Nat} : kdT b n i = 3 ↔ i < n ∧ b i = 59 := by
  unfold kdT; constructor
  · intro h; repeat' split at h
    all_goals first | omega | (exact ⟨by assumption, by assumption⟩)
  · rintro ⟨h1, h2⟩; rw [if_pos h1, if_neg (by omega), if_pos h2]
theorem kdT_bd (b : Nat → Nat) (n i : Nat) : 0 ≤ kdT b n i ∧ kdT b n i ≤ 5 := by
  unfold kdT; repeat' split
  all_goals omega
/-- the class's Reader, its tape -/
def rd2 (h : Hp) (x : Nat) : Prop := (hpT h (x + 4)).1 = 7 ∧ hpC h (x + 4) 0 = ((x + 5 : Nat) : Int) ∧ hpC h (x + 4) 3 = ((x + 1 : Nat) : Int)
theorem rd2.tag {h : Hp} {x : Nat} (a : rd2 h x) : (hpT h (x + 4)).1 = 7 := a.1
theorem rd2.draft_n {h : Hp} {x : Nat} (a : rd2 h x) : Int.toNat (hpC h (x + 4) 0) = x + 5 := by rw [a.2.1, Int.toNat_natCast]
theorem rd2.tape_n {h : Hp} {x : Nat} (a : rd2 h x) : Int.toNat (hpC h (x + 4) 3) = x + 1 := by rw [a.2.2, Int.toNat_natCast]
theorem sp_kindAt {h : Hp} {x : Nat} {b : Nat → Nat} {n : Nat} (r : rd2 h x) (t : TPc h x b n) {i : Nat} (hi : i < 100000) {d mc ms : Nat} {R : PR} (hd : 1 ≤ d) {o2 : Option AV} (H : R (some (xI (kdT b n i))) h) : Wp m_Reader_kindAt 0 [some (xR (x + 4)), some (xI (i : Int)), o2] [] h d mc ms R := by
  apply f_Reader_kindAt_0
  rw [if_neg (by omega), r.tape_n, t.2.1, t.1.bytes_n, t.1.bytes_t, Int.toNat_natCast]
  refine ⟨r.tag, t.1.tag, ?_⟩
  have hn := t.2.2.1
  unfold kdT at H
  by_cases c : i < n
  · obtain ⟨e, hb⟩ := t.2.2.2 i c
    rw [if_pos (by omega), e]
    rw [if_pos c] at H
    refine ⟨r.tag, t.1.tag, ⟨rfl, by omega, by show (i : Int) < 2000; omega⟩, ?_⟩
    have lr : lrB b n i = if 97 ≤ b i ∧ b i ≤ 122 then b i - 96 else 0 := by
      unfold lrB
      by_cases d : 97 ≤ b i ∧ b i ≤ 122
      · rw [if_pos ⟨c, d⟩, if_pos d]
      · rw [if_neg (fun z => d z.2), if_neg d]
    have fin : ¬ (b i = 32 ∨ b i = 10) → b i ≠ 59 → ¬ (48 ≤ b i ∧ b i ≤ 57) → (hpT h (x + 4)).1 = 7 ∧ ((1 ≤ d ∧ (hpT h (x + 1)).1 = 9) ∧ Wp m_Tape_letterAt 0 [some (xR (x + 1)), some (xI (i : Int)), none] [] h (d - 1) 0 0 (fun rv h1 => ∀ v1 : Int, rv = some (xI v1) → (if v1 = (0 : Int) then R (some (xI (4 : Int))) h1 else R (some (xI (1 : Int))) h1))) := fun z1 z2 z3 => by
      refine ⟨r.tag, ⟨by omega, t.1.tag⟩, sp_tletterAt t hi (fun v e => ?_)⟩
      cases e
      rw [if_neg z1, if_neg z2, if_neg z3] at H
      rw [lr]
      by_cases d : 97 ≤ b i ∧ b i ≤ 122
      · rw [if_pos d] at H ⊢
        rw [if_neg (by omega)]; exact H
      · rw [if_neg d] at H ⊢
        rw [if_pos (by decide)]; exact H
    by_cases c1 : b i = 32
    · rw [if_pos (Or.inl c1)] at H
      rw [if_pos (by unfold sgB; rw [if_pos (by omega)]; omega)]; exact H
    rw [if_neg (by unfold sgB; split <;> omega)]
    by_cases c2 : b i = 10
    · rw [if_pos (Or.inr c2)] at H
      rw [if_pos (by unfold sgB; rw [if_pos (by omega)]; omega)]; exact H
    rw [if_neg (by unfold sgB; split <;> omega)]
    by_cases c3 : b i = 59
    · rw [if_neg (by omega), if_pos c3] at H
      rw [if_pos (by unfold sgB; rw [if_pos (by omega)]; omega)]; exact H
    rw [if_neg (by unfold sgB; split <;> omega)]
    by_cases c4 : sgB (b i) < 48
    · rw [if_pos c4]
      exact fin (by omega) c3 (fun z => by unfold sgB at c4; rw [if_pos (by omega)] at c4; omega)
    rw [if_neg c4]
    by_cases c5 : 57 < sgB (b i)
    · rw [if_pos c5]
      exact fin (by omega) c3 (fun z => by unfold sgB at c5; rw [if_pos (by omega)] at c5; omega)
    rw [if_neg c5]
    rw [if_neg (by omega), if_neg c3, if_pos (by unfold sgB at c4 c5; split at c4 <;> omega)] at H
    exact H
  · rw [if_neg (by omega)]
    rw [if_neg c] at H
    exact H
theorem sp_isLong {h : Hp} {x : Nat} (r : rd2 h x) {k : Int} (e : hpC h (x + 4) 4 = k) {d mc ms : Nat} {R : PR} (H : R (some (xI (if k = 1 ∨ k = 2 then 1 else 0))) h) : Wp m_Reader_isLong 0 [some (xR (x + 4))] [] h d mc ms R := by
  apply f_Reader_isLong_0
  rw [e]
  refine ⟨r.tag, ?_⟩
  by_cases c : k = 1
  · rw [if_pos (Or.inl c)] at H
    rw [if_pos c]; exact ⟨by simp, H⟩
  · rw [if_neg c]
    refine ⟨r.tag, ?_⟩
    by_cases c2 : k = 2
    · rw [if_pos (Or.inr c2)] at H
      rw [if_pos c2]; exact ⟨by simp, H⟩
    · rw [if_neg (by omega)] at H
      rw [if_neg c2]; exact ⟨by simp, H⟩
/-! the sign that begins at or after e -/
def tS (b : Nat → Nat) (n e : Nat) : Nat := ruN (blP b n) n e
def lgT (b : Nat → Nat) (n e : Nat) : Bool := decide (0 < e) && (alP b n (e - 1) || dgP b n (e - 1))
def tR (b : Nat → Nat) (n e : Nat) : Int := kdT b n (tS b n e)
def tK (b : Nat → Nat) (n : Nat) (lg : Bool) (e : Nat) : Int := if (tR b n e = 1 ∨ tR b n e = 2) ∧ lg = true ∧ tS b n e = e then 4 else tR b n e
def tE (b : Nat → Nat) (n e : Nat) : Nat := if tR b n e = 1 then ruN (alP b n) n (tS b n e) else if tR b n e = 2 then ruN (dgP b n) n (tS b n e) else if tR b n e = 0 then tS b n e else tS b n e + 1
def tL (b : Nat → Nat) (n e : Nat) : List Nat := ltL' b (tS b n e) (tE b n e - tS b n e)
def tW (b : Nat → Nat) (n : Nat) (lg : Bool) (e : Nat) : Nat := if tK b n lg e = 1 ∧ tE b n e - tS b n e ≤ 10 then pkL (tL b n e) else 0
def tO (b : Nat → Nat) (n : Nat) (lg : Bool) (e : Nat) : Int := if tK b n lg e = 1 then ownI (tL b n e) else -1
theorem tS_spec (b : Nat → Nat) (n e : Nat) : (e ≤ tS b n e ∧ (e ≤ n → tS b n e ≤ n)) ∧ (∀ i, e ≤ i → i < tS b n e → blP b n i = true) ∧ blP b n (tS b n e) ≠ true := ruN_spec blP_lt e
theorem tR_5 (b : Nat → Nat) (n e : Nat) : tR b n e ≠ 5 := fun z => (tS_spec b n e).2.2 (kdT_bl.1 z)
theorem tE_spec (b : Nat → Nat) (n e : Nat) (he : e ≤ n) : tS b n e ≤ tE b n e ∧ tE b n e ≤ n ∧ (tR b n e ≠ 0 → tS b n e < tE b n e) := by
  have s1 := (tS_spec b n e).1
  have s2 := s1.2 he
  unfold tE
  by_cases c1 : tR b n e = 1
  · rw [if_pos c1]
    have := ruN_spec (alP_lt (b := b) (n := n)) (tS b n e)
    have lt := kdT_al.1 c1
    refine ⟨this.1.1, this.1.2 s2, fun _ => ?_⟩
    by_cases q : tS b n e < ruN (alP b n) n (tS b n e)
    · exact q
    · exact absurd (by rw [show ruN (alP b n) n (tS b n e) = tS b n e by omega]; exact lt) this.2.2
  rw [if_neg c1]
  by_cases c2 : tR b n e = 2
  · rw [if_pos c2]
    have := ruN_spec (dgP_lt (b := b) (n := n)) (tS b n e)
    have lt := kdT_dg.1 c2
    refine ⟨this.1.1, this.1.2 s2, fun _ => ?_⟩
    by_cases q : tS b n e < ruN (dgP b n) n (tS b n e)
    · exact q
    · exact absurd (by rw [show ruN (dgP b n) n (tS b n e) = tS b n e by omega]; exact lt) this.2.2
  rw [if_neg c2]
  by_cases c3 : tR b n e = 0
  · rw [if_pos c3]; exact ⟨Nat.le_refl _, s2, fun z => absurd c3 z⟩
  · rw [if_neg c3]
    have : tS b n e < n := by
      by_cases q : tS b n e < n
      · exact q
      · exact absurd (kdT_end.2 q) c3
    omega
theorem tL_al {b : Nat → Nat} {n e : Nat} (h : tR b n e = 1) : alB b n (tS b n e) (tE b n e - tS b n e) := by
  intro i hi
  have := ruN_spec (alP_lt (b := b) (n := n)) (tS b n e)
  unfold tE at hi
  rw [if_pos h] at hi
  have := of_decide_eq_true (this.2.1 (tS b n e + i) (by omega) (by omega))
  exact this
theorem xL_inj {a b : Int} (h : some (xL a) = some (xL b)) : b = a := by cases h; rfl
def Srd (x : Nat) : Nat → Nat → Prop := fun q p => q = x + 4 ∧ 4 ≤ p ∧ p ≤ 8
theorem rd2.fr {h h' : Hp} {x : Nat} {S : Nat → Nat → Prop} (r : rd2 h x) (f : FrP S h h') (h0 : ¬ S (x + 4) 0) (h3 : ¬ S (x + 4) 3) : rd2 h' x := ⟨by rw [f.2.1]; exact r.1, by rw [f.2.2 _ _ h0]; exact r.2.1, by rw [f.2.2 _ _ h3]; exact r.2.2⟩
theorem TPc.fp {h h' : Hp} {x : Nat} {b : Nat → Nat} {n : Nat} {S : Nat → Nat → Prop} (t : TPc h x b n) (f : FrP S h h') (hS : ∀ q p, x + 1 ≤ q → q ≤ x + 3 → ¬ S q p) : TPc h' x b n := t.eq (f.eqC hS)
def TKc (h : Hp) (x : Nat) (b : Nat → Nat) (n : Nat) (lg : Bool) (e : Nat) : Prop := hpC h (x + 4) 4 = tK b n lg e ∧ hpC h (x + 4) 5 = (tS b n e : Int) ∧ hpC h (x + 4) 6 = ((tE b n e - tS b n e : Nat) : Int) ∧ hpC h (x + 4) 7 = (tW b n lg e : Int) ∧ hpC h (x + 4) 8 = tO b n lg e
theorem sp_step {h : Hp} {x : Nat} {b : Nat → Nat} {n : Nat} (r : rd2 h x) (t : TPc h x b n) {k0 : Int} {s0 z0 : Nat} (e4 : hpC h (x + 4) 4 = k0) (e5 : hpC h (x + 4) 5 = (s0 : Int)) (e6 : hpC h (x + 4) 6 = (z0 : Int)) (he : s0 + z0 ≤ n) {d mc ms : Nat} {R : PR} (hd : 2 ≤ d) {o1 o2 : Option AV} (H : ∀ h', FrP (Srd x) h h' → TKc h' x b n (decide (k0 = 1 ∨ k0 = 2)) (s0 + z0) → R none h') : Wp m_Reader_step 0 [some (xR (x + 4)), o1, o2] [] h d mc ms R := by
  have hn := t.2.2.1
  generalize hlg : decide (k0 = 1 ∨ k0 = 2) = lg at H
  generalize hE : s0 + z0 = e at *
  have S0 := tS_spec b n e
  have S1 := S0.1.2 he
  have E0 := tE_spec b n e he
  have up : ∀ {g g' : Hp} {p : Nat} {v : Int}, 4 ≤ p → p ≤ 8 → g' = hpU g (x + 4) p v → FrP (Srd x) g g' := fun h1 h2 e => by subst e; exact FrP.up ⟨rfl, h1, h2⟩
  have rR : ∀ {g : Hp}, FrP (Srd x) h g → rd2 g x := fun f => r.fr f (by unfold Srd; omega) (by unfold Srd; omega)
  have tT : ∀ {g : Hp}, FrP (Srd x) h g → TPc g x b n := fun f => t.fp f (fun q p h1 h2 => by unfold Srd; omega)
  -- word and own
  have last : ∀ (g : Hp) (o1 o2 : Option AV), FrP (Srd x) h g → hpC g (x + 4) 4 = tK b n lg e → hpC g (x + 4) 5 = (tS b n e : Int) → hpC g (x + 4) 6 = ((tE b n e - tS b n e : Nat) : Int) → Wp m_Reader_step 170 [some (xR (x + 4)), o1, o2] [] g d mc ms R := by
    intro g o1 o2 f q4 q5 q6
    have rg := rR f
    have tg := tT f
    have fin : ∀ (W : Nat), W = tW b n lg e → fst1 (fun i => decide (pkL (owL i) = W)) 13 0 = tO b n lg e → Wp m_Reader_step 198 [some (xR (x + 4)), o1, o2] [xL ((W : Nat) : Int), xR (x + 4)] g d mc ms R := by
      intro W hW hO
      apply f_Reader_step_198
      refine ⟨rg.tag, fun g1 e1 => ?_⟩
      have f1 := up (by omega) (by omega) e1
      have F1 := f.tr f1
      have r1 := rR F1
      have t1 := tT F1
      have w7 : hpC g1 (x + 4) 7 = (W : Int) := by subst e1; rw [hpC_same]
      have o1 : ∀ p, p ≠ 7 → hpC g1 (x + 4) p = hpC g (x + 4) p := fun p hp => by subst e1; exact hpC_o2 hp
      clear e1
      rw [r1.tape_n, w7]
      refine ⟨r1.tag, r1.tag, ⟨by omega, t1.1.tag⟩, sp_ownWord t1.1 (fun v e => ?_)⟩
      have ev := xI_inj e
      clear e
      refine ⟨r1.tag, fun g2 e2 => ?_⟩
      have f2 := up (by omega) (by omega) e2
      have o2 : ∀ p, p ≠ 8 → hpC g2 (x + 4) p = hpC g1 (x + 4) p := fun p hp => by subst e2; exact hpC_o2 hp
      have w8 : hpC g2 (x + 4) 8 = v := by subst e2; rw [hpC_same]
      clear e2
      exact H g2 (F1.tr f2) ⟨by rw [o2 _ (by omega), o1 _ (by omega)]; exact q4, by rw [o2 _ (by omega), o1 _ (by omega)]; exact q5, by rw [o2 _ (by omega), o1 _ (by omega)]; exact q6, by rw [o2 _ (by omega), w7, hW], by rw [w8, ev, hO]⟩
    apply f_Reader_step_170
    rw [q4]
    refine ⟨rg.tag, ?_⟩
    by_cases c : tK b n lg e = 1
    · rw [if_pos c, rg.tape_n, q5, q6]
      have hR : tR b n e = 1 := by unfold tK at c; split at c <;> omega
      have al := tL_al hR
      refine ⟨rg.tag, rg.tag, rg.tag, ⟨by omega, tg.1.tag⟩, sp_wordAt tg (by omega) (by omega) (fun h1 h2 h3 v ee => ?_) (fun hN v ee => ?_)⟩
      · have ev := xL_inj ee
        rw [ev]
        refine fin _ (by unfold tW tL; rw [if_pos ⟨c, h2⟩]) ?_
        unfold tO; rw [if_pos c]; exact own_pk (ltL'_mem al)
      · have ev := xL_inj ee
        rw [ev]
        have h10 : ¬ tE b n e - tS b n e ≤ 10 := fun z => hN ⟨by have := E0.2.2 (by omega); omega, z, al⟩
        refine fin 0 (by unfold tW; rw [if_neg (fun z => h10 z.2)]) ?_
        unfold tO; rw [if_pos c, ownI_long (by unfold tL; rw [ltL'_len]; omega)]; exact own_zero
    · rw [if_neg c]
      exact fin 0 (by unfold tW; rw [if_neg (fun z => c z.1)]) (by unfold tO; rw [if_neg c]; exact own_zero)
  -- touching
  have touch : ∀ (g : Hp), FrP (Srd x) h g → hpC g (x + 4) 4 = tR b n e → hpC g (x + 4) 5 = (tS b n e : Int) → hpC g (x + 4) 6 = ((tE b n e - tS b n e : Nat) : Int) → Wp m_Reader_step 146 [some (xR (x + 4)), some (xI (if k0 = 1 ∨ k0 = 2 then 1 else 0)), some (xI (e : Int))] [] g d mc ms R := by
    intro g f q4 q5 q6
    have rg := rR f
    apply f_Reader_step_146
    by_cases c : k0 = 1 ∨ k0 = 2
    · have lt : lg = true := by rw [← hlg]; exact decide_eq_true c
      rw [if_pos c, if_neg (by decide), q5]
      refine ⟨rg.tag, ?_⟩
      by_cases c2 : tS b n e = e
      · rw [if_pos (by omega)]
        refine ⟨⟨by omega, rg.tag⟩, sp_isLong rg q4 (fun v ee => ?_)⟩
        have ev := xI_inj ee
        clear ee
        by_cases c3 : tR b n e = 1 ∨ tR b n e = 2
        · rw [if_pos c3] at ev
          rw [if_neg (by omega)]
          refine ⟨rg.tag, fun g1 e1 => ?_⟩
          have f1 := up (by omega) (by omega) e1
          exact last g1 _ _ (f.tr f1) (by subst e1; rw [hpC_same]; unfold tK; rw [if_pos ⟨c3, lt, c2⟩]) (by subst e1; rw [hpC_o2 (by omega)]; exact q5) (by subst e1; rw [hpC_o2 (by omega)]; exact q6)
        · rw [if_neg c3] at ev
          rw [if_pos ev]
          exact last g _ _ f (by unfold tK; rw [if_neg (fun z => c3 z.1)]; exact q4) q5 q6
      · rw [if_neg (by omega)]
        exact last g _ _ f (by unfold tK; rw [if_neg (fun z => c2 z.2.2)]; exact q4) q5 q6
    · rw [if_neg c, if_pos rfl]
      have lt : lg ≠ true := by rw [← hlg]; exact fun z => c (of_decide_eq_true z)
      exact last g _ _ f (by unfold tK; rw [if_neg (fun z => lt z.2.1)]; exact q4) q5 q6
  -- the run
  have run : ∀ (j z : Nat) (g : Hp), (tS b n e + z) + j = tE b n e → 1 ≤ z → FrP (Srd x) h g → hpC g (x + 4) 4 = tR b n e → (tR b n e = 1 ∨ tR b n e = 2) → hpC g (x + 4) 5 = (tS b n e : Int) → hpC g (x + 4) 6 = (z : Int) → Wp m_Reader_step 87 [some (xR (x + 4)), some (xI (if k0 = 1 ∨ k0 = 2 then 1 else 0)), some (xI (e : Int))] [] g d mc ms R := by
    have inn : ∀ i, tS b n e ≤ i → i < tE b n e → (tR b n e = 1 ∨ tR b n e = 2) → kdT b n i = tR b n e := fun i h1 h2 hk => by
      rcases hk with hk | hk
      · rw [hk]; unfold tE at h2; rw [if_pos hk] at h2
        exact kdT_al.2 ((ruN_spec alP_lt (tS b n e)).2.1 i h1 h2)
      · rw [hk]; unfold tE at h2; rw [if_neg (by omega), if_pos hk] at h2
        exact kdT_dg.2 ((ruN_spec dgP_lt (tS b n e)).2.1 i h1 h2)
    have out : (tR b n e = 1 ∨ tR b n e = 2) → kdT b n (tE b n e) ≠ tR b n e := fun hk => by
      rcases hk with hk | hk
      · rw [hk]; unfold tE; rw [if_pos hk]
        exact fun z => (ruN_spec alP_lt (tS b n e)).2.2 (kdT_al.1 z)
      · rw [hk]; unfold tE; rw [if_neg (by omega), if_pos hk]
        exact fun z => (ruN_spec dgP_lt (tS b n e)).2.2 (kdT_dg.1 z)
    intro j
    induction j with
    | zero =>
      intro z g hz z1 f q4 hk q5 q6
      have rg := rR f
      have tg := tT f
      apply f_Reader_step_87
      refine ⟨⟨by omega, rg.tag⟩, sp_isLong rg q4 (fun v ee => ?_)⟩
      have ev := xI_inj ee
      clear ee
      rw [if_pos hk] at ev
      rw [if_neg (by omega), q5, q6, rg.tape_n, tg.2.1, ai_add_nn (by omega)]
      refine ⟨rg.tag, rg.tag, rg.tag, tg.1.tag, ?_⟩
      have q6' : hpC g (x + 4) 6 = ((tE b n e - tS b n e : Nat) : Int) := by rw [q6]; omega
      by_cases c : tS b n e + z < n
      · rw [if_pos (by omega)]
        refine ⟨rg.tag, rg.tag, ⟨by omega, rg.tag⟩, sp_kindAt rg tg (by omega) (by omega) (fun v2 ee => ?_)⟩
        have ev2 := xI_inj ee
        clear ee
        rw [q4, ev2, if_neg (by rw [show tS b n e + z = tE b n e by omega]; exact out hk)]
        exact ⟨rg.tag, touch g f q4 q5 q6'⟩
      · rw [if_neg (by omega)]
        exact touch g f q4 q5 q6'
    | succ j ih =>
      intro z g hz z1 f q4 hk q5 q6
      have rg := rR f
      have tg := tT f
      apply f_Reader_step_87
      refine ⟨⟨by omega, rg.tag⟩, sp_isLong rg q4 (fun v ee => ?_)⟩
      have ev := xI_inj ee
      clear ee
      rw [if_pos hk] at ev
      rw [if_neg (by omega), q5, q6, rg.tape_n, tg.2.1, ai_add_nn (by omega), if_pos (by omega)]
      refine ⟨rg.tag, rg.tag, rg.tag, tg.1.tag, rg.tag, rg.tag, ⟨by omega, rg.tag⟩, sp_kindAt rg tg (by omega) (by omega) (fun v2 ee => ?_)⟩
      have ev2 := xI_inj ee
      clear ee
      rw [q4, ev2, if_pos (inn _ (by omega) (by omega) hk), q6, ab_1 (by omega)]
      refine ⟨rg.tag, rg.tag, rg.tag, fun g1 e1 => ?_⟩
      have f1 := up (by omega) (by omega) e1
      exact ih (z + 1) g1 (by omega) (by omega) (f.tr f1) (by subst e1; rw [hpC_o2 (by omega)]; exact q4) hk (by subst e1; rw [hpC_o2 (by omega)]; exact q5) (by subst e1; rw [hpC_same])
  -- the kind
  have kind : ∀ (g : Hp), FrP (Srd x) h g → hpC g (x + 4) 5 = (tS b n e : Int) → Wp m_Reader_step 59 [some (xR (x + 4)), some (xI (if k0 = 1 ∨ k0 = 2 then 1 else 0)), some (xI (e : Int))] [] g d mc ms R := by
    intro g f q5
    have rg := rR f
    have tg := tT f
    apply f_Reader_step_59
    rw [q5]
    refine ⟨rg.tag, ⟨by omega, rg.tag⟩, sp_kindAt rg tg (by omega) (by omega) (fun v ee => ?_)⟩
    have ev : v = tR b n e := xI_inj ee
    clear ee
    refine ⟨rg.tag, fun g1 e1 => ?_⟩
    have f1 := up (by omega) (by omega) e1
    have F1 := f.tr f1
    have r1 := rR F1
    have a4 : hpC g1 (x + 4) 4 = tR b n e := by subst e1; rw [hpC_same, ev]
    have a5 : hpC g1 (x + 4) 5 = (tS b n e : Int) := by subst e1; rw [hpC_o2 (by omega)]; exact q5
    clear e1
    rw [a4]
    refine ⟨r1.tag, ?_⟩
    have go : ∀ (z : Nat) (g2 : Hp), g2 = hpU g1 (x + 4) 6 (z : Int) → (z = if tR b n e = 0 then 0 else 1) → Wp m_Reader_step 87 [some (xR (x + 4)), some (xI (if k0 = 1 ∨ k0 = 2 then 1 else 0)), some (xI (e : Int))] [] g2 d mc ms R := by
      intro z g2 e2 hz
      have f2 := up (by omega) (by omega) e2
      have F2 := F1.tr f2
      have c4 : hpC g2 (x + 4) 4 = tR b n e := by subst e2; rw [hpC_o2 (by omega)]; exact a4
      have c5 : hpC g2 (x + 4) 5 = (tS b n e : Int) := by subst e2; rw [hpC_o2 (by omega)]; exact a5
      have c6 : hpC g2 (x + 4) 6 = (z : Int) := by subst e2; rw [hpC_same]
      clear e2
      by_cases hk : tR b n e = 1 ∨ tR b n e = 2
      · have E3 := E0.2.2 (by omega)
        rw [if_neg (by omega)] at hz
        exact run (tE b n e - tS b n e - 1) z g2 (by omega) (by omega) F2 c4 hk c5 c6
      · have r2 := rR F2
        apply f_Reader_step_87
        refine ⟨⟨by omega, r2.tag⟩, sp_isLong r2 c4 (fun v ee => ?_)⟩
        have ev := xI_inj ee
        clear ee
        rw [if_neg hk] at ev
        rw [if_pos ev]
        refine touch g2 F2 c4 c5 ?_
        rw [c6, hz]
        unfold tE
        rw [if_neg (fun z => hk (Or.inl z)), if_neg (fun z => hk (Or.inr z))]
        by_cases c0 : tR b n e = 0
        · rw [if_pos c0, if_pos c0]; omega
        · rw [if_neg c0, if_neg c0]; omega
    by_cases c0 : tR b n e = 0
    · rw [if_pos c0]
      exact ⟨r1.tag, fun g2 e2 => go 0 g2 e2 (by rw [if_pos c0])⟩
    · rw [if_neg c0]
      exact ⟨r1.tag, fun g2 e2 => go 1 g2 e2 (by rw [if_neg c0])⟩
  -- blanks
  have blank : ∀ (j a : Nat) (g : Hp), a + j = tS b n e → e ≤ a → FrP (Srd x) h g → hpC g (x + 4) 5 = (a : Int) → Wp m_Reader_step 20 [some (xR (x + 4)), some (xI (if k0 = 1 ∨ k0 = 2 then 1 else 0)), some (xI (e : Int))] [] g d mc ms R := by
    intro j
    induction j with
    | zero =>
      intro a g ha hea f q5
      obtain rfl : a = tS b n e := by omega
      have rg := rR f
      have tg := tT f
      apply f_Reader_step_20
      rw [rg.tape_n, q5, tg.2.1]
      refine ⟨rg.tag, rg.tag, tg.1.tag, ?_⟩
      by_cases c : tS b n e < n
      · rw [if_pos (by omega)]
        refine ⟨rg.tag, ⟨by omega, rg.tag⟩, sp_kindAt rg tg (by omega) (by omega) (fun v ee => ?_)⟩
        have ev : v = tR b n e := xI_inj ee
        rw [ev, if_neg (tR_5 b n e)]
        exact kind g f q5
      · rw [if_neg (by omega)]; exact kind g f q5
    | succ j ih =>
      intro a g ha hea f q5
      have rg := rR f
      have tg := tT f
      have bl := S0.2.1 a hea (by omega)
      apply f_Reader_step_20
      rw [rg.tape_n, q5, tg.2.1, if_pos (by have := blP_lt a bl; omega)]
      refine ⟨rg.tag, rg.tag, tg.1.tag, rg.tag, ⟨by omega, rg.tag⟩, sp_kindAt rg tg (by omega) (by omega) (fun v ee => ?_)⟩
      have ev := xI_inj ee
      clear ee
      rw [ev, if_pos (kdT_bl.2 bl), q5, ab_1 (by omega)]
      refine ⟨rg.tag, rg.tag, fun g1 e1 => ?_⟩
      have f1 := up (by omega) (by omega) e1
      exact ih (a + 1) g1 (by omega) (by omega) (f.tr f1) (by subst e1; rw [hpC_same])
  apply f_Reader_step_0
  refine ⟨⟨by omega, r.tag⟩, sp_isLong r e4 (fun v ee => ?_)⟩
  have ev := xI_inj ee
  clear ee
  rw [ev, e5, e6, ai_add_nn (by omega), hE]
  refine ⟨r.tag, r.tag, r.tag, fun g1 e1 => ?_⟩
  have f1 := up (by omega) (by omega) e1
  exact blank (tS b n e - e) e g1 (by omega) (Nat.le_refl _) f1 (by subst e1; rw [hpC_same])
