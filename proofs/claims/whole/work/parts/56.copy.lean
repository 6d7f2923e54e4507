/-! ===== copies of towns ===== -/
theorem hpT_up (h : Hp) (r p : Nat) (v : Int) : hpT (hpU h r p v) = hpT h := rfl
theorem hpT_cp (h : Hp) (a sp b dp n : Nat) : hpT (hpY h a sp b dp n) = hpT h := rfl
theorem hp1_up (h : Hp) (r p : Nat) (v : Int) : (hpU h r p v).1 = h.1 := rfl
theorem hp1_cp (h : Hp) (a sp b dp n : Nat) : (hpY h a sp b dp n).1 = h.1 := rfl
theorem hpC_o1 {h : Hp} {r p : Nat} {v : Int} {r' p' : Nat} (hne : r' ≠ r) : hpC (hpU h r p v) r' p' = hpC h r' p' := hpC_ne (Or.inl hne)
theorem hpC_o2 {h : Hp} {r p : Nat} {v : Int} {r' p' : Nat} (hne : p' ≠ p) : hpC (hpU h r p v) r' p' = hpC h r' p' := hpC_ne (Or.inr hne)
theorem hpC_cp (h : Hp) (a sp b dp n r p : Nat) : hpC (hpY h a sp b dp n) r p = if r = b ∧ dp ≤ p ∧ p < dp + n then hpC h a (sp + (p - dp)) else hpC h r p := rfl
theorem hpC_co {h : Hp} {a sp b dp n r p : Nat} (hne : r ≠ b) : hpC (hpY h a sp b dp n) r p = hpC h r p := by rw [hpC_cp, if_neg (fun z => hne z.1)]
theorem hpC_ci {h : Hp} {a b n p : Nat} (hp : p < n) : hpC (hpY h a 0 b 0 n) b p = hpC h a p := by rw [hpC_cp, if_pos ⟨rfl, by omega, by omega⟩]; congr 1; omega
theorem FrP.cp {S : Nat → Nat → Prop} {h : Hp} {a sp b dp n : Nat} (hb : ∀ p, S b p) : FrP S h (hpY h a sp b dp n) := ⟨rfl, rfl, fun r p hr => hpC_co (fun z => hr (by rw [z]; exact hb p))⟩
/-- the data of a town -/
def SD (t : Nat) : Nat → Nat → Prop := fun q p => (q = t ∧ p = 7) ∨ (q = t + 1 ∧ p ≤ 5) ∨ (t + 2 ≤ q ∧ q ≤ t + 6) ∨ ((q = t + 7 ∨ q = t + 10 ∨ q = t + 13) ∧ p = 2) ∨ (q = t + 8 ∨ q = t + 9 ∨ q = t + 11 ∨ q = t + 12 ∨ (t + 14 ≤ q ∧ q ≤ t + 17)) ∨ (t + 19 ≤ q ∧ q ≤ t + 22)
theorem townAt.fd {h h' : Hp} {t : Nat} (a : townAt h t) (f : FrP (SD t) h h') : townAt h' t := by
  refine a.fr f ?_ ?_ ?_ ?_ ?_ ?_ ?_ (a.rules_a.fr f ?_ ?_ ?_ ?_ ?_) (a.streets_a.fr f ?_ ?_) (a.pool_a.fr f ?_ ?_) (a.aliases_a.fr f ?_ ?_) (a.homes_a.fr f ?_ ?_ ?_ ?_) <;> (intro z; unfold SD at z; omega)
theorem SD_eqC {h h' : Hp} {t t' : Nat} (f : FrP (SD t) h h') (hd : t + 23 ≤ t' ∨ t' + 23 ≤ t) : eqC h h' t' (t' + 22) := f.eqC (fun q p h1 h2 z => by unfold SD at z; omega)
def Srl (r : Nat) : Nat → Nat → Prop := fun q p => (q = r ∧ p ≤ 5) ∨ (r + 1 ≤ q ∧ q ≤ r + 5)
theorem sp_Rcopy {h : Hp} {r r' : Nat} (a : rulesAt h r) (a' : rulesAt h r') (hd : r + 6 ≤ r' ∨ r' + 6 ≤ r) {d mc ms : Nat} {R : PR} (hd1 : 1 ≤ d) (H : ∀ h', FrP (Srl r) h h' → (∀ p, p ≤ 5 → hpC h' r p = hpC h r' p) → (∀ k p, 1 ≤ k → k ≤ 5 → p < 8 → hpC h' (r + k) p = hpC h (r' + k) p) → R none h') : Wp m_Rules_copyFrom 0 [some (xR r), some (xR r')] [] h d mc ms R := by
  apply f_Rules_copyFrom_0
  simp (disch := omega) only [forall_eq, hpT_up, hpT_cp, hpC_o1, hpC_o2, hpC_co, a.tag, a'.tag, a.groupHead_n, a.groupBits_n, a.pairFirst_n, a.pairSecond_n, a.pairOne_n, a'.groupHead_n, a'.groupBits_n, a'.pairFirst_n, a'.pairSecond_n, a'.pairOne_n, a.groupHead_t, a.groupBits_t, a.pairFirst_t, a.pairSecond_t, a.pairOne_t, a'.groupHead_t, a'.groupBits_t, a'.pairFirst_t, a'.pairSecond_t, a'.pairOne_t, tn_0, tn_8, q_lt, n_lt, q_le, n_le, q_eq, n_eq, q_nle, not_false_eq_true, not_true_eq_false, true_and, and_true, true_or, or_true, and_self, ↓reduceIte]
  refine H _ ⟨rfl, rfl, fun q p hq => ?_⟩ (fun p hp => ?_) (fun k p h1 h2 hp => ?_)
  · unfold Srl at hq
    rw [hpC_co (by omega), hpC_co (by omega), hpC_co (by omega), hpC_co (by omega), hpC_co (by omega), hpC_ne (by omega), hpC_ne (by omega), hpC_ne (by omega), hpC_ne (by omega), hpC_ne (by omega), hpC_ne (by omega)]
  · rw [hpC_co (by omega), hpC_co (by omega), hpC_co (by omega), hpC_co (by omega), hpC_co (by omega)]
    simp only [hpC_up]
    obtain rfl | rfl | rfl | rfl | rfl | rfl : p = 0 ∨ p = 1 ∨ p = 2 ∨ p = 3 ∨ p = 4 ∨ p = 5 := by omega
    all_goals simp
  · have off : ∀ (q : Nat) (v0 v1 v2 v3 v4 v5 : Int), q ≠ r → hpC (hpU (hpU (hpU (hpU (hpU (hpU h r 0 v0) r 1 v1) r 2 v2) r 3 v3) r 4 v4) r 5 v5) q p = hpC h q p := fun q v0 v1 v2 v3 v4 v5 hq => by
      rw [hpC_o1 hq, hpC_o1 hq, hpC_o1 hq, hpC_o1 hq, hpC_o1 hq, hpC_o1 hq]
    obtain rfl | rfl | rfl | rfl | rfl : k = 1 ∨ k = 2 ∨ k = 3 ∨ k = 4 ∨ k = 5 := by omega
    · rw [hpC_co (by omega), hpC_co (by omega), hpC_co (by omega), hpC_co (by omega), hpC_ci hp, off _ _ _ _ _ _ _ (by omega)]
    · rw [hpC_co (by omega), hpC_co (by omega), hpC_co (by omega), hpC_ci hp, hpC_co (by omega), off _ _ _ _ _ _ _ (by omega)]
    · rw [hpC_co (by omega), hpC_co (by omega), hpC_ci hp, hpC_co (by omega), hpC_co (by omega), off _ _ _ _ _ _ _ (by omega)]
    · rw [hpC_co (by omega), hpC_ci hp, hpC_co (by omega), hpC_co (by omega), hpC_co (by omega), off _ _ _ _ _ _ _ (by omega)]
    · rw [hpC_ci hp, hpC_co (by omega), hpC_co (by omega), hpC_co (by omega), hpC_co (by omega), off _ _ _ _ _ _ _ (by omega)]
def Snl (r : Nat) : Nat → Nat → Prop := fun q p => (q = r ∧ p = 2) ∨ q = r + 1 ∨ q = r + 2
theorem sp_Ncopy {h : Hp} {r r' l n : Nat} (a : namesAt h r l) (a' : namesAt h r' l) (hd : r + 3 ≤ r' ∨ r' + 3 ≤ r) (hc : hpC h r' 2 = (n : Int)) (hn : n ≤ l) {d mc ms : Nat} {R : PR} (hd1 : 1 ≤ d) (H : ∀ h', FrP (Snl r) h h' → hpC h' r 2 = (n : Int) → (∀ p, p < n → hpC h' (r + 1) p = hpC h (r' + 1) p ∧ hpC h' (r + 2) p = hpC h (r' + 2) p) → R none h') : Wp m_Names_copyFrom 0 [some (xR r), some (xR r')] [] h d mc ms R := by
  apply f_Names_copyFrom_0
  simp (disch := omega) only [forall_eq, hpT_up, hpT_cp, hpC_o1, hpC_o2, hpC_co, hpC_same, hc, a.tag, a'.tag, a.word_n, a.sound_n, a'.word_n, a'.sound_n, a.word_t, a.sound_t, a'.word_t, a'.sound_t, tn_0, Int.toNat_natCast, q_lt, n_lt, q_le, n_le, q_eq, n_eq, q_nle, not_false_eq_true, not_true_eq_false, true_and, and_true, true_or, or_true, and_self, ↓reduceIte]
  refine H _ ⟨rfl, rfl, fun q p hq => ?_⟩ ?_ (fun p hp => ⟨?_, ?_⟩)
  · unfold Snl at hq
    rw [hpC_co (by omega), hpC_co (by omega), hpC_ne (by omega)]
  · rw [hpC_co (by omega), hpC_co (by omega), hpC_same]
  · rw [hpC_co (by omega), hpC_ci hp, hpC_o1 (by omega)]
  · rw [hpC_ci hp, hpC_co (by omega), hpC_o1 (by omega)]
def Shl (r : Nat) : Nat → Nat → Prop := fun q _ => r + 1 ≤ q ∧ q ≤ r + 4
theorem sp_Hcopy {h : Hp} {r r' : Nat} (a : homesAt h r) (a' : homesAt h r') (hd : r + 5 ≤ r' ∨ r' + 5 ≤ r) {d mc ms : Nat} {R : PR} (hd1 : 1 ≤ d) (H : ∀ h', FrP (Shl r) h h' → (∀ p, p < 10 → hpC h' (r + 1) p = hpC h (r' + 1) p) → (∀ p, p < 120 → hpC h' (r + 2) p = hpC h (r' + 2) p ∧ hpC h' (r + 3) p = hpC h (r' + 3) p ∧ hpC h' (r + 4) p = hpC h (r' + 4) p) → R none h') : Wp m_Homes_copyFrom 0 [some (xR r), some (xR r')] [] h d mc ms R := by
  apply f_Homes_copyFrom_0
  simp (disch := omega) only [forall_eq, hpT_up, hpT_cp, hpC_o1, hpC_o2, hpC_co, a.tag, a'.tag, a.count_n, a.side_n, a.yards_n, a.number_n, a'.count_n, a'.side_n, a'.yards_n, a'.number_n, a.count_t, a.side_t, a.yards_t, a.number_t, a'.count_t, a'.side_t, a'.yards_t, a'.number_t, tn_0, Int.toNat_natCast, q_lt, n_lt, q_le, n_le, q_eq, n_eq, q_nle, not_false_eq_true, not_true_eq_false, true_and, and_true, true_or, or_true, and_self, ↓reduceIte]
  refine H _ ⟨rfl, rfl, fun q p hq => ?_⟩ (fun p hp => ?_) (fun p hp => ⟨?_, ?_, ?_⟩)
  · unfold Shl at hq
    rw [hpC_co (by omega), hpC_co (by omega), hpC_co (by omega), hpC_co (by omega)]
  · rw [hpC_co (by omega), hpC_co (by omega), hpC_co (by omega), hpC_ci hp]
  · rw [hpC_co (by omega), hpC_co (by omega), hpC_ci hp, hpC_co (by omega)]
  · rw [hpC_co (by omega), hpC_ci hp, hpC_co (by omega), hpC_co (by omega)]
  · rw [hpC_ci hp, hpC_co (by omega), hpC_co (by omega), hpC_co (by omega)]
theorem cHead_cp {h h' : Hp} {r r' : Nat} (e : ∀ k p, 1 ≤ k → k ≤ 5 → p < 8 → hpC h' (r + k) p = hpC h (r' + k) p) (l : Int) : ∀ k g, g + k ≤ 8 → cHead h' r l k g = cHead h r' l k g
  | 0, g, _ => rfl
  | k + 1, g, hg => by simp only [cHead]; rw [e 2 g (by omega) (by omega) (by omega), e 1 g (by omega) (by omega) (by omega), cHead_cp e l k (g + 1) (by omega)]
theorem sp_Tcopy {h : Hp} {t t' : Nat} {w : Nat → Int} (aT : townAt h t) (a' : TR h t' w) (hV : V w) (hd : t + 23 ≤ t' ∨ t' + 23 ≤ t) {d mc ms : Nat} {R : PR} (hd1 : 2 ≤ d) (H : ∀ h', FrP (SD t) h h' → TR h' t w → R none h') : Wp m_Town_copyFrom 0 [some (xR t), some (xR t')] [] h d mc ms R := by
  have v0 := hV.1.1
  have v1 := hV.1.2.1
  have v2 := hV.1.2.2.1
  have v3 := hV.1.2.2.2.1
  have v4 := hV.1.2.2.2.2.1
  have v5 := hV.1.2.2.2.2.2.1
  have v6 := hV.1.2.2.2.2.2.2.1
  have v7 := hV.1.2.2.2.2.2.2.2.1
  have v8 := hV.1.2.2.2.2.2.2.2.2.1
  have v9 := hV.1.2.2.2.2.2.2.2.2.2
  have F : ∀ g, FrP (SD t) h g → townAt g t ∧ TR g t' w := fun g f => ⟨aT.fd f, a'.eq (SD_eqC f hd)⟩
  have hT' := a'.1.1
  apply f_Town_copyFrom_0
  rw [aT.rules_n, hT'.rules_n]
  refine ⟨aT.tag, hT'.tag, ⟨by omega, aT.rules_a.tag⟩, sp_Rcopy aT.rules_a hT'.rules_a (by omega) (by omega) (fun h1 f1 p1 q1 _ => ?_)⟩
  have F1 : FrP (SD t) h h1 := f1.wk (fun q p z => by unfold Srl at z; unfold SD; omega)
  obtain ⟨aT1, a1⟩ := F h1 F1
  have rw1 : RW h1 (t + 1) w := by
    obtain ⟨r0, r1, r2, r3, r4, r5, r6, r7⟩ := a'.1.2.1
    refine ⟨by rw [p1 0 (by omega)]; exact r0, by rw [p1 1 (by omega)]; exact r1, by rw [p1 2 (by omega)]; exact r2, by rw [p1 3 (by omega)]; exact r3, by rw [p1 4 (by omega)]; exact r4, by rw [p1 5 (by omega)]; exact r5, fun k hk => ?_, fun l h1' h2' => ?_⟩
    · rw [show t + 1 + 3 = t + 1 + 3 from rfl, q1 3 k (by omega) (by omega) (by omega), q1 4 k (by omega) (by omega) (by omega), q1 5 k (by omega) (by omega) (by omega)]
      exact r6 k hk
    · rw [cHead_cp q1 _ _ _ (by omega)]; exact r7 l h1' h2'
  have hT1 := a1.1.1
  have e7 : w 7 = ((w 7).toNat : Int) := by omega
  have e6 : w 6 = ((w 6).toNat : Int) := by omega
  have e8 : w 8 = ((w 8).toNat : Int) := by omega
  rw [aT1.streets_n, hT1.streets_n]
  refine ⟨aT1.tag, hT1.tag, ⟨by omega, aT1.streets_a.tag⟩, sp_Ncopy (n := (w 7).toNat) aT1.streets_a hT1.streets_a (by omega) (by rw [← e7]; exact a1.1.2.2.1.1) (by omega) (by omega) (fun h2 f2 c2 q2 _ => ?_)⟩
  have F2 : FrP (SD t) h h2 := F1.tr (f2.wk (fun q p z => by unfold Snl at z; unfold SD; omega))
  obtain ⟨aT2, a2⟩ := F h2 F2
  have nw2 : NW h2 (t + 7) w (w 7) 180 ∧ NS h2 (t + 7) w (w 7) 180 := ⟨⟨by rw [c2]; omega, fun k hk => by rw [(q2 k (by omega)).1]; exact a1.1.2.2.1.2 k hk⟩, fun k hk => by rw [(q2 k (by omega)).2]; exact a1.2.1 k hk⟩
  have rw2 : RW h2 (t + 1) w := rw1.eq (f2.eqC (fun q p h1 h2 z => by unfold Snl at z; omega))
  have hT2 := a2.1.1
  rw [aT2.pool_n, hT2.pool_n]
  refine ⟨aT2.tag, hT2.tag, ⟨by omega, aT2.pool_a.tag⟩, sp_Ncopy (n := (w 6).toNat) aT2.pool_a hT2.pool_a (by omega) (by rw [← e6]; exact a2.1.2.2.2.1.1) (by omega) (by omega) (fun h3 f3 c3 q3 _ => ?_)⟩
  have F3 : FrP (SD t) h h3 := F2.tr (f3.wk (fun q p z => by unfold Snl at z; unfold SD; omega))
  obtain ⟨aT3, a3⟩ := F h3 F3
  have nw3 : NW h3 (t + 10) w (w 6) 60 ∧ NS h3 (t + 10) w (w 6) 60 := ⟨⟨by rw [c3]; omega, fun k hk => by rw [(q3 k (by omega)).1]; exact a2.1.2.2.2.1.2 k hk⟩, fun k hk => by rw [(q3 k (by omega)).2]; exact a2.2.2.1 k hk⟩
  have E3 : eqC h2 h3 t (t + 9) := f3.eqC (fun q p h1 h2 z => by unfold Snl at z; omega)
  have rw3 := rw2.eq (E3.sub (by omega) (by omega))
  have nw2 : NW h3 (t + 7) w (w 7) 180 ∧ NS h3 (t + 7) w (w 7) 180 := ⟨nw2.1.eq (E3.sub (by omega) (by omega)), nw2.2.eq (E3.sub (by omega) (by omega))⟩
  have hT3 := a3.1.1
  rw [aT3.aliases_n, hT3.aliases_n]
  refine ⟨aT3.tag, hT3.tag, ⟨by omega, aT3.aliases_a.tag⟩, sp_Ncopy (n := (w 8).toNat) aT3.aliases_a hT3.aliases_a (by omega) (by rw [← e8]; exact a3.1.2.2.2.2.1.1) (by omega) (by omega) (fun h4 f4 c4 q4 _ => ?_)⟩
  have F4 : FrP (SD t) h h4 := F3.tr (f4.wk (fun q p z => by unfold Snl at z; unfold SD; omega))
  obtain ⟨aT4, a4⟩ := F h4 F4
  have nw4 : NW h4 (t + 13) w (w 8) 650 ∧ NS h4 (t + 13) w (w 8) 650 := ⟨⟨by rw [c4]; omega, fun k hk => by rw [(q4 k (by omega)).1]; exact a3.1.2.2.2.2.1.2 k hk⟩, fun k hk => by rw [(q4 k (by omega)).2]; exact a3.2.2.2.1 k hk⟩
  have E4 : eqC h3 h4 t (t + 12) := f4.eqC (fun q p h1 h2 z => by unfold Snl at z; omega)
  have rw4 := rw3.eq (E4.sub (by omega) (by omega))
  have nw2 : NW h4 (t + 7) w (w 7) 180 ∧ NS h4 (t + 7) w (w 7) 180 := ⟨nw2.1.eq (E4.sub (by omega) (by omega)), nw2.2.eq (E4.sub (by omega) (by omega))⟩
  have nw3 : NW h4 (t + 10) w (w 6) 60 ∧ NS h4 (t + 10) w (w 6) 60 := ⟨nw3.1.eq (E4.sub (by omega) (by omega)), nw3.2.eq (E4.sub (by omega) (by omega))⟩
  have hT4 := a4.1.1
  rw [aT4.aliasStreet_n, hT4.aliasStreet_n, aT4.aliasStreet_t, hT4.aliasStreet_t, tn_0, show Int.toNat (30 : Int) = 30 from rfl]
  refine ⟨hT4.tag, aT4.tag, ⟨by omega, rfl, rfl, by decide, by decide, by decide, by decide, by decide⟩, fun g5 e5 => ?_⟩
  have f5 : FrP (fun q _ => q = t + 16) h4 g5 := by subst e5; exact FrP.cp (fun p => rfl)
  have y5 : ∀ k : Nat, (k : Int) < w 8 → hpC g5 (t + 16) k = w (950 + k) := fun k hk => by subst e5; rw [hpC_ci (by omega)]; exact a4.1.2.2.2.2.2.1 k hk
  clear e5
  have F5 : FrP (SD t) h g5 := F4.tr (f5.wk (fun q p z => by unfold SD; omega))
  obtain ⟨aT5, a5⟩ := F g5 F5
  have E5 : eqC h4 g5 t (t + 15) := f5.eqC (fun q p h1 h2 z => by omega)
  have hT5 := a5.1.1
  rw [aT5.aliasLast_n, hT5.aliasLast_n, aT5.aliasLast_t, hT5.aliasLast_t]
  refine ⟨hT5.tag, aT5.tag, ⟨by omega, rfl, rfl, by decide, by decide, by decide, by decide, by decide⟩, fun g6 e6 => ?_⟩
  have f6 : FrP (fun q _ => q = t + 17) g5 g6 := by subst e6; exact FrP.cp (fun p => rfl)
  have y6 : ∀ k : Nat, (k : Int) < w 8 → hpC g6 (t + 17) k = w (980 + k) := fun k hk => by subst e6; rw [hpC_ci (by omega)]; exact a5.2.2.2.2 k hk
  clear e6
  have F6 : FrP (SD t) h g6 := F5.tr (f6.wk (fun q p z => by unfold SD; omega))
  obtain ⟨aT6, a6⟩ := F g6 F6
  have E6 : eqC g5 g6 t (t + 16) := f6.eqC (fun q p h1 h2 z => by omega)
  have hT6 := a6.1.1
  rw [aT6.homes_n, hT6.homes_n]
  refine ⟨aT6.tag, hT6.tag, ⟨by omega, aT6.homes_a.tag⟩, sp_Hcopy aT6.homes_a hT6.homes_a (by omega) (by omega) (fun h7 f7 c7 q7 _ => ?_)⟩
  have F7 : FrP (SD t) h h7 := F6.tr (f7.wk (fun q p z => by unfold Shl at z; unfold SD; omega))
  obtain ⟨aT7, a7⟩ := F h7 F7
  have E7 : eqC g6 h7 t (t + 18) := f7.eqC (fun q p h1 h2 z => by unfold Shl at z; omega)
  have hh := hV.2.2.2.2.2.2.1
  have hw7 : HW h7 (t + 18) w := fun s hs => by
    have b := (hh s hs).1
    refine ⟨by rw [c7 s hs]; exact (a6.1.2.2.2.2.2.2.1 s hs).1, fun i hi => ?_⟩
    obtain ⟨z1, z2, z3⟩ := q7 (12 * s + i) (by omega)
    rw [z1, z2, z3]
    exact (a6.1.2.2.2.2.2.2.1 s hs).2 i hi
  have y8 : hpC h7 t' 7 = w 9 := a7.1.2.2.2.2.2.2.2
  rw [y8]
  refine ⟨a7.1.1.tag, aT7.tag, fun g8 e8 => ?_⟩
  have f8 : FrP (fun q p => q = t ∧ p = 7) h7 g8 := by subst e8; exact FrP.up ⟨rfl, rfl⟩
  have F8 : FrP (SD t) h g8 := F7.tr (f8.wk (fun q p z => Or.inl z))
  have x8 : hpC g8 t 7 = w 9 := by subst e8; rw [hpC_same]
  clear e8
  have E8 : eqC h7 g8 (t + 1) (t + 22) := f8.eqC (fun q p h1 h2 z => by omega)
  have Ea : eqC h4 g8 (t + 1) (t + 15) := ((E5.sub (by omega) (by omega)).tr (E6.sub (by omega) (by omega))).tr ((E7.sub (by omega) (by omega)).tr (E8.sub (by omega) (by omega)))
  refine H g8 F8 ⟨⟨aT.fd F8, rw4.eq (Ea.sub (by omega) (by omega)), nw2.1.eq (Ea.sub (by omega) (by omega)), nw3.1.eq (Ea.sub (by omega) (by omega)), nw4.1.eq (Ea.sub (by omega) (by omega)), fun k hk => ?_, hw7.eq (E8.sub (by omega) (by omega)), x8⟩, nw2.2.eq (Ea.sub (by omega) (by omega)), nw3.2.eq (Ea.sub (by omega) (by omega)), nw4.2.eq (Ea.sub (by omega) (by omega)), fun k hk => ?_⟩
  · rw [E8.C _ _ (by omega) (by omega), E7.C _ _ (by omega) (by omega), E6.C _ _ (by omega) (by omega)]; exact y5 k hk
  · rw [E8.C _ _ (by omega) (by omega), E7.C _ _ (by omega) (by omega)]; exact y6 k hk
/-! the reference's copies -/
theorem sp_copies {h : Hp} {m : Nat} (a : modelAt h m) {o o' : Nat} (ho : o + 1010 ≤ 24240) (ho' : o' + 1010 ≤ 24240) (hd : o + 1010 ≤ o' ∨ o' + 1010 ≤ o) {d mc ms : Nat} {R : PR} {o3 : Option AV} (H : ∀ h', FrP (fun q p => q = m + 1 ∧ o ≤ p ∧ p < o + 1010) h h' → (∀ p, p < 1010 → hpC h' (m + 1) (o + p) = hpC h (m + 1) (o' + p)) → R none h') : Wp m_M_copies 0 [some (xR m), some (xI (o : Int)), some (xI (o' : Int)), o3] [] h d mc ms R := by
  apply f_M_copies_0
  have L : ∀ (j k : Nat) (g : Hp), k + j = 1010 → FrP (fun q p => q = m + 1 ∧ o ≤ p ∧ p < o + 1010) h g → (∀ p, p < k → hpC g (m + 1) (o + p) = hpC h (m + 1) (o' + p)) → Wp m_M_copies 2 [some (xR m), some (xI (o : Int)), some (xI (o' : Int)), some (xI (k : Int))] [] g d mc ms R := by
    intro j
    induction j with
    | zero =>
      intro k g hk f c
      apply f_M_copies_2
      rw [if_neg (by omega)]
      exact H g f (fun p hp => c p (by omega))
    | succ j ih =>
      intro k g hk f c
      have a := a.fo f (fun p _ z => by omega)
      apply f_M_copies_2
      rw [if_pos (by omega), a.row_n, a.row_t, ai_add_nn (by omega), ai_add_nn (by omega), ab_1 (by omega), Int.toNat_natCast, Int.toNat_natCast]
      refine ⟨a.tag, a.tag, ⟨rfl, by omega, by show ((o' + k : Nat) : Int) < 24240; omega⟩, ⟨rfl, by omega, by show ((o + k : Nat) : Int) < 24240; omega⟩, fun g1 e1 => ?_⟩
      subst e1
      refine ih (k + 1) _ (by omega) (f.tr (FrP.up ⟨rfl, by omega, by omega⟩)) (fun p hp => ?_)
      by_cases e : p = k
      · subst e
        rw [hpC_same, f.2.2 _ _ (by omega)]
      · rw [hpC_o2 (by omega)]; exact c p (by omega)
  exact L 1010 0 h (by omega) FrP.rf (fun p hp => by omega)
