/-! ===== the reference's words and changes ===== -/
theorem sp_lesser {a b : Int} {h : Hp} {d mc ms : Nat} {R : PR} (H : R (some (xI (min a b))) h) : Wp m_M_lesser 0 [some (xI a), some (xI b)] [] h d mc ms R := by
  apply f_M_lesser_0
  by_cases c : a < b
  · rw [if_pos c]; rw [Int.min_eq_left (by omega)] at H; exact H
  · rw [if_neg c]; rw [Int.min_eq_right (by omega)] at H; exact H
theorem sp_greater {a b : Int} {h : Hp} {d mc ms : Nat} {R : PR} (H : R (some (xI (max a b))) h) : Wp m_M_greater 0 [some (xI a), some (xI b)] [] h d mc ms R := by
  apply f_M_greater_0
  by_cases c : b < a
  · rw [if_pos c]; rw [Int.max_eq_left (by omega)] at H; exact H
  · rw [if_neg c]; rw [Int.max_eq_right (by omega)] at H; exact H
theorem sp_isIn {a b c : Int} {h : Hp} {d mc ms : Nat} {R : PR} (H : R (some (xI (if b ≤ a ∧ a ≤ c then 1 else 0))) h) : Wp m_M_isIn 0 [some (xI a), some (xI b), some (xI c)] [] h d mc ms R := by
  apply f_M_isIn_0
  by_cases c1 : a < b
  · rw [if_pos c1]; rw [if_neg (by omega)] at H; exact ⟨Or.inl rfl, H⟩
  · rw [if_neg c1]
    by_cases c2 : c < a
    · rw [if_pos c2]; rw [if_neg (by omega)] at H; exact ⟨Or.inl rfl, H⟩
    · rw [if_neg c2]; rw [if_pos (by omega)] at H; exact ⟨Or.inr rfl, H⟩
def offM (m : Nat) (S : Nat → Nat → Prop) : Prop := ∀ p, p ∈ [0, 1, 3, 4, 13, 16, 18, 19, 20, 21, 23, 24, 25, 26, 27, 29, 31, 32, 33] → ¬ S m p
/-- how many letters stand from a place of the reference's row on -/
def rLen (h : Hp) (c o n : Nat) : Prop := n ≤ 10 ∧ (∀ i, i < n → hpC h c (o + i) ≠ 0) ∧ (n < 10 → hpC h c (o + n) = 0)
def Stw (m : Nat) : Nat → Nat → Prop := fun r p => (r = m ∧ p = 17) ∨ r = m + 6
theorem Stw_off (m : Nat) : offM m (Stw m) := by
  intro p hp z
  rcases z with ⟨-, rfl⟩ | z
  · revert hp; decide
  · omega
theorem sp_takesWord {m o n : Nat} {h : Hp} (hM : modelAt h m) (ho : o + 10 ≤ 24240) (hn : rLen h (m + 1) o n) {d mc ms : Nat} {R : PR} (H : ∀ h', FrP (Stw m) h h' → hpC h' m 17 = (n : Int) → (∀ i, i < n → hpC h' (m + 6) i = hpC h (m + 1) (o + i)) → R none h') :
    Wp m_M_takesWord 0 [some (xR m), some (xI (o : Int))] [] h d mc ms R := by
  obtain ⟨hn1, hn2, hn3⟩ := hn
  apply f_M_takesWord_0
  refine ⟨hM.tag, fun g1 e1 => ?_⟩
  have L : ∀ (j k : Nat) (g : Hp), k + j = n → FrP (Stw m) h g → hpC g m 17 = (k : Int) → (∀ i, i < k → hpC g (m + 6) i = hpC h (m + 1) (o + i)) → Wp m_M_takesWord 5 [some (xR m), some (xI (o : Int))] [] g d mc ms R := by
    intro j
    induction j with
    | zero =>
      intro k g hk hF hc hw
      obtain rfl : k = n := by omega
      have M : modelAt g m := hM.fo hF (Stw_off m)
      have hrow : ∀ p, hpC g (m + 1) p = hpC h (m + 1) p := fun p => hF.2.2 _ _ (by rintro (⟨z, -⟩ | z) <;> omega)
      apply f_M_takesWord_5
      simp (disch := omega) only [M.tag, M.row_n, M.row_t, hc, hrow, ai_add_eq, true_and]
      by_cases c : (k : Int) < 10
      · rw [if_pos c]
        refine ⟨⟨by omega, by omega⟩, ?_⟩
        rw [show Int.toNat ((o : Int) + (k : Int)) = o + k by omega, if_pos (hn3 (by omega))]
        exact H g hF hc hw
      · rw [if_neg c]; exact H g hF hc hw
    | succ j ih =>
      intro k g hk hF hc hw
      have M : modelAt g m := hM.fo hF (Stw_off m)
      have hrow : ∀ p, hpC g (m + 1) p = hpC h (m + 1) p := fun p => hF.2.2 _ _ (by rintro (⟨z, -⟩ | z) <;> omega)
      apply f_M_takesWord_5
      simp (disch := omega) only [M.tag, M.row_n, M.row_t, M.word_n, M.word_t, hc, hrow, ai_add_eq, true_and]
      rw [if_pos (by omega)]
      refine ⟨⟨by omega, by omega⟩, ?_⟩
      rw [show Int.toNat ((o : Int) + (k : Int)) = o + k by omega, if_neg (hn2 k (by omega))]
      refine ⟨⟨by omega, by omega⟩, ⟨by omega, by omega⟩, fun g1 e1 => ?_⟩
      subst e1
      refine ⟨M.tag, M.tag, fun g2 e2 => ?_⟩
      subst e2
      rw [Int.toNat_natCast]
      have e17 : hpC (hpU g (m + 6) k (hpC h (m + 1) (o + k))) m 17 = (k : Int) := by rw [hpC_ne (Or.inl (by omega))]; exact hc
      rw [e17, ai_add_eq (by omega) (by omega)]
      refine ih (k + 1) _ (by omega) ((hF.tr (FrP.up (Or.inr rfl))).tr (FrP.up (Or.inl ⟨rfl, rfl⟩))) ?_ (fun i hi => ?_)
      · rw [hpC_same]; rfl
      · rw [hpC_ne (Or.inl (by omega))]
        by_cases e : i = k
        · subst e; rw [hpC_same]
        · rw [hpC_ne (Or.inr e)]; exact hw i (by omega)
  subst e1
  exact L n 0 _ (by omega) (FrP.up (Or.inl ⟨rfl, rfl⟩)) (by rw [hpC_same]; rfl) (fun i hi => by omega)
/-- letters as naturals -/
def lt (h : Hp) (c o : Nat) : Nat → Nat := fun i => (hpC h c (o + i)).toNat
theorem lv_bound (a b : Nat → Nat) : ∀ i j, lv a b i j ≤ i + j := by
  intro i
  induction i with
  | zero => intro j; rw [lv_0]; omega
  | succ i ih =>
    intro j
    induction j with
    | zero => rw [lv_s0]; omega
    | succ j ihj => rw [lv_ss]; have := ih (j + 1); omega
theorem sp_changesTo {m o n k : Nat} {h : Hp} (hM : modelAt h m) (ho : o + 10 ≤ 24240) (hn : rLen h (m + 1) o n) (hk : hpC h m 17 = (k : Int)) (hk10 : k ≤ 10) (a b : Nat → Nat) (ha : ∀ i, i < k → hpC h (m + 6) i = (a i : Int)) (hb : ∀ i, i < n → hpC h (m + 1) (o + i) = (b i : Int)) {d mc ms : Nat} (hd : 1 ≤ d) {R : PR}
    (H : ∀ h', Fr (fun q => q = m + 9) h h' → R (some (xI (lv a b k n : Int))) h') :
    Wp m_M_changesTo 0 [some (xR m), some (xI (o : Int)), none, none, none, none, none, none, none] [] h d mc ms R := by
  obtain ⟨hn1, hn2, hn3⟩ := hn
  have MM : ∀ g, Fr (fun q => q = m + 9) h g → modelAt g m ∧ hpC g m 17 = (k : Int) ∧ (∀ i, i < k → hpC g (m + 6) i = (a i : Int)) ∧ (∀ p, hpC g (m + 1) p = hpC h (m + 1) p) := by
    intro g hF
    refine ⟨hM.fo (hF.P (S' := fun r _ => r = m + 9) (fun r p z => z)) (fun p _ z => by omega), ?_, fun i hi => ?_, fun p => ?_⟩
    · rw [hF.2.2 m (by omega)]; exact hk
    · rw [hF.2.2 (m + 6) (by omega)]; exact ha i hi
    · exact hF.2.2 (m + 1) (by omega) p
  -- inner loop
  have I : ∀ (j c i : Nat) (g : Hp) (o6 o7 o8 : Option AV), c + j = n → i < k → Fr (fun q => q = m + 9) h g → (∀ q, q ≤ c → hpC g (m + 9) q = (lv a b (i + 1) q : Int)) → (∀ q, c < q → q ≤ n → hpC g (m + 9) q = (lv a b i q : Int)) →
      (∀ (g' : Hp) (x4 x5 x6 x7 x8 : Option AV), Fr (fun q => q = m + 9) h g' → (∀ q, q ≤ n → hpC g' (m + 9) q = (lv a b (i + 1) q : Int)) → Wp m_M_changesTo 48 [some (xR m), some (xI (o : Int)), some (xI (n : Int)), some (xI ((i + 1 + 1 : Nat) : Int)), x4, x5, x6, x7, x8] [] g' d mc ms R) →
      Wp m_M_changesTo 74 [some (xR m), some (xI (o : Int)), some (xI (n : Int)), some (xI ((i + 1 : Nat) : Int)), some (xI (lv a b i c : Int)), some (xI ((c + 1 : Nat) : Int)), o6, o7, o8] [] g d mc ms R := by
    intro j
    induction j with
    | zero =>
      intro c i g o6 o7 o8 hc hi hF hlo hhi K
      apply f_M_changesTo_74
      rw [if_pos (by omega), ai_add_eq (by omega) (by omega)]
      exact K g _ _ _ _ _ hF (fun q hq => hlo q (by omega))
    | succ j ih =>
      intro c i g o6 o7 o8 hc hi hF hlo hhi K
      obtain ⟨M, hk', ha', hrow⟩ := MM g hF
      have b1 := lv_bound a b i c
      have b2 := lv_bound a b i (c + 1)
      have b3 := lv_bound a b (i + 1) c
      have e1 : ai_sub ((c + 1 : Nat) : Int) 1 = (c : Int) := by rw [ai_sub_eq (by omega) (by omega)]; omega
      have e2 : ai_sub ((i + 1 : Nat) : Int) 1 = (i : Int) := by rw [ai_sub_eq (by omega) (by omega)]; omega
      have e3 : ai_sub (ai_add (o : Int) ((c + 1 : Nat) : Int)) 1 = ((o + c : Nat) : Int) := by rw [ai_add_eq (by omega) (by omega), ai_sub_eq (by omega) (by omega)]; omega
      have h1 := hlo c (Nat.le_refl _)
      have h2 := hhi (c + 1) (by omega) (by omega)
      have h3 : hpC g (m + 1) (o + c) = (b c : Int) := by rw [hrow]; exact hb c (by omega)
      apply f_M_changesTo_74
      rw [if_neg (by omega)]
      simp only [M.tag, M.ways_n, M.ways_t, M.word_n, M.word_t, M.row_n, M.row_t, e1, e2, e3, true_and, Int.toNat_natCast, h1, h2, ha' i hi, h3]
      have nxt : ∀ (x : Int) (o6 o7 o8 : Option AV), x = (lv a b (i + 1) (c + 1) : Int) → Wp m_M_changesTo 74 [some (xR m), some (xI (o : Int)), some (xI (n : Int)), some (xI ((i + 1 : Nat) : Int)), some (xI (lv a b i (c + 1) : Int)), some (xI (ai_add ((c + 1 : Nat) : Int) 1)), o6, o7, o8] [] (hpU g (m + 9) (c + 1) x) d mc ms R := by
        intro x o6 o7 o8 hx
        rw [ai_add_eq (by omega) (by omega)]
        refine ih (c + 1) i _ _ _ _ (by omega) hi (hF.tr (Fr.up rfl)) (fun q hq => ?_) (fun q h1 h2 => ?_) K
        · by_cases eq : q = c + 1
          · subst eq; rw [hpC_same, hx]
          · rw [hpC_ne (Or.inr eq)]; exact hlo q (by omega)
        · rw [hpC_ne (Or.inr (by omega))]; exact hhi q (by omega) h2
      refine ⟨⟨by omega, by omega⟩, ⟨by omega, by omega⟩, ⟨by omega, by omega⟩, hd, sp_lesser (fun v1 ev1 => ?_)⟩
      cases ev1
      simp only [M.tag, M.ways_n, M.ways_t, M.word_n, M.word_t, M.row_n, M.row_t, e1, e2, e3, true_and, Int.toNat_natCast, h1, h2, ha' i hi, h3]
      refine ⟨⟨by omega, by omega⟩, ⟨by omega, by omega⟩, ?_⟩
      by_cases q : (a i : Int) = (b c : Int)
      · rw [if_pos q]
        refine ⟨hd, sp_lesser (fun v3 ev3 => ?_)⟩
        cases ev3
        refine ⟨⟨by rw [M.ways_t], by omega, by rw [M.ways_t]; show ((c + 1 : Nat) : Int) < 11; omega⟩, fun g2 eg2 => ?_⟩
        subst eg2
        refine nxt _ _ _ _ ?_
        rw [lv_ss, if_pos (by omega), ai_add_eq (by omega) (by omega), ai_add_eq (by omega) (by omega)]
        omega
      · rw [if_neg q]
        refine ⟨hd, sp_lesser (fun v3 ev3 => ?_)⟩
        cases ev3
        refine ⟨⟨by rw [M.ways_t], by omega, by rw [M.ways_t]; show ((c + 1 : Nat) : Int) < 11; omega⟩, fun g2 eg2 => ?_⟩
        subst eg2
        refine nxt _ _ _ _ ?_
        rw [lv_ss, if_neg (by omega), ai_add_eq (by omega) (by omega), ai_add_eq (by omega) (by omega)]
        omega
  -- outer loop
  have O : ∀ (j i : Nat) (g : Hp) (o4 o5 o6 o7 o8 : Option AV), i + j = k → Fr (fun q => q = m + 9) h g → (∀ q, q ≤ n → hpC g (m + 9) q = (lv a b i q : Int)) →
      Wp m_M_changesTo 48 [some (xR m), some (xI (o : Int)), some (xI (n : Int)), some (xI ((i + 1 : Nat) : Int)), o4, o5, o6, o7, o8] [] g d mc ms R := by
    intro j
    induction j with
    | zero =>
      intro i g o4 o5 o6 o7 o8 hi hF hr
      obtain rfl : i = k := by omega
      obtain ⟨M, hk', ha', hrow⟩ := MM g hF
      apply f_M_changesTo_48
      simp only [M.tag, M.ways_n, M.ways_t, hk', true_and, Int.toNat_natCast]
      rw [if_pos (by omega), hr n (Nat.le_refl _)]
      exact ⟨⟨by omega, by omega⟩, H g hF⟩
    | succ j ih =>
      intro i g o4 o5 o6 o7 o8 hi hF hr
      obtain ⟨M, hk', ha', hrow⟩ := MM g hF
      apply f_M_changesTo_48
      simp only [M.tag, M.ways_n, M.ways_t, hk', true_and, Int.toNat_zero]
      rw [if_neg (by omega), hr 0 (by omega)]
      refine ⟨⟨by omega, by omega⟩, ⟨by omega, by omega⟩, fun g1 e1 => ?_⟩
      subst e1
      refine I n 0 i _ _ _ _ (by omega) (by omega) (hF.tr (Fr.up rfl)) (fun q hq => ?_) (fun q h1 h2 => ?_) (fun g' x4 x5 x6 x7 x8 hF' hr' => ih (i + 1) g' x4 x5 x6 x7 x8 (by omega) hF' hr')
      · obtain rfl : q = 0 := by omega
        rw [hpC_same, lv_s0]
      · rw [hpC_ne (Or.inr (by omega))]; exact hr q h2
  -- the name's length
  have N : ∀ (j c : Nat) (g : Hp), c + j = n → Fr (fun q => q = m + 9) h g → (∀ q, q ≤ n → hpC g (m + 9) q = (q : Int)) → Wp m_M_changesTo 23 [some (xR m), some (xI (o : Int)), some (xI (c : Int)), none, none, none, none, none, none] [] g d mc ms R := by
    intro j
    induction j with
    | zero =>
      intro c g hc hF hr
      obtain rfl : c = n := by omega
      obtain ⟨M, hk', ha', hrow⟩ := MM g hF
      apply f_M_changesTo_23
      simp (disch := omega) only [M.tag, M.row_n, M.row_t, ai_add_eq, true_and]
      have go : Wp m_M_changesTo 48 [some (xR m), some (xI (o : Int)), some (xI (c : Int)), some (xI (1 : Int)), none, none, none, none, none] [] g d mc ms R := O k 0 g _ _ _ _ _ (by omega) hF (fun q hq => by rw [lv_0]; exact hr q hq)
      by_cases q : (c : Int) < 10
      · rw [if_pos q]
        refine ⟨⟨by omega, by omega⟩, ?_⟩
        rw [show Int.toNat ((o : Int) + (c : Int)) = o + c by omega, hrow, if_pos (hn3 (by omega))]
        exact go
      · rw [if_neg q]; exact go
    | succ j ih =>
      intro c g hc hF hr
      obtain ⟨M, hk', ha', hrow⟩ := MM g hF
      apply f_M_changesTo_23
      simp (disch := omega) only [M.tag, M.row_n, M.row_t, ai_add_eq, true_and]
      rw [if_pos (by omega)]
      refine ⟨⟨by omega, by omega⟩, ?_⟩
      rw [show Int.toNat ((o : Int) + (c : Int)) = o + c by omega, hrow, if_neg (hn2 c (by omega))]
      exact ih (c + 1) g (by omega) hF hr
  have F : ∀ (j c : Nat) (g : Hp), c + j = 11 → Fr (fun q => q = m + 9) h g → (∀ q, q < c → hpC g (m + 9) q = (q : Int)) → Wp m_M_changesTo 2 [some (xR m), some (xI (o : Int)), some (xI (c : Int)), none, none, none, none, none, none] [] g d mc ms R := by
    intro j
    induction j with
    | zero =>
      intro c g hc hF hr
      apply f_M_changesTo_2
      rw [if_pos (by omega)]
      exact N n 0 g (by omega) hF (fun q hq => hr q (by omega))
    | succ j ih =>
      intro c g hc hF hr
      obtain ⟨M, hk', ha', hrow⟩ := MM g hF
      apply f_M_changesTo_2
      simp (disch := omega) only [M.tag, M.ways_n, M.ways_t, ai_add_eq, true_and, Int.toNat_natCast]
      rw [if_neg (by omega)]
      refine ⟨⟨by omega, by omega⟩, fun g1 e1 => ?_⟩
      subst e1
      refine ih (c + 1) _ (by omega) (hF.tr (Fr.up rfl)) (fun q hq => ?_)
      by_cases eq : q = c
      · subst eq; rw [hpC_same]
      · rw [hpC_ne (Or.inr eq)]; exact hr q (by omega)
  apply f_M_changesTo_0
  exact F 11 0 h (by omega) Fr.rf (fun q hq => by omega)
