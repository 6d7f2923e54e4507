/-! ===== the reference's KEY ===== -/
def mPair (h : Hp) (c o : Nat) (a b : Int) : Nat → Nat → Int
  | 0, _ => -1
  | k + 1, p => if hpC h c (o + 36 + 3 * p) = a ∧ hpC h c (o + 36 + 3 * p + 1) = b then (p : Int) else mPair h c o a b k (p + 1)
theorem sp_mPair {h : Hp} {m o np : Nat} (hM : modelAt h m) (ho : o + 1010 ≤ 24240) (hp : hpC h (m + 1) (o + 5) = (np : Int)) (h8 : np ≤ 8) {a b : Int} {d mc ms : Nat} {R : PR} (H : R (some (xI (mPair h (m + 1) o a b np 0))) h) : Wp m_M_pairOf 0 [some (xR m), some (xI (o : Int)), some (xI a), some (xI b), none] [] h d mc ms R := by
  apply f_M_pairOf_0
  have e5 : ai_add (o : Int) 5 = ((o + 5 : Nat) : Int) := by rw [ai_add_eq (by omega) (by omega)]; rfl
  have L : ∀ j k : Nat, k + j = np → R (some (xI (mPair h (m + 1) o a b j k))) h → Wp m_M_pairOf 3 [some (xR m), some (xI (o : Int)), some (xI a), some (xI b), some (xI (k : Int))] [] h d mc ms R := by
    intro j
    induction j with
    | zero =>
      intro k hk H
      apply f_M_pairOf_3
      simp only [hM.tag, hM.row_n, hM.row_t, e5, Int.toNat_natCast, hp, true_and]
      rw [if_neg (by omega)]
      exact ⟨⟨by omega, by omega⟩, H⟩
    | succ j ih =>
      intro k hk H
      have e3 : ai_add (ai_add (o : Int) 36) (ai_mul 3 (k : Int)) = ((o + 36 + 3 * k : Nat) : Int) := by simp (disch := omega) only [ai_add_eq, ai_mul_eq] <;> omega
      have e4 : ai_add ((o + 36 + 3 * k : Nat) : Int) 1 = ((o + 36 + 3 * k + 1 : Nat) : Int) := by rw [ai_add_eq (by omega) (by omega)]; omega
      have ek : ai_add (k : Int) 1 = ((k + 1 : Nat) : Int) := by simp (disch := omega) only [ai_add_eq] <;> omega
      apply f_M_pairOf_3
      simp only [hM.tag, hM.row_n, hM.row_t, e5, e3, e4, ek, Int.toNat_natCast, hp, true_and]
      rw [if_pos (by omega)]
      simp only [mPair] at H
      refine ⟨⟨by omega, by omega⟩, ⟨by omega, by omega⟩, ?_⟩
      by_cases c1 : hpC h (m + 1) (o + 36 + 3 * k) = a
      · rw [if_pos c1]
        refine ⟨⟨by omega, by omega⟩, ?_⟩
        by_cases c2 : hpC h (m + 1) (o + 36 + 3 * k + 1) = b
        · rw [if_pos c2]
          rw [if_pos ⟨c1, c2⟩] at H
          exact H
        · rw [if_neg c2]
          rw [if_neg (fun z => c2 z.2)] at H
          exact ih (k + 1) (by omega) H
      · rw [if_neg c1]
        rw [if_neg (fun z => c1 z.1)] at H
        exact ih (k + 1) (by omega) H
  exact L np 0 (by omega) H
/-- the rules in the reference's row -/
def rulesRow (h : Hp) (m : Nat) (pr : Nat → Nat → Nat) (mu : Nat → Bool) (hd : Nat → Nat) : Prop :=
  ∃ np : Nat, hpC h (m + 1) 5 = (np : Int) ∧ np ≤ 8 ∧ (∀ a b : Nat, 1 ≤ a → a ≤ 26 → 1 ≤ b → b ≤ 26 → (mPair h (m + 1) 0 (a : Int) (b : Int) np 0 = -1 ∧ pr a b = 0) ∨ ∃ k : Nat, k < 8 ∧ mPair h (m + 1) 0 (a : Int) (b : Int) np 0 = (k : Int) ∧ hpC h (m + 1) (36 + 3 * k + 2) = (pr a b : Int) ∧ pr a b ≠ 0) ∧
  (∀ a : Nat, 1 ≤ a → a ≤ 26 → hpC h (m + 1) (10 + a - 1) = (hd a : Int)) ∧ (∀ a : Nat, 1 ≤ a → a ≤ 26 → (ai_and (ai_shr (hpC h (m + 1) 3) ((a - 1 : Nat) : Int)) 1 = 1 ↔ mu a = true)) ∧
  (∀ a b : Nat, pr a b ≤ 26) ∧ (∀ a : Nat, 1 ≤ a → a ≤ 26 → 1 ≤ hd a ∧ hd a ≤ 26)
theorem mPair_same {h g : Hp} {c o : Nat} {a b : Int} (hc : ∀ p, hpC g c p = hpC h c p) : ∀ j k, mPair g c o a b j k = mPair h c o a b j k := by
  intro j
  induction j with
  | zero => intro k; rfl
  | succ j ih => intro k; simp only [mPair, hc, ih]
theorem rulesRow.same {h g : Hp} {m : Nat} {pr : Nat → Nat → Nat} {mu : Nat → Bool} {hd : Nat → Nat} (a : rulesRow h m pr mu hd) (hc : ∀ p, hpC g (m + 1) p = hpC h (m + 1) p) : rulesRow g m pr mu hd := by
  obtain ⟨np, a1, a2, a3, a4, a5, a6, a7⟩ := a
  refine ⟨np, by rw [hc]; exact a1, a2, fun x y h1 h2 h3 h4 => ?_, fun x h1 h2 => by rw [hc]; exact a4 x h1 h2, fun x h1 h2 => by rw [hc]; exact a5 x h1 h2, a6, a7⟩
  rw [mPair_same hc]
  simp only [hc]
  exact a3 x y h1 h2 h3 h4
theorem kp_mem {pr : Nat → Nat → Nat} {f : Nat → Nat} {n : Nat} (hf : ∀ i, i < n → 1 ≤ f i ∧ f i ≤ 26) (hp : ∀ a b, pr a b ≤ 26) : ∀ j i, ∀ c ∈ kp pr f n j i, 1 ≤ c ∧ c ≤ 26 := by
  intro j
  induction j with
  | zero => intro i c hc; simp [kp] at hc
  | succ j ih =>
    intro i c hc
    simp only [kp] at hc
    split at hc
    · rename_i h1
      split at hc
      · rename_i h2
        rcases List.mem_cons.mp hc with rfl | hc
        · exact ⟨by omega, hp _ _⟩
        · exact ih _ c hc
      · rcases List.mem_cons.mp hc with rfl | hc
        · exact hf i h1
        · exact ih _ c hc
    · simp at hc
theorem kp_len {pr : Nat → Nat → Nat} {f : Nat → Nat} {n : Nat} : ∀ j i, i ≤ n → (kp pr f n j i).length ≤ n - i := by
  intro j
  induction j with
  | zero => intro i _; simp [kp]
  | succ j ih =>
    intro i hi
    simp only [kp]
    split
    · split
      · have := ih (i + 2) (by omega); simp only [List.length_cons]; omega
      · have := ih (i + 1) (by omega); simp only [List.length_cons]; omega
    · simp
theorem kd_len {mu : Nat → Bool} {hd : Nat → Nat} : ∀ (P : List Nat) (fst : Bool) (la : Nat), (kd mu hd fst la P).length ≤ P.length
  | [], _, _ => by simp [kd]
  | c :: cs, fst, la => by
    simp only [kd]
    split
    · have := kd_len (mu := mu) (hd := hd) cs false la; simp only [List.length_cons]; omega
    · split
      · have := kd_len (mu := mu) (hd := hd) cs false la; simp only [List.length_cons]; omega
      · have := kd_len (mu := mu) (hd := hd) cs false (hd c); simp only [List.length_cons]; omega
theorem keyL_len {pr : Nat → Nat → Nat} {mu : Nat → Bool} {hd : Nat → Nat} {f : Nat → Nat} {n : Nat} : (keyL pr mu hd f n).length ≤ n := Nat.le_trans (kd_len _ _ _) (by have := kp_len (pr := pr) (f := f) (n := n) n 0 (Nat.zero_le _); omega)
theorem kd_mem {mu : Nat → Bool} {hd : Nat → Nat} (hh : ∀ a : Nat, 1 ≤ a → a ≤ 26 → 1 ≤ hd a ∧ hd a ≤ 26) : ∀ (P : List Nat) (fst : Bool) (la : Nat), (∀ c ∈ P, 1 ≤ c ∧ c ≤ 26) → ∀ c ∈ kd mu hd fst la P, 1 ≤ c ∧ c ≤ 26
  | [], _, _, _, c, hc => by simp [kd] at hc
  | p :: ps, fst, la, hP, c, hc => by
    have h1 := hP p List.mem_cons_self
    have h2 : ∀ c ∈ ps, 1 ≤ c ∧ c ≤ 26 := fun c hc => hP c (List.mem_cons_of_mem _ hc)
    simp only [kd] at hc
    split at hc
    · exact kd_mem hh ps _ _ h2 c hc
    · split at hc
      · exact kd_mem hh ps _ _ h2 c hc
      · rcases List.mem_cons.mp hc with rfl | hc
        · exact hh p h1.1 h1.2
        · exact kd_mem hh ps _ _ h2 c hc
theorem sp_sounds {h : Hp} {m t n : Nat} (hM : modelAt h m) (ht : hpT h t = (20, 10)) (t0 : t ≠ m) (t1 : t ≠ m + 1) (t6 : t ≠ m + 6) (hk : hpC h m 17 = (n : Int)) (hn : n ≤ 10) {f : Nat → Nat} (hf : ∀ i, i < n → hpC h (m + 6) i = (f i : Int)) (hf26 : ∀ i, i < n → 1 ≤ f i ∧ f i ≤ 26) {pr : Nat → Nat → Nat} {mu : Nat → Bool} {hd : Nat → Nat} (hA : rulesRow h m pr mu hd) {d mc ms : Nat} (hdd : 1 ≤ d) {R : PR}
    (H : ∀ h', Fr (fun q => q = t) h h' → (∀ i, i < 10 → hpC h' t i = ((keyL pr mu hd f n).getD i 0 : Int)) → R (some (xI ((keyL pr mu hd f n).length : Int))) h') :
    Wp m_M_sounds 0 [some (xR m), some (xR t), none, none, none, none, none] [] h d mc ms R := by
  have MM : ∀ g, Fr (fun q => q = t) h g → modelAt g m ∧ hpC g m 17 = (n : Int) ∧ (∀ i, i < n → hpC g (m + 6) i = (f i : Int)) ∧ (∀ p, hpC g (m + 1) p = hpC h (m + 1) p) ∧ hpT g t = (20, 10) := by
    intro g hF
    refine ⟨hM.fo (hF.P (S' := fun r _ => r = t) (fun r p z => z)) (fun p _ z => t0 z.symm), ?_, fun i hi => ?_, fun p => ?_, by rw [hF.2.1]; exact ht⟩
    · rw [hF.2.2 m (fun z => t0 z.symm)]; exact hk
    · rw [hF.2.2 (m + 6) (fun z => t6 z.symm)]; exact hf i hi
    · exact hF.2.2 (m + 1) (fun z => t1 z.symm) p
  have hPm := kp_mem (pr := pr) (f := f) (n := n) hf26 hA.choose_spec.2.2.2.2.2.1 n 0
  have hPl : (kp pr f n n 0).length ≤ n := by have := kp_len (pr := pr) (f := f) (n := n) n 0 (Nat.zero_le _); omega
  generalize hPe : kp pr f n n 0 = P at hPm hPl
  have hKe : keyL pr mu hd f n = kd mu hd true 0 P := by unfold keyL; rw [hPe]
  -- the end: nothing behind the letters
  have Z : ∀ (j i : Nat) (g : Hp) (o0 o2 o3 o6 : Option AV), i + j = 10 → (keyL pr mu hd f n).length ≤ i → Fr (fun q => q = t) h g → (∀ q, q < i → hpC g t q = ((keyL pr mu hd f n).getD q 0 : Int)) → Wp m_M_sounds 192 [o0, some (xR t), o2, o3, some (xI ((keyL pr mu hd f n).length : Int)), some (xI (i : Int)), o6] [] g d mc ms R := by
    intro j
    induction j with
    | zero =>
      intro i g o0 o2 o3 o6 hi hl hF hq
      apply f_M_sounds_192
      rw [if_neg (by omega)]
      exact H g hF (fun i' hi' => hq i' (by omega))
    | succ j ih =>
      intro i g o0 o2 o3 o6 hi hl hF hq
      have ht' := (MM g hF).2.2.2.2
      apply f_M_sounds_192
      rw [if_pos (by omega), ht']
      refine ⟨⟨rfl, by omega, by show (i : Int) < 10; omega⟩, fun g1 e1 => ?_⟩
      subst e1
      rw [Int.toNat_natCast, ai_add_eq (by omega) (by omega)]
      refine ih (i + 1) _ _ _ _ _ (by omega) (by omega) (hF.tr (Fr.up rfl)) (fun q hq' => ?_)
      by_cases e : q = i
      · subst e
        rw [hpC_same]; simp [List.getD, List.getElem?_eq_none hl]
      · rw [hpC_ne (Or.inr e)]; exact hq q (by omega)
  -- mute letters, heads, no letter twice
  have S2 : ∀ (Q : List Nat) (i : Nat) (K : List Nat) (la : Nat) (g : Hp) (o3 o6 : Option AV), P.length = i + Q.length → K.length ≤ i → (K = [] → la = 0) → (K ≠ [] → hpC g t (K.length - 1) = (la : Int)) → K ++ kd mu hd (decide (i = 0)) la Q = keyL pr mu hd f n → (∀ c ∈ Q, 1 ≤ c ∧ c ≤ 26) → Fr (fun q => q = t) h g → (∀ q, q < K.length → hpC g t q = (K.getD q 0 : Int)) → (∀ q, q < Q.length → hpC g t (i + q) = (Q.getD q 0 : Int)) →
      Wp m_M_sounds 105 [some (xR m), some (xR t), some (xI (P.length : Int)), o3, some (xI (K.length : Int)), some (xI (i : Int)), o6] [] g d mc ms R := by
    intro Q
    induction Q with
    | nil =>
      intro i K la g o3 o6 hPi hKi hK0 hKl hkey hQ hF hKq hQq
      simp only [kd, List.append_nil] at hkey
      apply f_M_sounds_105
      simp only [List.length_nil, Nat.add_zero] at hPi
      rw [if_neg (by omega)]
      have hl : K.length = (keyL pr mu hd f n).length := by rw [hkey]
      rw [hl]
      have hl10 := keyL_len (pr := pr) (mu := mu) (hd := hd) (f := f) (n := n)
      exact Z (10 - (keyL pr mu hd f n).length) _ g _ _ _ _ (by omega) (Nat.le_refl _) hF (fun q hq => by rw [← hkey]; exact hKq q (by omega))
    | cons c Q ih =>
      intro i K la g o3 o6 hPi hKi hK0 hKl hkey hQ hF hKq hQq
      simp only [List.length_cons] at hPi
      obtain ⟨M, hk', hf', hrow, ht'⟩ := MM g hF
      obtain ⟨np, b1, b2, b3, b4, b5, b6, b7⟩ := hA.same hrow
      have hc := hQ c List.mem_cons_self
      have hci : hpC g t i = (c : Int) := by have := hQq 0 (by simp); simpa using this
      have hQ' : ∀ x ∈ Q, 1 ≤ x ∧ x ≤ 26 := fun x hx => hQ x (List.mem_cons_of_mem _ hx)
      have hdc := b7 c hc.1 hc.2
      have e1 : ai_sub (ai_add 10 (c : Int)) 1 = ((10 + c - 1 : Nat) : Int) := by rw [ai_add_eq (by omega) (by omega), ai_sub_eq (by omega) (by omega)]; omega
      have e2 : ai_sub (c : Int) 1 = ((c - 1 : Nat) : Int) := by rw [ai_sub_eq (by omega) (by omega)]; omega
      have hQn : ∀ g', (∀ q, i < q → hpC g' t q = hpC g t q) → ∀ q, q < Q.length → hpC g' t (i + 1 + q) = (Q.getD q 0 : Int) := by
        intro g' hg' q hq
        rw [hg' _ (by omega)]
        have := hQq (q + 1) (by simp; omega)
        rw [show i + 1 + q = i + (q + 1) by omega, this]; simp
      have hdec : decide (i + 1 = 0) = false := by simp
      -- behind the mute test
      have B : K ++ (if hd c = la then kd mu hd false la Q else hd c :: kd mu hd false (hd c) Q) = keyL pr mu hd f n → Wp m_M_sounds 138 [some (xR m), some (xR t), some (xI (P.length : Int)), o3, some (xI (K.length : Int)), some (xI (i : Int)), o6] [] g d mc ms R := by
        intro hkey
        apply f_M_sounds_138
        simp (disch := omega) only [M.tag, M.row_n, M.row_t, ht', hci, e1, Int.toNat_natCast, b4 c hc.1 hc.2, true_and]
        refine ⟨⟨by omega, by omega⟩, ⟨by omega, by omega⟩, ?_⟩
        have put : hd c ≠ la → ∀ (o3 o6 : Option AV), Wp m_M_sounds 105 [some (xR m), some (xR t), some (xI (P.length : Int)), o3, some (xI (ai_add (K.length : Int) 1)), some (xI (ai_add (i : Int) 1)), o6] [] (hpU g t K.length (hd c : Int)) d mc ms R := by
          intro hne o3 o6
          rw [if_neg hne] at hkey
          rw [ai_add_eq (by omega) (by omega), ai_add_eq (by omega) (by omega), show ((K.length : Int) + 1) = ((K ++ [hd c]).length : Int) by simp]
          refine ih (i + 1) (K ++ [hd c]) (hd c) _ _ _ (by omega) (by simp; omega) (by simp) (fun _ => ?_) (by rw [hdec, List.append_assoc]; exact hkey) hQ' (hF.tr (Fr.up rfl)) (fun q hq => ?_) (hQn _ (fun q hq => by rw [hpC_ne (Or.inr (by omega))]))
          · simp only [List.length_append, List.length_singleton, Nat.add_sub_cancel]; rw [hpC_same]
          · simp only [List.length_append, List.length_singleton] at hq
            by_cases e : q = K.length
            · subst e; rw [hpC_same]; simp
            · rw [hpC_ne (Or.inr e), hKq q (by omega)]
              simp [List.getD, List.getElem?_append_left (show q < K.length by omega)]
        by_cases hK : K = []
        · have hl0 : K.length = 0 := by rw [hK]; rfl
          rw [if_neg (by omega)]
          refine ⟨⟨by omega, by omega⟩, fun g1 eg => ?_⟩
          subst eg
          exact put (by rw [hK0 hK]; omega) _ _
        · have hlp : 0 < K.length := List.length_pos_iff.mpr hK
          rw [if_pos (by omega), show ai_sub (K.length : Int) 1 = ((K.length - 1 : Nat) : Int) by rw [ai_sub_eq (by omega) (by omega)]; omega]
          refine ⟨⟨by omega, by omega⟩, ?_⟩
          rw [Int.toNat_natCast, hKl hK]
          by_cases cl : hd c = la
          · rw [if_pos (by omega), ai_add_eq (by omega) (by omega)]
            rw [if_pos cl] at hkey
            exact ih (i + 1) K la g _ _ (by omega) (by omega) hK0 hKl (by rw [hdec]; exact hkey) hQ' hF hKq (hQn g (fun q _ => rfl))
          · rw [if_neg (by omega)]
            refine ⟨⟨by omega, by omega⟩, fun g1 eg => ?_⟩
            subst eg
            exact put cl _ _
      simp only [kd] at hkey
      apply f_M_sounds_105
      rw [if_pos (by omega)]
      by_cases ci : i = 0
      · rw [if_neg (by omega)]
        rw [if_neg (by simp [ci])] at hkey
        exact B hkey
      · rw [if_pos (by omega)]
        simp (disch := omega) only [M.tag, M.row_n, M.row_t, ht', hci, e2, Int.toNat_natCast, show Int.toNat (3 : Int) = 3 from rfl, true_and, ai_add_eq]
        refine ⟨⟨by omega, by omega⟩, ⟨by omega, by omega⟩, ?_⟩
        by_cases cm : mu c = true
        · rw [if_pos ((b5 c hc.1 hc.2).mpr cm)]
          rw [if_pos ⟨by simp [ci], cm⟩] at hkey
          exact ih (i + 1) K la g _ _ (by omega) (by omega) hK0 hKl (by rw [hdec]; exact hkey) hQ' hF hKq (hQn g (fun q _ => rfl))
        · rw [if_neg (fun z => cm ((b5 c hc.1 hc.2).mp z))]
          rw [if_neg (fun z => cm z.2)] at hkey
          exact B hkey
  -- pairs
  have S1 : ∀ (j i : Nat) (P1 : List Nat) (g : Hp) (o4 o5 o6 : Option AV), n ≤ i + j → P1.length ≤ i → i ≤ n → P1 ++ kp pr f n j i = P → Fr (fun q => q = t) h g → (∀ q, q < P1.length → hpC g t q = (P1.getD q 0 : Int)) → Wp m_M_sounds 4 [some (xR m), some (xR t), some (xI (P1.length : Int)), some (xI (i : Int)), o4, o5, o6] [] g d mc ms R := by
    intro j
    induction j with
    | zero =>
      intro i P1 g o4 o5 o6 hi hP1 hin hPe hF hq
      obtain ⟨M, hk', hf', hrow, ht'⟩ := MM g hF
      simp only [kp, List.append_nil] at hPe
      subst hPe
      apply f_M_sounds_4
      simp only [M.tag, hk', true_and]
      rw [if_neg (by omega)]
      exact S2 P1 0 [] 0 g _ _ (by simp) (by simp) (fun _ => rfl) (fun z => absurd rfl z) (by rw [hKe]; simp) hPm hF (by simp) (fun q hq' => by simpa using hq q hq')
    | succ j ih =>
      intro i P1 g o4 o5 o6 hi hP1 hin hPe hF hq
      obtain ⟨M, hk', hf', hrow, ht'⟩ := MM g hF
      by_cases hlt : i < n
      · have hA' := hA.same hrow
        obtain ⟨np, b1, b2, b3, b4, b5, b6, b7⟩ := hA'
        have fi := hf26 i hlt
        simp only [kp] at hPe
        rw [if_pos hlt] at hPe
        have nxt : ∀ (c : Nat) (i' : Nat) (o4 o5 o6 : Option AV), i < i' → i' ≤ n → P1 ++ c :: kp pr f n j i' = P → Wp m_M_sounds 4 [some (xR m), some (xR t), some (xI ((P1.length : Int) + 1)), some (xI (i' : Int)), o4, o5, o6] [] (hpU g t P1.length (c : Int)) d mc ms R := by
          intro c i' o4 o5 o6 h1 h2 h3
          rw [show ((P1.length : Int) + 1) = ((P1 ++ [c]).length : Int) by simp]
          refine ih i' (P1 ++ [c]) _ _ _ _ (by omega) (by simp; omega) h2 (by rw [List.append_assoc]; exact h3) (hF.tr (Fr.up rfl)) (fun q hq' => ?_)
          simp only [List.length_append, List.length_singleton] at hq'
          by_cases e : q = P1.length
          · subst e; rw [hpC_same]; simp
          · rw [hpC_ne (Or.inr e), hq q (by omega)]
            simp [List.getD, List.getElem?_append_left (show q < P1.length by omega)]
        have none' : ¬ (i + 1 < n ∧ pr (f i) (f (i + 1)) ≠ 0) → Wp m_M_sounds 45 [some (xR m), some (xR t), some (xI (P1.length : Int)), some (xI (i : Int)), o4, o5, o6] [xI (-1 : Int)] g d mc ms R := by
          intro hno
          rw [if_neg hno] at hPe
          apply f_M_sounds_45
          simp (disch := omega) only [if_true, M.tag, M.word_n, M.word_t, ht', Int.toNat_natCast, hf' i hlt, true_and, ai_add_eq]
          refine ⟨⟨by omega, by omega⟩, ⟨by omega, by omega⟩, fun g1 eg => ?_⟩
          subst eg
          exact nxt (f i) (i + 1) _ _ _ (by omega) (by omega) hPe
        apply f_M_sounds_4
        have ea : ai_add (i : Int) 1 = ((i + 1 : Nat) : Int) := by rw [ai_add_eq (by omega) (by omega)]; rfl
        simp only [M.tag, hk', true_and, ea]
        rw [if_pos (by omega)]
        by_cases h1 : i + 1 < n
        · rw [if_pos (by omega)]
          simp only [M.word_n, M.word_t, Int.toNat_natCast, hf' i hlt, hf' (i + 1) h1]
          have fi1 := hf26 (i + 1) h1
          refine ⟨⟨trivial, by omega, by omega⟩, ⟨trivial, by omega, by omega⟩, ⟨hdd, trivial⟩, sp_mPair (o := 0) M (by omega) (by simpa using b1) b2 (fun v e => ?_)⟩
          cases e
          rcases b3 (f i) (f (i + 1)) fi.1 fi.2 fi1.1 fi1.2 with ⟨c1, c2⟩ | ⟨k, c1, c2, c3, c4⟩
          · rw [c1]
            exact none' (fun z => z.2 c2)
          · rw [c2]
            rw [if_pos ⟨h1, c4⟩] at hPe
            have ek : ai_add (ai_add 36 (ai_mul 3 (k : Int))) 2 = ((36 + 3 * k + 2 : Nat) : Int) := by simp (disch := omega) only [ai_add_eq, ai_mul_eq] <;> omega
            apply f_M_sounds_45
            simp (disch := omega) only [M.tag, M.row_n, M.row_t, ht', ek, Int.toNat_natCast, c3, true_and, ai_add_eq]
            rw [if_neg (by omega)]
            refine ⟨⟨by omega, by omega⟩, ⟨by omega, by omega⟩, fun g1 eg => ?_⟩
            subst eg
            rw [if_neg (by omega)]
            exact nxt _ (i + 2) _ _ _ (by omega) (by omega) hPe
        · rw [if_neg (by omega)]
          exact none' (fun z => h1 z.1)
      · simp only [kp] at hPe
        rw [if_neg hlt, List.append_nil] at hPe
        subst hPe
        apply f_M_sounds_4
        simp only [M.tag, hk', true_and]
        rw [if_neg (by omega)]
        exact S2 P1 0 [] 0 g _ _ (by simp) (by simp) (fun _ => rfl) (fun z => absurd rfl z) (by rw [hKe]; simp) hPm hF (by simp) (fun q hq' => by simpa using hq q hq')
  apply f_M_sounds_0
  exact S1 n 0 [] h _ _ _ (by omega) (by simp) (by omega) (by simpa using hPe) Fr.rf (by simp)
