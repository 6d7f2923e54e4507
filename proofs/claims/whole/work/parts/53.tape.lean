/-! ===== the tape: feed, end, words on it ===== -/
def sgB (v : Nat) : Int := if v < 128 then (v : Int) else (v : Int) - 256
theorem and255 (y : Int) : 0 ≤ ai_and y 255 ∧ ai_and y 255 < 256 ∧ ai_nar 22 (ai_byte y) = sgB (ai_and y 255).toNat := by
  have e1 : ai_and y 255 = (((Int32.ofInt y).toBitVec.toNat % 256 : Nat) : Int) := by
    unfold ai_and
    have e : Int32.ofInt y &&& Int32.ofInt 255 = Int32.ofInt (((Int32.ofInt y).toBitVec.toNat % 256 : Nat) : Int) := by
      rw [← Int32.toBitVec_inj, Int32.toBitVec_and]
      apply BitVec.eq_of_toNat_eq
      rw [BitVec.toNat_and, Int32.toBitVec_ofInt, Int32.toBitVec_ofInt, Int32.toBitVec_ofInt, show (BitVec.ofInt 32 255).toNat = 2 ^ 8 - 1 by decide, Nat.and_two_pow_sub_one_eq_mod, BitVec.ofInt_natCast, BitVec.toNat_ofNat]
      generalize (BitVec.ofInt 32 y).toNat = z
      omega
    rw [e]
    exact aTo (by omega) (by omega)
  have e2 : ai_nar 22 (ai_byte y) = (Int32.ofInt y).toInt8.toInt := by
    unfold ai_nar ai_byte
    rw [if_pos rfl, Int32.ofInt_toInt]
    show (vp_nar .byte (Int32.ofInt y).toInt8.toInt32).toInt = _
    have : vp_nar .byte (Int32.ofInt y).toInt8.toInt32 = (Int32.ofInt y).toInt8.toInt32.toInt8.toInt32 := rfl
    rw [this, Int8.toInt8_toInt32, Int8.toInt_toInt32]
  have e3 : (Int32.ofInt y).toInt8.toInt = Int.bmod ((Int32.ofInt y).toBitVec.toNat : Int) 256 := by
    rw [Int32.toInt_toInt8, ← Int32.toInt_toBitVec, BitVec.toInt_eq_toNat_bmod, Int.bmod_bmod_of_dvd (by decide)]
  rw [e2, e3, e1, Int.toNat_natCast]
  generalize (Int32.ofInt y).toBitVec.toNat = z
  refine ⟨by omega, by omega, ?_⟩
  unfold sgB
  rw [Int.bmod_def]
  have h1 : ((z : Int) % ((256 : Nat) : Int)) = ((z % 256 : Nat) : Int) := by omega
  rw [h1, show (((256 : Nat) : Int) + 1) / 2 = 128 from rfl]
  by_cases c : z % 256 < 128
  · rw [if_pos c, if_pos (by omega)]
  · rw [if_neg c, if_neg (by omega)]; omega
def byP (v : Int) (k : Nat) : Nat := (ai_and (ai_shr v (24 - 8 * (k : Int))) 255).toNat
theorem byP_lt (v : Int) (k : Nat) : byP v k < 256 := by
  have := and255 (ai_shr v (24 - 8 * (k : Int)))
  unfold byP; omega
def putB (b : Nat → Nat) (n : Nat) (v : Int) (j : Nat) : Nat → Nat := fun i => if n ≤ i ∧ i < n + j then byP v (i - n) else b i
theorem gdE {l : List Nat} {i : Nat} (h : i < l.length) : l.getD i 0 = l[i] := by simp [List.getD, h]
/-- own words -/
def owL : Nat → List Nat
  | 0 => [14, 5, 1, 18]
  | 1 => [12, 1, 19, 20]
  | 2 => [19, 20, 5, 16]
  | 3 => [13, 21, 20, 5]
  | 4 => [19, 1, 13, 5]
  | 5 => [16, 1, 9, 18]
  | 6 => [19, 20, 18, 5, 5, 20]
  | 7 => [8, 15, 21, 19, 5]
  | 8 => [12, 5, 6, 20]
  | 9 => [18, 9, 7, 8, 20]
  | 10 => [1, 12, 9, 1, 19]
  | 11 => [15, 6]
  | 12 => [16, 15, 15, 12]
  | _ => []
def owO : Nat → Nat
  | 0 => 0
  | 1 => 5
  | 2 => 10
  | 3 => 15
  | 4 => 20
  | 5 => 25
  | 6 => 30
  | 7 => 37
  | 8 => 43
  | 9 => 48
  | 10 => 54
  | 11 => 60
  | 12 => 63
  | _ => 68
def owT : List Int := [14, 5, 1, 18, 0, 12, 1, 19, 20, 0, 19, 20, 5, 16, 0, 13, 21, 20, 5, 0, 19, 1, 13, 5, 0, 16, 1, 9, 18, 0, 19, 20, 18, 5, 5, 20, 0, 8, 15, 21, 19, 5, 0, 12, 5, 6, 20, 0, 18, 9, 7, 8, 20, 0, 1, 12, 9, 1, 19, 0, 15, 6, 0, 16, 15, 15, 12, 0]
def ownI (l : List Nat) : Int := fst1 (fun i => decide (owL i = l)) 13 0
theorem owL_mem : ∀ i, ∀ c ∈ owL i, 1 ≤ c ∧ c ≤ 26
  | 0 => by decide
  | 1 => by decide
  | 2 => by decide
  | 3 => by decide
  | 4 => by decide
  | 5 => by decide
  | 6 => by decide
  | 7 => by decide
  | 8 => by decide
  | 9 => by decide
  | 10 => by decide
  | 11 => by decide
  | 12 => by decide
  | n + 13 => by intro c hc; simp [owL] at hc
theorem owT_ok : ∀ j : Nat, j < 13 → (owO (j + 1) = owO j + (owL j).length + 1 ∧ owO j + (owL j).length < 68 ∧ (owL j).length ≤ 6) ∧ (∀ i, i < (owL j).length → owT.getD (owO j + i) 0 = ((owL j).getD i 0 : Int)) ∧ owT.getD (owO j + (owL j).length) 0 = 0 := by decide
theorem own_pk {l : List Nat} (hl : ∀ c ∈ l, 1 ≤ c ∧ c ≤ 26) : fst1 (fun i => decide (pkL (owL i) = pkL l)) 13 0 = ownI l := by
  unfold ownI
  congr 1
  funext i
  rw [decide_eq_decide]
  exact ⟨fun z => pkL_inj (owL_mem i) hl z, fun z => by rw [z]⟩
theorem ownI_nil : ownI [] = -1 := by decide
theorem own_zero : fst1 (fun i => decide (pkL (owL i) = 0)) 13 0 = -1 := by decide
theorem ownI_bd (l : List Nat) : ownI l = -1 ∨ ∃ j : Nat, ownI l = (j : Int) ∧ j < 13 ∧ owL j = l := by
  unfold ownI
  rcases fst1_cases (fun i => decide (owL i = l)) 13 0 with ⟨z, _⟩ | ⟨i, h1, h2, h3, h4, _⟩
  · exact Or.inl z
  · exact Or.inr ⟨i, h4, by omega, of_decide_eq_true h3⟩
theorem ownI_long {l : List Nat} (h : 6 < l.length) : ownI l = -1 := by
  rcases ownI_bd l with z | ⟨j, z1, z2, z3⟩
  · exact z
  · have := (owT_ok j z2).1.2.2
    rw [z3] at this; omega
/-- the class's tape -/
def tapeAt (h : Hp) (x : Nat) : Prop := (hpT h (x + 1)).1 = 9 ∧ hpC h (x + 1) 0 = ((x + 2 : Nat) : Int) ∧ hpC h (x + 1) 2 = ((x + 3 : Nat) : Int) ∧ hpT h (x + 2) = (22, 2000) ∧ hpT h (x + 3) = (21, 13) ∧ ∀ i : Nat, i < 13 → hpC h (x + 3) i = (pkL (owL i) : Int)
theorem tapeAt.tag {h : Hp} {x : Nat} (a : tapeAt h x) : (hpT h (x + 1)).1 = 9 := a.1
theorem tapeAt.bytes_n {h : Hp} {x : Nat} (a : tapeAt h x) : Int.toNat (hpC h (x + 1) 0) = x + 2 := by rw [a.2.1, Int.toNat_natCast]
theorem tapeAt.own_n {h : Hp} {x : Nat} (a : tapeAt h x) : Int.toNat (hpC h (x + 1) 2) = x + 3 := by rw [a.2.2.1, Int.toNat_natCast]
theorem tapeAt.bytes_t {h : Hp} {x : Nat} (a : tapeAt h x) : hpT h (x + 2) = (22, 2000) := a.2.2.2.1
theorem tapeAt.own_t {h : Hp} {x : Nat} (a : tapeAt h x) : hpT h (x + 3) = (21, 13) := a.2.2.2.2.1
def Stq (x : Nat) : Nat → Nat → Prop := fun r p => (r = x + 1 ∧ p = 1) ∨ r = x + 2
theorem tapeAt.fr {h h' : Hp} {x : Nat} (a : tapeAt h x) (hT : hpT h' = hpT h) (hC : ∀ r p, (r = x + 1 ∧ p ≠ 1) ∨ r = x + 3 → hpC h' r p = hpC h r p) : tapeAt h' x := by
  refine ⟨by rw [hT]; exact a.1, ?_, ?_, by rw [hT]; exact a.bytes_t, by rw [hT]; exact a.own_t, fun i hi => ?_⟩
  · rw [hC _ _ (Or.inl ⟨rfl, by decide⟩)]; exact a.2.1
  · rw [hC _ _ (Or.inl ⟨rfl, by decide⟩)]; exact a.2.2.1
  · rw [hC _ _ (Or.inr rfl)]; exact a.2.2.2.2.2 i hi
def TPc (h : Hp) (x : Nat) (b : Nat → Nat) (n : Nat) : Prop := tapeAt h x ∧ hpC h (x + 1) 1 = (n : Int) ∧ n ≤ 2000 ∧ ∀ i, i < n → hpC h (x + 2) i = sgB (b i) ∧ b i < 256
def TPm (h : Hp) (m : Nat) (b : Nat → Nat) (n : Nat) : Prop := hpC h m 5 = (n : Int) ∧ n ≤ 2000 ∧ ∀ i, i < n → hpC h (m + 4) i = (b i : Int) ∧ b i < 256
theorem sp_put {h : Hp} {x : Nat} {b : Nat → Nat} {n : Nat} (t : TPc h x b n) (hn : n + 4 ≤ 2000) {v : Int} {d mc ms : Nat} {R : PR} {o2 : Option AV} (H : ∀ h', FrP (Stq x) h h' → TPc h' x (putB b n v 4) (n + 4) → R none h') : Wp m_Tape_put 0 [some (xR (x + 1)), some (xI v), o2] [] h d mc ms R := by
  apply f_Tape_put_0
  have L : ∀ (e j : Nat) (g : Hp), j + e = 4 → FrP (Stq x) h g → TPc g x (putB b n v j) (n + j) → Wp m_Tape_put 3 [some (xR (x + 1)), some (xI v), some (xI (24 - 8 * (j : Int)))] [] g d mc ms R := by
    intro e
    induction e with
    | zero =>
      intro j g hj f t
      apply f_Tape_put_3
      rw [if_pos (by omega)]
      obtain rfl : j = 4 := by omega
      exact H g f t
    | succ e ih =>
      intro j g hj f t
      obtain ⟨t0, t1, t2, t3⟩ := t
      apply f_Tape_put_3
      rw [if_neg (by omega), t1, if_pos (by omega), t0.bytes_n, t0.bytes_t, Int.toNat_natCast, (and255 _).2.2]
      refine ⟨t0.tag, t0.tag, t0.tag, ⟨rfl, by omega, by show ((n + j : Nat) : Int) < 2000; omega⟩, fun g1 e1 => ?_⟩
      have f1 : FrP (Stq x) g g1 := by subst e1; exact FrP.up (Or.inr rfl)
      have x1 : hpC g1 (x + 1) 1 = ((n + j : Nat) : Int) := by subst e1; rw [hpC_ne (Or.inl (by omega))]; exact t1
      have y1 : ∀ i, hpC g1 (x + 2) i = if i = n + j then sgB (byP v j) else hpC g (x + 2) i := fun i => by
        subst e1
        rw [hpC_up]
        by_cases c : i = n + j
        · rw [if_pos ⟨rfl, c⟩, if_pos c]; rfl
        · rw [if_neg (fun z => c z.2), if_neg c]
      have s1 : tapeAt g1 x := by subst e1; exact t0.fr rfl (fun r p hr => hpC_ne (Or.inl (by omega)))
      clear e1
      rw [x1, ab_1 (by omega), ai_add_eq (by omega) (by omega), show 24 - 8 * (j : Int) + -8 = 24 - 8 * ((j + 1 : Nat) : Int) by omega]
      refine ⟨s1.tag, s1.tag, fun g2 e2 => ?_⟩
      subst e2
      refine ih (j + 1) _ (by omega) (f.tr (f1.tr (FrP.up (Or.inl ⟨rfl, rfl⟩)))) ⟨s1.fr rfl (fun r p hr => hpC_ne (by omega)), by rw [hpC_same]; omega, by omega, fun i hi => ?_⟩
      rw [hpC_ne (Or.inl (by omega)), y1]
      unfold putB
      by_cases c : i = n + j
      · rw [if_pos c, if_pos (by omega), show i - n = j by omega]
        exact ⟨rfl, byP_lt v j⟩
      · rw [if_neg c]
        have := t3 i (by omega)
        unfold putB at this
        by_cases c2 : n ≤ i ∧ i < n + j
        · rw [if_pos c2] at this; rw [if_pos (by omega)]; exact this
        · rw [if_neg c2] at this; rw [if_neg (by omega)]; exact this
  have := L 4 0 h (by omega) FrP.rf (by
    refine ⟨t.1, t.2.1, t.2.2.1, fun i hi => ?_⟩
    unfold putB
    rw [if_neg (by omega)]
    exact t.2.2.2 i hi)
  exact this
def Stm (m : Nat) : Nat → Nat → Prop := fun r p => (r = m ∧ p = 5) ∨ r = m + 4
theorem Stm_off (m : Nat) : offM m (Stm m) := by
  intro p hp z
  rcases z with ⟨-, rfl⟩ | z
  · revert hp; decide
  · omega
theorem sp_lays {h : Hp} {m : Nat} {b : Nat → Nat} {n : Nat} (a : modelAt h m) (t : TPm h m b n) (hn : n + 4 ≤ 2000) {v : Int} {d mc ms : Nat} {R : PR} {o2 : Option AV} (H : ∀ h', FrP (Stm m) h h' → TPm h' m (putB b n v 4) (n + 4) → R none h') : Wp m_M_lays 0 [some (xR m), some (xI v), o2] [] h d mc ms R := by
  apply f_M_lays_0
  have L : ∀ (e j : Nat) (g : Hp), j + e = 4 → FrP (Stm m) h g → hpC g m 5 = (n : Int) → (∀ i, i < n + j → hpC g (m + 4) i = (putB b n v j i : Int)) → Wp m_M_lays 2 [some (xR m), some (xI v), some (xI (j : Int))] [] g d mc ms R := by
    intro e
    induction e with
    | zero =>
      intro j g hj f x c
      have a := a.fo f (Stm_off m)
      obtain rfl : j = 4 := by omega
      apply f_M_lays_2
      rw [if_neg (by decide), x, ab_4 (by omega)]
      refine ⟨a.tag, a.tag, fun g1 e1 => ?_⟩
      subst e1
      refine H _ (f.tr (FrP.up (Or.inl ⟨rfl, rfl⟩))) ⟨by rw [hpC_same], hn, fun i hi => ⟨?_, ?_⟩⟩
      · rw [hpC_ne (Or.inl (by omega))]; exact c i hi
      · unfold putB
        by_cases c2 : n ≤ i ∧ i < n + 4
        · rw [if_pos c2]; exact byP_lt _ _
        · rw [if_neg c2]; exact (t.2.2 i (by omega)).2
    | succ e ih =>
      intro j g hj f x c
      have a := a.fo f (Stm_off m)
      have b1 := and255 (ai_shr v (24 - 8 * (j : Int)))
      apply f_M_lays_2
      rw [if_pos (by omega), x, ai_add_nn (by omega), a.tape_n, a.tape_t, Int.toNat_natCast, ai_mul_eq (by omega) (by omega), ai_sub_eq (by omega) (by omega), ab_1 (by omega)]
      refine ⟨a.tag, a.tag, ⟨rfl, by omega, by show ((n + j : Nat) : Int) < 2000; omega⟩, fun g1 e1 => ?_⟩
      subst e1
      refine ih (j + 1) _ (by omega) (f.tr (FrP.up (Or.inr rfl))) (by rw [hpC_ne (Or.inl (by omega))]; exact x) (fun i hi => ?_)
      rw [hpC_up]
      unfold putB
      by_cases c2 : i = n + j
      · rw [if_pos ⟨rfl, c2⟩, if_pos (by omega), show i - n = j by omega]
        unfold byP
        omega
      · rw [if_neg (fun z => c2 z.2), c i (by omega)]
        unfold putB
        by_cases c3 : n ≤ i ∧ i < n + j
        · rw [if_pos c3, if_pos (by omega)]
        · rw [if_neg c3, if_neg (by omega)]
  refine L 4 0 h (by omega) FrP.rf t.1 (fun i hi => ?_)
  unfold putB
  rw [if_neg (by omega)]
  exact (t.2.2 i (by omega)).1
/-! refusals -/
def rfP (h : Hp) (x m : Nat) : Prop := hpT h (x + 69) = (20, 5) ∧ ∀ i, i < 5 → hpC h (x + 69) i = hpC h (m + 3) i
theorem sp_refuse {h : Hp} {x : Nat} (s : sAt h x) (ht : hpT h (x + 69) = (20, 5)) {i : Nat} (hi : i < 5) {d mc ms : Nat} {R : PR} (H : R (some (xI (-1))) (hpU h (x + 69) i (ai_add (hpC h (x + 69) i) 1))) : Wp m_S_refuse 0 [some (xR x), some (xI (i : Int))] [] h d mc ms R := by
  apply f_S_refuse_0
  rw [s.refused_n, ht, Int.toNat_natCast]
  refine ⟨s.tag, ⟨rfl, by omega, by show (i : Int) < 5; omega⟩, ⟨rfl, by omega, by show (i : Int) < 5; omega⟩, fun g e => ?_⟩
  subst e; exact H
theorem sp_refuses {h : Hp} {m : Nat} (a : modelAt h m) {i : Nat} (hi : i < 5) {d mc ms : Nat} {R : PR} (H : R (some (xI (-1))) (hpU h (m + 3) i (ai_add (hpC h (m + 3) i) 1))) : Wp m_M_refuses 0 [some (xR m), some (xI (i : Int))] [] h d mc ms R := by
  apply f_M_refuses_0
  rw [a.refused_n, a.refused_t, Int.toNat_natCast]
  refine ⟨a.tag, ⟨rfl, by omega, by show (i : Int) < 5; omega⟩, ⟨rfl, by omega, by show (i : Int) < 5; omega⟩, fun g e => ?_⟩
  subst e; exact H
theorem sp_isRefused {h : Hp} {m : Nat} (a : modelAt h m) {i : Nat} (hi : i < 5) {d mc ms : Nat} {R : PR} (H : R (some (xI 0)) (hpU h (m + 3) i (ai_add (hpC h (m + 3) i) 1))) : Wp m_M_isRefused 0 [some (xR m), some (xI (i : Int))] [] h d mc ms R := by
  apply f_M_isRefused_0
  rw [a.refused_n, a.refused_t, Int.toNat_natCast]
  refine ⟨a.tag, ⟨rfl, by omega, by show (i : Int) < 5; omega⟩, ⟨rfl, by omega, by show (i : Int) < 5; omega⟩, fun g e => ?_⟩
  subst e; exact ⟨by simp, H⟩
/-! words of the class's tape -/
def lrB (b : Nat → Nat) (n i : Nat) : Nat := if i < n ∧ 97 ≤ b i ∧ b i ≤ 122 then b i - 96 else 0
theorem lrB_26 (b : Nat → Nat) (n i : Nat) : lrB b n i ≤ 26 := by unfold lrB; split <;> omega
theorem sp_tletterAt {h : Hp} {x : Nat} {b : Nat → Nat} {n : Nat} (t : TPc h x b n) {i : Nat} (hi : i < 100000) {d mc ms : Nat} {R : PR} {o2 : Option AV} (H : R (some (xI (lrB b n i : Int))) h) : Wp m_Tape_letterAt 0 [some (xR (x + 1)), some (xI (i : Int)), o2] [] h d mc ms R := by
  obtain ⟨t0, t1, t2, t3⟩ := t
  unfold lrB at H
  apply f_Tape_letterAt_0
  rw [if_neg (by omega), t1]
  refine ⟨t0.tag, ?_⟩
  by_cases c : i < n
  · rw [if_pos (by omega), t0.bytes_n, t0.bytes_t, Int.toNat_natCast, (t3 i c).1]
    have hb := (t3 i c).2
    refine ⟨t0.tag, ⟨rfl, by omega, by show (i : Int) < 2000; omega⟩, ?_⟩
    unfold sgB
    by_cases c1 : b i < 97
    · rw [if_pos (show b i < 128 by omega), if_pos (by omega)]
      rw [if_neg (by omega)] at H; exact H
    · by_cases c2 : b i ≤ 122
      · rw [if_pos (show b i < 128 by omega), if_neg (by omega), if_neg (by omega), ai_sub_eq (by omega) (by omega), ai_add_eq (by omega) (by omega)]
        rw [if_pos (by omega)] at H
        rw [show (b i : Int) - 97 + 1 = ((b i - 96 : Nat) : Int) by omega]
        exact H
      · rw [if_neg (by omega)] at H
        by_cases c3 : b i < 128
        · rw [if_pos c3, if_neg (by omega), if_pos (by omega)]; exact H
        · rw [if_neg c3, if_pos (by omega)]; exact H
  · rw [if_neg (by omega), if_pos (by decide)]
    rw [if_neg (by omega)] at H; exact H
def ltL' (b : Nat → Nat) (o k : Nat) : List Nat := (List.range k).map (fun i => b (o + i) - 96)
theorem ltL'_succ (b : Nat → Nat) (o k : Nat) : ltL' b o (k + 1) = ltL' b o k ++ [b (o + k) - 96] := by unfold ltL'; rw [List.range_succ, List.map_append]; rfl
theorem ltL'_len (b : Nat → Nat) (o k : Nat) : (ltL' b o k).length = k := by simp [ltL']
def alB (b : Nat → Nat) (n o k : Nat) : Prop := ∀ i, i < k → o + i < n ∧ 97 ≤ b (o + i) ∧ b (o + i) ≤ 122
theorem ltL'_mem {b : Nat → Nat} {n o k : Nat} (h : alB b n o k) : ∀ c ∈ ltL' b o k, 1 ≤ c ∧ c ≤ 26 := by
  intro c hc
  obtain ⟨i, hi, rfl⟩ := List.mem_map.mp hc
  have := h i (List.mem_range.mp hi)
  show 1 ≤ b (o + i) - 96 ∧ b (o + i) - 96 ≤ 26
  omega
theorem ltL'_get {b : Nat → Nat} {o k i : Nat} (hi : i < k) : (ltL' b o k).getD i 0 = b (o + i) - 96 := by simp [ltL', List.getD, hi]
theorem sp_wordAt {h : Hp} {x : Nat} {b : Nat → Nat} {n : Nat} (t : TPc h x b n) {o k : Nat} (ho : o + k < 90000) {d mc ms : Nat} {R : PR} (hd : 1 ≤ d) {o3 o4 o5 o6 : Option AV} (H1 : 1 ≤ k → k ≤ 10 → alB b n o k → R (some (xL (pkL (ltL' b o k) : Int))) h) (H2 : ¬ (1 ≤ k ∧ k ≤ 10 ∧ alB b n o k) → R (some (xL ((0 : Nat) : Int))) h) : Wp m_Tape_wordAt 0 [some (xR (x + 1)), some (xI (o : Int)), some (xI (k : Int)), o3, o4, o5, o6] [] h d mc ms R := by
  apply f_Tape_wordAt_0
  by_cases c1 : k < 1
  · rw [if_pos (by omega)]; exact H2 (fun z => by omega)
  · rw [if_neg (by omega)]
    by_cases c2 : 10 < k
    · rw [if_pos (by omega)]; exact H2 (fun z => by omega)
    · rw [if_neg (by omega)]
      have L : ∀ (j i : Nat) (o6 : Option AV), i + j = k → alB b n o i → Wp m_Tape_wordAt 18 [some (xR (x + 1)), some (xI (o : Int)), some (xI (k : Int)), some (xL (pkL (ltL' b o i) : Int)), none, some (xI (i : Int)), o6] [] h d mc ms R := by
        intro j
        induction j with
        | zero =>
          intro i o6 hi ha
          apply f_Tape_wordAt_18
          obtain rfl : i = k := by omega
          rw [if_neg (by omega)]
          exact H1 (by omega) (by omega) ha
        | succ j ih =>
          intro i o6 hi ha
          apply f_Tape_wordAt_18
          rw [if_pos (by omega), ai_add_nn (by omega)]
          refine ⟨⟨by omega, t.1.tag⟩, sp_tletterAt t (by omega) (fun v e => ?_)⟩
          cases e
          by_cases c3 : o + i < n ∧ 97 ≤ b (o + i) ∧ b (o + i) ≤ 122
          · have el : lrB b n (o + i) = b (o + i) - 96 := by unfold lrB; rw [if_pos c3]
            have hlt := pkL_lt (ltL' b o i) (fun c hc => by have := ltL'_mem ha c hc; omega)
            rw [ltL'_len] at hlt
            have hlt2 : pkL (ltL' b o i) < 32 ^ 10 := Nat.lt_of_lt_of_le hlt (Nat.pow_le_pow_right (by decide) (by omega))
            have hb : (32 : Nat) ^ i ≤ 32 ^ 9 := Nat.pow_le_pow_right (by decide) (by omega)
            have hb2 : (b (o + i) - 96) * 32 ^ i ≤ 31 * 32 ^ 9 := Nat.mul_le_mul (by omega) hb
            rw [el, if_neg (by omega)]
            refine ⟨by omega, sp_letterPut (by omega) (by omega) (fun v e => ?_)⟩
            cases e
            rw [al_or_nat (lt50 hlt2) (Nat.lt_of_le_of_lt hb2 (by decide)), wl_or hlt, ab_1 (by omega)]
            have es : pkL (ltL' b o i) + (b (o + i) - 96) * 32 ^ i = pkL (ltL' b o (i + 1)) := by rw [ltL'_succ, pkL_snoc, ltL'_len]
            rw [es]
            refine ih (i + 1) _ (by omega) (fun q hq => ?_)
            by_cases e : q = i
            · subst e; exact c3
            · exact ha q (by omega)
          · have el : lrB b n (o + i) = 0 := by unfold lrB; rw [if_neg c3]
            rw [el, if_pos (show ((0 : Nat) : Int) = 0 from rfl)]
            exact H2 (fun z => c3 (z.2.2 i (by omega)))
      exact L k 0 _ (by omega) (fun i hi => by omega)
theorem sp_ownWord {h : Hp} {x : Nat} (t : tapeAt h x) {W : Nat} {d mc ms : Nat} {R : PR} {o3 : Option AV} (H : R (some (xI (fst1 (fun i => decide (pkL (owL i) = W)) 13 0))) h) : Wp m_Tape_ownWord 0 [some (xR (x + 1)), some (xL (W : Int)), none, o3] [] h d mc ms R := by
  apply f_Tape_ownWord_0
  have L : ∀ j i : Nat, i + j = 13 → R (some (xI (fst1 (fun i => decide (pkL (owL i) = W)) j i))) h → Wp m_Tape_ownWord 2 [some (xR (x + 1)), some (xL (W : Int)), none, some (xI (i : Int))] [] h d mc ms R := by
    intro j
    induction j with
    | zero =>
      intro i hi H
      apply f_Tape_ownWord_2
      rw [if_neg (by omega)]
      exact H
    | succ j ih =>
      intro i hi H
      apply f_Tape_ownWord_2
      rw [if_pos (by omega), t.own_n, t.own_t, Int.toNat_natCast, t.2.2.2.2.2 i (by omega), ab_1 (by omega)]
      refine ⟨t.tag, ⟨rfl, by omega, by show (i : Int) < 13; omega⟩, ?_⟩
      simp only [fst1, decide_eq_true_eq] at H
      by_cases c : pkL (owL i) = W
      · rw [if_pos c] at H; rw [if_pos (al_cmp_eq.mpr (by omega))]; exact H
      · rw [if_neg c] at H; rw [if_neg (fun z => c (by have := al_cmp_eq.mp z; omega))]; exact ih (i + 1) (by omega) H
  exact L 13 0 (by omega) H
/-! words of the reference's tape -/
def owM (h : Hp) (m : Nat) : Prop := ∀ i, i < 68 → hpC h (m + 5) i = owT.getD i 0
theorem sp_ownBetween {h : Hp} {m : Nat} {b : Nat → Nat} (a : modelAt h m) (ow : owM h m) {o k : Nat} (ho : o + k ≤ 2000) (ht : ∀ i, i < k → hpC h (m + 4) (o + i) = (b (o + i) : Int) ∧ 97 ≤ b (o + i) ∧ b (o + i) ≤ 122) {d mc ms : Nat} {R : PR} {o3 o4 o5 : Option AV} (H : R (some (xI (ownI (ltL' b o k)))) h) : Wp m_M_ownBetween 0 [some (xR m), some (xI (o : Int)), some (xI ((o + k : Nat) : Int)), o3, o4, o5] [] h d mc ms R := by
  apply f_M_ownBetween_0
  have L : ∀ (j i : Nat) (o5 : Option AV), i + j = 13 → R (some (xI (fst1 (fun i => decide (owL i = ltL' b o k)) j i))) h → Wp m_M_ownBetween 5 [some (xR m), some (xI (o : Int)), some (xI ((o + k : Nat) : Int)), some (xI (owO i : Int)), some (xI (i : Int)), o5] [] h d mc ms R := by
    intro j
    induction j with
    | zero =>
      intro i o5 hi H
      apply f_M_ownBetween_5
      rw [if_pos (by omega)]
      exact H
    | succ j ih =>
      intro i o5 hi H
      obtain ⟨⟨w1, w2, w3⟩, w4, w5⟩ := owT_ok i (by omega)
      simp only [fst1, decide_eq_true_eq] at H
      have skip : ¬ owL i = ltL' b o k → ∀ o5 : Option AV, Wp m_M_ownBetween 88 [some (xR m), some (xI (o : Int)), some (xI ((o + k : Nat) : Int)), some (xI (owO i : Int)), some (xI (i : Int)), o5] [] h d mc ms R := by
        intro ne o5
        rw [if_neg ne] at H
        have S : ∀ (e q : Nat) (o5 : Option AV), q + e = (owL i).length → Wp m_M_ownBetween 88 [some (xR m), some (xI (o : Int)), some (xI ((o + k : Nat) : Int)), some (xI ((owO i + q : Nat) : Int)), some (xI (i : Int)), o5] [] h d mc ms R := by
          intro e
          induction e with
          | zero =>
            intro q o5 hq
            apply f_M_ownBetween_88
            obtain rfl : q = (owL i).length := by omega
            rw [a.ownLetters_n, a.ownLetters_t, Int.toNat_natCast, ow _ (by omega), w5, if_pos rfl, ab_1 (by omega), ab_1 (by omega)]
            refine ⟨a.tag, ⟨rfl, by omega, by show ((owO i + (owL i).length : Nat) : Int) < 68; omega⟩, ?_⟩
            rw [show owO i + (owL i).length + 1 = owO (i + 1) by omega]
            exact ih (i + 1) _ (by omega) H
          | succ e ih2 =>
            intro q o5 hq
            have mm := owL_mem i ((owL i).getD q 0) (by rw [gdE (by omega)]; exact List.getElem_mem _)
            apply f_M_ownBetween_88
            rw [a.ownLetters_n, a.ownLetters_t, Int.toNat_natCast, ow _ (by omega), w4 q (by omega), if_neg (by omega), ab_1 (by omega)]
            refine ⟨a.tag, ⟨rfl, by omega, by show ((owO i + q : Nat) : Int) < 68; omega⟩, ?_⟩
            exact ih2 (q + 1) _ (by omega)
        exact S (owL i).length 0 o5 (by omega)
      have I : ∀ (e q : Nat), q + e = (owL i).length → q ≤ k → (∀ u, u < q → (owL i).getD u 0 = b (o + u) - 96) → Wp m_M_ownBetween 15 [some (xR m), some (xI (o : Int)), some (xI ((o + k : Nat) : Int)), some (xI (owO i : Int)), some (xI (i : Int)), some (xI (q : Int))] [] h d mc ms R := by
        intro e
        induction e with
        | zero =>
          intro q hq hk c
          obtain rfl : q = (owL i).length := by omega
          apply f_M_ownBetween_15
          rw [ai_add_nn (by omega), ai_add_nn (by omega), a.ownLetters_n, a.ownLetters_t, Int.toNat_natCast, ow _ (by omega), w5, if_pos rfl, if_pos rfl]
          refine ⟨a.tag, ⟨rfl, by omega, by show ((owO i + (owL i).length : Nat) : Int) < 68; omega⟩, a.tag, ⟨rfl, by omega, by show ((owO i + (owL i).length : Nat) : Int) < 68; omega⟩, ?_⟩
          by_cases c2 : (owL i).length = k
          · rw [if_pos (by omega)]
            have : owL i = ltL' b o k := by
              apply List.ext_getElem
              · rw [ltL'_len]; exact c2
              · intro u h1 h2
                have := c u (by omega)
                rw [gdE h1] at this
                rw [this, ← ltL'_get (b := b) (o := o) (k := k) (by omega), gdE h2]
            rw [if_pos this] at H
            exact H
          · rw [if_neg (by omega)]
            exact skip (fun z => c2 (by rw [z, ltL'_len])) _
        | succ e ih2 =>
          intro q hq hk c
          have mm := owL_mem i ((owL i).getD q 0) (by rw [gdE (by omega)]; exact List.getElem_mem _)
          apply f_M_ownBetween_15
          rw [ai_add_nn (by omega), ai_add_nn (by omega), a.ownLetters_n, a.ownLetters_t, Int.toNat_natCast, ow _ (by omega), w4 q (by omega), if_neg (by omega)]
          refine ⟨a.tag, ⟨rfl, by omega, by show ((owO i + q : Nat) : Int) < 68; omega⟩, ?_⟩
          by_cases c1 : q < k
          · obtain ⟨t1, t2, t3⟩ := ht q c1
            rw [if_pos (by omega), a.tape_n, a.tape_t, Int.toNat_natCast, t1, ai_sub_eq (by omega) (by omega), ab_1 (by omega)]
            refine ⟨a.tag, ⟨rfl, by omega, by show ((o + q : Nat) : Int) < 2000; omega⟩, a.tag, ⟨rfl, by omega, by show ((owO i + q : Nat) : Int) < 68; omega⟩, ?_⟩
            by_cases c2 : (owL i).getD q 0 = b (o + q) - 96
            · rw [if_pos (by omega)]
              refine ih2 (q + 1) (by omega) (by omega) (fun u hu => ?_)
              by_cases e : u = q
              · subst e; exact c2
              · exact c u (by omega)
            · rw [if_neg (by omega), if_neg (by omega)]
              refine ⟨a.tag, ⟨rfl, by omega, by show ((owO i + q : Nat) : Int) < 68; omega⟩, ?_⟩
              refine skip (fun z => c2 ?_) _
              rw [z, ltL'_get c1]
          · rw [if_neg (by omega), if_neg (by omega)]
            refine ⟨a.tag, ⟨rfl, by omega, by show ((owO i + q : Nat) : Int) < 68; omega⟩, ?_⟩
            refine skip (fun z => ?_) _
            have := congrArg List.length z
            rw [ltL'_len] at this; omega
      apply f_M_ownBetween_5
      rw [if_neg (by omega)]
      exact I (owL i).length 0 (by omega) (by omega) (fun u hu => by omega)
  exact L 13 0 _ (by omega) H
