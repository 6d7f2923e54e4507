/-! ===== clashes as bits; clash, circle, least ===== -/
theorem ai_andn {x y : Nat} (hx : x < 2147483648) (hy : y < 2147483648) : ai_and (x : Int) (ai_xor (y : Int) (-1)) = ((x ^^^ (x &&& y) : Nat) : Int) := by
  unfold ai_and ai_xor
  rw [Int32.ofInt_toInt]
  have e : Int32.ofInt (x : Int) &&& (Int32.ofInt (y : Int) ^^^ Int32.ofInt (-1)) = Int32.ofInt ((x ^^^ (x &&& y) : Nat) : Int) := by
    rw [← Int32.toBitVec_inj, Int32.toBitVec_and, Int32.toBitVec_xor, Int32.toBitVec_ofInt, Int32.toBitVec_ofInt, Int32.toBitVec_ofInt, Int32.toBitVec_ofInt, show BitVec.ofInt 32 (-1) = BitVec.allOnes 32 by decide]
    simp only [BitVec.ofInt_natCast, BitVec.ofNat_xor, BitVec.ofNat_and]
    ext i hi
    simp only [BitVec.getElem_and, BitVec.getElem_xor, BitVec.getElem_allOnes]
    cases (BitVec.ofNat 32 x)[i] <;> cases (BitVec.ofNat 32 y)[i] <;> rfl
  rw [e]
  have := Nat.xor_lt_two_pow (x := x) (y := x &&& y) (n := 31) (by omega) (by have := Nat.and_le_left (n := x) (m := y); omega)
  exact aTo (by omega) (by omega)
theorem andn_bit (x y t : Nat) : (x ^^^ (x &&& y)).testBit t = (x.testBit t && !y.testBit t) := by
  rw [Nat.testBit_xor, Nat.testBit_and]
  cases x.testBit t <;> cases y.testBit t <;> rfl
theorem andn_zero {x y n : Nat} (hx : x < 2 ^ n) : x ^^^ (x &&& y) = 0 ↔ ∀ t, t < n → x.testBit t = true → y.testBit t = true := by
  constructor
  · intro h t _ hb
    have := andn_bit x y t
    rw [h, Nat.zero_testBit, hb] at this
    simpa using this.symm
  · intro h
    apply Nat.eq_of_testBit_eq
    intro t
    rw [andn_bit, Nat.zero_testBit]
    rcases Nat.lt_or_ge t n with z | z
    · cases e : x.testBit t with
      | false => rfl
      | true => rw [h t z e]; rfl
    · rw [Nat.testBit_lt_two_pow (Nat.lt_of_lt_of_le hx (Nat.pow_le_pow_right (by decide) z))]; rfl
theorem and_zero_iff {x y n : Nat} (hx : x < 2 ^ n) : x &&& y = 0 ↔ ∀ t, t < n → x.testBit t = true → y.testBit t = false := by
  constructor
  · intro h t _ hb
    have := Nat.testBit_and x y t
    rw [h, Nat.zero_testBit, hb] at this
    simpa using this.symm
  · intro h
    apply Nat.eq_of_testBit_eq
    intro t
    rw [Nat.testBit_and, Nat.zero_testBit]
    rcases Nat.lt_or_ge t n with z | z
    · cases e : x.testBit t with
      | false => rfl
      | true => rw [h t z e]; rfl
    · rw [Nat.testBit_lt_two_pow (Nat.lt_of_lt_of_le hx (Nat.pow_le_pow_right (by decide) z))]; rfl
theorem big_bit {x n t : Nat} (hx : x < 2 ^ n) (ht : n ≤ t) : x.testBit t = false := Nat.testBit_lt_two_pow (Nat.lt_of_lt_of_le hx (Nat.pow_le_pow_right (by decide) ht))
theorem bits_eq {x y n : Nat} (hx : x < 2 ^ n) (hy : y < 2 ^ n) (h : ∀ t, t < n → x.testBit t = y.testBit t) : x = y := by
  apply Nat.eq_of_testBit_eq
  intro t
  rcases Nat.lt_or_ge t n with z | z
  · exact h t z
  · rw [big_bit hx z, big_bit hy z]
theorem or_bit (x t v : Nat) : (x ||| 2 ^ t).testBit v = (x.testBit v || decide (v = t)) := by
  rw [Nat.testBit_or, Nat.testBit_two_pow]
  by_cases c : t = v
  · subst c; simp
  · simp [c, show ¬ v = t from fun z => c z.symm]
theorem or_lt {x y n : Nat} (hx : x < 2 ^ n) (hy : y < 2 ^ n) : x ||| y < 2 ^ n := Nat.or_lt_two_pow hx hy
theorem pow_lt' {t n : Nat} (h : t < n) : 2 ^ t < 2 ^ n := Nat.pow_lt_pow_right (by decide) h
theorem alW_sym (w : Nat → Int) (o1 o2 : Nat) : alW w o1 o2 = alW w o2 o1 := by
  unfold alW chW
  rw [lv_sym]
  by_cases c : keyW w o1 = keyW w o2
  · rw [if_pos c, if_pos c.symm]
  · rw [if_neg c, if_neg (show ¬ keyW w o2 = keyW w o1 from fun z => c z.symm)]
def clW (w : Nat → Int) (s t : Nat) : Bool := decide (¬ s = t ∧ 0 < alW w (180 + 10 * s) (180 + 10 * t))
theorem clW_sym (w : Nat → Int) (s t : Nat) : clW w s t = clW w t s := by
  unfold clW
  rw [alW_sym]
  simp only [decide_eq_decide]
  exact ⟨fun z => ⟨fun y => z.1 y.symm, z.2⟩, fun z => ⟨fun y => z.1 y.symm, z.2⟩⟩
theorem clW_irr (w : Nat → Int) (s : Nat) : clW w s s = false := decide_eq_false (fun z => z.1 rfl)
def clB (w : Nat → Int) (s : Nat) : Nat := bnN (clW w s) (w 7).toNat
theorem clB_lt {w : Nat → Int} (s : Nat) : clB w s < 2 ^ (w 7).toNat := bnN_lt _ _
theorem clB_10 {w : Nat → Int} (hV : V w) (s : Nat) : clB w s < 1024 := by
  have v7 := hV.1.2.2.2.2.2.2.2.1
  exact Nat.lt_of_lt_of_le (clB_lt s) (Nat.pow_le_pow_right (n := 2) (by decide) (show (w 7).toNat ≤ 10 by omega))
theorem clB_bit {w : Nat → Int} {s t : Nat} (ht : t < (w 7).toNat) : (clB w s).testBit t = clW w s t := bnN_bit _ _ _ ht
theorem bnN_or (kb : Nat → Bool) (t : Nat) : bnN kb t ||| 2 ^ t = bnN kb t + 2 ^ t := by
  have h := bnN_lt kb t
  have := Nat.two_pow_add_eq_or_of_lt h 1
  rw [Nat.mul_one] at this
  rw [Nat.add_comm, this, Nat.or_comm]
/-! the reference -/
def SA (m : Nat) : Nat → Nat → Prop := fun r p => (r = m ∧ p = 17) ∨ (m + 6 ≤ r ∧ r ≤ m + 9)
theorem SA_SM {m : Nat} {h h' : Hp} (f : FrP (SA m) h h') : FrP (SM m) h h' := f.wk (fun r p z => by
  rcases z with ⟨z1, z2⟩ | z
  · exact Or.inl ⟨z1, Or.inl z2⟩
  · exact Or.inr (Or.inl (by omega)))
theorem sp_alikeOfA {h : Hp} {m o1 o2 : Nat} {w : Nat → Int} (a : RD h m w) (hV : V w) (ho1 : o1 + 10 ≤ 1010) (hn1 : okName w o1) (ho2 : o2 + 10 ≤ 1010) (hn2 : okName w o2) {d mc ms : Nat} (hd : 3 ≤ d) {R : PR}
    (H : ∀ h', FrP (SA m) h h' → R (some (xI (alW w o1 o2))) h') :
    Wp m_M_alikeOf 0 [some (xR m), some (xI (o1 : Int)), some (xI (o2 : Int))] [] h d mc ms R := by
  have ws : ∀ (t : Nat) (g g' : Hp), (m + 6 ≤ t ∧ t ≤ m + 9) → FrP (fun r p => Stw m r p ∨ r = t) g g' → FrP (SA m) g g' := fun t g g' ht f => f.wk (fun r p z => by
    rcases z with (⟨z1, z2⟩ | z) | z
    · exact Or.inl ⟨z1, z2⟩
    · exact Or.inr (by omega)
    · exact Or.inr (by omega))
  apply f_M_alikeOf_0
  refine ⟨a.1.tag, ⟨by omega, a.1.tag⟩, ?_⟩
  rw [a.1.keyA_n]
  refine sp_laysKey a hV ho1 hn1 (Or.inl rfl) (by omega) (fun h1 f1 k1 v e => ?_)
  cases e
  have a1 := a.fr (SA_SM (ws _ _ _ (by omega) f1))
  refine ⟨a1.1.tag, ⟨by omega, a1.1.tag⟩, ?_⟩
  rw [a1.1.keyB_n]
  refine sp_laysKey a1 hV ho2 hn2 (Or.inr rfl) (by omega) (fun h2 f2 k2 v e => ?_)
  cases e
  have a2 := a1.fr (SA_SM (ws _ _ _ (by omega) f2))
  have k1' : ∀ i, i < 10 → hpC h2 (m + 7) i = ((keyW w o1).getD i 0 : Int) := fun i hi => by
    rw [f2.2.2 _ _ (by rintro ((⟨z, -⟩ | z) | z) <;> omega)]; exact k1 i hi
  refine ⟨a2.1.tag, a2.1.tag, by omega, ?_⟩
  rw [a2.1.keyA_n, a2.1.keyB_n]
  refine sp_areLike a2.1.keyA_t a2.1.keyB_t (keyW_len hn1) (keyW_len hn2) (fun c hc => (keyW_mem hV hn1 c hc).1) (fun c hc => (keyW_mem hV hn2 c hc).1) k1' k2 (fun v e => ?_)
  cases e
  have fin : ∀ (x : Int), (x = if keyW w o1 = keyW w o2 then 1 else 0) → ∀ (h4 : Hp), FrP (fun r p => Stw m r p ∨ r = m + 9) h2 h4 → ∀ v : Int, some (xI (chW w o1 o2 : Int)) = some (xI v) → ((hpT h4 m).1 = 12 ∧ (((hpT h4 (Int.toNat (hpC h4 m 0))).1 = 20 ∧ 0 ≤ (0 : Int) ∧ (0 : Int) < ((hpT h4 (Int.toNat (hpC h4 m 0))).2 : Int)) ∧ (if (hpC h4 (Int.toNat (hpC h4 m 0)) (Int.toNat (0 : Int))) < v then R (some (xI (ai_add x (0 : Int)))) h4 else R (some (xI (ai_add x (2 : Int)))) h4))) := by
    intro x hx h4 f4 v e
    cases e
    have a4 := a2.fr (SA_SM (ws _ _ _ (by omega) f4))
    have hF : FrP (SA m) h h4 := ((ws _ _ _ (by omega) f1).tr (ws _ _ _ (by omega) f2)).tr (ws _ _ _ (by omega) f4)
    have x01 : 0 ≤ x ∧ x ≤ 1 := by rw [hx]; split <;> omega
    rw [a4.1.row_n, a4.1.row_t, show Int.toNat (0 : Int) = 0 from rfl, a4.2 0 (by omega)]
    refine ⟨a4.1.tag, ⟨rfl, by decide, by decide⟩, ?_⟩
    have := H h4 hF
    unfold alW at this
    by_cases c : w 0 < (chW w o1 o2 : Int)
    · rw [if_pos c, ai_add_eq (by omega) (by omega), hx]
      rw [if_neg (show ¬ (chW w o1 o2 : Int) ≤ w 0 by omega)] at this
      exact this
    · rw [if_neg c, ai_add_eq (by omega) (by omega), hx]
      rw [if_pos (show (chW w o1 o2 : Int) ≤ w 0 by omega)] at this
      exact this
  by_cases c : keyW w o1 = keyW w o2
  · rw [if_pos c, if_neg (by decide)]
    refine ⟨⟨by omega, a2.1.tag⟩, sp_changesOf a2 ho1 hn1 ho2 hn2 (by omega) (fun h4 f4 => fin 1 (by rw [if_pos c]) h4 f4)⟩
  · rw [if_neg c, if_pos rfl]
    refine ⟨⟨by omega, a2.1.tag⟩, sp_changesOf a2 ho1 hn1 ho2 hn2 (by omega) (fun h4 f4 => fin 0 (by rw [if_neg c]) h4 f4)⟩
theorem sp_mareAlike {h : Hp} {m : Nat} {w : Nat → Int} (a : RD h m w) (hV : V w) {s t : Nat} (hs : (s : Int) < w 7) (ht : (t : Int) < w 7) (hst : ¬ s = t) {d mc ms : Nat} {R : PR} (hd : 4 ≤ d) (H : ∀ h', FrP (SA m) h h' → R (some (xI (if clW w s t = true then 1 else 0))) h') : Wp m_M_areAlike 0 [some (xR m), some (xI (s : Int)), some (xI (t : Int))] [] h d mc ms R := by
  have v0 := hV.1.1
  have v1 := hV.1.2.1
  have v2 := hV.1.2.2.1
  have v3 := hV.1.2.2.2.1
  have v4 := hV.1.2.2.2.2.1
  have v5 := hV.1.2.2.2.2.2.1
  have v6 := hV.1.2.2.2.2.2.2.1
  have v7 := hV.1.2.2.2.2.2.2.2.1
  have v8 := hV.1.2.2.2.2.2.2.2.2.1
  have v9 := hV.1.2.2.2.2.2.2.2.2.2
  apply f_M_areAlike_0
  rw [am_10 (by omega), am_10 (by omega), aa_180 (by omega), aa_180 (by omega)]
  refine ⟨⟨by omega, a.1.tag⟩, sp_alikeOfA a hV (by omega) (hV.2.2.2.2.1 s hs) (by omega) (hV.2.2.2.2.1 t ht) (by omega) (fun h' f v e => ?_)⟩
  cases e
  have H := H h' f
  by_cases c : 0 < alW w (180 + 10 * s) (180 + 10 * t)
  · rw [if_pos c]
    rw [show clW w s t = true from decide_eq_true ⟨hst, c⟩, if_pos rfl] at H
    exact ⟨by simp, H⟩
  · rw [if_neg c]
    rw [show clW w s t = false from decide_eq_false (fun z => c z.2), if_neg (by decide)] at H
    exact ⟨by simp, H⟩
/-! clash -/
def inC (p : Nat → Bool) (s : Nat) (k : Int) : Nat → Nat → Int → Bool × Int
  | 0, _, n => (false, n)
  | j + 1, t, n => if p t then (if n = k then (true, 100 * (s : Int) + (t : Int)) else inC p s k j (t + 1) (n + 1)) else inC p s k j (t + 1) n
def ouC (cl : Nat → Nat → Bool) (N : Nat) (k : Int) : Nat → Nat → Int → Int
  | 0, _, n => if k = -1 then n else -1
  | j + 1, s, n => if (inC (cl s) s k (N - (s + 1)) (s + 1) n).1 then (inC (cl s) s k (N - (s + 1)) (s + 1) n).2 else ouC cl N k j (s + 1) (inC (cl s) s k (N - (s + 1)) (s + 1) n).2
theorem inC_bd (p : Nat → Bool) (s : Nat) (k : Int) : ∀ j t n, (inC p s k j t n).1 = false → n ≤ (inC p s k j t n).2 ∧ (inC p s k j t n).2 ≤ n + j
  | 0, t, n, _ => by simp [inC]
  | j + 1, t, n, h => by
    simp only [inC] at h ⊢
    by_cases c : p t = true
    · rw [if_pos c] at h ⊢
      by_cases c2 : n = k
      · rw [if_pos c2] at h; cases h
      · rw [if_neg c2] at h ⊢
        have := inC_bd p s k j (t + 1) (n + 1) h
        omega
    · rw [if_neg c] at h ⊢
      have := inC_bd p s k j (t + 1) n h
      omega
def clashA (w : Nat → Int) (k : Int) : Int := if k < -1 then -1 else ouC (clW w) (w 7).toNat k (w 7).toNat 0 0
theorem sp_mclash {h : Hp} {m : Nat} {w : Nat → Int} (a : RD h m w) (hV : V w) {k : Int} {d mc ms : Nat} {R : PR} (hd : 5 ≤ d) {o2 o3 o4 : Option AV} (H : ∀ h', FrP (SM m) h h' → R (some (xI (clashA w k))) h') : Wp m_M_clash 0 [some (xR m), some (xI k), o2, o3, o4] [] h d mc ms R := by
  have v0 := hV.1.1
  have v1 := hV.1.2.1
  have v2 := hV.1.2.2.1
  have v3 := hV.1.2.2.2.1
  have v4 := hV.1.2.2.2.2.1
  have v5 := hV.1.2.2.2.2.2.1
  have v6 := hV.1.2.2.2.2.2.2.1
  have v7 := hV.1.2.2.2.2.2.2.2.1
  have v8 := hV.1.2.2.2.2.2.2.2.2.1
  have v9 := hV.1.2.2.2.2.2.2.2.2.2
  have a0 := a
  unfold clashA at H
  apply f_M_clash_0
  by_cases c : k < -1
  · rw [if_pos c]; rw [if_pos c] at H; exact H h FrP.rf
  · rw [if_neg c]
    rw [if_neg c] at H
    have L : ∀ (j s : Nat) (n : Int) (g : Hp) (o4 : Option AV), ((s + j : Nat) : Int) = w 7 → (0 ≤ n ∧ n ≤ 10 * s) → FrP (SM m) h g → (∀ h', FrP (SM m) h h' → R (some (xI (ouC (clW w) (w 7).toNat k j s n))) h') → Wp m_M_clash 11 [some (xR m), some (xI k), some (xI n), some (xI (s : Int)), o4] [] g d mc ms R := by
      intro j
      induction j with
      | zero =>
        intro s n g o4 hs hn f H
        have a := a.fr f
        have H := H g f
        simp only [ouC] at H
        apply f_M_clash_11
        rw [a.1.row_n, a.1.row_t, tn_7, a.2 7 (by omega), if_neg (by omega)]
        refine ⟨a.1.tag, ⟨rfl, by omega, by decide⟩, ?_⟩
        by_cases c2 : k = -1
        · rw [if_pos c2]; rw [if_pos c2] at H; exact H
        · rw [if_neg c2]; rw [if_neg c2] at H; exact H
      | succ j ih =>
        intro s n g o4 hs hn f H
        have a := a.fr f
        simp only [ouC] at H
        have I : ∀ (i t : Nat) (n2 : Int) (g : Hp), ((t + i : Nat) : Int) = w 7 → s < t → (0 ≤ n2 ∧ n2 ≤ 10 * s + (t - s)) → FrP (SM m) h g → ((inC (clW w s) s k i t n2).1 = true → ∀ h', FrP (SM m) h h' → R (some (xI (inC (clW w s) s k i t n2).2)) h') → ((inC (clW w s) s k i t n2).1 = false → ∀ (g' : Hp) (o4 : Option AV), FrP (SM m) h g' → Wp m_M_clash 11 [some (xR m), some (xI k), some (xI (inC (clW w s) s k i t n2).2), some (xI ((s + 1 : Nat) : Int)), o4] [] g' d mc ms R) → Wp m_M_clash 27 [some (xR m), some (xI k), some (xI n2), some (xI (s : Int)), some (xI (t : Int))] [] g d mc ms R := by
          intro i
          induction i with
          | zero =>
            intro t n2 g ht hst hn2 f Y N
            have a := a0.fr f
            apply f_M_clash_27
            rw [a.1.row_n, a.1.row_t, tn_7, a.2 7 (by omega), if_neg (by omega), ab_1 (by omega)]
            exact ⟨a.1.tag, ⟨rfl, by omega, by decide⟩, N rfl g _ f⟩
          | succ i ih2 =>
            intro t n2 g ht hst hn2 f Y N
            have a := a0.fr f
            apply f_M_clash_27
            rw [a.1.row_n, a.1.row_t, tn_7, a.2 7 (by omega), if_pos (by omega), ab_1 (by omega), am_100 (by omega), ai_add_nn (by omega)]
            refine ⟨a.1.tag, ⟨rfl, by omega, by decide⟩, ⟨by omega, a.1.tag⟩, sp_mareAlike a hV (by omega) (by omega) (by omega) (by omega) (fun g2 f2 v e => ?_)⟩
            cases e
            simp only [inC] at Y N
            by_cases c1 : clW w s t = true
            · rw [if_pos c1, if_neg (by decide)]
              rw [if_pos c1] at Y N
              by_cases c2 : n2 = k
              · rw [if_pos c2]
                rw [if_pos c2] at Y
                have := Y rfl g2 (f.tr (SA_SM f2))
                rw [show (((100 * s + t : Nat) : Nat) : Int) = 100 * (s : Int) + (t : Int) by omega]
                exact this
              · rw [if_neg c2, ai_add_eq (by omega) (by omega)]
                rw [if_neg c2] at Y N
                exact ih2 (t + 1) (n2 + 1) g2 (by omega) (by omega) (by omega) (f.tr (SA_SM f2)) Y N
            · rw [if_neg c1, if_pos rfl]
              rw [if_neg c1] at Y N
              exact ih2 (t + 1) n2 g2 (by omega) (by omega) (by omega) (f.tr (SA_SM f2)) Y N
        apply f_M_clash_11
        rw [a.1.row_n, a.1.row_t, tn_7, a.2 7 (by omega), if_pos (by omega), ab_1 (by omega)]
        refine ⟨a.1.tag, ⟨rfl, by omega, by decide⟩, ?_⟩
        refine I ((w 7).toNat - (s + 1)) (s + 1) n g (by omega) (by omega) (by omega) f (fun y h' fh => ?_) (fun y g' o4 fg => ?_)
        · rw [if_pos y] at H; exact H h' fh
        · rw [if_neg (by rw [y]; decide)] at H
          have b := inC_bd (clW w s) s k ((w 7).toNat - (s + 1)) (s + 1) n y
          exact ih (s + 1) _ g' _ (by omega) (by omega) fg H
    exact L (w 7).toNat 0 0 h _ (by omega) (by omega) FrP.rf H
/-- the reference's clashes are laid -/
def clM (h : Hp) (m : Nat) (w : Nat → Int) : Prop := ∀ s : Nat, (s : Int) < w 7 → hpC h (m + 11) s = (clB w s : Int)
def Slc (m : Nat) : Nat → Nat → Prop := fun r p => SA m r p ∨ r = m + 11
theorem Slc_SM {m : Nat} {h h' : Hp} (f : FrP (Slc m) h h') : FrP (SM m) h h' := f.wk (fun r p z => by
  rcases z with (⟨z1, z2⟩ | z) | z
  · exact Or.inl ⟨z1, Or.inl z2⟩
  · exact Or.inr (Or.inl (by omega))
  · exact Or.inr (Or.inr (by omega)))
theorem sp_laysClashes {h : Hp} {m : Nat} {w : Nat → Int} (a : RD h m w) (hV : V w) {d mc ms : Nat} {R : PR} (hd : 5 ≤ d) {o1 o2 : Option AV} (H : ∀ h', FrP (Slc m) h h' → clM h' m w → R none h') : Wp m_M_laysClashes 0 [some (xR m), o1, o2] [] h d mc ms R := by
  have v0 := hV.1.1
  have v1 := hV.1.2.1
  have v2 := hV.1.2.2.1
  have v3 := hV.1.2.2.2.1
  have v4 := hV.1.2.2.2.2.1
  have v5 := hV.1.2.2.2.2.2.1
  have v6 := hV.1.2.2.2.2.2.2.1
  have v7 := hV.1.2.2.2.2.2.2.2.1
  have v8 := hV.1.2.2.2.2.2.2.2.2.1
  have v9 := hV.1.2.2.2.2.2.2.2.2.2
  have a0 := a
  apply f_M_laysClashes_0
  have L : ∀ (j s : Nat) (g : Hp) (o2 : Option AV), ((s + j : Nat) : Int) = w 7 → FrP (Slc m) h g → (∀ u : Nat, u < s → hpC g (m + 11) u = (clB w u : Int)) → Wp m_M_laysClashes 2 [some (xR m), some (xI (s : Int)), o2] [] g d mc ms R := by
    intro j
    induction j with
    | zero =>
      intro s g o2 hs f c
      have a := a.fr (Slc_SM f)
      apply f_M_laysClashes_2
      rw [a.1.row_n, a.1.row_t, tn_7, a.2 7 (by omega), if_neg (by omega)]
      exact ⟨a.1.tag, ⟨rfl, by omega, by decide⟩, H g f (fun u hu => c u (by omega))⟩
    | succ j ih =>
      intro s g o2 hs f c
      have a := a.fr (Slc_SM f)
      have I : ∀ (i t : Nat) (g : Hp), ((t + i : Nat) : Int) = w 7 → FrP (Slc m) h g → (∀ u : Nat, u < s → hpC g (m + 11) u = (clB w u : Int)) → hpC g (m + 11) s = (bnN (clW w s) t : Int) → Wp m_M_laysClashes 22 [some (xR m), some (xI (s : Int)), some (xI (t : Int))] [] g d mc ms R := by
        intro i
        induction i with
        | zero =>
          intro t g ht f c c2
          have a := a0.fr (Slc_SM f)
          apply f_M_laysClashes_22
          rw [a.1.row_n, a.1.row_t, tn_7, a.2 7 (by omega), if_neg (by omega), ab_1 (by omega)]
          refine ⟨a.1.tag, ⟨rfl, by omega, by decide⟩, ih (s + 1) g _ (by omega) f (fun u hu => ?_)⟩
          by_cases e : u = s
          · subst e; rw [c2, show t = (w 7).toNat by omega]; rfl
          · exact c u (by omega)
        | succ i ih2 =>
          intro t g ht f c c2
          have a := a0.fr (Slc_SM f)
          have bl := bnN_lt (clW w s) t
          have bp : 2 ^ t ≤ 512 := Nat.pow_le_pow_right (n := 2) (by decide) (show t ≤ 9 by omega)
          have no : clW w s t = false → bnN (clW w s) (t + 1) = bnN (clW w s) t := fun z => by simp only [bnN]; rw [z]; rfl
          apply f_M_laysClashes_22
          rw [a.1.row_n, a.1.row_t, tn_7, a.2 7 (by omega), if_pos (by omega), ab_1 (by omega)]
          refine ⟨a.1.tag, ⟨rfl, by omega, by decide⟩, ?_⟩
          by_cases c3 : (t : Int) = (s : Int)
          · rw [if_pos c3]
            refine ih2 (t + 1) g (by omega) f c ?_
            rw [no (by rw [show t = s by omega]; exact clW_irr w s)]; exact c2
          · rw [if_neg c3]
            refine ⟨⟨by omega, a.1.tag⟩, sp_mareAlike a hV (by omega) (by omega) (by omega) (by omega) (fun g2 f2 v e => ?_)⟩
            cases e
            have f3 : FrP (Slc m) g g2 := f2.wk (fun r p z => Or.inl z)
            have a2 := a.fr (Slc_SM f3)
            have k1 : ∀ u, hpC g2 (m + 11) u = hpC g (m + 11) u := fun u => f2.2.2 _ _ (fun z => by rcases z with ⟨z, _⟩ | z <;> omega)
            by_cases c4 : clW w s t = true
            · rw [if_pos c4, if_neg (by decide), a2.1.clashes_n, a2.1.clashes_t, Int.toNat_natCast, k1, c2, ai_shl_one t (by omega), ai_or_nat (by omega) (by omega)]
              refine ⟨a2.1.tag, ⟨rfl, by omega, by show (s : Int) < 10; omega⟩, ⟨rfl, by omega, by show (s : Int) < 10; omega⟩, fun g3 e3 => ?_⟩
              subst e3
              refine ih2 (t + 1) _ (by omega) (f.tr (f3.tr (FrP.up (Or.inr rfl)))) (fun u hu => ?_) ?_
              · rw [hpC_ne (Or.inr (by omega)), k1]; exact c u hu
              · rw [hpC_same, bnN_or]; simp only [bnN]; rw [if_pos c4]
            · rw [if_neg c4, if_pos rfl]
              refine ih2 (t + 1) g2 (by omega) (f.tr f3) (fun u hu => by rw [k1]; exact c u hu) ?_
              rw [k1, c2, no (by simpa using c4)]
      apply f_M_laysClashes_2
      rw [a.1.row_n, a.1.row_t, tn_7, a.2 7 (by omega), if_pos (by omega), a.1.clashes_n, a.1.clashes_t, Int.toNat_natCast]
      refine ⟨a.1.tag, ⟨rfl, by omega, by decide⟩, a.1.tag, ⟨rfl, by omega, by show (s : Int) < 10; omega⟩, fun g3 e3 => ?_⟩
      subst e3
      refine I (w 7).toNat 0 _ (by omega) (f.tr (FrP.up (Or.inr rfl))) (fun u hu => ?_) (by rw [hpC_same]; rfl)
      rw [hpC_ne (Or.inr (by omega))]; exact c u hu
  exact L (w 7).toNat 0 h _ (by omega) FrP.rf (fun u hu => by omega)
/-! the class -/
def plAt (h : Hp) (r : Nat) : Prop := (hpT h r).1 = 6 ∧ hpC h r 1 = ((r + 1 : Nat) : Int) ∧ hpC h r 6 = ((r + 2 : Nat) : Int) ∧ hpC h r 7 = ((r + 3 : Nat) : Int) ∧ hpC h r 8 = ((r + 4 : Nat) : Int) ∧ hpC h r 9 = ((r + 5 : Nat) : Int) ∧ hpT h (r + 1) = (20, 10) ∧ hpT h (r + 2) = (20, 10) ∧ hpT h (r + 3) = (20, 12) ∧ hpT h (r + 4) = (20, 12) ∧ hpT h (r + 5) = (21, 64)
theorem plAt.tag {h : Hp} {r : Nat} (a : plAt h r) : (hpT h r).1 = 6 := a.1
theorem plAt.given_n {h : Hp} {r : Nat} (a : plAt h r) : Int.toNat (hpC h r 1) = r + 1 := by rw [a.2.1, Int.toNat_natCast]
theorem plAt.clash_n {h : Hp} {r : Nat} (a : plAt h r) : Int.toNat (hpC h r 6) = r + 2 := by rw [a.2.2.1, Int.toNat_natCast]
theorem plAt.takers_n {h : Hp} {r : Nat} (a : plAt h r) : Int.toNat (hpC h r 7) = r + 3 := by rw [a.2.2.2.1, Int.toNat_natCast]
theorem plAt.rivals_n {h : Hp} {r : Nat} (a : plAt h r) : Int.toNat (hpC h r 8) = r + 4 := by rw [a.2.2.2.2.1, Int.toNat_natCast]
theorem plAt.dead_n {h : Hp} {r : Nat} (a : plAt h r) : Int.toNat (hpC h r 9) = r + 5 := by rw [a.2.2.2.2.2.1, Int.toNat_natCast]
theorem plAt.given_t {h : Hp} {r : Nat} (a : plAt h r) : hpT h (r + 1) = (20, 10) := a.2.2.2.2.2.2.1
theorem plAt.clash_t {h : Hp} {r : Nat} (a : plAt h r) : hpT h (r + 2) = (20, 10) := a.2.2.2.2.2.2.2.1
theorem plAt.takers_t {h : Hp} {r : Nat} (a : plAt h r) : hpT h (r + 3) = (20, 12) := a.2.2.2.2.2.2.2.2.1
theorem plAt.rivals_t {h : Hp} {r : Nat} (a : plAt h r) : hpT h (r + 4) = (20, 12) := a.2.2.2.2.2.2.2.2.2.1
theorem plAt.dead_t {h : Hp} {r : Nat} (a : plAt h r) : hpT h (r + 5) = (21, 64) := a.2.2.2.2.2.2.2.2.2.2
/-- what the planner may write -/
def SP (r : Nat) : Nat → Nat → Prop := fun q p => (q = r ∧ (p = 0 ∨ p = 2 ∨ p = 3 ∨ p = 4 ∨ p = 5)) ∨ (r + 1 ≤ q ∧ q ≤ r + 5)
theorem plAt.fr {h h' : Hp} {r : Nat} (a : plAt h r) (f : FrP (SP r) h h') : plAt h' r := by
  have no : ∀ p, (p = 1 ∨ 6 ≤ p) → ¬ SP r r p := fun p hp z => by rcases z with ⟨_, z⟩ | z <;> omega
  refine ⟨by rw [f.2.1]; exact a.1, ?_, ?_, ?_, ?_, ?_, ?_, ?_, ?_, ?_, ?_⟩
  · rw [f.2.2 r 1 (no 1 (by omega))]; exact a.2.1
  · rw [f.2.2 r 6 (no 6 (by omega))]; exact a.2.2.1
  · rw [f.2.2 r 7 (no 7 (by omega))]; exact a.2.2.2.1
  · rw [f.2.2 r 8 (no 8 (by omega))]; exact a.2.2.2.2.1
  · rw [f.2.2 r 9 (no 9 (by omega))]; exact a.2.2.2.2.2.1
  · rw [f.2.1]; exact a.given_t
  · rw [f.2.1]; exact a.clash_t
  · rw [f.2.1]; exact a.takers_t
  · rw [f.2.1]; exact a.rivals_t
  · rw [f.2.1]; exact a.dead_t
theorem sp_fill1 {h : Hp} {r n : Nat} (ht : hpT h r = (20, n)) (hn : n < 1000) {v : Int} {d mc ms : Nat} {R : PR} {o2 o3 : Option AV} (H : ∀ h', Fr (fun q => q = r) h h' → (∀ i, i < n → hpC h' r i = v) → R none h') : Wp m_Arrays_fill1 0 [some (xR r), some (xI v), o2, o3] [] h d mc ms R := by
  apply f_Arrays_fill1_0
  rw [ht]
  refine ⟨rfl, ?_⟩
  have L : ∀ (j k : Nat) (g : Hp), k + j = n → Fr (fun q => q = r) h g → (∀ i, i < k → hpC g r i = v) → Wp m_Arrays_fill1 5 [some (xR r), some (xI v), some (xI (k : Int)), some (xI (n : Int))] [] g d mc ms R := by
    intro j
    induction j with
    | zero =>
      intro k g hk f c
      apply f_Arrays_fill1_5
      rw [if_neg (by omega)]
      exact H g f (fun i hi => c i (by omega))
    | succ j ih =>
      intro k g hk f c
      apply f_Arrays_fill1_5
      rw [if_pos (by omega), f.2.1, ht, Int.toNat_natCast, ab_1 (by omega)]
      refine ⟨⟨rfl, by omega, by show (k : Int) < (n : Int); omega⟩, fun g1 e1 => ?_⟩
      subst e1
      refine ih (k + 1) _ (by omega) (f.tr (Fr.up rfl)) (fun i hi => ?_)
      by_cases e : i = k
      · subst e; rw [hpC_same]
      · rw [hpC_ne (Or.inr e)]; exact c i (by omega)
  exact L n 0 h (by omega) Fr.rf (fun i hi => by omega)
/-- the class's clashes are learned -/
def clC (h : Hp) (r : Nat) (w : Nat → Int) : Prop := ∀ s : Nat, (s : Int) < w 7 → hpC h (r + 2) s = (clB w s : Int)
def Slk (r : Nat) : Nat → Nat → Prop := fun q p => (q = r ∧ p = 2) ∨ q = r + 2
theorem Slk_SP {r : Nat} {h h' : Hp} (f : FrP (Slk r) h h') : FrP (SP r) h h' := f.wk (fun q p z => by
  rcases z with ⟨z1, z2⟩ | z
  · exact Or.inl ⟨z1, by omega⟩
  · exact Or.inr (by omega))
def dnC (s t u v : Nat) : Bool := decide (min u v < s ∨ (min u v = s ∧ max u v < t))
theorem sp_learnClashes {h : Hp} {r t : Nat} {w : Nat → Int} (pl : plAt h r) (a : TR h t w) (hV : V w) (hx : r + 6 ≤ t) (hk : hpC h r 2 ≠ 0 → clC h r w) {d mc ms : Nat} {R : PR} (hd : 5 ≤ d) {o2 o3 : Option AV} (H : ∀ h', FrP (Slk r) h h' → hpC h' r 2 ≠ 0 → clC h' r w → R none h') : Wp m_Planner_learnClashes 0 [some (xR r), some (xR t), o2, o3] [] h d mc ms R := by
  have v0 := hV.1.1
  have v1 := hV.1.2.1
  have v2 := hV.1.2.2.1
  have v3 := hV.1.2.2.2.1
  have v4 := hV.1.2.2.2.2.1
  have v5 := hV.1.2.2.2.2.2.1
  have v6 := hV.1.2.2.2.2.2.2.1
  have v7 := hV.1.2.2.2.2.2.2.2.1
  have v8 := hV.1.2.2.2.2.2.2.2.2.1
  have v9 := hV.1.2.2.2.2.2.2.2.2.2
  apply f_Planner_learnClashes_0
  by_cases c : hpC h r 2 = 0
  · rw [if_pos c, pl.clash_n]
    refine ⟨pl.tag, pl.tag, by omega, sp_fill1 pl.clash_t (by omega) (fun g1 f1 c1 _ => ?_)⟩
    have F : ∀ g, FrP (Slk r) h g → plAt g r ∧ TR g t w := fun g f => ⟨pl.fr (Slk_SP f), a.eq (f.eqC (fun q p h1 h2 z => by rcases z with ⟨z, _⟩ | z <;> omega))⟩
    have L : ∀ (j s : Nat) (g : Hp) (o3 : Option AV), ((s + j : Nat) : Int) = w 7 → FrP (Slk r) h g → (∀ u : Nat, (u : Int) < w 7 → ∃ x : Nat, x < 1024 ∧ hpC g (r + 2) u = (x : Int) ∧ ∀ v, x.testBit v = (decide ((v : Int) < w 7) && clW w u v && dnC s 0 u v)) → Wp m_Planner_learnClashes 18 [some (xR r), some (xR t), some (xI (s : Int)), o3] [] g d mc ms R := by
      intro j
      induction j with
      | zero =>
        intro s g o3 hs f cc
        obtain ⟨pl, a⟩ := F g f
        have hT := a.1.1
        have hR := a.1.2.1
        have b1 := a.1.2.2.1
        have b2 := a.1.2.2.2.1
        have b3 := a.1.2.2.2.2.1
        have hw := a.1.2.2.2.2.2.2.1
        have h7 := a.1.2.2.2.2.2.2.2
        apply f_Planner_learnClashes_18
        rw [hT.streets_n, b1.1, if_neg (by omega)]
        refine ⟨hT.tag, hT.streets_a.tag, pl.tag, by simp, fun g1 e1 => ?_⟩
        subst e1
        refine H _ (f.tr (FrP.up (Or.inl ⟨rfl, rfl⟩))) (by rw [hpC_same]; decide) (fun u hu => ?_)
        rw [hpC_ne (Or.inl (by omega))]
        obtain ⟨x, x1, x2, x3⟩ := cc u hu
        rw [x2]
        have p10 : 2 ^ (w 7).toNat ≤ 2 ^ 10 := Nat.pow_le_pow_right (by decide) (by omega)
        have : x = clB w u := by
          refine bits_eq (n := 10) (by omega) (clB_10 hV u) (fun v hv => ?_)
          rw [x3]
          by_cases c2 : (v : Int) < w 7
          · rw [clB_bit (by omega), decide_eq_true c2, show dnC s 0 u v = true from decide_eq_true (Or.inl (by omega))]; simp
          · rw [big_bit (clB_lt u) (by omega), decide_eq_false c2]; rfl
        rw [this]
      | succ j ih =>
        intro s g o3 hs f cc
        have I : ∀ (i q : Nat) (g : Hp), ((q + i : Nat) : Int) = w 7 → s < q → FrP (Slk r) h g → (∀ u : Nat, (u : Int) < w 7 → ∃ x : Nat, x < 1024 ∧ hpC g (r + 2) u = (x : Int) ∧ ∀ v, x.testBit v = (decide ((v : Int) < w 7) && clW w u v && dnC s q u v)) → Wp m_Planner_learnClashes 33 [some (xR r), some (xR t), some (xI (s : Int)), some (xI (q : Int))] [] g d mc ms R := by
          intro i
          induction i with
          | zero =>
            intro q g hq hsq f cc
            obtain ⟨pl, a⟩ := F g f
            have hT := a.1.1
            have hR := a.1.2.1
            have b1 := a.1.2.2.1
            have b2 := a.1.2.2.2.1
            have b3 := a.1.2.2.2.2.1
            have hw := a.1.2.2.2.2.2.2.1
            have h7 := a.1.2.2.2.2.2.2.2
            apply f_Planner_learnClashes_33
            rw [hT.streets_n, b1.1, if_neg (by omega), ab_1 (by omega)]
            refine ⟨hT.tag, hT.streets_a.tag, ih (s + 1) g _ (by omega) f (fun u hu => ?_)⟩
            obtain ⟨x, x1, x2, x3⟩ := cc u hu
            refine ⟨x, x1, x2, fun v => ?_⟩
            rw [x3]
            by_cases c2 : (v : Int) < w 7
            · by_cases c3 : clW w u v = true
              · have ne : u ≠ v := fun z => by subst z; rw [clW_irr] at c3; cases c3
                rw [c3, decide_eq_true c2]
                simp only [Bool.true_and, dnC, decide_eq_decide]
                omega
              · rw [show clW w u v = false by simpa using c3]; simp
            · rw [decide_eq_false c2]; rfl
          | succ i ih2 =>
            intro q g hq hsq f cc
            obtain ⟨pl, a⟩ := F g f
            have hT := a.1.1
            have hR := a.1.2.1
            have b1 := a.1.2.2.1
            have b2 := a.1.2.2.2.1
            have b3 := a.1.2.2.2.2.1
            have hw := a.1.2.2.2.2.2.2.1
            have h7 := a.1.2.2.2.2.2.2.2
            have n1 := a.2.1
            have stay : clW w s q = false → (∀ u : Nat, (u : Int) < w 7 → ∃ x : Nat, x < 1024 ∧ hpC g (r + 2) u = (x : Int) ∧ ∀ v, x.testBit v = (decide ((v : Int) < w 7) && clW w u v && dnC s (q + 1) u v)) := fun z u hu => by
              obtain ⟨x, x1, x2, x3⟩ := cc u hu
              refine ⟨x, x1, x2, fun v => ?_⟩
              rw [x3]
              by_cases c3 : clW w u v = true
              · have ne : ¬ (min u v = s ∧ max u v = q) := fun y => by
                  rcases Nat.le_total u v with o | o
                  · rw [show u = s by omega, show v = q by omega, z] at c3; cases c3
                  · rw [show u = q by omega, show v = s by omega, clW_sym, z] at c3; cases c3
                congr 1
                simp only [dnC, decide_eq_decide]
                omega
              · rw [show clW w u v = false by simpa using c3]; simp
            apply f_Planner_learnClashes_33
            rw [hT.streets_n, b1.1, if_pos (by omega), ab_1 (by omega)]
            refine ⟨hT.tag, hT.streets_a.tag, hT.tag, hT.tag, ⟨by omega, hT.tag⟩, sp_areAlike hT hR.1 hV hT.streets_a hT.streets_a b1 b1 n1 n1 (by omega) (by omega) (by omega) (by omega) (hV.2.2.2.2.1 s (by omega)) (hV.2.2.2.2.1 q (by omega)) (by omega) (fun v e => ?_)⟩
            cases e
            by_cases c3 : 0 < alW w (180 + 10 * s) (180 + 10 * q)
            · have cl : clW w s q = true := decide_eq_true ⟨by omega, c3⟩
              rw [if_pos c3, if_neg (by decide)]
              obtain ⟨xs, s1, s2, s3⟩ := cc s (by omega)
              obtain ⟨xq, q1, q2, q3⟩ := cc q (by omega)
              have ps : 2 ^ s ≤ 512 := Nat.pow_le_pow_right (n := 2) (by decide) (show s ≤ 9 by omega)
              have pq : 2 ^ q ≤ 512 := Nat.pow_le_pow_right (n := 2) (by decide) (show q ≤ 9 by omega)
              rw [pl.clash_n, pl.clash_t, Int.toNat_natCast, s2, ai_shl_one q (by omega), ai_or_nat (by omega) (by omega)]
              refine ⟨pl.tag, ⟨rfl, by omega, by show (s : Int) < 10; omega⟩, ⟨rfl, by omega, by show (s : Int) < 10; omega⟩, fun g2 e2 => ?_⟩
              have f2 : FrP (Slk r) g g2 := by subst e2; exact FrP.up (Or.inr rfl)
              have y1 : hpC g2 (r + 2) s = ((xs ||| 2 ^ q : Nat) : Int) := by subst e2; rw [hpC_same]
              have y2 : ∀ u, u ≠ s → hpC g2 (r + 2) u = hpC g (r + 2) u := fun u hu => by subst e2; rw [hpC_ne (Or.inr hu)]
              clear e2
              obtain ⟨pl2, _⟩ := F g2 (f.tr f2)
              rw [pl2.clash_n, pl2.clash_t, Int.toNat_natCast, y2 q (by omega), q2, ai_shl_one s (by omega), ai_or_nat (by omega) (by omega)]
              refine ⟨pl2.tag, ⟨rfl, by omega, by show (q : Int) < 10; omega⟩, ⟨rfl, by omega, by show (q : Int) < 10; omega⟩, fun g3 e3 => ?_⟩
              subst e3
              refine ih2 (q + 1) _ (by omega) (by omega) (f.tr (f2.tr (FrP.up (Or.inr rfl)))) (fun u hu => ?_)
              by_cases e1 : u = q
              · subst e1
                refine ⟨xq ||| 2 ^ s, or_lt (n := 10) (by omega) (by omega), by rw [hpC_same], fun v => ?_⟩
                rw [or_bit, q3]
                by_cases e2 : v = s
                · subst e2
                  rw [decide_eq_true (show (v : Int) < w 7 by omega), clW_sym, cl, show dnC v (u + 1) u v = true from decide_eq_true (Or.inr (by omega))]; simp
                · rw [decide_eq_false e2, Bool.or_false]
                  congr 1
                  simp only [dnC, decide_eq_decide]
                  omega
              · rw [hpC_ne (Or.inr e1)]
                by_cases e2 : u = s
                · subst e2
                  refine ⟨xs ||| 2 ^ q, or_lt (n := 10) (by omega) (by omega), y1, fun v => ?_⟩
                  rw [or_bit, s3]
                  by_cases e3 : v = q
                  · subst e3
                    rw [decide_eq_true (show (v : Int) < w 7 by omega), cl, show dnC u (v + 1) u v = true from decide_eq_true (Or.inr (by omega))]; simp
                  · rw [decide_eq_false e3, Bool.or_false]
                    congr 1
                    simp only [dnC, decide_eq_decide]
                    omega
                · rw [y2 u e2]
                  obtain ⟨x, x1, x2, x3⟩ := cc u hu
                  refine ⟨x, x1, x2, fun v => ?_⟩
                  rw [x3]
                  congr 1
                  simp only [dnC, decide_eq_decide]
                  omega
            · rw [if_neg c3, if_pos rfl]
              exact ih2 (q + 1) g (by omega) (by omega) f (stay (decide_eq_false (fun z => c3 z.2)))
        obtain ⟨pl, a⟩ := F g f
        have hT := a.1.1
        have hR := a.1.2.1
        have b1 := a.1.2.2.1
        have b2 := a.1.2.2.2.1
        have b3 := a.1.2.2.2.2.1
        have hw := a.1.2.2.2.2.2.2.1
        have h7 := a.1.2.2.2.2.2.2.2
        apply f_Planner_learnClashes_18
        rw [hT.streets_n, b1.1, if_pos (by omega), ab_1 (by omega)]
        refine ⟨hT.tag, hT.streets_a.tag, I ((w 7).toNat - (s + 1)) (s + 1) g (by omega) (by omega) f (fun u hu => ?_)⟩
        obtain ⟨x, x1, x2, x3⟩ := cc u hu
        refine ⟨x, x1, x2, fun v => ?_⟩
        rw [x3]
        by_cases c3 : clW w u v = true
        · have ne : u ≠ v := fun z => by subst z; rw [clW_irr] at c3; cases c3
          congr 1
          simp only [dnC, decide_eq_decide]
          omega
        · rw [show clW w u v = false by simpa using c3]; simp
    refine L (w 7).toNat 0 g1 _ (by omega) (f1.P (fun q p z => Or.inr z)) (fun u hu => ⟨0, by omega, c1 u (by omega), fun v => ?_⟩)
    rw [Nat.zero_testBit, show dnC 0 0 u v = false from decide_eq_false (by omega)]; simp
  · rw [if_neg c]
    exact ⟨pl.tag, H h FrP.rf c (hk c)⟩
theorem sp_isClash {h : Hp} {r : Nat} {w : Nat → Int} (pl : plAt h r) (hV : V w) (hc : clC h r w) {s t : Nat} (hs : (s : Int) < w 7) (ht : (t : Int) < w 7) {d mc ms : Nat} {R : PR} (H : R (some (xI (if clW w s t = true then 1 else 0))) h) : Wp m_Planner_isClash 0 [some (xR r), some (xI (s : Int)), some (xI (t : Int))] [] h d mc ms R := by
  have v0 := hV.1.1
  have v1 := hV.1.2.1
  have v2 := hV.1.2.2.1
  have v3 := hV.1.2.2.2.1
  have v4 := hV.1.2.2.2.2.1
  have v5 := hV.1.2.2.2.2.2.1
  have v6 := hV.1.2.2.2.2.2.2.1
  have v7 := hV.1.2.2.2.2.2.2.2.1
  have v8 := hV.1.2.2.2.2.2.2.2.2.1
  have v9 := hV.1.2.2.2.2.2.2.2.2.2
  have b := clB_10 hV s
  apply f_Planner_isClash_0
  rw [pl.clash_n, pl.clash_t, Int.toNat_natCast, hc s hs, ai_bit (by omega) (by omega), clB_bit (by omega)]
  refine ⟨pl.tag, ⟨rfl, by omega, by show (s : Int) < 10; omega⟩, ?_⟩
  by_cases c : clW w s t = true
  · rw [if_pos c, if_pos rfl]; rw [if_pos c] at H; exact ⟨by simp, H⟩
  · rw [if_neg c, if_neg (by decide)]; rw [if_neg c] at H; exact ⟨by simp, H⟩
theorem sp_cclash {h : Hp} {x : Nat} {w : Nat → Int} (s : sAt h x) (a : TR h (x + 43) w) (hV : V w) (pl : plAt h (x + 30)) (hk : hpC h (x + 30) 2 ≠ 0 → clC h (x + 30) w) {k : Int} {d mc ms : Nat} {R : PR} (hd : 6 ≤ d) {o2 o3 o4 : Option AV} (H : ∀ h', FrP (Slk (x + 30)) h h' → (hpC h' (x + 30) 2 ≠ 0 → clC h' (x + 30) w) → R (some (xI (clashA w k))) h') : Wp m_S_clash 0 [some (xR x), some (xI k), o2, o3, o4] [] h d mc ms R := by
  have v0 := hV.1.1
  have v1 := hV.1.2.1
  have v2 := hV.1.2.2.1
  have v3 := hV.1.2.2.2.1
  have v4 := hV.1.2.2.2.2.1
  have v5 := hV.1.2.2.2.2.2.1
  have v6 := hV.1.2.2.2.2.2.2.1
  have v7 := hV.1.2.2.2.2.2.2.2.1
  have v8 := hV.1.2.2.2.2.2.2.2.2.1
  have v9 := hV.1.2.2.2.2.2.2.2.2.2
  unfold clashA at H
  apply f_S_clash_0
  by_cases c : k < -1
  · rw [if_pos c]; rw [if_pos c] at H; exact H h FrP.rf hk
  · rw [if_neg c, s.planner_n, s.now_n]
    rw [if_neg c] at H
    refine ⟨s.tag, s.tag, ⟨by omega, pl.tag⟩, sp_learnClashes pl a hV (by omega) hk (by omega) (fun g f k1 k2 _ => ?_)⟩
    have pl := pl.fr (Slk_SP f)
    have s := s.fr f (fun p _ z => by rcases z with ⟨z, _⟩ | z <;> omega)
    have a := a.eq (f.eqC (fun q p h1 h2 z => by rcases z with ⟨z, _⟩ | z <;> omega))
    have H := H g f (fun _ => k2)
    have hT := a.1.1
    have hR := a.1.2.1
    have b1 := a.1.2.2.1
    have b2 := a.1.2.2.2.1
    have b3 := a.1.2.2.2.2.1
    have hw := a.1.2.2.2.2.2.2.1
    have h7 := a.1.2.2.2.2.2.2.2
    have L : ∀ (j i : Nat) (n : Int) (o4 : Option AV), ((i + j : Nat) : Int) = w 7 → (0 ≤ n ∧ n ≤ 10 * i) → R (some (xI (ouC (clW w) (w 7).toNat k j i n))) g → Wp m_S_clash 22 [some (xR x), some (xI k), some (xI n), some (xI (i : Int)), o4] [] g d mc ms R := by
      intro j
      induction j with
      | zero =>
        intro i n o4 hi hn H
        simp only [ouC] at H
        apply f_S_clash_22
        rw [s.now_n, hT.streets_n, b1.1, if_neg (by omega)]
        refine ⟨s.tag, hT.tag, hT.streets_a.tag, ?_⟩
        by_cases c2 : k = -1
        · rw [if_pos c2]; rw [if_pos c2] at H; exact H
        · rw [if_neg c2]; rw [if_neg c2] at H; exact H
      | succ j ih =>
        intro i n o4 hi hn H
        simp only [ouC] at H
        have I : ∀ (e t : Nat) (n2 : Int), ((t + e : Nat) : Int) = w 7 → i < t → (0 ≤ n2 ∧ n2 ≤ 10 * i + (t - i)) → ((inC (clW w i) i k e t n2).1 = true → R (some (xI (inC (clW w i) i k e t n2).2)) g) → ((inC (clW w i) i k e t n2).1 = false → ∀ o4 : Option AV, Wp m_S_clash 22 [some (xR x), some (xI k), some (xI (inC (clW w i) i k e t n2).2), some (xI ((i + 1 : Nat) : Int)), o4] [] g d mc ms R) → Wp m_S_clash 41 [some (xR x), some (xI k), some (xI n2), some (xI (i : Int)), some (xI (t : Int))] [] g d mc ms R := by
          intro e
          induction e with
          | zero =>
            intro t n2 ht hst hn2 Y N
            apply f_S_clash_41
            rw [s.now_n, hT.streets_n, b1.1, if_neg (by omega), ab_1 (by omega)]
            exact ⟨s.tag, hT.tag, hT.streets_a.tag, N rfl _⟩
          | succ e ih2 =>
            intro t n2 ht hst hn2 Y N
            apply f_S_clash_41
            rw [s.now_n, hT.streets_n, s.planner_n, b1.1, if_pos (by omega), ab_1 (by omega), am_100 (by omega), ai_add_nn (by omega)]
            refine ⟨s.tag, hT.tag, hT.streets_a.tag, s.tag, ⟨by omega, pl.tag⟩, sp_isClash pl hV k2 (by omega) (by omega) (fun v e => ?_)⟩
            cases e
            simp only [inC] at Y N
            by_cases c1 : clW w i t = true
            · rw [if_pos c1, if_neg (by decide)]
              rw [if_pos c1] at Y N
              by_cases c2 : n2 = k
              · rw [if_pos c2]
                rw [if_pos c2] at Y
                rw [show (((100 * i + t : Nat) : Nat) : Int) = 100 * (i : Int) + (t : Int) by omega]
                exact Y rfl
              · rw [if_neg c2, ai_add_eq (by omega) (by omega)]
                rw [if_neg c2] at Y N
                exact ih2 (t + 1) (n2 + 1) (by omega) (by omega) (by omega) Y N
            · rw [if_neg c1, if_pos rfl]
              rw [if_neg c1] at Y N
              exact ih2 (t + 1) n2 (by omega) (by omega) (by omega) Y N
        apply f_S_clash_22
        rw [s.now_n, hT.streets_n, b1.1, if_pos (by omega), ab_1 (by omega)]
        refine ⟨s.tag, hT.tag, hT.streets_a.tag, ?_⟩
        refine I ((w 7).toNat - (i + 1)) (i + 1) n (by omega) (by omega) (by omega) (fun y => ?_) (fun y o4 => ?_)
        · rw [if_pos y] at H; exact H
        · rw [if_neg (by rw [y]; decide)] at H
          have b := inC_bd (clW w i) i k ((w 7).toNat - (i + 1)) (i + 1) n y
          exact ih (i + 1) _ _ (by omega) (by omega) H
    exact L (w 7).toNat 0 0 _ (by omega) (by omega) H
