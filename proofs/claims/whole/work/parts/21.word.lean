/-! ===== words as numbers: five bits a letter ===== -/
def wl (w i : Nat) : Nat := w / 32 ^ i % 32
theorem wl_lt (w i : Nat) : wl w i < 32 := Nat.mod_lt _ (by decide)
theorem wl_succ (w i : Nat) : wl w (i + 1) = wl (w / 32) i := by
  unfold wl
  rw [Nat.div_div_eq_div_mul, Nat.pow_succ, Nat.mul_comm]
theorem wl_zero (w : Nat) : wl w 0 = w % 32 := by unfold wl; simp
theorem wl_ext : ∀ (n w v : Nat), w < 32 ^ n → v < 32 ^ n → (∀ i, i < n → wl w i = wl v i) → w = v
  | 0, w, v, h1, h2, _ => by simp at h1 h2; omega
  | n + 1, w, v, h1, h2, h => by
    have e0 := h 0 (by omega)
    rw [wl_zero, wl_zero] at e0
    have e1 : w / 32 = v / 32 := by
      apply wl_ext n
      · rw [Nat.pow_succ] at h1; exact Nat.div_lt_of_lt_mul (by omega)
      · rw [Nat.pow_succ] at h2; exact Nat.div_lt_of_lt_mul (by omega)
      · intro i hi
        rw [← wl_succ, ← wl_succ]
        exact h (i + 1) (by omega)
    omega
theorem wl_big {w n i : Nat} (h : w < 32 ^ n) (hi : n ≤ i) : wl w i = 0 := by
  unfold wl
  have : 32 ^ n ≤ 32 ^ i := Nat.pow_le_pow_right (by decide) hi
  rw [Nat.div_eq_of_lt (by omega)]
theorem wl_add {w l k i : Nat} (hw : w < 32 ^ k) (hl : l < 32) : wl (w + l * 32 ^ k) i = if i < k then wl w i else if i = k then l else 0 := by
  unfold wl
  by_cases h1 : i < k
  · rw [if_pos h1]
    have e : l * 32 ^ k = (l * 32 ^ (k - i - 1) * 32) * 32 ^ i := by
      rw [Nat.mul_assoc, Nat.mul_assoc, ← Nat.pow_succ', ← Nat.pow_add]
      congr 2; omega
    rw [e, Nat.add_mul_div_right _ _ (Nat.pow_pos (by decide)), Nat.add_mul_mod_self_right]
  · rw [if_neg h1]
    by_cases h2 : i = k
    · subst h2
      rw [if_pos rfl, Nat.add_mul_div_right _ _ (Nat.pow_pos (by decide)), Nat.div_eq_of_lt hw, Nat.zero_add, Nat.mod_eq_of_lt hl]
    · rw [if_neg h2]
      have h3 : w + l * 32 ^ k < 32 ^ i := by
        have : 32 ^ (k + 1) ≤ 32 ^ i := Nat.pow_le_pow_right (by decide) (by omega)
        rw [Nat.pow_succ] at this
        have : l * 32 ^ k ≤ 31 * 32 ^ k := Nat.mul_le_mul_right _ (by omega)
        omega
      rw [Nat.div_eq_of_lt h3]
theorem wl_put_lt {w l k : Nat} (hw : w < 32 ^ k) (hl : l < 32) : w + l * 32 ^ k < 32 ^ (k + 1) := by
  rw [Nat.pow_succ]
  have : l * 32 ^ k ≤ 31 * 32 ^ k := Nat.mul_le_mul_right _ (by omega)
  omega
theorem wl_or {w l k : Nat} (hw : w < 32 ^ k) : w ||| (l * 32 ^ k) = w + l * 32 ^ k := by
  have e : (32 : Nat) ^ k = 2 ^ (5 * k) := by rw [Nat.pow_mul]
  rw [e] at hw ⊢
  rw [Nat.or_comm, Nat.mul_comm, ← Nat.two_pow_add_eq_or_of_lt hw, Nat.add_comm]
theorem lt50 {w : Nat} (h : w < 32 ^ 10) : w < 9223372036854775808 := Nat.lt_trans h (by decide)
/-! frames of heaps -/
def Fr (S : Nat → Prop) (h h' : Hp) : Prop := h'.1 = h.1 ∧ hpT h' = hpT h ∧ ∀ r, ¬ S r → ∀ p, hpC h' r p = hpC h r p
theorem Fr.rf {S : Nat → Prop} {h : Hp} : Fr S h h := ⟨rfl, rfl, fun _ _ _ => rfl⟩
theorem Fr.tr {S : Nat → Prop} {h h' h'' : Hp} (a : Fr S h h') (b : Fr S h' h'') : Fr S h h'' := ⟨b.1.trans a.1, b.2.1.trans a.2.1, fun r hr p => (b.2.2 r hr p).trans (a.2.2 r hr p)⟩
theorem Fr.wk {S S' : Nat → Prop} {h h' : Hp} (a : Fr S h h') (hS : ∀ r, S r → S' r) : Fr S' h h' := ⟨a.1, a.2.1, fun r hr p => a.2.2 r (fun z => hr (hS r z)) p⟩
theorem Fr.up {S : Nat → Prop} {h : Hp} {r p : Nat} {v : Int} (hr : S r) : Fr S h (hpU h r p v) := by
  refine ⟨rfl, rfl, fun q hq p' => ?_⟩
  show (if q = r ∧ p' = p then v else hpC h q p') = hpC h q p'
  rw [if_neg]
  rintro ⟨rfl, -⟩
  exact hq hr
theorem hpC_up (h : Hp) (r p : Nat) (v : Int) (r' p' : Nat) : hpC (hpU h r p v) r' p' = if r' = r ∧ p' = p then v else hpC h r' p' := rfl
theorem hpC_same (h : Hp) (r p : Nat) (v : Int) : hpC (hpU h r p v) r p = v := by rw [hpC_up, if_pos ⟨rfl, rfl⟩]
theorem hpC_ne {h : Hp} {r p : Nat} {v : Int} {r' p' : Nat} (hne : r' ≠ r ∨ p' ≠ p) : hpC (hpU h r p v) r' p' = hpC h r' p' := by
  rw [hpC_up, if_neg]
  rintro ⟨h1, h2⟩
  rcases hne with z | z
  · exact z h1
  · exact z h2
/-! Word.letterAt, letterPut, lengthOf -/
theorem low5 (x : Nat) (hx : x < 9223372036854775808) : ai_and (al_int (x : Int)) 31 = ((x % 32 : Nat) : Int) := by
  have e : Int32.ofInt (al_int (x : Int)) = (Int64.ofInt (x : Int)).toInt32 := Int32.ofInt_toInt _
  unfold ai_and
  rw [e]
  have e2 : (Int64.ofInt (x : Int)).toInt32 &&& Int32.ofInt 31 = Int32.ofInt ((x % 32 : Nat) : Int) := by
    rw [← Int32.toBitVec_inj, Int32.toBitVec_and]
    apply BitVec.eq_of_toNat_eq
    simp [Int64.toBitVec_toInt32]
    have h1 : x % 18446744073709551616 = x := Nat.mod_eq_of_lt (by omega)
    have h2 := Nat.and_two_pow_sub_one_eq_mod (x % 4294967296) 5
    simp at h2
    omega
  rw [e2]
  exact aTo (by omega) (by omega)
def lA (w : Nat) (i : Int) : Int := if 0 ≤ i ∧ i < 10 then (wl w i.toNat : Int) else 0
theorem lA_nat {w k : Nat} (hk : k < 10) : lA w (k : Int) = (wl w k : Int) := by
  unfold lA; rw [if_pos (by omega), Int.toNat_natCast]
theorem lA_out {w : Nat} {i : Int} (h : i < 0 ∨ 10 ≤ i) : lA w i = 0 := by
  unfold lA; rw [if_neg (by omega)]
theorem letterAt_val {w : Nat} (hw : w < 9223372036854775808) {k : Nat} (hk : k < 10) : ai_and (al_int (al_shr (w : Int) (ai_mul (5 : Int) (k : Int)))) (31 : Int) = (wl w k : Int) := by
  rw [ai_mul_eq (by omega) (by omega)]
  rw [show (5 : Int) * (k : Int) = ((5 * k : Nat) : Int) by simp]
  rw [al_shr_nat hw (by omega)]
  have h1 : w >>> (5 * k) < 9223372036854775808 := by
    rw [Nat.shiftRight_eq_div_pow]
    exact Nat.lt_of_le_of_lt (Nat.div_le_self _ _) hw
  rw [low5 _ h1, Nat.shiftRight_eq_div_pow, Nat.pow_mul]
  rfl
theorem sp_letterAt {w : Nat} (hw : w < 9223372036854775808) {i : Int} {h : Hp} {d mc ms : Nat} {R : PR} (H : R (some (xI (lA w i))) h) : Wp m_Word_letterAt 0 [some (xL (w : Int)), none, some (xI i)] [] h d mc ms R := by
  apply f_Word_letterAt_0
  by_cases h0 : i < 0
  · rw [if_pos h0, ← lA_out (w := w) (i := i) (by omega)]; exact H
  · rw [if_neg h0]
    by_cases h1 : i < 10
    · rw [if_pos h1]
      obtain ⟨k, rfl⟩ : ∃ k : Nat, i = (k : Int) := ⟨i.toNat, by omega⟩
      rw [letterAt_val hw (by omega), ← lA_nat (by omega)]
      exact H
    · rw [if_neg h1, ← lA_out (w := w) (i := i) (by omega)]; exact H
/-- how many letters -/
def isLen (w n : Nat) : Prop := n ≤ 10 ∧ (∀ i, i < n → wl w i ≠ 0) ∧ (n < 10 → wl w n = 0)
theorem isLen_ex (w : Nat) : ∃ n, isLen w n := by
  have key : ∀ k, k ≤ 10 → (∃ n, n ≤ k ∧ (∀ i, i < n → wl w i ≠ 0) ∧ (n < k → wl w n = 0)) := by
    intro k
    induction k with
    | zero => intro _; exact ⟨0, by omega, by omega, by omega⟩
    | succ k ih =>
      intro hk
      obtain ⟨n, h1, h2, h3⟩ := ih (by omega)
      by_cases hn : n < k
      · exact ⟨n, by omega, h2, fun _ => h3 hn⟩
      · by_cases hz : wl w k = 0
        · exact ⟨k, by omega, fun i hi => h2 i (by omega), fun _ => hz⟩
        · exact ⟨k + 1, by omega, fun i hi => by
            rcases Nat.lt_or_ge i n with q | q
            · exact h2 i q
            · rw [show i = k by omega]; exact hz, by omega⟩
  obtain ⟨n, h1, h2, h3⟩ := key 10 (Nat.le_refl _)
  exact ⟨n, h1, h2, h3⟩
theorem sp_lengthOf {w n : Nat} (hw : w < 9223372036854775808) (hn : isLen w n) {h : Hp} {d mc ms : Nat} (hd : 1 ≤ d) {o2 : Option AV} {R : PR} (H : R (some (xI (n : Int))) h) : Wp m_Word_lengthOf 0 [some (xL (w : Int)), none, o2] [] h d mc ms R := by
  apply f_Word_lengthOf_0
  have L : ∀ j k : Nat, k + j = n → Wp m_Word_lengthOf 2 [some (xL (w : Int)), none, some (xI (k : Int))] [] h d mc ms R := by
    intro j
    induction j with
    | zero =>
      intro k hk
      obtain rfl : k = n := by omega
      apply f_Word_lengthOf_2
      by_cases h10 : (k : Int) < 10
      · rw [if_pos h10]
        refine ⟨hd, sp_letterAt hw (fun v e => ?_)⟩
        cases e
        rw [lA_nat (by omega), hn.2.2 (by omega)]
        exact H
      · rw [if_neg h10]; exact H
    | succ j ih =>
      intro k hk
      have hk10 : k < 10 := by have := hn.1; omega
      apply f_Word_lengthOf_2
      rw [if_pos (by omega)]
      refine ⟨hd, sp_letterAt hw (fun v e => ?_)⟩
      cases e
      rw [lA_nat hk10, if_neg (by have := hn.2.1 k (by omega); omega), ai_add_eq (by omega) (by omega)]
      exact ih (k + 1) (by omega)
  exact L n 0 (by omega)
