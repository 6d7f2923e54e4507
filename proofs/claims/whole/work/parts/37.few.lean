/-! ===== the fewest changes of a side: pure ===== -/
def gS (L : Nat → Int) (p : Int) (i : Nat) : Int := max (L i) (p + 1)
/-- the fewest that change among j from i on, behind p; 1000: it can't be -/
def FS (L own : Nat → Int) (T : Int) : Nat → Nat → Int → Int
  | 0, _, _ => 0
  | j + 1, i, p => min (if gS L p i ≤ own i then FS L own T j (i + 1) (own i) else 1000) (if gS L p i ≤ T then 1 + FS L own T j (i + 1) (gS L p i) else 1000)
theorem FS_bd (L own : Nat → Int) (T : Int) : ∀ j i p, 0 ≤ FS L own T j i p ∧ FS L own T j i p ≤ 1000 ∧ (FS L own T j i p < 1000 → FS L own T j i p ≤ j)
  | 0, i, p => by simp [FS]
  | j + 1, i, p => by
    have h1 := FS_bd L own T j (i + 1) (own i)
    have h2 := FS_bd L own T j (i + 1) (gS L p i)
    simp only [FS]
    split <;> split <;> omega
def KS (L own : Nat → Int) (T : Int) (j i : Nat) (p : Int) : Prop := gS L p i ≤ own i ∧ FS L own T j (i + 1) (own i) < 1 + FS L own T j (i + 1) (gS L p i)
def BS (L own : Nat → Int) (T : Int) : Nat → Nat → Int → List Int
  | 0, _, _ => []
  | j + 1, i, p => if gS L p i ≤ own i ∧ FS L own T j (i + 1) (own i) < 1 + FS L own T j (i + 1) (gS L p i) then own i :: BS L own T j (i + 1) (own i) else gS L p i :: BS L own T j (i + 1) (gS L p i)
def okS (L own : Nat → Int) (T : Int) (kb : Nat → Bool) : Nat → Nat → Int → Prop
  | 0, _, _ => True
  | j + 1, i, p => if kb i then gS L p i ≤ own i ∧ okS L own T kb j (i + 1) (own i) else gS L p i ≤ T ∧ okS L own T kb j (i + 1) (gS L p i)
def lsS (L own : Nat → Int) (kb : Nat → Bool) : Nat → Nat → Int → List Int
  | 0, _, _ => []
  | j + 1, i, p => if kb i then own i :: lsS L own kb j (i + 1) (own i) else gS L p i :: lsS L own kb j (i + 1) (gS L p i)
def nkS (kb : Nat → Bool) : Nat → Nat → Int
  | 0, _ => 0
  | j + 1, i => (if kb i then 1 else 0) + nkS kb j (i + 1)
def ltL : List Int → List Int → Bool
  | a :: as, b :: bs => if a = b then ltL as bs else decide (a < b)
  | _, _ => false
theorem ltL_anti : ∀ {x y : List Int}, x.length = y.length → ltL x y = false → ltL y x = false → x = y
  | [], [], _, _, _ => rfl
  | a :: as, b :: bs, hl, h1, h2 => by
    simp only [ltL] at h1 h2
    by_cases e : a = b
    · subst e
      rw [if_pos rfl] at h1 h2
      rw [ltL_anti (by simpa using hl) h1 h2]
    · rw [if_neg e] at h1
      rw [if_neg (fun z => e z.symm)] at h2
      have := of_decide_eq_false h1
      have := of_decide_eq_false h2
      omega
theorem ltL_trans : ∀ {x y z : List Int}, x.length = y.length → y.length = z.length → ltL y x = false → ltL z y = false → ltL z x = false
  | [], y, [], _, _, _, _ => rfl
  | [], y, c :: cs, h, h', _, _ => by simp at h h'; omega
  | a :: as, y, [], h, h', _, _ => rfl
  | a :: as, [], c :: cs, h, _, _, _ => by simp at h
  | a :: as, b :: bs, c :: cs, hl, hl', h1, h2 => by
    simp only [ltL] at h1 h2 ⊢
    by_cases e1 : b = a
    · subst e1
      rw [if_pos rfl] at h1
      by_cases e2 : c = b
      · subst e2
        rw [if_pos rfl] at h2 ⊢
        exact ltL_trans (by simpa using hl) (by simpa using hl') h1 h2
      · rw [if_neg e2] at h2 ⊢; exact h2
    · rw [if_neg e1] at h1
      have h1 := of_decide_eq_false h1
      by_cases e2 : c = b
      · subst e2
        rw [if_neg e1]; exact decide_eq_false h1
      · rw [if_neg e2] at h2
        have h2 := of_decide_eq_false h2
        rw [if_neg (by omega)]; exact decide_eq_false (by omega)
theorem ltL_tot : ∀ {x y : List Int}, ltL x y = true → ltL y x = false
  | [], y, h => by simp [ltL] at h
  | a :: as, [], h => by simp [ltL] at h
  | a :: as, b :: bs, h => by
    simp only [ltL] at h ⊢
    by_cases e : a = b
    · subst e; rw [if_pos rfl] at h ⊢; exact ltL_tot h
    · rw [if_neg e] at h; rw [if_neg (fun z => e z.symm)]
      have := of_decide_eq_true h
      exact decide_eq_false (by omega)
theorem ltL_self : ∀ x : List Int, ltL x x = false
  | [] => rfl
  | a :: as => by simp only [ltL, if_true]; exact ltL_self as
theorem BS_len (L own : Nat → Int) (T : Int) : ∀ j i p, (BS L own T j i p).length = j
  | 0, _, _ => rfl
  | j + 1, i, p => by simp only [BS]; split <;> simp [BS_len L own T j]
theorem lsS_len (L own : Nat → Int) (kb : Nat → Bool) : ∀ j i p, (lsS L own kb j i p).length = j
  | 0, _, _ => rfl
  | j + 1, i, p => by simp only [lsS]; split <;> simp [lsS_len L own kb j]
theorem nkS_bd (kb : Nat → Bool) : ∀ j i : Nat, 0 ≤ nkS kb j i ∧ nkS kb j i ≤ j
  | 0, _ => by simp [nkS]
  | j + 1, i => by have := nkS_bd kb j (i + 1); simp only [nkS]; split <;> omega
/-- no kept set does better, and none that does as well has lesser numbers -/
theorem FS_low {L own : Nat → Int} {T : Int} (hT : ∀ i, own i ≤ T) (kb : Nat → Bool) : ∀ j i p, okS L own T kb j i p → FS L own T j i p + nkS kb j i ≤ j ∧ (FS L own T j i p + nkS kb j i = j → ltL (lsS L own kb j i p) (BS L own T j i p) = false)
  | 0, i, p, _ => by simp [FS, nkS, lsS, BS, ltL]
  | j + 1, i, p, h => by
    have ho := hT i
    simp only [okS] at h
    simp only [FS, nkS, lsS, BS]
    by_cases c : kb i = true
    · rw [if_pos c] at h
      rw [if_pos c, if_pos h.1, if_pos c]
      obtain ⟨q1, q2⟩ := FS_low hT kb j (i + 1) (own i) h.2
      rw [if_pos (show gS L p i ≤ T by omega)]
      refine ⟨by omega, fun e => ?_⟩
      by_cases k : gS L p i ≤ own i ∧ FS L own T j (i + 1) (own i) < 1 + FS L own T j (i + 1) (gS L p i)
      · rw [if_pos k]; simp only [ltL, if_true]; exact q2 (by omega)
      · rw [if_neg k]
        simp only [ltL]
        by_cases z : own i = gS L p i
        · exfalso; rw [← z] at k; omega
        · rw [if_neg z]; exact decide_eq_false (by omega)
    · rw [if_neg c] at h
      rw [if_neg c, if_neg c, if_pos h.1]
      obtain ⟨q1, q2⟩ := FS_low hT kb j (i + 1) (gS L p i) h.2
      refine ⟨by omega, fun e => ?_⟩
      by_cases k : gS L p i ≤ own i ∧ FS L own T j (i + 1) (own i) < 1 + FS L own T j (i + 1) (gS L p i)
      · rw [if_pos k.1] at e; omega
      · rw [if_neg k]; simp only [ltL, if_true]; refine q2 ?_
        split at e <;> omega
theorem okS_ext {L own : Nat → Int} {T : Int} {kb kb' : Nat → Bool} : ∀ j i p, (∀ t, i ≤ t → t < i + j → kb t = kb' t) → (okS L own T kb j i p ↔ okS L own T kb' j i p) ∧ lsS L own kb j i p = lsS L own kb' j i p ∧ nkS kb j i = nkS kb' j i
  | 0, i, p, _ => by simp [okS, lsS, nkS]
  | j + 1, i, p, h => by
    have e1 := okS_ext (L := L) (own := own) (T := T) j (i + 1) (own i) (fun t ht ht2 => h t (by omega) (by omega))
    have e2 := okS_ext (L := L) (own := own) (T := T) j (i + 1) (gS L p i) (fun t ht ht2 => h t (by omega) (by omega))
    simp only [okS, lsS, nkS, h i (Nat.le_refl _) (by omega), e1.1, e1.2.1, e1.2.2, e2.1, e2.2.1, and_self]
/-- and one does so well -/
theorem FS_has {L own : Nat → Int} {T : Int} (hT : ∀ i, own i ≤ T) : ∀ j i p, FS L own T j i p < 1000 → ∃ kb : Nat → Bool, okS L own T kb j i p ∧ FS L own T j i p + nkS kb j i = j ∧ lsS L own kb j i p = BS L own T j i p
  | 0, i, p, _ => ⟨fun _ => true, by simp [okS], by simp [FS, nkS], by simp [lsS, BS]⟩
  | j + 1, i, p, h => by
    have ho := hT i
    have b1 := FS_bd L own T j (i + 1) (own i)
    have b2 := FS_bd L own T j (i + 1) (gS L p i)
    simp only [FS] at h
    by_cases k : gS L p i ≤ own i ∧ FS L own T j (i + 1) (own i) < 1 + FS L own T j (i + 1) (gS L p i)
    · rw [if_pos k.1, if_pos (show gS L p i ≤ T by omega)] at h
      obtain ⟨kb, h1, h2, h3⟩ := FS_has (L := L) hT j (i + 1) (own i) (by omega)
      refine ⟨fun t => if t = i then true else kb t, ?_⟩
      have e := okS_ext (L := L) (own := own) (T := T) (kb := fun t => if t = i then true else kb t) (kb' := kb) j (i + 1) (own i) (fun t ht _ => if_neg (by omega))
      simp only [okS, lsS, nkS, BS, FS, if_true, e.2.1, e.2.2]
      rw [if_pos k, h3, if_pos k.1, if_pos (show gS L p i ≤ T by omega)]
      exact ⟨⟨k.1, e.1.mpr h1⟩, by omega, rfl⟩
    · have hgT : gS L p i ≤ T := by
        apply Classical.byContradiction
        intro z
        rw [if_neg z, if_neg (show ¬ gS L p i ≤ own i by omega)] at h
        omega
      have hf : FS L own T j (i + 1) (gS L p i) < 1000 := by
        rw [if_pos hgT] at h
        by_cases z : gS L p i ≤ own i
        · rw [if_pos z] at h; omega
        · rw [if_neg z] at h; omega
      obtain ⟨kb, h1, h2, h3⟩ := FS_has (L := L) hT j (i + 1) (gS L p i) hf
      obtain ⟨kb2, k2, k3⟩ : ∃ kb2 : Nat → Bool, kb2 i = false ∧ ∀ t, i + 1 ≤ t → kb2 t = kb t := ⟨fun t => if t = i then false else kb t, if_pos rfl, fun t ht => if_neg (by omega)⟩
      refine ⟨kb2, ?_⟩
      have e := okS_ext (L := L) (own := own) (T := T) (kb := kb2) (kb' := kb) j (i + 1) (gS L p i) (fun t ht _ => k3 t ht)
      simp only [okS, lsS, nkS, BS, FS, k2, e.2.1, e.2.2]
      rw [if_neg k, h3, if_pos hgT]
      refine ⟨by simpa using ⟨hgT, e.1.mpr h1⟩, ?_, by simp⟩
      by_cases z : gS L p i ≤ own i
      · rw [if_pos z]; simp; omega
      · rw [if_neg z]; simp; omega
/-! the class's way -/
def scanS (L own : Nat → Int) (T : Int) (sz : Nat) (FB : Nat → Int) : Nat → Nat → Int → Int → Int → Int → Int × Int
  | 0, _, _, ch, f, nx => if ch ≤ f then (ch, (sz : Int)) else (f, nx)
  | j + 1, n, p, ch, f, nx => if T < gS L p n then (f, nx) else
      if gS L p n ≤ own n ∧ ch + FB (n + 1) ≤ f then scanS L own T sz FB j (n + 1) (gS L p n) (ch + if own n = gS L p n then 0 else 1) (ch + FB (n + 1)) (n : Int)
      else scanS L own T sz FB j (n + 1) (gS L p n) (ch + if own n = gS L p n then 0 else 1) f nx
def pathS (L own : Nat → Int) (T : Int) : Nat → Nat → Int → Nat → Prop
  | 0, n, _, N => N = n
  | j + 1, n, p, N => (N = n ∧ gS L p n ≤ own n ∧ FS L own T j (n + 1) (own n) < 1000 ∧ BS L own T (j + 1) n p = own n :: BS L own T j (n + 1) (own n)) ∨ (n < N ∧ BS L own T (j + 1) n p = gS L p n :: BS L own T j (n + 1) (gS L p n) ∧ gS L p n ≤ T ∧ pathS L own T j (n + 1) (gS L p n) N)
theorem scanS_spec {L own : Nat → Int} {T : Int} {sz : Nat} {FB : Nat → Int} (hT : ∀ i, own i ≤ T) (hL : ∀ i, 0 ≤ L i) :
    ∀ j n p ch f nx, n + j = sz → 0 ≤ ch → f ≤ 1000 → (∀ t, n ≤ t → t < sz → 0 ≤ own t → FB (t + 1) = FS L own T (sz - (t + 1)) (t + 1) (own t)) →
    (scanS L own T sz FB j n p ch f nx).1 = min f (ch + FS L own T j n p) ∧ ((scanS L own T sz FB j n p ch f nx).1 < 1000 → ((scanS L own T sz FB j n p ch f nx).2 = nx ∧ f < ch + FS L own T j n p) ∨ ∃ N : Nat, (scanS L own T sz FB j n p ch f nx).2 = (N : Int) ∧ n ≤ N ∧ N ≤ sz ∧ ch + FS L own T j n p ≤ f ∧ pathS L own T j n p N) := by
  intro j
  induction j with
  | zero =>
    intro n p ch f nx hj _ _ _
    simp only [scanS, FS, pathS]
    by_cases c : ch ≤ f
    · rw [if_pos c]; exact ⟨by simp only; omega, fun _ => Or.inr ⟨sz, rfl, by omega, by omega, by omega, by omega⟩⟩
    · rw [if_neg c]; exact ⟨by simp only; omega, fun _ => Or.inl ⟨rfl, by omega⟩⟩
  | succ j ih =>
    intro n p ch f nx hj hc hf hF
    have ho := hT n
    have b1 := FS_bd L own T j (n + 1) (own n)
    have b2 := FS_bd L own T j (n + 1) (gS L p n)
    have hg : 0 ≤ gS L p n := by have := hL n; unfold gS; omega
    simp only [scanS, FS]
    by_cases t : T < gS L p n
    · rw [if_pos t, if_neg (show ¬ gS L p n ≤ own n by omega), if_neg (show ¬ gS L p n ≤ T by omega)]
      exact ⟨by simp only; omega, fun z => Or.inl ⟨rfl, by simp only at z; omega⟩⟩
    · rw [if_neg t, if_pos (show gS L p n ≤ T by omega)]
      have hF' : ∀ t, n + 1 ≤ t → t < sz → 0 ≤ own t → FB (t + 1) = FS L own T (sz - (t + 1)) (t + 1) (own t) := fun t h1 h2 h3 => hF t (by omega) h2 h3
      have ej : sz - (n + 1) = j := by omega
      by_cases c : gS L p n ≤ own n ∧ ch + FB (n + 1) ≤ f
      · have eF := hF n (Nat.le_refl _) (by omega) (by omega)
        rw [ej] at eF
        rw [if_pos c, if_pos c.1]
        by_cases e : own n = gS L p n
        · rw [if_pos e]
          obtain ⟨i1, i2⟩ := ih (n + 1) (gS L p n) (ch + 0) (ch + FB (n + 1)) (n : Int) (by omega) (by omega) (by omega) hF'
          rw [eF, e] at i1
          rw [e]
          refine ⟨by clear i2; rw [← e] at i1 ⊢; rw [eF, i1]; omega, fun z => ?_⟩
          replace i2 := i2 z
          rcases i2 with ⟨q1, q2⟩ | ⟨N, q1, q2, q3, q4, q5⟩
          · rw [eF, e] at q2; omega
          · refine Or.inr ⟨N, q1, by omega, q3, by omega, ?_⟩
            simp only [pathS]
            refine Or.inr ⟨by omega, ?_, by omega, q5⟩
            simp only [BS]; rw [e]; simp
        · rw [if_neg e]
          obtain ⟨i1, i2⟩ := ih (n + 1) (gS L p n) (ch + 1) (ch + FB (n + 1)) (n : Int) (by omega) (by omega) (by omega) hF'
          rw [eF] at i1 i2 c ⊢
          refine ⟨by clear i2; omega, fun z => ?_⟩
          replace i2 := i2 z
          rcases i2 with ⟨q1, q2⟩ | ⟨N, q1, q2, q3, q4, q5⟩
          · refine Or.inr ⟨n, q1, by omega, by omega, by omega, ?_⟩
            simp only [pathS, BS]
            refine Or.inl ⟨trivial, c.1, ?_, ?_⟩
            · rw [i1] at z; omega
            · rw [if_pos ⟨c.1, by omega⟩]
          · refine Or.inr ⟨N, q1, by omega, q3, by omega, ?_⟩
            simp only [pathS, BS]
            refine Or.inr ⟨by omega, ?_, by omega, q5⟩
            rw [if_neg (by omega)]
      · rw [if_neg c]
        by_cases k : gS L p n ≤ own n
        · have eF := hF n (Nat.le_refl _) (by omega) (by omega)
          rw [ej] at eF
          rw [if_pos k]
          have c' : f < ch + FS L own T j (n + 1) (own n) := by rw [← eF]; omega
          by_cases e : own n = gS L p n
          · rw [if_pos e]
            obtain ⟨i1, i2⟩ := ih (n + 1) (gS L p n) (ch + 0) f nx (by omega) (by omega) (by omega) hF'
            rw [e] at c' ⊢
            refine ⟨by clear i2; omega, fun z => ?_⟩
            replace i2 := i2 z
            rcases i2 with ⟨q1, q2⟩ | ⟨N, q1, q2, q3, q4, q5⟩
            · exact Or.inl ⟨q1, by omega⟩
            · omega
          · rw [if_neg e]
            obtain ⟨i1, i2⟩ := ih (n + 1) (gS L p n) (ch + 1) f nx (by omega) (by omega) (by omega) hF'
            refine ⟨by clear i2; omega, fun z => ?_⟩
            replace i2 := i2 z
            rcases i2 with ⟨q1, q2⟩ | ⟨N, q1, q2, q3, q4, q5⟩
            · exact Or.inl ⟨q1, by omega⟩
            · refine Or.inr ⟨N, q1, by omega, q3, by omega, ?_⟩
              simp only [pathS, BS]
              refine Or.inr ⟨by omega, ?_, by omega, q5⟩
              rw [if_neg (by omega)]
        · rw [if_neg k, if_neg (show ¬ own n = gS L p n by omega)]
          obtain ⟨i1, i2⟩ := ih (n + 1) (gS L p n) (ch + 1) f nx (by omega) (by omega) (by omega) hF'
          refine ⟨by clear i2; omega, fun z => ?_⟩
          replace i2 := i2 z
          rcases i2 with ⟨q1, q2⟩ | ⟨N, q1, q2, q3, q4, q5⟩
          · exact Or.inl ⟨q1, by omega⟩
          · refine Or.inr ⟨N, q1, by omega, q3, by omega, ?_⟩
            simp only [pathS, BS]
            refine Or.inr ⟨by omega, ?_, by omega, q5⟩
            rw [if_neg (fun z => k z.1)]

/-! the reference's way: all kept sets -/
def bnN (kb : Nat → Bool) : Nat → Nat
  | 0 => 0
  | n + 1 => bnN kb n + if kb n then 2 ^ n else 0
theorem bnN_lt (kb : Nat → Bool) : ∀ n, bnN kb n < 2 ^ n
  | 0 => by simp [bnN]
  | n + 1 => by have := bnN_lt kb n; simp only [bnN]; rw [Nat.pow_succ]; split <;> omega
theorem bnN_bit (kb : Nat → Bool) : ∀ n t, t < n → (bnN kb n).testBit t = kb t
  | 0, t, h => by omega
  | n + 1, t, h => by
    have hl := bnN_lt kb n
    simp only [bnN]
    by_cases c : kb n = true
    · rw [if_pos c, Nat.add_comm]
      rcases Nat.lt_or_ge t n with z | z
      · rw [Nat.testBit_two_pow_add_gt z, bnN_bit kb n t z]
      · rw [show t = n by omega, Nat.testBit_two_pow_add_eq, Nat.testBit_lt_two_pow hl, c]; rfl
    · rw [if_neg c, Nat.add_zero]
      rcases Nat.lt_or_ge t n with z | z
      · exact bnN_bit kb n t z
      · rw [show t = n by omega, Nat.testBit_lt_two_pow hl]; simpa using c
def stB (L own : Nat → Int) (T : Int) (n lo : Nat) (most : Int) (best : List Int) : Prop :=
  (most = -1 ∧ ∀ kp, lo ≤ kp → kp < 2 ^ n → ¬ okS L own T kp.testBit n 0 (-1)) ∨
  (∃ k0 : Nat, k0 < 2 ^ n ∧ okS L own T k0.testBit n 0 (-1) ∧ most = nkS k0.testBit n 0 ∧ best = lsS L own k0.testBit n 0 (-1) ∧ ∀ kp, lo ≤ kp → kp < 2 ^ n → okS L own T kp.testBit n 0 (-1) → nkS kp.testBit n 0 ≤ most ∧ (nkS kp.testBit n 0 = most → ltL (lsS L own kp.testBit n 0 (-1)) best = false))
theorem stB_start (L own : Nat → Int) (T : Int) (n : Nat) (best : List Int) : stB L own T n (2 ^ n) (-1) best := Or.inl ⟨rfl, fun kp h1 h2 => by omega⟩
theorem stB_skip {L own : Nat → Int} {T : Int} {n k : Nat} {most : Int} {best : List Int} (h : stB L own T n (k + 1) most best) (hs : nkS k.testBit n 0 < most ∨ ¬ okS L own T k.testBit n 0 (-1) ∨ (nkS k.testBit n 0 = most ∧ ltL (lsS L own k.testBit n 0 (-1)) best = false)) : stB L own T n k most best := by
  have b := nkS_bd k.testBit n 0
  rcases h with ⟨e, h⟩ | ⟨k0, h1, h2, h3, h4, h5⟩
  · refine Or.inl ⟨e, fun kp g1 g2 => ?_⟩
    rcases Nat.eq_or_lt_of_le g1 with z | z
    · subst z
      rcases hs with hs | hs | ⟨hs, _⟩
      · omega
      · exact hs
      · omega
    · exact h kp z g2
  · refine Or.inr ⟨k0, h1, h2, h3, h4, fun kp g1 g2 g3 => ?_⟩
    rcases Nat.eq_or_lt_of_le g1 with z | z
    · subst z
      rcases hs with hs | hs | ⟨hs, hl⟩
      · exact ⟨by omega, fun z => by omega⟩
      · exact absurd g3 hs
      · exact ⟨by omega, fun _ => hl⟩
    · exact h5 kp z g2 g3
theorem stB_take {L own : Nat → Int} {T : Int} {n k : Nat} {most : Int} {best : List Int} (h : stB L own T n (k + 1) most best) (hk : k < 2 ^ n) (h1 : ¬ nkS k.testBit n 0 < most) (h2 : okS L own T k.testBit n 0 (-1)) (h3 : nkS k.testBit n 0 = most → ltL (lsS L own k.testBit n 0 (-1)) best = true) : stB L own T n k (nkS k.testBit n 0) (lsS L own k.testBit n 0 (-1)) := by
  refine Or.inr ⟨k, hk, h2, rfl, rfl, fun kp g1 g2 g3 => ?_⟩
  rcases Nat.eq_or_lt_of_le g1 with z | z
  · subst z; exact ⟨by omega, fun _ => ltL_self _⟩
  · rcases h with ⟨e, h⟩ | ⟨k0, _, _, _, q4, q5⟩
    · exact absurd g3 (h kp z g2)
    · obtain ⟨r1, r2⟩ := q5 kp z g2 g3
      refine ⟨by omega, fun e => ?_⟩
      have e2 : nkS k.testBit n 0 = most := by omega
      refine ltL_trans (y := best) ?_ ?_ (ltL_tot (h3 e2)) (r2 (by omega))
      · rw [q4, lsS_len, lsS_len]
      · rw [q4, lsS_len, lsS_len]
theorem stB_end {L own : Nat → Int} {T : Int} {n : Nat} {most : Int} {best : List Int} (hT : ∀ i, own i ≤ T) (hn : n ≤ 12) (h : stB L own T n 0 most best) : (FS L own T n 0 (-1) = 1000 ∧ most = -1) ∨ (FS L own T n 0 (-1) ≤ n ∧ most = n - FS L own T n 0 (-1) ∧ best = BS L own T n 0 (-1)) := by
  have b := FS_bd L own T n 0 (-1)
  have key : FS L own T n 0 (-1) < 1000 → ∃ kp : Nat, kp < 2 ^ n ∧ okS L own T kp.testBit n 0 (-1) ∧ FS L own T n 0 (-1) + nkS kp.testBit n 0 = n ∧ lsS L own kp.testBit n 0 (-1) = BS L own T n 0 (-1) := by
    intro hf
    obtain ⟨kb, h1, h2, h3⟩ := FS_has (L := L) hT n 0 (-1) hf
    have e := okS_ext (L := L) (own := own) (T := T) (kb := (bnN kb n).testBit) (kb' := kb) n 0 (-1) (fun t _ ht => bnN_bit kb n t (by omega))
    exact ⟨bnN kb n, bnN_lt kb n, e.1.mpr h1, by rw [e.2.2]; exact h2, by rw [e.2.1]; exact h3⟩
  rcases h with ⟨e, h⟩ | ⟨k0, h1, h2, h3, h4, h5⟩
  · left
    refine ⟨?_, e⟩
    apply Classical.byContradiction
    intro z
    obtain ⟨kp, g1, g2, _, _⟩ := key (by omega)
    exact h kp (by omega) g1 g2
  · right
    obtain ⟨q1, q2⟩ := FS_low (L := L) hT k0.testBit n 0 (-1) h2
    have bk := nkS_bd k0.testBit n 0
    obtain ⟨kp, g1, g2, g3, g4⟩ := key (by omega)
    obtain ⟨r1, r2⟩ := h5 kp (by omega) g1 g2
    have e : most = n - FS L own T n 0 (-1) := by omega
    refine ⟨by omega, e, ?_⟩
    have r3 := r2 (by omega)
    rw [g4] at r3
    have q3 := q2 (by omega)
    rw [← h4] at q3
    refine ltL_anti ?_ q3 r3
    rw [h4, lsS_len, BS_len]
