/-! ===== CHANGES: the table of two words, from its end and from its beginning ===== -/
def lvN (prev : Nat → Nat) (x : Nat) (b : Nat → Nat) (i : Nat) : Nat → Nat
  | 0 => i + 1
  | j + 1 => min (prev j + if x = b j then 0 else 1) (min (prev (j + 1)) (lvN prev x b i j) + 1)
def lv (a b : Nat → Nat) : Nat → Nat → Nat
  | 0 => fun j => j
  | i + 1 => lvN (lv a b i) (a i) b i
theorem lv_0 (a b : Nat → Nat) (j : Nat) : lv a b 0 j = j := rfl
theorem lv_s0 (a b : Nat → Nat) : ∀ i, lv a b i 0 = i
  | 0 => rfl
  | _ + 1 => rfl
theorem lv_ss (a b : Nat → Nat) (i j : Nat) : lv a b (i + 1) (j + 1) = min (lv a b i j + if a i = b j then 0 else 1) (min (lv a b i (j + 1)) (lv a b (i + 1) j) + 1) := rfl
def sh (a : Nat → Nat) : Nat → Nat := fun i => a (i + 1)
theorem le_ma (t u v c : Nat) : t ≤ min u v + c ↔ t ≤ u + c ∧ t ≤ v + c := by omega
theorem le_ma2 (t u v c c' : Nat) : t ≤ min u v + c + c' ↔ t ≤ u + c + c' ∧ t ≤ v + c + c' := by omega
theorem eq_of_le {a b : Nat} (h : ∀ t, t ≤ a ↔ t ≤ b) : a = b := Nat.le_antisymm ((h a).mp (Nat.le_refl _)) ((h b).mpr (Nat.le_refl _))
theorem nine (p1 p2 p3 q1 q2 q3 r1 r2 r3 x y : Nat) : min (min (p1 + y) (min q1 r1 + 1) + x) (min (min (p2 + y) (min q2 r2 + 1)) (min (p3 + y) (min q3 r3 + 1)) + 1) = min (min (p1 + x) (min p2 p3 + 1) + y) (min (min (q1 + x) (min q2 q3 + 1)) (min (r1 + x) (min r2 r3 + 1)) + 1) := by
  apply eq_of_le
  intro t
  simp only [Nat.le_min, le_ma, le_ma2]
  constructor <;> rintro ⟨⟨h1, h2, h3⟩, ⟨h4, h5, h6⟩, h7, h8, h9⟩ <;> refine ⟨⟨?_, ?_, ?_⟩, ⟨?_, ?_, ?_⟩, ?_, ?_, ?_⟩ <;> omega
theorem lv_front (a b : Nat → Nat) : ∀ m n, lv a b (m + 1) (n + 1) = min (lv (sh a) (sh b) m n + if a 0 = b 0 then 0 else 1) (min (lv (sh a) b m (n + 1)) (lv a (sh b) (m + 1) n) + 1) := by
  intro m
  induction m with
  | zero =>
    intro n
    induction n with
    | zero => simp only [lv_ss, lv_0, lv_s0]
    | succ n ih =>
      rw [lv_ss, ih]
      simp only [lv_0, lv_ss a (sh b) 0 n]
      show min (n + 1 + if a 0 = b (n + 1) then 0 else 1) _ = min _ (min _ (min (n + if a 0 = b (n + 1) then 0 else 1) _) + 1)
      generalize (if a 0 = b (n + 1) then 0 else 1) = x
      generalize (if a 0 = b 0 then 0 else 1) = y
      generalize lv a (sh b) (0 + 1) n = z
      omega
  | succ m ihm =>
    intro n
    induction n with
    | zero =>
      rw [lv_ss, ihm 0]
      simp only [lv_s0, lv_ss (sh a) b m 0]
      show min (m + 1 + if a (m + 1) = b 0 then 0 else 1) _ = min _ (min (min (m + if a (m + 1) = b 0 then 0 else 1) _) _ + 1)
      generalize (if a (m + 1) = b 0 then 0 else 1) = x
      generalize (if a 0 = b 0 then 0 else 1) = y
      generalize lv (sh a) b m (0 + 1) = z
      omega
    | succ n ihn =>
      rw [lv_ss, ihm n, ihm (n + 1), ihn, lv_ss (sh a) (sh b) m n, lv_ss (sh a) b m (n + 1), lv_ss a (sh b) (m + 1) n]
      exact nine _ _ _ _ _ _ _ _ _ _ _
theorem lv_sym (a b : Nat → Nat) : ∀ m n, lv a b m n = lv b a n m := by
  intro m
  induction m with
  | zero => intro n; rw [lv_0, lv_s0]
  | succ m ihm =>
    intro n
    induction n with
    | zero => rw [lv_0, lv_s0]
    | succ n ihn =>
      rw [lv_ss, lv_ss, ihm n, ihm (n + 1), ihn]
      have e : (if a m = b n then 0 else 1 : Nat) = (if b n = a m then 0 else 1) := by
        by_cases h : a m = b n
        · rw [if_pos h, if_pos h.symm]
        · rw [if_neg h, if_neg (fun z => h z.symm)]
      rw [e]
      omega
theorem lv_ge (a b : Nat → Nat) : ∀ m n, m ≤ lv a b m n + n := by
  intro m
  induction m with
  | zero => intro n; omega
  | succ m ihm =>
    intro n
    induction n with
    | zero => rw [lv_s0]; omega
    | succ n ihn =>
      rw [lv_ss]
      have h1 := ihm n
      have h2 := ihm (n + 1)
      omega
theorem lv_le_b (a b : Nat → Nat) : ∀ m n, lv a (sh b) m n ≤ lv a b m (n + 1) + 1 := by
  intro m
  induction m with
  | zero => intro n; rw [lv_0, lv_0]; omega
  | succ m ihm =>
    intro n
    induction n with
    | zero =>
      rw [lv_s0]
      have := lv_ge a b (m + 1) (0 + 1)
      omega
    | succ n ihn =>
      rw [lv_ss, lv_ss a b m (n + 1)]
      show min (_ + if a m = b (n + 1) then 0 else 1) _ ≤ _
      have h1 := ihm n
      have h2 := ihm (n + 1)
      omega
theorem lv_le_a (a b : Nat → Nat) (m n : Nat) : lv (sh a) b m n ≤ lv a b (m + 1) n + 1 := by
  rw [lv_sym, lv_sym a b]
  exact lv_le_b b a n m
theorem lv_skip {a b : Nat → Nat} (h : a 0 = b 0) (m n : Nat) : lv a b (m + 1) (n + 1) = lv (sh a) (sh b) m n := by
  rw [lv_front, if_pos h]
  have h1 := lv_le_b (sh a) b m n
  have h2 := lv_le_a a (sh b) m n
  omega
theorem lv_ext {a b a' b' : Nat → Nat} : ∀ m n, (∀ i, i < m → a i = a' i) → (∀ j, j < n → b j = b' j) → lv a b m n = lv a' b' m n := by
  intro m
  induction m with
  | zero => intro n _ _; rfl
  | succ m ihm =>
    intro n ha
    induction n with
    | zero => intro _; rw [lv_s0, lv_s0]
    | succ n ihn =>
      intro hb
      rw [lv_ss, lv_ss, ihm n (fun i hi => ha i (by omega)) (fun j hj => hb j (by omega)), ihm (n + 1) (fun i hi => ha i (by omega)) hb, ihn (fun j hj => hb j (by omega)), ha m (by omega), hb n (by omega)]
theorem lv_self (a : Nat → Nat) : ∀ n, lv a a n n = 0 := by
  intro n
  induction n with
  | zero => rfl
  | succ n ih => rw [lv_ss, ih]; simp
theorem lv_zero {a b : Nat → Nat} : ∀ m n, lv a b m n = 0 → m = n ∧ ∀ i, i < m → a i = b i := by
  intro m
  induction m with
  | zero => intro n h; rw [lv_0] at h; exact ⟨h.symm, by omega⟩
  | succ m ih =>
    intro n h
    rcases n with _ | n
    · rw [lv_s0] at h; omega
    · rw [lv_ss] at h
      by_cases e : a m = b n
      · rw [if_pos e] at h
        obtain ⟨h1, h2⟩ := ih n (by omega)
        subst h1
        refine ⟨rfl, fun i hi => ?_⟩
        rcases Nat.lt_or_ge i m with q | q
        · exact h2 i q
        · rw [show i = m by omega]; exact e
      · rw [if_neg e] at h; omega
/-! a word's letters, then nothing -/
def isL (w n : Nat) : Prop := n ≤ 10 ∧ (∀ i, i < n → wl w i ≠ 0) ∧ (∀ i, n ≤ i → wl w i = 0)
theorem isL.len {w n : Nat} (h : isL w n) : isLen w n := ⟨h.1, h.2.1, fun _ => h.2.2 n (Nat.le_refl _)⟩
theorem isL.tail {w n : Nat} (h : isL w n) : isL (w / 32) (n - 1) := by
  refine ⟨by have := h.1; omega, fun i hi => ?_, fun i hi => ?_⟩
  · rw [← wl_succ]; exact h.2.1 _ (by omega)
  · rw [← wl_succ]; exact h.2.2 _ (by omega)
theorem isL.zero {w : Nat} (hw : w < 32 ^ 10) (h : isL w 0) : w = 0 := wl_ext 10 w 0 hw (by decide) (fun i _ => by rw [h.2.2 i (by omega)]; unfold wl; simp)
theorem sh_wl (w : Nat) : sh (wl w) = wl (w / 32) := by funext i; exact wl_succ w i
theorem lv_word {w v m n : Nat} (hw : w < 32 ^ 10) (hv : v < 32 ^ 10) (h1 : isL w m) (h2 : isL v n) : lv (wl w) (wl v) m n = 0 ↔ w = v := by
  constructor
  · intro h
    obtain ⟨rfl, e⟩ := lv_zero m n h
    refine wl_ext 10 w v hw hv (fun i _ => ?_)
    rcases Nat.lt_or_ge i m with q | q
    · exact e i q
    · rw [h1.2.2 i q, h2.2.2 i q]
  · rintro rfl
    have : m = n := by
      rcases Nat.lt_trichotomy m n with q | q | q
      · exact absurd (h1.2.2 m (Nat.le_refl _)) (h2.2.1 m q)
      · exact q
      · exact absurd (h2.2.2 n (Nat.le_refl _)) (h1.2.1 n q)
    subst this
    exact lv_self _ _
