/-! ===== a Town of the class as 1010 numbers ===== -/
def wordW (w : Nat → Int) (o : Nat) : Nat := pkL ((List.range (nW w o)).map (fW w o))
theorem wordW_mem {w : Nat → Int} {o : Nat} (hn : okName w o) : ∀ c ∈ (List.range (nW w o)).map (fW w o), c < 32 := by
  intro c hc
  obtain ⟨i, hi, rfl⟩ := List.mem_map.mp hc
  have := (hn.f (List.mem_range.mp hi)).2
  omega
theorem wl_wordW {w : Nat → Int} {o : Nat} (hn : okName w o) (i : Nat) : wl (wordW w o) i = if i < nW w o then fW w o i else 0 := by
  unfold wordW
  rw [wl_pkL _ (wordW_mem hn)]
  by_cases h : i < nW w o
  · rw [if_pos h]; simp [List.getD, h]
  · rw [if_neg h]; simp [List.getD, h]
theorem wordW_lt {w : Nat → Int} {o : Nat} (hn : okName w o) : wordW w o < 32 ^ 10 := by
  have := pkL_lt _ (wordW_mem hn)
  simp only [List.length_map, List.length_range] at this
  exact Nat.lt_of_lt_of_le this (Nat.pow_le_pow_right (by decide) hn.spec.2.1)
theorem wordW_isL {w : Nat → Int} {o : Nat} (hn : okName w o) : isL (wordW w o) (nW w o) := by
  refine ⟨hn.spec.2.1, fun i hi => ?_, fun i hi => ?_⟩
  · rw [wl_wordW hn, if_pos hi]; have := (hn.f hi).2; omega
  · rw [wl_wordW hn, if_neg (by omega)]
theorem wordW_26 {w : Nat → Int} {o : Nat} (hn : okName w o) : ∀ i, i < nW w o → wl (wordW w o) i ≤ 26 := fun i hi => by
  rw [wl_wordW hn, if_pos hi]; exact (hn.f hi).2.2
theorem lv_wordW {w : Nat → Int} {o1 o2 : Nat} (h1 : okName w o1) (h2 : okName w o2) : lv (wl (wordW w o1)) (wl (wordW w o2)) (nW w o1) (nW w o2) = chW w o1 o2 := lv_ext _ _ (fun i hi => by rw [wl_wordW h1, if_pos hi]) (fun i hi => by rw [wl_wordW h2, if_pos hi])
theorem kp_ext {pr : Nat → Nat → Nat} {f g : Nat → Nat} {n : Nat} (h : ∀ i, i < n → f i = g i) : ∀ j i, kp pr f n j i = kp pr g n j i := by
  intro j
  induction j with
  | zero => intro i; rfl
  | succ j ih =>
    intro i
    simp only [kp, ih]
    by_cases h1 : i < n
    · rw [if_pos h1, if_pos h1, h i h1]
      by_cases h2 : i + 1 < n
      · rw [h (i + 1) h2]
      · rw [if_neg (fun z => h2 z.1), if_neg (fun z => h2 z.1)]
    · rw [if_neg h1, if_neg h1]
theorem keyW_wordW {w : Nat → Int} {o : Nat} (hn : okName w o) : keyL (prW w) (muW w) (hdW w) (wl (wordW w o)) (nW w o) = keyW w o := by
  unfold keyW keyL
  rw [kp_ext (fun i hi => by rw [wl_wordW hn, if_pos hi])]
theorem pkL_inj : ∀ {K1 K2 : List Nat}, (∀ c ∈ K1, 1 ≤ c ∧ c ≤ 26) → (∀ c ∈ K2, 1 ≤ c ∧ c ≤ 26) → pkL K1 = pkL K2 → K1 = K2
  | [], [], _, _, _ => rfl
  | [], c :: cs, _, h2, h => by have := h2 c List.mem_cons_self; simp only [pkL] at h; omega
  | c :: cs, [], h1, _, h => by have := h1 c List.mem_cons_self; simp only [pkL] at h; omega
  | c :: cs, e :: es, h1, h2, h => by
    have a1 := h1 c List.mem_cons_self
    have a2 := h2 e List.mem_cons_self
    simp only [pkL] at h
    have e1 : c = e := by omega
    have e2 : pkL cs = pkL es := by omega
    rw [e1, pkL_inj (fun x hx => h1 x (List.mem_cons_of_mem _ hx)) (fun x hx => h2 x (List.mem_cons_of_mem _ hx)) e2]
theorem wordW_inj {w v : Nat → Int} {o1 o2 : Nat} (h1 : okName w o1) (h2 : okName v o2) : wordW w o1 = wordW v o2 ↔ ∀ i, i < 10 → w (o1 + i) = v (o2 + i) := by
  have s1 := h1.spec
  have s2 := h2.spec
  constructor
  · intro e i hi
    have e1 := wl_wordW h1 i
    have e2 := wl_wordW h2 i
    rw [e] at e1
    by_cases c1 : i < nW w o1
    · have f1 := h1.f c1
      rw [if_pos c1] at e1
      by_cases c2 : i < nW v o2
      · have f2 := h2.f c2
        rw [if_pos c2] at e2
        omega
      · rw [if_neg c2] at e2; omega
    · rw [if_neg c1] at e1
      by_cases c2 : i < nW v o2
      · have f2 := h2.f c2
        rw [if_pos c2] at e2
        omega
      · rw [s1.2.2.2 i (by omega) hi, s2.2.2.2 i (by omega) hi]
  · intro e
    apply wl_ext 10 _ _ (wordW_lt h1) (wordW_lt h2)
    intro i hi
    rw [wl_wordW h1, wl_wordW h2]
    have e1 := e i hi
    by_cases c1 : i < nW w o1
    · have f1 := h1.f c1
      by_cases c2 : i < nW v o2
      · have f2 := h2.f c2
        rw [if_pos c1, if_pos c2]; omega
      · have := s2.2.2.2 i (by omega) hi
        have := s1.2.2.1 i c1
        omega
    · have z1 := s1.2.2.2 i (by omega) hi
      by_cases c2 : i < nW v o2
      · have := s2.2.2.1 i c2; omega
      · rw [if_neg c1, if_neg c2]
/-- names of a kind: their words; with their sounds -/
def NW (h : Hp) (r : Nat) (w : Nat → Int) (n : Int) (o : Nat) : Prop := hpC h r 2 = n ∧ ∀ k : Nat, (k : Int) < n → hpC h (r + 1) k = (wordW w (o + 10 * k) : Int)
def NS (h : Hp) (r : Nat) (w : Nat → Int) (n : Int) (o : Nat) : Prop := ∀ k : Nat, (k : Int) < n → hpC h (r + 2) k = (pkL (keyW w (o + 10 * k)) : Int)
def RW (h : Hp) (r : Nat) (w : Nat → Int) : Prop := hpC h r 0 = w 0 ∧ hpC h r 1 = w 1 ∧ hpC h r 2 = w 2 ∧ hpC h r 3 = 2 * w 3 ∧ hpC h r 4 = w 4 ∧ hpC h r 5 = w 5 ∧ (∀ k : Nat, (k : Int) < w 5 → hpC h (r + 3) k = w (36 + 3 * k) ∧ hpC h (r + 4) k = w (36 + 3 * k + 1) ∧ hpC h (r + 5) k = w (36 + 3 * k + 2)) ∧ (∀ a : Nat, 1 ≤ a → a ≤ 26 → cHead h r (a : Int) (w 4).toNat 0 = w (10 + a - 1))
def HW (h : Hp) (r : Nat) (w : Nat → Int) : Prop := ∀ s, s < 10 → hpC h (r + 1) s = w (280 + s) ∧ ∀ i : Nat, (i : Int) < w (280 + s) → hpC h (r + 2) (12 * s + i) = w (290 + 36 * s + 3 * i) ∧ hpC h (r + 3) (12 * s + i) = w (290 + 36 * s + 3 * i + 1) ∧ hpC h (r + 4) (12 * s + i) = w (290 + 36 * s + 3 * i + 2)
/-- what is told, without sounds and last years -/
def TR0 (h : Hp) (t : Nat) (w : Nat → Int) : Prop := townAt h t ∧ RW h (t + 1) w ∧ NW h (t + 7) w (w 7) 180 ∧ NW h (t + 10) w (w 6) 60 ∧ NW h (t + 13) w (w 8) 650 ∧ (∀ k : Nat, (k : Int) < w 8 → hpC h (t + 16) k = w (950 + k)) ∧ HW h (t + 18) w ∧ hpC h t 7 = w 9
def TR (h : Hp) (t : Nat) (w : Nat → Int) : Prop := TR0 h t w ∧ NS h (t + 7) w (w 7) 180 ∧ NS h (t + 10) w (w 6) 60 ∧ NS h (t + 13) w (w 8) 650 ∧ ∀ k : Nat, (k : Int) < w 8 → hpC h (t + 17) k = w (980 + k)
theorem prW_zero {w : Nat → Int} (hV : V w) (x : Nat) : prW w x 0 = 0 := by
  have h5 := hV.1.2.2.2.2.2.1
  have key : ∀ j k : Nat, ((k + j : Nat) : Int) = w 5 → pW w x 0 j k = 0 := by
    intro j
    induction j with
    | zero => intro k _; rfl
    | succ j ih =>
      intro k hk
      simp only [pW]
      rw [if_neg (fun z => by have := hV.2.2.1 k (by omega) 1 (by omega); omega)]
      exact ih (k + 1) (by omega)
  exact key _ 0 (by omega)
theorem RW.are {h : Hp} {r : Nat} {w : Nat → Int} (a : RW h r w) (hV : V w) : rulesAre h r (prW w) (muW w) (hdW w) := by
  obtain ⟨a0, a1, a2, a3, a4, a5, a6, a7⟩ := a
  have v3 := hV.1.2.2.2.1
  have v4 := hV.1.2.2.2.2.1
  have v5 := hV.1.2.2.2.2.2.1
  refine ⟨(w 5).toNat, (w 4).toNat, by omega, by omega, by omega, by omega, fun x y _ _ _ => ?_, fun x h1 h2 => ?_, fun x h1 h2 => ?_, fun x y => pW_le hV x y _ 0 (by omega), prW_zero hV, fun x h1 h2 => ?_⟩
  · have key : ∀ j k : Nat, ((k + j : Nat) : Int) = w 5 → cPair h r (x : Int) (y : Int) j k = (pW w x y j k : Int) := by
      intro j
      induction j with
      | zero => intro k _; rfl
      | succ j ih =>
        intro k hk
        obtain ⟨q1, q2, q3⟩ := a6 k (by omega)
        simp only [cPair, pW, q1, q2, q3]
        split
        · have := hV.2.2.1 k (by omega) 2 (by omega); omega
        · exact ih (k + 1) (by omega)
    exact key _ 0 (by omega)
  · rw [a7 x h1 h2]
    have := hV.2.1 (x - 1) (by omega)
    unfold hdW
    rw [show 10 + x - 1 = 10 + (x - 1) by omega]; omega
  · rw [a3]
    unfold muW
    simp only [decide_eq_true_eq]
    obtain ⟨q, hq⟩ : ∃ q : Nat, w 3 = (q : Int) := ⟨(w 3).toNat, by omega⟩
    rw [hq, show (2 : Int) * (q : Int) = ((2 * q : Nat) : Int) by simp]
    rw [ai_bit (by omega) (by omega), ai_bit (by omega) (by omega)]
    obtain ⟨y, rfl⟩ : ∃ y, x = y + 1 := ⟨x - 1, by omega⟩
    have e : (2 * q).testBit (y + 1) = q.testBit y := by rw [Nat.testBit_succ]; congr 1; omega
    rw [e, Nat.add_sub_cancel]
  · have := hV.2.1 (x - 1) (by omega)
    unfold hdW
    rw [show 10 + x - 1 = 10 + (x - 1) by omega]; omega
/-- the class's likeness of two names, and the reference's -/
theorem sp_areAlike {h : Hp} {t r1 r2 l1 l2 o1 o2 k1 k2 : Nat} {w : Nat → Int} {n1 n2 : Int} (hT : townAt h t) (hnear : hpC h (t + 1) 0 = w 0) (hV : V w) (a1 : namesAt h r1 l1) (a2 : namesAt h r2 l2) (b1 : NW h r1 w n1 o1) (b2 : NW h r2 w n2 o2) (c1 : NS h r1 w n1 o1) (c2 : NS h r2 w n2 o2) (hk1 : (k1 : Int) < n1) (hk2 : (k2 : Int) < n2) (hl1 : n1 ≤ (l1 : Int)) (hl2 : n2 ≤ (l2 : Int)) (hn1 : okName w (o1 + 10 * k1)) (hn2 : okName w (o2 + 10 * k2)) {d mc ms : Nat} (hd : 4 ≤ d) {R : PR}
    (H : R (some (xI (if 0 < alW w (o1 + 10 * k1) (o2 + 10 * k2) then 1 else 0))) h) :
    Wp m_Town_areAlike 0 [some (xR t), some (xR r1), some (xI (k1 : Int)), some (xR r2), some (xI (k2 : Int))] [] h d mc ms R := by
  have v0 := hV.1.1
  have hR := hT.rules_a
  apply f_Town_areAlike_0
  simp only [a1.tag, a2.tag, a1.word_n, a1.sound_n, a1.word_t, a1.sound_t, a2.word_n, a2.sound_n, a2.word_t, a2.sound_t, hT.tag, hT.rules_n, hR.tag, hnear, Int.toNat_natCast, b1.2 k1 hk1, b2.2 k2 hk2, c1 k1 hk1, c2 k2 hk2, true_and]
  refine ⟨⟨by omega, by omega⟩, ⟨by omega, by omega⟩, ?_⟩
  have m1 := keyW_mem hV hn1
  have m2 := keyW_mem hV hn2
  unfold alW at H
  by_cases c : keyW w (o1 + 10 * k1) = keyW w (o2 + 10 * k2)
  · rw [if_pos (al_cmp_eq.mpr (by rw [c]))]
    rw [if_pos c, if_pos (by split <;> omega)] at H
    exact ⟨by simp, H⟩
  · rw [if_neg (fun z => c (pkL_inj m1 m2 (by have := al_cmp_eq.mp z; omega)))]
    refine ⟨⟨by omega, by omega⟩, ⟨by omega, by omega⟩, by omega, ?_⟩
    obtain ⟨q, hq⟩ : ∃ q : Nat, w 0 = (q : Int) := ⟨(w 0).toNat, by omega⟩
    rw [hq]
    refine sp_isWithin q (by omega) (wordW_lt hn1) (wordW_lt hn2) (wordW_isL hn1) (wordW_isL hn2) (by omega) (fun v e => ?_)
    cases e
    rw [lv_wordW hn1 hn2]
    rw [if_neg c, hq] at H
    by_cases cc : chW w (o1 + 10 * k1) (o2 + 10 * k2) ≤ q
    · rw [if_pos cc, if_neg (by decide)]
      rw [if_pos (by omega)] at H
      exact ⟨by simp, H⟩
    · rw [if_neg cc, if_pos rfl]
      rw [if_neg (show ¬ ((chW w (o1 + 10 * k1) (o2 + 10 * k2) : Nat) : Int) ≤ (q : Int) by omega), if_neg (by omega)] at H
      exact ⟨by simp, H⟩
