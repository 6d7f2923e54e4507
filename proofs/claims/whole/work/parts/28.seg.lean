/-! ===== a town as 1010 numbers: the reference's row ===== -/
def nlF (f : Nat → Int) : Nat → Nat → Nat
  | 0, i => i
  | k + 1, i => if f i = 0 then i else nlF f k (i + 1)
/-- a name's letters, its length -/
def fW (w : Nat → Int) (o : Nat) : Nat → Nat := fun i => (w (o + i)).toNat
def nW (w : Nat → Int) (o : Nat) : Nat := nlF (fun i => w (o + i)) 10 0
def okName (w : Nat → Int) (o : Nat) : Prop := ∃ n, 1 ≤ n ∧ n ≤ 10 ∧ (∀ i, i < n → 1 ≤ w (o + i) ∧ w (o + i) ≤ 26) ∧ ∀ i, n ≤ i → i < 10 → w (o + i) = 0
theorem nlF_eq {f : Nat → Int} {n : Nat} (h1 : ∀ i, i < n → f i ≠ 0) (h2 : n < 10 → f n = 0) : ∀ k i, i ≤ n → n ≤ i + k → i + k = 10 → nlF f k i = n := by
  intro k
  induction k with
  | zero => intro i hi hn hk; simp only [nlF]; omega
  | succ k ih =>
    intro i hi hn hk
    simp only [nlF]
    by_cases e : i = n
    · subst e; rw [if_pos (h2 (by omega))]
    · rw [if_neg (h1 i (by omega))]
      exact ih (i + 1) (by omega) (by omega) (by omega)
theorem okName.spec {w : Nat → Int} {o : Nat} (h : okName w o) : 1 ≤ nW w o ∧ nW w o ≤ 10 ∧ (∀ i, i < nW w o → 1 ≤ w (o + i) ∧ w (o + i) ≤ 26) ∧ ∀ i, nW w o ≤ i → i < 10 → w (o + i) = 0 := by
  obtain ⟨n, h1, h2, h3, h4⟩ := h
  have e : nW w o = n := nlF_eq (f := fun i => w (o + i)) (n := n) (fun i hi => by have := h3 i hi; omega) (fun hn => h4 n (Nat.le_refl _) hn) 10 0 (by omega) (by omega) rfl
  rw [e]; exact ⟨h1, h2, h3, h4⟩
theorem okName.f {w : Nat → Int} {o : Nat} (h : okName w o) {i : Nat} (hi : i < nW w o) : w (o + i) = (fW w o i : Int) ∧ 1 ≤ fW w o i ∧ fW w o i ≤ 26 := by
  have := h.spec.2.2.1 i hi
  unfold fW; omega
def pW (w : Nat → Int) (a b : Nat) : Nat → Nat → Nat
  | 0, _ => 0
  | k + 1, p => if w (36 + 3 * p) = (a : Int) ∧ w (36 + 3 * p + 1) = (b : Int) then (w (36 + 3 * p + 2)).toNat else pW w a b k (p + 1)
def prW (w : Nat → Int) (a b : Nat) : Nat := pW w a b (w 5).toNat 0
def muW (w : Nat → Int) (a : Nat) : Bool := decide (ai_and (ai_shr (w 3) ((a - 1 : Nat) : Int)) 1 = 1)
def hdW (w : Nat → Int) (a : Nat) : Nat := (w (10 + a - 1)).toNat
def keyW (w : Nat → Int) (o : Nat) : List Nat := keyL (prW w) (muW w) (hdW w) (fW w o) (nW w o)
def chW (w : Nat → Int) (o1 o2 : Nat) : Nat := lv (fW w o1) (fW w o2) (nW w o1) (nW w o2)
def alW (w : Nat → Int) (o1 o2 : Nat) : Int := (if keyW w o1 = keyW w o2 then 1 else 0) + (if (chW w o1 o2 : Int) ≤ w 0 then 2 else 0)
/-- what a town's numbers are -/
def V (w : Nat → Int) : Prop := ((0 ≤ w 0 ∧ w 0 ≤ 3) ∧ (0 ≤ w 1 ∧ w 1 ≤ 99) ∧ (1 ≤ w 2 ∧ w 2 ≤ 99) ∧ (0 ≤ w 3 ∧ w 3 < 67108864) ∧ (0 ≤ w 4 ∧ w 4 ≤ 8) ∧ (0 ≤ w 5 ∧ w 5 ≤ 8) ∧ (0 ≤ w 6 ∧ w 6 ≤ 12) ∧ (0 ≤ w 7 ∧ w 7 ≤ 10) ∧ (0 ≤ w 8 ∧ w 8 ≤ 30) ∧ (0 ≤ w 9 ∧ w 9 ≤ 999)) ∧
  (∀ k, k < 26 → 1 ≤ w (10 + k) ∧ w (10 + k) ≤ 26) ∧ (∀ k : Nat, (k : Int) < w 5 → ∀ i, i < 3 → 1 ≤ w (36 + 3 * k + i) ∧ w (36 + 3 * k + i) ≤ 26) ∧
  (∀ k : Nat, (k : Int) < w 6 → okName w (60 + 10 * k)) ∧ (∀ k : Nat, (k : Int) < w 7 → okName w (180 + 10 * k)) ∧ (∀ k : Nat, (k : Int) < w 8 → okName w (650 + 10 * k)) ∧
  (∀ s, s < 10 → (0 ≤ w (280 + s) ∧ w (280 + s) ≤ 12) ∧ (w 7 ≤ (s : Int) → w (280 + s) = 0) ∧ (∀ i : Nat, (i : Int) < w (280 + s) → (w (290 + 36 * s + 3 * i) = 0 ∨ w (290 + 36 * s + 3 * i) = 1) ∧ (0 ≤ w (290 + 36 * s + 3 * i + 1) ∧ w (290 + 36 * s + 3 * i + 1) ≤ 9999) ∧ (1 ≤ w (290 + 36 * s + 3 * i + 2) ∧ w (290 + 36 * s + 3 * i + 2) ≤ 999)) ∧
    (∀ i j : Nat, (i : Int) < w (280 + s) → (j : Int) < w (280 + s) → w (290 + 36 * s + 3 * i) = w (290 + 36 * s + 3 * j) → w (290 + 36 * s + 3 * i + 1) = w (290 + 36 * s + 3 * j + 1) → i = j)) ∧
  (∀ k : Nat, (k : Int) < w 8 → (0 ≤ w (950 + k) ∧ w (950 + k) < w 7) ∧ (0 ≤ w (980 + k) ∧ w (980 + k) ≤ 1098))
/-- the reference, and its town now -/
def RD (h : Hp) (m : Nat) (w : Nat → Int) : Prop := modelAt h m ∧ ∀ p, p < 1010 → hpC h (m + 1) p = w p
/-- what the reference writes while it only answers -/
def SM (m : Nat) : Nat → Nat → Prop := fun r p => (r = m ∧ (p = 17 ∨ p = 28 ∨ p = 30)) ∨ (m + 6 ≤ r ∧ r ≤ m + 9) ∨ (m + 11 ≤ r ∧ r ≤ m + 19)
theorem SM_off (m : Nat) : offM m (SM m) := by
  intro p hp z
  rcases z with ⟨-, rfl | rfl | rfl⟩ | z | z
  · revert hp; decide
  · revert hp; decide
  · revert hp; decide
  · omega
  · omega
theorem RD.fr {h h' : Hp} {m : Nat} {w : Nat → Int} (a : RD h m w) (f : FrP (SM m) h h') : RD h' m w := ⟨a.1.fo f (SM_off m), fun p hp => by rw [f.2.2 _ _ (by rintro (⟨z, -⟩ | z | z) <;> omega)]; exact a.2 p hp⟩
theorem Stw_SM {m : Nat} {h h' : Hp} (f : FrP (Stw m) h h') : FrP (SM m) h h' := f.wk (fun r p z => by
  rcases z with ⟨z1, z2⟩ | z
  · exact Or.inl ⟨z1, Or.inl z2⟩
  · exact Or.inr (Or.inl (by omega)))
theorem Fr_SM {m t : Nat} {h h' : Hp} (ht : (m + 6 ≤ t ∧ t ≤ m + 9) ∨ (m + 11 ≤ t ∧ t ≤ m + 19)) (f : Fr (fun q => q = t) h h') : FrP (SM m) h h' := f.P (fun r p z => by
  subst z
  rcases ht with z | z
  · exact Or.inr (Or.inl z)
  · exact Or.inr (Or.inr z))
theorem RD.rLen {h : Hp} {m : Nat} {w : Nat → Int} (a : RD h m w) {o : Nat} (ho : o + 10 ≤ 1010) (hn : okName w o) : rLen h (m + 1) o (nW w o) := by
  obtain ⟨n1, n2, n3, n4⟩ := hn.spec
  refine ⟨n2, fun i hi => ?_, fun hi => ?_⟩
  · rw [a.2 _ (by omega)]; have := n3 i hi; omega
  · rw [a.2 _ (by omega)]; exact n4 _ (Nat.le_refl _) hi
theorem mPair_pW {h : Hp} {m : Nat} {w : Nat → Int} (a : RD h m w) (hV : V w) (x y : Nat) : ∀ j k : Nat, ((k + j : Nat) : Int) = w 5 → (mPair h (m + 1) 0 (x : Int) (y : Int) j k = -1 ∧ pW w x y j k = 0) ∨ ∃ q : Nat, q < 8 ∧ mPair h (m + 1) 0 (x : Int) (y : Int) j k = (q : Int) ∧ hpC h (m + 1) (36 + 3 * q + 2) = (pW w x y j k : Int) ∧ pW w x y j k ≠ 0 := by
  have h5 := hV.1.2.2.2.2.2.1
  intro j
  induction j with
  | zero => intro k hk; exact Or.inl ⟨rfl, rfl⟩
  | succ j ih =>
    intro k hk
    simp only [mPair, pW, Nat.zero_add]
    rw [a.2 _ (by omega), a.2 _ (by omega)]
    by_cases c : w (36 + 3 * k) = (x : Int) ∧ w (36 + 3 * k + 1) = (y : Int)
    · rw [if_pos c, if_pos c]
      have := hV.2.2.1 k (by omega) 2 (by omega)
      exact Or.inr ⟨k, by omega, rfl, by rw [a.2 _ (by omega)]; omega, by omega⟩
    · rw [if_neg c, if_neg c]
      exact ih (k + 1) (by omega)
theorem pW_le {w : Nat → Int} (hV : V w) (x y : Nat) : ∀ j k : Nat, ((k + j : Nat) : Int) = w 5 → pW w x y j k ≤ 26 := by
  intro j
  induction j with
  | zero => intro k _; simp [pW]
  | succ j ih =>
    intro k hk
    simp only [pW]
    split
    · have := hV.2.2.1 k (by omega) 2 (by omega); omega
    · exact ih (k + 1) (by omega)
theorem RD.rules {h : Hp} {m : Nat} {w : Nat → Int} (a : RD h m w) (hV : V w) : rulesRow h m (prW w) (muW w) (hdW w) := by
  have h5 := hV.1.2.2.2.2.2.1
  refine ⟨(w 5).toNat, by rw [a.2 _ (by omega)]; omega, by omega, fun x y _ _ _ _ => mPair_pW a hV x y _ 0 (by omega), fun x h1 h2 => ?_, fun x h1 h2 => ?_, fun x y => pW_le hV x y _ 0 (by omega), fun x h1 h2 => ?_⟩
  · rw [a.2 _ (by omega)]
    have := hV.2.1 (x - 1) (by omega)
    unfold hdW
    rw [show 10 + x - 1 = 10 + (x - 1) by omega]; omega
  · rw [a.2 _ (by omega)]; unfold muW; simp
  · have := hV.2.1 (x - 1) (by omega)
    unfold hdW
    rw [show 10 + x - 1 = 10 + (x - 1) by omega]; omega
theorem sp_laysKey {h : Hp} {m t o : Nat} {w : Nat → Int} (a : RD h m w) (hV : V w) (ho : o + 10 ≤ 1010) (hn : okName w o) (ht : t = m + 7 ∨ t = m + 8) {d mc ms : Nat} (hd : 2 ≤ d) {R : PR}
    (H : ∀ h', FrP (fun r p => Stw m r p ∨ r = t) h h' → (∀ i, i < 10 → hpC h' t i = ((keyW w o).getD i 0 : Int)) → R (some (xI ((keyW w o).length : Int))) h') :
    Wp m_M_laysKey 0 [some (xR m), some (xI (o : Int)), some (xR t)] [] h d mc ms R := by
  apply f_M_laysKey_0
  refine ⟨⟨by omega, a.1.tag⟩, sp_takesWord a.1 (by omega) (a.rLen ho hn) (fun h1 f1 c1 c2 _ => ?_)⟩
  have a1 := a.fr (Stw_SM f1)
  have hn10 := hn.spec.2.1
  refine ⟨⟨by omega, a1.1.tag⟩, sp_sounds (f := fW w o) a1.1 ?_ (by omega) (by omega) (by omega) c1 hn10 (fun i hi => ?_) (fun i hi => (hn.f hi).2) (a1.rules hV) (by omega) (fun h2 f2 c3 v e => ?_)⟩
  · rcases ht with rfl | rfl
    · exact a1.1.keyA_t
    · exact a1.1.keyB_t
  · rw [c2 i hi, a.2 _ (by omega)]; exact (hn.f hi).1
  · cases e
    exact H h2 ((f1.wk (fun r p z => Or.inl z)).tr (f2.P (fun r p z => Or.inr z))) c3
theorem sp_areLike {h : Hp} {s t : Nat} (hs : hpT h s = (20, 10)) (ht : hpT h t = (20, 10)) {K1 K2 : List Nat} (l1 : K1.length ≤ 10) (l2 : K2.length ≤ 10) (p1 : ∀ c ∈ K1, 1 ≤ c) (p2 : ∀ c ∈ K2, 1 ≤ c) (h1 : ∀ i, i < 10 → hpC h s i = (K1.getD i 0 : Int)) (h2 : ∀ i, i < 10 → hpC h t i = (K2.getD i 0 : Int)) {d mc ms : Nat} {R : PR} (H : R (some (xI (if K1 = K2 then 1 else 0))) h) :
    Wp m_M_areLike 0 [some (xR s), some (xR t), none] [] h d mc ms R := by
  have key : (∀ i, i < 10 → K1.getD i 0 = K2.getD i 0) → K1 = K2 := by
    intro hq
    apply List.ext_getElem?
    intro i
    rcases Nat.lt_or_ge i 10 with q | q
    · have := hq i q
      cases e1 : K1[i]? with
      | none =>
        cases e2 : K2[i]? with
        | none => rfl
        | some y =>
          have := p2 y (List.mem_of_getElem? e2)
          simp [List.getD, e1, e2] at hq
          have := hq i q; rw [e1, e2] at this; simp at this; omega
      | some x =>
        cases e2 : K2[i]? with
        | none =>
          have := p1 x (List.mem_of_getElem? e1)
          simp [List.getD] at hq
          have := hq i q; rw [e1, e2] at this; simp at this; omega
        | some y =>
          simp [List.getD] at hq
          have := hq i q; rw [e1, e2] at this; simp at this; rw [this]
    · rw [List.getElem?_eq_none (by omega), List.getElem?_eq_none (by omega)]
  apply f_M_areLike_0
  have L : ∀ j k : Nat, k + j = 10 → (∀ i, i < k → K1.getD i 0 = K2.getD i 0) → Wp m_M_areLike 2 [some (xR s), some (xR t), some (xI (k : Int))] [] h d mc ms R := by
    intro j
    induction j with
    | zero =>
      intro k hk hq
      apply f_M_areLike_2
      rw [if_neg (by omega)]
      rw [if_pos (key (fun i hi => hq i (by omega)))] at H
      exact ⟨Or.inr rfl, H⟩
    | succ j ih =>
      intro k hk hq
      apply f_M_areLike_2
      rw [if_pos (by omega), hs, ht, Int.toNat_natCast, h1 k (by omega), h2 k (by omega)]
      refine ⟨⟨rfl, by omega, by show (k : Int) < 10; omega⟩, ⟨rfl, by omega, by show (k : Int) < 10; omega⟩, ?_⟩
      by_cases c : K1.getD k 0 = K2.getD k 0
      · rw [if_pos (by omega), ai_add_eq (by omega) (by omega)]
        exact ih (k + 1) (by omega) (fun i hi => by
          by_cases e : i = k
          · subst e; exact c
          · exact hq i (by omega))
      · rw [if_neg (by omega)]
        rw [if_neg (fun z => c (by rw [z]))] at H
        exact ⟨Or.inl rfl, H⟩
  exact L 10 0 rfl (by omega)
theorem sp_changesOf {h : Hp} {m o1 o2 : Nat} {w : Nat → Int} (a : RD h m w) (ho1 : o1 + 10 ≤ 1010) (hn1 : okName w o1) (ho2 : o2 + 10 ≤ 1010) (hn2 : okName w o2) {d mc ms : Nat} (hd : 2 ≤ d) {R : PR}
    (H : ∀ h', FrP (fun r p => Stw m r p ∨ r = m + 9) h h' → R (some (xI (chW w o1 o2 : Int))) h') :
    Wp m_M_changesOf 0 [some (xR m), some (xI (o1 : Int)), some (xI (o2 : Int))] [] h d mc ms R := by
  apply f_M_changesOf_0
  refine ⟨⟨by omega, a.1.tag⟩, sp_takesWord a.1 (by omega) (a.rLen ho1 hn1) (fun h1 f1 c1 c2 _ => ?_)⟩
  have a1 := a.fr (Stw_SM f1)
  refine ⟨⟨by omega, a1.1.tag⟩, sp_changesTo a1.1 (by omega) (a1.rLen ho2 hn2) c1 hn1.spec.2.1 (fW w o1) (fW w o2) (fun i hi => ?_) (fun i hi => ?_) (by omega) (fun h2 f2 v e => ?_)⟩
  · have := hn1.spec.2.1
    rw [c2 i hi, a.2 _ (by omega)]; exact (hn1.f hi).1
  · have := hn2.spec.2.1
    rw [a1.2 _ (by omega)]; exact (hn2.f hi).1
  · cases e
    exact H h2 ((f1.wk (fun r p z => Or.inl z)).tr (f2.P (fun r p z => Or.inr z)))
theorem keyW_mem {w : Nat → Int} (hV : V w) {o : Nat} (hn : okName w o) : ∀ c ∈ keyW w o, 1 ≤ c ∧ c ≤ 26 := by
  have h5 := hV.1.2.2.2.2.2.1
  refine kd_mem (fun x h1 h2 => ?_) _ _ _ (kp_mem (fun i hi => (hn.f hi).2) (fun x y => pW_le hV x y _ 0 (by omega)) _ _)
  have := hV.2.1 (x - 1) (by omega)
  unfold hdW
  rw [show 10 + x - 1 = 10 + (x - 1) by omega]; omega
theorem keyW_len {w : Nat → Int} {o : Nat} (hn : okName w o) : (keyW w o).length ≤ 10 := Nat.le_trans keyL_len hn.spec.2.1
theorem sp_alikeOf {h : Hp} {m o1 o2 : Nat} {w : Nat → Int} (a : RD h m w) (hV : V w) (ho1 : o1 + 10 ≤ 1010) (hn1 : okName w o1) (ho2 : o2 + 10 ≤ 1010) (hn2 : okName w o2) {d mc ms : Nat} (hd : 3 ≤ d) {R : PR}
    (H : ∀ h', FrP (SM m) h h' → R (some (xI (alW w o1 o2))) h') :
    Wp m_M_alikeOf 0 [some (xR m), some (xI (o1 : Int)), some (xI (o2 : Int))] [] h d mc ms R := by
  have ws : ∀ (t : Nat) (g g' : Hp), (m + 6 ≤ t ∧ t ≤ m + 9) → FrP (fun r p => Stw m r p ∨ r = t) g g' → FrP (SM m) g g' := fun t g g' ht f => f.wk (fun r p z => by
    rcases z with (⟨z1, z2⟩ | z) | z
    · exact Or.inl ⟨z1, Or.inl z2⟩
    · exact Or.inr (Or.inl (by omega))
    · exact Or.inr (Or.inl (by omega)))
  apply f_M_alikeOf_0
  refine ⟨a.1.tag, ⟨by omega, a.1.tag⟩, ?_⟩
  rw [a.1.keyA_n]
  refine sp_laysKey a hV ho1 hn1 (Or.inl rfl) (by omega) (fun h1 f1 k1 v e => ?_)
  cases e
  have a1 := a.fr (ws _ _ _ (by omega) f1)
  refine ⟨a1.1.tag, ⟨by omega, a1.1.tag⟩, ?_⟩
  rw [a1.1.keyB_n]
  refine sp_laysKey a1 hV ho2 hn2 (Or.inr rfl) (by omega) (fun h2 f2 k2 v e => ?_)
  cases e
  have a2 := a1.fr (ws _ _ _ (by omega) f2)
  have k1' : ∀ i, i < 10 → hpC h2 (m + 7) i = ((keyW w o1).getD i 0 : Int) := fun i hi => by
    rw [f2.2.2 _ _ (by rintro ((⟨z, -⟩ | z) | z) <;> omega)]; exact k1 i hi
  refine ⟨a2.1.tag, a2.1.tag, by omega, ?_⟩
  rw [a2.1.keyA_n, a2.1.keyB_n]
  refine sp_areLike a2.1.keyA_t a2.1.keyB_t (keyW_len hn1) (keyW_len hn2) (fun c hc => (keyW_mem hV hn1 c hc).1) (fun c hc => (keyW_mem hV hn2 c hc).1) k1' k2 (fun v e => ?_)
  cases e
  have fin : ∀ (x : Int), (x = if keyW w o1 = keyW w o2 then 1 else 0) → ∀ (h4 : Hp), FrP (fun r p => Stw m r p ∨ r = m + 9) h2 h4 → ∀ v : Int, some (xI (chW w o1 o2 : Int)) = some (xI v) → ((hpT h4 m).1 = 12 ∧ (((hpT h4 (Int.toNat (hpC h4 m 0))).1 = 20 ∧ 0 ≤ (0 : Int) ∧ (0 : Int) < ((hpT h4 (Int.toNat (hpC h4 m 0))).2 : Int)) ∧ (if (hpC h4 (Int.toNat (hpC h4 m 0)) (Int.toNat (0 : Int))) < v then R (some (xI (ai_add x (0 : Int)))) h4 else R (some (xI (ai_add x (2 : Int)))) h4))) := by
    intro x hx h4 f4 v e
    cases e
    have a4 := a2.fr (ws _ _ _ (by omega) f4)
    have hF : FrP (SM m) h h4 := ((ws _ _ _ (by omega) f1).tr (ws _ _ _ (by omega) f2)).tr (ws _ _ _ (by omega) f4)
    have x01 : 0 ≤ x ∧ x ≤ 1 := by rw [hx]; split <;> omega
    rw [a4.1.row_n, a4.1.row_t, show Int.toNat (0 : Int) = 0 from rfl, a4.2 0 (by omega)]
    refine ⟨a4.1.tag, ⟨rfl, by decide, by decide⟩, ?_⟩
    have := H h4 hF
    unfold alW at this
    by_cases c : w 0 < (chW w o1 o2 : Int)
    · rw [if_pos c, ai_add_eq (by omega) (by omega), hx]
      rw [if_neg (show ¬ (chW w o1 o2 : Int) ≤ w 0 by omega)] at this
      exact this
    · rw [if_neg c, ai_add_eq (by omega) (by omega), hx]
      rw [if_pos (show (chW w o1 o2 : Int) ≤ w 0 by omega)] at this
      exact this
  by_cases c : keyW w o1 = keyW w o2
  · rw [if_pos c, if_neg (by decide)]
    refine ⟨⟨by omega, a2.1.tag⟩, sp_changesOf a2 ho1 hn1 ho2 hn2 (by omega) (fun h4 f4 => fin 1 (by rw [if_pos c]) h4 f4)⟩
  · rw [if_neg c, if_pos rfl]
    refine ⟨⟨by omega, a2.1.tag⟩, sp_changesOf a2 ho1 hn1 ho2 hn2 (by omega) (fun h4 f4 => fin 0 (by rw [if_neg c]) h4 f4)⟩
