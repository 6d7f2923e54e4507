/-! ===== aliases dropped and put: towns as numbers ===== -/
theorem nlF_ext {f g : Nat → Int} : ∀ k i, (∀ j, i ≤ j → j < i + k → f j = g j) → nlF f k i = nlF g k i
  | 0, i, _ => rfl
  | k + 1, i, h => by
    simp only [nlF]
    rw [h i (by omega) (by omega), nlF_ext k (i + 1) (fun j h1 h2 => h j (by omega) (by omega))]
theorem nW_ext {w v : Nat → Int} {o o' : Nat} (h : ∀ i, i < 10 → w (o + i) = v (o' + i)) : nW w o = nW v o' := nlF_ext 10 0 (fun j _ hj => h j (by omega))
theorem nW_10 (w : Nat → Int) (o : Nat) : nW w o ≤ 10 := by
  have : ∀ (f : Nat → Int) k i, nlF f k i ≤ i + k := by
    intro f k
    induction k with
    | zero => intro i; simp [nlF]
    | succ k ih => intro i; simp only [nlF]; split; · omega
                   · have := ih (i + 1); omega
  have := this (fun i => w (o + i)) 10 0
  unfold nW; omega
theorem fW_ext {w v : Nat → Int} {o o' : Nat} (h : ∀ i, i < 10 → w (o + i) = v (o' + i)) {i : Nat} (hi : i < 10) : fW w o i = fW v o' i := by unfold fW; rw [h i hi]
theorem wordW_ext {w v : Nat → Int} {o o' : Nat} (h : ∀ i, i < 10 → w (o + i) = v (o' + i)) : wordW w o = wordW v o' := by
  unfold wordW
  rw [nW_ext h]
  congr 1
  apply List.map_congr_left
  intro i hi
  have := nW_10 v o'
  exact fW_ext h (by have := List.mem_range.mp hi; omega)
theorem okN_ext {w v : Nat → Int} {o o' : Nat} (h : ∀ i, i < 10 → w (o + i) = v (o' + i)) (hn : okName w o) : okName v o' := by
  obtain ⟨n, h1, h2, h3, h4⟩ := hn
  exact ⟨n, h1, h2, fun i hi => by rw [← h i (by omega)]; exact h3 i hi, fun i h5 h6 => by rw [← h i h6]; exact h4 i h5 h6⟩
/-- rules are the same -/
def eqR (w v : Nat → Int) : Prop := ∀ p, p < 60 → p ≠ 8 → p ≠ 9 → w p = v p
theorem pW_ext {w v : Nat → Int} (a b : Nat) : ∀ k p, p + k ≤ 8 → (∀ q, 36 ≤ q → q < 60 → w q = v q) → pW w a b k p = pW v a b k p
  | 0, p, _, _ => rfl
  | k + 1, p, hp, h => by
    simp only [pW]
    rw [h _ (by omega) (by omega), h _ (by omega) (by omega), h _ (by omega) (by omega), pW_ext a b k (p + 1) (by omega) h]
theorem prW_ext {w v : Nat → Int} (hV : V w) (e : eqR w v) : prW w = prW v := by
  have h5 := hV.1.2.2.2.2.2.1
  funext a b
  unfold prW
  rw [← e 5 (by omega) (by omega) (by omega)]
  exact pW_ext a b _ _ (by omega) (fun q h1 h2 => e q h2 (by omega) (by omega))
theorem muW_ext {w v : Nat → Int} (e : eqR w v) : muW w = muW v := by funext a; unfold muW; rw [e 3 (by omega) (by omega) (by omega)]
theorem kd_ext {mu : Nat → Bool} {hd hd' : Nat → Nat} (h : ∀ c, 1 ≤ c → c ≤ 26 → hd c = hd' c) : ∀ (P : List Nat) (fst : Bool) (la : Nat), (∀ c ∈ P, 1 ≤ c ∧ c ≤ 26) → kd mu hd fst la P = kd mu hd' fst la P
  | [], _, _, _ => rfl
  | p :: ps, fst, la, hP => by
    have h1 := hP p List.mem_cons_self
    have h2 : ∀ c ∈ ps, 1 ≤ c ∧ c ≤ 26 := fun c hc => hP c (List.mem_cons_of_mem _ hc)
    simp only [kd]
    rw [h p h1.1 h1.2, kd_ext h ps false la h2, kd_ext h ps false (hd' p) h2]
theorem keyW_ext {w v : Nat → Int} {o o' : Nat} (hV : V w) (e : eqR w v) (hn : okName w o) (h : ∀ i, i < 10 → w (o + i) = v (o' + i)) : keyW w o = keyW v o' := by
  have h5 := hV.1.2.2.2.2.2.1
  unfold keyW keyL
  rw [← prW_ext hV e, ← muW_ext e, ← nW_ext h, ← kp_ext (f := fW w o) (g := fW v o') (fun i hi => fW_ext h (by have := nW_10 w o; omega))]
  refine kd_ext (fun c h1 h2 => ?_) _ _ _ (kp_mem (fun i hi => (hn.f hi).2) (fun x y => pW_le hV x y _ 0 (by omega)) _ _)
  unfold hdW
  rw [e _ (by omega) (by omega) (by omega)]
/-- towns that differ at most where nothing is told -/
def eqT (u v : Nat → Int) : Prop := (∀ p, p < 650 → u p = v p) ∧ ∀ a : Nat, (a : Int) < u 8 → (∀ i, i < 10 → u (650 + 10 * a + i) = v (650 + 10 * a + i)) ∧ u (950 + a) = v (950 + a) ∧ u (980 + a) = v (980 + a)
theorem eqT.R {u v : Nat → Int} (e : eqT u v) : eqR u v := fun p hp _ _ => e.1 p (by omega)
theorem TR.cong {h : Hp} {t : Nat} {u v : Nat → Int} (hV : V u) (e : eqT u v) (a : TR h t u) : TR h t v := by
  have hV0 := hV
  obtain ⟨⟨v0, v1, v2, v3, v4, v5, v6, v7, v8, v9⟩, w1, w2, w3, w4, w5, w6, w7⟩ := hV
  obtain ⟨⟨a1, a2, a3, a4, a5, a6, a7, a8⟩, b1, b2, b3, b4⟩ := a
  have e8 := e.1 8 (by omega)
  have e7 := e.1 7 (by omega)
  have e6 := e.1 6 (by omega)
  obtain ⟨r0, r1, r2, r3, r4, r5, r6, r7⟩ := a2
  refine ⟨⟨a1, ⟨?_, ?_, ?_, ?_, ?_, ?_, fun k hk => ?_, fun l h1 h2 => ?_⟩, ⟨by rw [← e7]; exact a3.1, fun k hk => ?_⟩, ⟨by rw [← e6]; exact a4.1, fun k hk => ?_⟩, ⟨by rw [← e8]; exact a5.1, fun k hk => ?_⟩, fun k hk => ?_, fun s hs => ⟨?_, fun i hi => ?_⟩, by rw [← e.1 9 (by omega)]; exact a8⟩, fun k hk => ?_, fun k hk => ?_, fun k hk => ?_, fun k hk => ?_⟩
  · rw [← e.1 0 (by omega)]; exact r0
  · rw [← e.1 1 (by omega)]; exact r1
  · rw [← e.1 2 (by omega)]; exact r2
  · rw [← e.1 3 (by omega)]; exact r3
  · rw [← e.1 4 (by omega)]; exact r4
  · rw [← e.1 5 (by omega)]; exact r5
  · have e5 := e.1 5 (by omega)
    rw [← e.1 _ (by omega), ← e.1 _ (by omega), ← e.1 _ (by omega)]
    exact r6 k (by omega)
  · rw [← e.1 4 (by omega), ← e.1 _ (by omega)]; exact r7 l h1 h2
  · rw [a3.2 k (by omega), wordW_ext (fun i hi => e.1 _ (by omega))]
  · rw [a4.2 k (by omega), wordW_ext (fun i hi => e.1 _ (by omega))]
  · rw [a5.2 k (by omega), wordW_ext (fun i hi => (e.2 k (by omega)).1 i hi)]
  · rw [a6 k (by omega), (e.2 k (by omega)).2.1]
  · rw [← e.1 _ (by omega)]; exact (a7 s hs).1
  · have es := e.1 (280 + s) (by omega)
    have b := (w6 s hs).1
    rw [← e.1 _ (by omega), ← e.1 _ (by omega), ← e.1 _ (by omega)]
    exact (a7 s hs).2 i (by omega)
  · rw [b1 k (by omega), keyW_ext hV0 e.R (w4 k (by omega)) (fun i hi => e.1 _ (by omega))]
  · rw [b2 k (by omega), keyW_ext hV0 e.R (w3 k (by omega)) (fun i hi => e.1 _ (by omega))]
  · rw [b3 k (by omega), keyW_ext hV0 e.R (w5 k (by omega)) (fun i hi => (e.2 k (by omega)).1 i hi)]
  · rw [b4 k (by omega), (e.2 k (by omega)).2.2]
theorem RW.ext {h : Hp} {r : Nat} {w v : Nat → Int} (hV : V w) (e : eqR w v) (a : RW h r w) : RW h r v := by
  have h5 := hV.1.2.2.2.2.2.1
  obtain ⟨r0, r1, r2, r3, r4, r5, r6, r7⟩ := a
  have e' : ∀ p, p < 60 → p ≠ 8 → p ≠ 9 → v p = w p := fun p h1 h2 h3 => (e p h1 h2 h3).symm
  have e5 := e' 5 (by omega) (by omega) (by omega)
  refine ⟨by rw [e' 0 (by omega) (by omega) (by omega)]; exact r0, by rw [e' 1 (by omega) (by omega) (by omega)]; exact r1, by rw [e' 2 (by omega) (by omega) (by omega)]; exact r2, by rw [e' 3 (by omega) (by omega) (by omega)]; exact r3, by rw [e' 4 (by omega) (by omega) (by omega)]; exact r4, by rw [e5]; exact r5, fun k hk => ?_, fun l h1 h2 => ?_⟩
  · rw [e' _ (by omega) (by omega) (by omega), e' _ (by omega) (by omega) (by omega), e' _ (by omega) (by omega) (by omega)]
    exact r6 k (by omega)
  · rw [e' 4 (by omega) (by omega) (by omega), e' _ (by omega) (by omega) (by omega)]; exact r7 l h1 h2
theorem NW.ext {h : Hp} {r : Nat} {w v : Nat → Int} {n : Int} {o : Nat} (e : ∀ k : Nat, (k : Int) < n → ∀ i, i < 10 → w (o + 10 * k + i) = v (o + 10 * k + i)) (a : NW h r w n o) : NW h r v n o := ⟨a.1, fun k hk => by rw [a.2 k hk, wordW_ext (e k hk)]⟩
theorem NS.ext {h : Hp} {r : Nat} {w v : Nat → Int} {n : Int} {o : Nat} (hV : V w) (eR : eqR w v) (ok : ∀ k : Nat, (k : Int) < n → okName w (o + 10 * k)) (e : ∀ k : Nat, (k : Int) < n → ∀ i, i < 10 → w (o + 10 * k + i) = v (o + 10 * k + i)) (a : NS h r w n o) : NS h r v n o := fun k hk => by rw [a k hk, keyW_ext hV eR (ok k hk) (e k hk)]
theorem HW.ext {h : Hp} {r : Nat} {w v : Nat → Int} (hV : V w) (e : ∀ p, 280 ≤ p → p < 650 → w p = v p) (a : HW h r w) : HW h r v := fun s hs => by
  have b := (hV.2.2.2.2.2.2.1 s hs).1
  have e0 := e (280 + s) (by omega) (by omega)
  refine ⟨by rw [← e0]; exact (a s hs).1, fun i hi => ?_⟩
  rw [← e _ (by omega) (by omega), ← e _ (by omega) (by omega), ← e _ (by omega) (by omega)]
  exact (a s hs).2 i (by omega)
/-- only aliases change -/
theorem TR.al {h h' : Hp} {t : Nat} {w v : Nat → Int} (hV : V w) (a : TR h t w) (hT : townAt h' t) (E : eqC h h' (t + 1) (t + 12)) (E2 : eqC h h' (t + 18) (t + 22)) (ey : hpC h' t 7 = hpC h t 7) (L : ∀ p, p < 650 → p ≠ 8 → w p = v p) (c : hpC h' (t + 13) 2 = v 8) (A : ∀ k : Nat, (k : Int) < v 8 → hpC h' (t + 14) k = (wordW v (650 + 10 * k) : Int) ∧ hpC h' (t + 15) k = (pkL (keyW v (650 + 10 * k)) : Int) ∧ hpC h' (t + 16) k = v (950 + k) ∧ hpC h' (t + 17) k = v (980 + k)) : TR h' t v := by
  have hV0 := hV
  obtain ⟨⟨v0, v1, v2, v3, v4, v5, v6, v7, v8, v9⟩, w1, w2, w3, w4, w5, w6, w7⟩ := hV
  obtain ⟨⟨a1, a2, a3, a4, a5, a6, a7, a8⟩, b1, b2, b3, b4⟩ := a
  have eR : eqR w v := fun p hp h8 _ => L p (by omega) h8
  have e7 := L 7 (by omega) (by omega)
  have e6 := L 6 (by omega) (by omega)
  have N7 := NW.ext (v := v) (fun k hk i hi => L _ (by omega) (by omega)) (a3.eq (E.sub (by omega) (by omega)))
  have N10 := NW.ext (v := v) (fun k hk i hi => L _ (by omega) (by omega)) (a4.eq (E.sub (by omega) (by omega)))
  have S7 := NS.ext hV0 eR w4 (fun k hk i hi => L _ (by omega) (by omega)) (b1.eq (E.sub (by omega) (by omega)))
  have S10 := NS.ext hV0 eR w3 (fun k hk i hi => L _ (by omega) (by omega)) (b2.eq (E.sub (by omega) (by omega)))
  rw [e7] at N7 S7
  rw [e6] at N10 S10
  exact ⟨⟨hT, (a2.eq (E.sub (by omega) (by omega))).ext hV0 eR, N7, N10, ⟨c, fun k hk => (A k hk).1⟩, fun k hk => (A k hk).2.2.1, (a7.eq (E2.sub (by omega) (by omega))).ext hV0 (fun p h1 h2 => L p h2 (by omega)), by rw [ey, a8]; exact L 9 (by omega) (by omega)⟩, S7, S10, fun k hk => (A k hk).2.1, fun k hk => (A k hk).2.2.2⟩
/-- an alias goes -/
def dropW (w : Nat → Int) (k : Nat) : Nat → Int := fun p =>
  if p = 8 then w 8 - 1
  else if 650 ≤ p ∧ p < 950 ∧ 650 + 10 * k ≤ p ∧ ((p - 650) / 10 + 1 : Nat) < w 8 then w (p + 10)
  else if 950 ≤ p ∧ p < 980 ∧ 950 + k ≤ p ∧ ((p - 950 + 1 : Nat) : Int) < w 8 then w (p + 1)
  else if 980 ≤ p ∧ p < 1010 ∧ 980 + k ≤ p ∧ ((p - 980 + 1 : Nat) : Int) < w 8 then w (p + 1)
  else w p
theorem dropW_8 (w : Nat → Int) (k : Nat) : dropW w k 8 = w 8 - 1 := by unfold dropW; rw [if_pos rfl]
theorem dropW_low {w : Nat → Int} {k p : Nat} (h : p < 650) (h8 : p ≠ 8) : dropW w k p = w p := by unfold dropW; rw [if_neg h8, if_neg (by omega), if_neg (by omega), if_neg (by omega)]
theorem dropW_name {w : Nat → Int} {k a i : Nat} (ha : ((a + 1 : Nat) : Int) < w 8) (h8 : w 8 ≤ 30) (hi : i < 10) : dropW w k (650 + 10 * a + i) = if k ≤ a then w (650 + 10 * (a + 1) + i) else w (650 + 10 * a + i) := by
  unfold dropW
  rw [if_neg (by omega)]
  have e : (650 + 10 * a + i - 650) / 10 = a := by omega
  by_cases c : k ≤ a
  · rw [if_pos c, if_pos (by rw [e]; exact ⟨by omega, by omega, by omega, ha⟩), show 650 + 10 * a + i + 10 = 650 + 10 * (a + 1) + i by omega]
  · rw [if_neg c, if_neg (by omega), if_neg (by omega), if_neg (by omega)]
theorem dropW_of {w : Nat → Int} {k a : Nat} (ha : ((a + 1 : Nat) : Int) < w 8) (h8 : w 8 ≤ 30) : dropW w k (950 + a) = if k ≤ a then w (950 + (a + 1)) else w (950 + a) := by
  unfold dropW
  rw [if_neg (by omega), if_neg (by omega)]
  by_cases c : k ≤ a
  · rw [if_pos c, if_pos (by rw [show 950 + a - 950 = a by omega]; exact ⟨by omega, by omega, by omega, ha⟩)]; rfl
  · rw [if_neg c, if_neg (by omega), if_neg (by omega)]
theorem dropW_to {w : Nat → Int} {k a : Nat} (ha : ((a + 1 : Nat) : Int) < w 8) (h8 : w 8 ≤ 30) : dropW w k (980 + a) = if k ≤ a then w (980 + (a + 1)) else w (980 + a) := by
  unfold dropW
  rw [if_neg (by omega), if_neg (by omega), if_neg (by omega)]
  by_cases c : k ≤ a
  · rw [if_pos c, if_pos (by rw [show 980 + a - 980 = a by omega]; exact ⟨by omega, by omega, by omega, ha⟩)]; rfl
  · rw [if_neg c, if_neg (by omega)]
theorem dropW_V {w : Nat → Int} (hV : V w) {k : Nat} (hk : (k : Int) < w 8) : V (dropW w k) := by
  obtain ⟨⟨v0, v1, v2, v3, v4, v5, v6, v7, v8, v9⟩, w1, w2, w3, w4, w5, w6, w7⟩ := hV
  have L : ∀ p, p < 650 → p ≠ 8 → dropW w k p = w p := fun p h1 h2 => dropW_low h1 h2
  refine ⟨⟨by rw [L 0 (by omega) (by omega)]; exact v0, by rw [L 1 (by omega) (by omega)]; exact v1, by rw [L 2 (by omega) (by omega)]; exact v2, by rw [L 3 (by omega) (by omega)]; exact v3, by rw [L 4 (by omega) (by omega)]; exact v4, by rw [L 5 (by omega) (by omega)]; exact v5, by rw [L 6 (by omega) (by omega)]; exact v6, by rw [L 7 (by omega) (by omega)]; exact v7, by rw [dropW_8]; omega, by rw [L 9 (by omega) (by omega)]; exact v9⟩, fun j hj => ?_, fun j hj i hi => ?_, fun j hj => ?_, fun j hj => ?_, fun j hj => ?_, fun s hs => ?_, fun j hj => ?_⟩
  · rw [L _ (by omega) (by omega)]; exact w1 j hj
  · rw [L 5 (by omega) (by omega)] at hj
    rw [L _ (by omega) (by omega)]; exact w2 j hj i hi
  · rw [L 6 (by omega) (by omega)] at hj
    exact okN_ext (fun i hi => (L _ (by omega) (by omega)).symm) (w3 j hj)
  · rw [L 7 (by omega) (by omega)] at hj
    exact okN_ext (fun i hi => (L _ (by omega) (by omega)).symm) (w4 j hj)
  · rw [dropW_8] at hj
    by_cases c : k ≤ j
    · exact okN_ext (fun i hi => by rw [dropW_name (by omega) v8.2 hi, if_pos c]) (w5 (j + 1) (by omega))
    · exact okN_ext (fun i hi => by rw [dropW_name (by omega) v8.2 hi, if_neg c]) (w5 j (by omega))
  · obtain ⟨z1, z2, z3, z4⟩ := w6 s hs
    rw [L (280 + s) (by omega) (by omega), L 7 (by omega) (by omega)]
    refine ⟨z1, z2, fun i hi => ?_, fun i j hi hj => ?_⟩
    · rw [L _ (by omega) (by omega), L _ (by omega) (by omega), L _ (by omega) (by omega)]; exact z3 i hi
    · rw [L _ (by omega) (by omega), L _ (by omega) (by omega), L _ (by omega) (by omega), L _ (by omega) (by omega)]; exact z4 i j hi hj
  · rw [dropW_8] at hj
    rw [dropW_of (by omega) v8.2, dropW_to (by omega) v8.2, L 7 (by omega) (by omega)]
    by_cases c : k ≤ j
    · rw [if_pos c, if_pos c]; exact w7 (j + 1) (by omega)
    · rw [if_neg c, if_neg c]; exact w7 j (by omega)
theorem hpC_cm {h : Hp} {a k n p : Nat} : hpC (hpY h a (k + 1) a k n) a p = if k ≤ p ∧ p < k + n then hpC h a (p + 1) else hpC h a p := by
  rw [hpC_cp]
  by_cases c : k ≤ p ∧ p < k + n
  · rw [if_pos ⟨rfl, c.1, c.2⟩, if_pos c]; congr 1; omega
  · rw [if_neg (fun z => c z.2), if_neg c]
theorem sp_Ndrop {h : Hp} {r l n k : Nat} (a : namesAt h r l) (hc : hpC h r 2 = (n : Int)) (hn : n ≤ l) (hl : l ≤ 30) (hk : k < n) {d mc ms : Nat} {R : PR} (hd1 : 1 ≤ d) (H : ∀ h', FrP (Snl r) h h' → hpC h' r 2 = ((n - 1 : Nat) : Int) → (∀ p, p + 1 < n → hpC h' (r + 1) p = (if k ≤ p then hpC h (r + 1) (p + 1) else hpC h (r + 1) p) ∧ hpC h' (r + 2) p = (if k ≤ p then hpC h (r + 2) (p + 1) else hpC h (r + 2) p)) → R none h') : Wp m_Names_drop 0 [some (xR r), some (xI (k : Int))] [] h d mc ms R := by
  apply f_Names_drop_0
  refine ⟨⟨by omega, a.tag⟩, sp_holds a.tag hc (fun v e => ?_)⟩
  cases e
  rw [if_pos (show 0 ≤ (k : Int) ∧ (k : Int) < (n : Int) by omega), if_neg (by decide)]
  have e1 : ai_sub (ai_sub (n : Int) (k : Int)) 1 = ((n - k - 1 : Nat) : Int) := by rw [ai_sub_eq (a := (n : Int)) (b := (k : Int)) (by omega) (by omega), ai_sub_eq (by omega) (by omega)]; omega
  simp (disch := omega) only [forall_eq, hpT_up, hpT_cp, hpC_o1, hpC_o2, hpC_co, hpC_same, hc, a.tag, a.word_n, a.sound_n, a.word_t, a.sound_t, e1, ab_1, as_1, Int.toNat_natCast, q_lt, n_lt, q_le, n_le, q_eq, n_eq, q_nle, not_false_eq_true, not_true_eq_false, true_and, and_true, true_or, or_true, and_self, ↓reduceIte]
  refine H _ ⟨rfl, rfl, fun q p hq => ?_⟩ (hpC_same _ _ _ _) (fun p hp => ⟨?_, ?_⟩)
  · unfold Snl at hq
    rw [hpC_ne (by omega), hpC_co (by omega), hpC_co (by omega)]
  · rw [hpC_o1 (by omega), hpC_co (by omega), hpC_cm]
    by_cases c : k ≤ p
    · rw [if_pos (by omega), if_pos c]
    · rw [if_neg (by omega), if_neg c]
  · rw [hpC_o1 (by omega), hpC_cm, hpC_co (by omega), hpC_co (by omega)]
    by_cases c : k ≤ p
    · rw [if_pos (by omega), if_pos c]
    · rw [if_neg (by omega), if_neg c]
def Sal (t : Nat) : Nat → Nat → Prop := fun q p => (q = t + 13 ∧ p = 2) ∨ (t + 14 ≤ q ∧ q ≤ t + 17)
theorem Sal_SD {t : Nat} {h h' : Hp} (f : FrP (Sal t) h h') : FrP (SD t) h h' := f.wk (fun q p z => by unfold Sal at z; unfold SD; omega)
theorem sp_Adrop {h : Hp} {t : Nat} {w : Nat → Int} (a : TR h t w) (hV : V w) {k : Nat} (hk : (k : Int) < w 8) {d mc ms : Nat} {R : PR} (hd1 : 2 ≤ d) {o2 : Option AV} (H : ∀ h', FrP (Sal t) h h' → TR h' t (dropW w k) → R none h') : Wp m_Town_dropAlias 0 [some (xR t), some (xI (k : Int)), o2] [] h d mc ms R := by
  have v0 := hV.1.1
  have v1 := hV.1.2.1
  have v2 := hV.1.2.2.1
  have v3 := hV.1.2.2.2.1
  have v4 := hV.1.2.2.2.2.1
  have v5 := hV.1.2.2.2.2.2.1
  have v6 := hV.1.2.2.2.2.2.2.1
  have v7 := hV.1.2.2.2.2.2.2.2.1
  have v8 := hV.1.2.2.2.2.2.2.2.2.1
  have v9 := hV.1.2.2.2.2.2.2.2.2.2
  have hT := a.1.1
  have b3 : NW h (t + 13) w (w 8) 650 := a.1.2.2.2.2.1
  have h16 := a.1.2.2.2.2.2.1
  have h17 := a.2.2.2.2
  obtain ⟨n, hn⟩ : ∃ n : Nat, w 8 = (n : Int) := ⟨(w 8).toNat, by omega⟩
  apply f_Town_dropAlias_0
  rw [hT.aliases_n]
  refine ⟨hT.tag, ⟨by omega, hT.aliases_a.tag⟩, sp_holds hT.aliases_a.tag b3.1 (fun v e => ?_)⟩
  cases e
  rw [if_pos (show 0 ≤ (k : Int) ∧ (k : Int) < w 8 by omega), if_neg (by decide)]
  have e1 : ai_sub (ai_sub (w 8) (k : Int)) 1 = ((n - k - 1 : Nat) : Int) := by rw [ai_sub_eq (a := w 8) (b := (k : Int)) (by omega) (by omega), ai_sub_eq (by omega) (by omega)]; omega
  rw [hT.aliases_n, b3.1, e1, hT.aliasStreet_n, hT.aliasStreet_t, ab_1 (by omega), Int.toNat_natCast, Int.toNat_natCast, Int.toNat_natCast]
  refine ⟨hT.tag, hT.aliases_a.tag, hT.tag, hT.tag, ⟨by omega, rfl, rfl, by omega, by omega, by omega, by show ((k + 1 : Nat) : Int) + ((n - k - 1 : Nat) : Int) ≤ 30; omega, by show (k : Int) + ((n - k - 1 : Nat) : Int) ≤ 30; omega⟩, fun g1 e2 => ?_⟩
  have f1 : FrP (Sal t) h g1 := by subst e2; exact FrP.cp (fun p => Or.inr (by omega))
  have y1 : ∀ p, p + 1 < n → hpC g1 (t + 16) p = if k ≤ p then hpC h (t + 16) (p + 1) else hpC h (t + 16) p := fun p hp => by
    subst e2; rw [hpC_cm]
    by_cases c : k ≤ p
    · rw [if_pos (by omega), if_pos c]
    · rw [if_neg (by omega), if_neg c]
  have o1 : ∀ q p, q ≠ t + 16 → hpC g1 q p = hpC h q p := fun q p hq => by subst e2; exact hpC_co hq
  clear e2
  have hT1 := hT.fd (Sal_SD f1)
  rw [hT1.aliasLast_n, hT1.aliasLast_t]
  refine ⟨hT1.tag, hT1.tag, ⟨by omega, rfl, rfl, by omega, by omega, by omega, by show ((k + 1 : Nat) : Int) + ((n - k - 1 : Nat) : Int) ≤ 30; omega, by show (k : Int) + ((n - k - 1 : Nat) : Int) ≤ 30; omega⟩, fun g2 e3 => ?_⟩
  have f2 : FrP (Sal t) h g2 := by subst e3; exact f1.tr (FrP.cp (fun p => Or.inr (by omega)))
  have y2 : ∀ p, p + 1 < n → hpC g2 (t + 17) p = if k ≤ p then hpC h (t + 17) (p + 1) else hpC h (t + 17) p := fun p hp => by
    subst e3; rw [hpC_cm, o1 _ _ (by omega), o1 _ _ (by omega)]
    by_cases c : k ≤ p
    · rw [if_pos (by omega), if_pos c]
    · rw [if_neg (by omega), if_neg c]
  have o2 : ∀ q p, q ≠ t + 17 → hpC g2 q p = hpC g1 q p := fun q p hq => by subst e3; exact hpC_co hq
  clear e3
  have hT2 := hT.fd (Sal_SD f2)
  rw [hT2.aliases_n]
  refine ⟨hT2.tag, ⟨by omega, hT2.aliases_a.tag⟩, sp_Ndrop (n := n) hT2.aliases_a (by rw [o2 _ _ (by omega), o1 _ _ (by omega), b3.1, hn]) (by omega) (by omega) (by omega) (by omega) (fun g3 f3 c3 q3 _ => ?_)⟩
  have F3 : FrP (Sal t) h g3 := f2.tr (f3.wk (fun q p z => by unfold Snl at z; unfold Sal; omega))
  have E : eqC h g3 t (t + 12) := F3.eqC (fun q p h1 h2 z => by unfold Sal at z; omega)
  have E2 : eqC h g3 (t + 18) (t + 22) := F3.eqC (fun q p h1 h2 z => by unfold Sal at z; omega)
  have eR : eqR w (dropW w k) := fun p hp h8 _ => (dropW_low (by omega) h8).symm
  have L : ∀ p, p < 650 → p ≠ 8 → dropW w k p = w p := fun p h1 h2 => dropW_low h1 h2
  have n8 : dropW w k 8 = ((n - 1 : Nat) : Int) := by rw [dropW_8]; omega
  have o16 : ∀ p, hpC g3 (t + 16) p = hpC g1 (t + 16) p := fun p => by rw [f3.2.2 _ _ (by unfold Snl; omega), o2 _ _ (by omega)]
  have o17 : ∀ p, hpC g3 (t + 17) p = hpC g2 (t + 17) p := fun p => f3.2.2 _ _ (by unfold Snl; omega)
  have o14 : ∀ q p, (q = t + 14 ∨ q = t + 15) → hpC g2 q p = hpC h q p := fun q p hq => by rw [o2 _ _ (by omega), o1 _ _ (by omega)]
  refine H g3 F3 (TR.al hV a (hT.fd (Sal_SD F3)) (E.sub (by omega) (by omega)) E2 (E.C _ _ (by omega) (by omega)) (fun p h1 h2 => (L p h1 h2).symm) (by rw [n8]; exact c3) (fun q hq => ?_))
  rw [n8] at hq
  obtain ⟨z1, z2⟩ := q3 q (by omega)
  have ok := hV.2.2.2.2.2.1
  have S13 := a.2.2.2.1
  rw [z1, z2, o16, o17, y1 q (by omega), y2 q (by omega), dropW_of (by omega) (by omega), dropW_to (by omega) (by omega), o14 _ _ (Or.inl rfl), o14 _ _ (Or.inl rfl), o14 _ _ (Or.inr rfl), o14 _ _ (Or.inr rfl)]
  by_cases c : k ≤ q
  · simp only [if_pos c]
    refine ⟨?_, ?_, h16 (q + 1) (by omega), h17 (q + 1) (by omega)⟩
    · rw [b3.2 (q + 1) (by omega), wordW_ext (v := dropW w k) (o' := 650 + 10 * q) (fun i hi => by rw [dropW_name (by omega) (by omega) hi, if_pos c])]
    · rw [S13 (q + 1) (by omega), keyW_ext (v := dropW w k) (o' := 650 + 10 * q) hV eR (ok (q + 1) (by omega)) (fun i hi => by rw [dropW_name (by omega) (by omega) hi, if_pos c])]
  · simp only [if_neg c]
    refine ⟨?_, ?_, h16 q (by omega), h17 q (by omega)⟩
    · rw [b3.2 q (by omega), wordW_ext (v := dropW w k) (o' := 650 + 10 * q) (fun i hi => by rw [dropW_name (by omega) (by omega) hi, if_neg c])]
    · rw [S13 q (by omega), keyW_ext (v := dropW w k) (o' := 650 + 10 * q) hV eR (ok q (by omega)) (fun i hi => by rw [dropW_name (by omega) (by omega) hi, if_neg c])]
/-- the reference drops an alias -/
def Srow (m : Nat) : Nat → Nat → Prop := fun q p => q = m + 1 ∧ p < 1010
theorem Srow_off (m : Nat) : offM m (Srow m) := by
  intro p _ z
  have : m = m + 1 := z.1
  omega
theorem sp_dropsAlias {h : Hp} {m : Nat} {w : Nat → Int} (a : RD h m w) (hV : V w) {k : Nat} (hk : (k : Int) < w 8) {d mc ms : Nat} {R : PR} {o2 o3 : Option AV} (H : ∀ h', FrP (Srow m) h h' → RD h' m (dropW w k) → R none h') : Wp m_M_dropsAlias 0 [some (xR m), some (xI (k : Int)), o2, o3] [] h d mc ms R := by
  have v0 := hV.1.1
  have v1 := hV.1.2.1
  have v2 := hV.1.2.2.1
  have v3 := hV.1.2.2.2.1
  have v4 := hV.1.2.2.2.2.1
  have v5 := hV.1.2.2.2.2.2.1
  have v6 := hV.1.2.2.2.2.2.2.1
  have v7 := hV.1.2.2.2.2.2.2.2.1
  have v8 := hV.1.2.2.2.2.2.2.2.2.1
  have v9 := hV.1.2.2.2.2.2.2.2.2.2
  obtain ⟨n, hn⟩ : ∃ n : Nat, w 8 = (n : Int) := ⟨(w 8).toNat, by omega⟩
  apply f_M_dropsAlias_0
  have L : ∀ (j q : Nat) (g : Hp) (o1 o3 : Option AV), q + j = n - 1 → k ≤ q → FrP (Srow m) h g → (∀ p, p < 1010 → hpC g (m + 1) p = if 650 ≤ p ∧ p < 650 + 10 * q ∨ 950 ≤ p ∧ p < 950 + q ∨ 980 ≤ p ∧ p < 980 + q then dropW w k p else w p) → Wp m_M_dropsAlias 2 [some (xR m), o1, some (xI (q : Int)), o3] [] g d mc ms R := by
    intro j
    induction j with
    | zero =>
      intro q g o1 o3 hq hkq f c
      have ag := a.1.fo f (Srow_off m)
      have c8 : hpC g (m + 1) 8 = (n : Int) := by rw [c 8 (by omega), if_neg (by omega), hn]
      apply f_M_dropsAlias_2
      rw [ag.row_n, ag.row_t, tn_8, c8, ab_1 (by omega), if_neg (by omega), as_1 (by omega) (by omega)]
      refine ⟨ag.tag, ⟨rfl, by omega, by decide⟩, ag.tag, ⟨rfl, by omega, by decide⟩, ⟨rfl, by omega, by decide⟩, fun g1 e1 => ?_⟩
      have f1 : FrP (Srow m) g g1 := by subst e1; exact FrP.up ⟨rfl, by omega⟩
      subst e1
      refine H _ (f.tr f1) ⟨a.1.fo (f.tr f1) (Srow_off m), fun p hp => ?_⟩
      by_cases e : p = 8
      · subst e; rw [hpC_same, dropW_8]; omega
      · rw [hpC_o2 e, c p hp]
        split
        · rfl
        · unfold dropW
          rw [if_neg e, if_neg (by omega), if_neg (by omega), if_neg (by omega)]
    | succ j ih =>
      intro q g o1 o3 hq hkq f c
      have ag := a.1.fo f (Srow_off m)
      have c8 : hpC g (m + 1) 8 = (n : Int) := by rw [c 8 (by omega), if_neg (by omega), hn]
      apply f_M_dropsAlias_2
      rw [ag.row_n, ag.row_t, tn_8, c8, ab_1 (by omega), if_pos (by omega)]
      refine ⟨ag.tag, ⟨rfl, by omega, by decide⟩, ?_⟩
      have I : ∀ (e i : Nat) (g : Hp) (o1 : Option AV), i + e = 10 → FrP (Srow m) h g → (∀ p, p < 1010 → hpC g (m + 1) p = if 650 ≤ p ∧ p < 650 + 10 * q + i ∨ 950 ≤ p ∧ p < 950 + q ∨ 980 ≤ p ∧ p < 980 + q then dropW w k p else w p) → Wp m_M_dropsAlias 17 [some (xR m), o1, some (xI (q : Int)), some (xI (i : Int))] [] g d mc ms R := by
        intro e
        induction e with
        | zero =>
          intro i g o1 hi f c
          obtain rfl : i = 10 := by omega
          have ag := a.1.fo f (Srow_off m)
          apply f_M_dropsAlias_17
          rw [if_neg (by decide), ag.row_n, ag.row_t, aa_950 (by omega), ab_1 (by omega), Int.toNat_natCast, Int.toNat_natCast, c _ (by omega), if_neg (by omega), ab_1 (by omega)]
          refine ⟨ag.tag, ag.tag, ⟨rfl, by omega, by show ((950 + q + 1 : Nat) : Int) < 24240; omega⟩, ⟨rfl, by omega, by show ((950 + q : Nat) : Int) < 24240; omega⟩, fun g1 e1 => ?_⟩
          have f1 : FrP (Srow m) h g1 := by subst e1; exact f.tr (FrP.up ⟨rfl, by omega⟩)
          have x1 : hpC g1 (m + 1) (950 + q) = w (950 + q + 1) := by subst e1; rw [hpC_same]
          have y1 : ∀ p, p ≠ 950 + q → hpC g1 (m + 1) p = hpC g (m + 1) p := fun p hp => by subst e1; exact hpC_o2 hp
          clear e1
          have ag1 := a.1.fo f1 (Srow_off m)
          rw [ag1.row_n, ag1.row_t, aa_980 (by omega), ab_1 (by omega), Int.toNat_natCast, Int.toNat_natCast, y1 _ (by omega), c _ (by omega), if_neg (by omega)]
          refine ⟨ag1.tag, ag1.tag, ⟨rfl, by omega, by show ((980 + q + 1 : Nat) : Int) < 24240; omega⟩, ⟨rfl, by omega, by show ((980 + q : Nat) : Int) < 24240; omega⟩, fun g2 e2 => ?_⟩
          have f2 : FrP (Srow m) h g2 := by subst e2; exact f1.tr (FrP.up ⟨rfl, by omega⟩)
          have x2 : hpC g2 (m + 1) (980 + q) = w (980 + q + 1) := by subst e2; rw [hpC_same]
          have y2 : ∀ p, p ≠ 980 + q → hpC g2 (m + 1) p = hpC g1 (m + 1) p := fun p hp => by subst e2; exact hpC_o2 hp
          clear e2
          refine ih (q + 1) g2 _ _ (by omega) (by omega) f2 (fun p hp => ?_)
          by_cases e9 : p = 980 + q
          · subst e9
            rw [x2, if_pos (by omega), dropW_to (by omega) (by omega), if_pos hkq]; rfl
          · rw [y2 p e9]
            by_cases e5 : p = 950 + q
            · subst e5
              rw [x1, if_pos (by omega), dropW_of (by omega) (by omega), if_pos hkq]; rfl
            · rw [y1 p e5, c p hp]
              by_cases cc : 650 ≤ p ∧ p < 650 + 10 * q + 10 ∨ 950 ≤ p ∧ p < 950 + q ∨ 980 ≤ p ∧ p < 980 + q
              · rw [if_pos cc, if_pos (by omega)]
              · rw [if_neg cc, if_neg (by omega)]
        | succ e ih2 =>
          intro i g o1 hi f c
          have ag := a.1.fo f (Srow_off m)
          apply f_M_dropsAlias_17
          rw [if_pos (by omega), ag.row_n, ag.row_t, ab_1 (by omega), am_10 (by omega), am_10 (by omega), aa_650 (by omega), aa_650 (by omega), ai_add_nn (by omega), ai_add_nn (by omega), Int.toNat_natCast, Int.toNat_natCast, c _ (by omega), if_neg (by omega), ab_1 (by omega)]
          refine ⟨ag.tag, ag.tag, ⟨rfl, by omega, by show ((650 + 10 * (q + 1) + i : Nat) : Int) < 24240; omega⟩, ⟨rfl, by omega, by show ((650 + 10 * q + i : Nat) : Int) < 24240; omega⟩, fun g1 e1 => ?_⟩
          have f1 : FrP (Srow m) h g1 := by subst e1; exact f.tr (FrP.up ⟨rfl, by omega⟩)
          have x1 : hpC g1 (m + 1) (650 + 10 * q + i) = w (650 + 10 * (q + 1) + i) := by subst e1; rw [hpC_same]
          have y1 : ∀ p, p ≠ 650 + 10 * q + i → hpC g1 (m + 1) p = hpC g (m + 1) p := fun p hp => by subst e1; exact hpC_o2 hp
          clear e1
          refine ih2 (i + 1) g1 _ (by omega) f1 (fun p hp => ?_)
          by_cases ee : p = 650 + 10 * q + i
          · subst ee
            rw [x1, if_pos (by omega), dropW_name (by omega) (by omega) (by omega), if_pos hkq]
          · rw [y1 p ee, c p hp]
            by_cases cc : 650 ≤ p ∧ p < 650 + 10 * q + i ∨ 950 ≤ p ∧ p < 950 + q ∨ 980 ≤ p ∧ p < 980 + q
            · rw [if_pos cc, if_pos (by omega)]
            · rw [if_neg cc, if_neg (by omega)]
      exact I 10 0 g _ (by omega) f (fun p hp => by rw [c p hp, Nat.add_zero])
  refine L (n - 1 - k) k h _ _ (by omega) (Nat.le_refl _) FrP.rf (fun p hp => ?_)
  rw [a.2 p hp]
  by_cases cc : 650 ≤ p ∧ p < 650 + 10 * k ∨ 950 ≤ p ∧ p < 950 + k ∨ 980 ≤ p ∧ p < 980 + k
  · rw [if_pos cc]
    unfold dropW
    rw [if_neg (by omega), if_neg (by omega), if_neg (by omega), if_neg (by omega)]
  · rw [if_neg cc]
