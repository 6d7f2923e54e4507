/-! ===== stepped; fewest and then of the class ===== -/
def setW (w : Nat → Int) (q : Nat) (v : Int) : Nat → Int := fun p => if p = q then v else w p
theorem setW_ne {w : Nat → Int} {q : Nat} {v : Int} {p : Nat} (h : p ≠ q) : setW w q v p = w p := if_neg h
theorem setW_same (w : Nat → Int) (q : Nat) (v : Int) : setW w q v q = v := if_pos rfl
theorem okName_ext {w w' : Nat → Int} {o o' : Nat} (h : ∀ i, i < 10 → w' (o' + i) = w (o + i)) (hn : okName w o) : okName w' o' := by
  obtain ⟨n, h1, h2, h3, h4⟩ := hn
  exact ⟨n, h1, h2, fun i hi => by rw [h i (by omega)]; exact h3 i hi, fun i hi hi2 => by rw [h i hi2]; exact h4 i hi hi2⟩
theorem V_step {w : Nat → Int} (hV : V w) {st : Int} (hst : 1 ≤ st ∧ st ≤ 99) : V (setW w 2 st) := by
  obtain ⟨⟨v0, v1, v2, v3, v4, v5, v6, v7, v8, v9⟩, h1, h2, h3, h4, h5, h6, h7⟩ := hV
  have e : ∀ p, p ≠ 2 → setW w 2 st p = w p := fun p hp => setW_ne hp
  refine ⟨⟨v0, v1, by rw [setW_same]; exact hst, v3, v4, v5, v6, v7, v8, v9⟩, fun k hk => ?_, fun k hk i hi => ?_, fun k hk => ?_, fun k hk => ?_, fun k hk => ?_, fun s hs => ?_, fun k hk => ?_⟩
  · rw [e _ (by omega)]; exact h1 k hk
  · rw [e _ (by omega)] at hk; rw [e _ (by omega)]; exact h2 k hk i hi
  · rw [e _ (by omega)] at hk; exact okName_ext (fun i hi => e _ (by omega)) (h3 k hk)
  · rw [e _ (by omega)] at hk; exact okName_ext (fun i hi => e _ (by omega)) (h4 k hk)
  · rw [e _ (by omega)] at hk; exact okName_ext (fun i hi => e _ (by omega)) (h5 k hk)
  · have := h6 s hs
    rw [e 7 (by omega), e (280 + s) (by omega)]
    refine ⟨this.1, this.2.1, fun i hi => ?_, fun i j hi hj e1 e2 => ?_⟩
    · rw [e _ (by omega), e _ (by omega), e _ (by omega)]; exact this.2.2.1 i hi
    · rw [e _ (by omega), e _ (by omega)] at e1 e2; exact this.2.2.2 i j hi hj e1 e2
  · rw [e _ (by omega)] at hk; rw [e 7 (by omega), e _ (by omega), e _ (by omega)]; exact h7 k hk
theorem hW_step (w : Nat → Int) (st : Int) (s : Nat) : hW (setW w 2 st) s = hW w s := by
  funext c i
  exact setW_ne (by omega)
theorem sp_mstepped {h : Hp} {m : Nat} {w : Nat → Int} (a : RD h m w) (hV : V w) {k st : Int} {d mc ms : Nat} {R : PR} (hd : 6 ≤ d) {o3 o4 : Option AV} (H1 : ((0 ≤ k ∧ k < w 7) ∧ 1 ≤ st ∧ st ≤ 99) → ∀ h', FrP (SM m) h h' → R (some (xI (fewA (hW w k.toNat) (w (280 + k.toNat)).toNat st))) h') (H2 : ¬ ((0 ≤ k ∧ k < w 7) ∧ 1 ≤ st ∧ st ≤ 99) → R (some (xI (-1))) h) : Wp m_M_stepped 0 [some (xR m), some (xI k), some (xI st), o3, o4] [] h d mc ms R := by
  have v0 := hV.1.1
  have v1 := hV.1.2.1
  have v2 := hV.1.2.2.1
  have v3 := hV.1.2.2.2.1
  have v4 := hV.1.2.2.2.2.1
  have v5 := hV.1.2.2.2.2.2.1
  have v6 := hV.1.2.2.2.2.2.2.1
  have v7 := hV.1.2.2.2.2.2.2.2.1
  have v8 := hV.1.2.2.2.2.2.2.2.2.1
  have v9 := hV.1.2.2.2.2.2.2.2.2.2
  apply f_M_stepped_0
  refine ⟨⟨by omega, a.1.tag⟩, sp_isStreet a hV (by omega) (fun v e => ?_)⟩
  cases e
  by_cases c : 0 ≤ k ∧ k < w 7
  · rw [if_pos c, if_neg (by decide)]
    refine ⟨by omega, sp_isIn (fun v e => ?_)⟩
    cases e
    by_cases c1 : 1 ≤ st ∧ st ≤ 99
    · rw [if_pos c1, if_neg (by decide)]
      have H := H1 ⟨c, c1⟩
      obtain ⟨s, rfl⟩ : ∃ q : Nat, k = (q : Int) := ⟨k.toNat, by omega⟩
      rw [Int.toNat_natCast] at H
      have w2 : hpC h (m + 1) 2 = w 2 := a.2 2 (by omega)
      rw [a.1.row_n, a.1.row_t, tn_2]
      refine ⟨a.1.tag, ⟨rfl, by omega, by decide⟩, a.1.tag, ⟨rfl, by omega, by decide⟩, fun g1 e1 => ?_⟩
      have f1 : FrP (fun r p => r = m + 1 ∧ p = 2) h g1 := by subst e1; exact FrP.up ⟨rfl, rfl⟩
      have z1 : hpC g1 (m + 1) 2 = st := by subst e1; rw [hpC_same]
      clear e1
      have a1 : RD g1 m (setW w 2 st) := by
        refine ⟨a.1.fo f1 (fun p _ z => by omega), fun p hp => ?_⟩
        by_cases e : p = 2
        · subst e; rw [z1, setW_same]
        · rw [setW_ne e, f1.2.2 _ _ (fun z => e z.2)]; exact a.2 p hp
      refine ⟨⟨by omega, a1.1.tag⟩, sp_laysThen a1 (V_step hV c1) (s := s) (by omega) (by omega) (fun h3 f3 _ v e => ?_)⟩
      rw [hW_step, setW_same, setW_ne (by omega)] at e
      cases e
      have a3 := a1.fr f3
      rw [a3.1.row_n, a3.1.row_t, w2]
      refine ⟨a3.1.tag, ⟨rfl, by omega, by decide⟩, fun g4 e4 => ?_⟩
      refine H g4 ?_
      subst e4
      refine ⟨?_, ?_, fun r p hS => ?_⟩
      · show h3.1 = h.1; rw [f3.1, f1.1]
      · show hpT h3 = hpT h; rw [f3.2.1, f1.2.1]
      · by_cases e : r = m + 1 ∧ p = 2
        · rw [e.1, e.2, hpC_same, w2]
        · rw [hpC_ne (by omega), f3.2.2 r p hS, f1.2.2 r p e]
    · rw [if_neg c1, if_pos rfl]; exact H2 (fun z => c1 z.2)
  · rw [if_neg c, if_pos rfl]; exact H2 (fun z => c z.1)
theorem sp_cstepped {h : Hp} {x : Nat} {w : Nat → Int} (s : sAt h x) (a : TR h (x + 43) w) (hV : V w) (nu : numAt h (x + 36)) {k st : Int} {d mc ms : Nat} {R : PR} (hd : 4 ≤ d) (H1 : ((0 ≤ k ∧ k < w 7) ∧ 1 ≤ st ∧ st ≤ 99) → ∀ h', FrP (SN (x + 36)) h h' → (fewA (hW w k.toNat) (w (280 + k.toNat)).toNat st ≠ -1 → ∀ q, q < (w (280 + k.toNat)).toNat → hpC h' (x + 37) q = thenA (hW w k.toNat) (w (280 + k.toNat)).toNat st q) → R (some (xI (fewA (hW w k.toNat) (w (280 + k.toNat)).toNat st))) h') (H2 : ¬ ((0 ≤ k ∧ k < w 7) ∧ 1 ≤ st ∧ st ≤ 99) → R (some (xI (-1))) h) : Wp m_S_stepped 0 [some (xR x), some (xI k), some (xI st)] [] h d mc ms R := by
  have v0 := hV.1.1
  have v1 := hV.1.2.1
  have v2 := hV.1.2.2.1
  have v3 := hV.1.2.2.2.1
  have v4 := hV.1.2.2.2.2.1
  have v5 := hV.1.2.2.2.2.2.1
  have v6 := hV.1.2.2.2.2.2.2.1
  have v7 := hV.1.2.2.2.2.2.2.2.1
  have v8 := hV.1.2.2.2.2.2.2.2.2.1
  have v9 := hV.1.2.2.2.2.2.2.2.2.2
  have hT := a.1.1
  have hR := a.1.2.1
  have b1 : NW h (x + 43 + 7) w (w 7) 180 := a.1.2.2.1
  have b2 : NW h (x + 43 + 10) w (w 6) 60 := a.1.2.2.2.1
  have b3 : NW h (x + 43 + 13) w (w 8) 650 := a.1.2.2.2.2.1
  have hw : HW h (x + 43 + 18) w := a.1.2.2.2.2.2.2.1
  have h7 : hpC h (x + 43) 7 = w 9 := a.1.2.2.2.2.2.2.2
  apply f_S_stepped_0
  rw [s.now_n, hT.streets_n]
  refine ⟨s.tag, hT.tag, ⟨by omega, hT.streets_a.tag⟩, sp_holds hT.streets_a.tag b1.1 (fun v e => ?_)⟩
  cases e
  by_cases c : 0 ≤ k ∧ k < w 7
  · rw [if_pos c, if_neg (by decide)]
    by_cases c1 : 1 ≤ st ∧ st ≤ 99
    · rw [if_neg (by omega), if_neg (by omega)]
      have H := H1 ⟨c, c1⟩
      obtain ⟨q, rfl⟩ : ∃ q : Nat, k = (q : Int) := ⟨k.toNat, by omega⟩
      rw [Int.toNat_natCast] at H
      rw [s.now_n, hT.homes_n, s.numbering_n]
      refine ⟨s.tag, s.tag, hT.tag, ⟨by omega, nu.tag⟩, sp_settle nu hT.homes_a hw hV (by omega) (by omega) c1 (by omega) (fun h' f x v e => ?_)⟩
      cases e
      exact H h' f x
    · by_cases c5 : st < 1
      · rw [if_pos c5]; exact H2 (fun z => c1 z.2)
      · rw [if_neg c5, if_pos (by omega)]; exact H2 (fun z => c1 z.2)
  · rw [if_neg c, if_pos rfl]; exact H2 (fun z => c z.1)
theorem sp_cfewest {h : Hp} {x : Nat} {w : Nat → Int} (s : sAt h x) (a : TR h (x + 43) w) (hV : V w) (nu : numAt h (x + 36)) {k : Int} {d mc ms : Nat} {R : PR} (hd : 5 ≤ d) (H1 : (0 ≤ k ∧ k < w 7) → ∀ h', FrP (SN (x + 36)) h h' → (fewA (hW w k.toNat) (w (280 + k.toNat)).toNat (w 2) ≠ -1 → ∀ q, q < (w (280 + k.toNat)).toNat → hpC h' (x + 37) q = thenA (hW w k.toNat) (w (280 + k.toNat)).toNat (w 2) q) → R (some (xI (fewA (hW w k.toNat) (w (280 + k.toNat)).toNat (w 2)))) h') (H2 : ¬ (0 ≤ k ∧ k < w 7) → R (some (xI (-1))) h) : Wp m_S_fewest 0 [some (xR x), some (xI k)] [] h d mc ms R := by
  have v2 := hV.1.2.2.1
  have hT := a.1.1
  have hR := a.1.2.1
  have b1 : NW h (x + 43 + 7) w (w 7) 180 := a.1.2.2.1
  have b2 : NW h (x + 43 + 10) w (w 6) 60 := a.1.2.2.2.1
  have b3 : NW h (x + 43 + 13) w (w 8) 650 := a.1.2.2.2.2.1
  have hw : HW h (x + 43 + 18) w := a.1.2.2.2.2.2.2.1
  have h7 : hpC h (x + 43) 7 = w 9 := a.1.2.2.2.2.2.2.2
  apply f_S_fewest_0
  rw [s.now_n, hT.rules_n, hR.2.2.1]
  refine ⟨s.tag, hT.tag, hT.rules_a.tag, ⟨by omega, s.tag⟩, sp_cstepped s a hV nu (by omega) (fun z h' f x v e => ?_) (fun z v e => ?_)⟩
  · cases e; exact H1 z.1 h' f x
  · cases e; exact H2 (fun y => z ⟨y, v2⟩)
theorem sAt.fr {h h' : Hp} {x : Nat} {S : Nat → Nat → Prop} (s : sAt h x) (f : FrP S h h') (hS : ∀ p, p ≤ 8 → ¬ S x p) : sAt h' x := by
  obtain ⟨s0, s1, s2, s3, s4, s5, s6, s7, s8, s9⟩ := s
  refine ⟨by rw [f.2.1]; exact s0, ?_, ?_, ?_, ?_, ?_, ?_, ?_, ?_, ?_⟩
  · rw [f.2.2 _ _ (hS 0 (by omega))]; exact s1
  · rw [f.2.2 _ _ (hS 1 (by omega))]; exact s2
  · rw [f.2.2 _ _ (hS 2 (by omega))]; exact s3
  · rw [f.2.2 _ _ (hS 3 (by omega))]; exact s4
  · rw [f.2.2 _ _ (hS 4 (by omega))]; exact s5
  · rw [f.2.2 _ _ (hS 5 (by omega))]; exact s6
  · rw [f.2.2 _ _ (hS 6 (by omega))]; exact s7
  · rw [f.2.2 _ _ (hS 7 (by omega))]; exact s8
  · rw [f.2.2 _ _ (hS 8 (by omega))]; exact s9
theorem sp_cthen {h : Hp} {x : Nat} {w : Nat → Int} (s : sAt h x) (a : TR h (x + 43) w) (hV : V w) (nu : numAt h (x + 36)) {k i : Int} {d mc ms : Nat} {R : PR} (hd : 6 ≤ d) (H1 : isH w k i → ∀ h', FrP (SN (x + 36)) h h' → R (some (xI (if fewA (hW w k.toNat) (w (280 + k.toNat)).toNat (w 2) = -1 then -1 else thenA (hW w k.toNat) (w (280 + k.toNat)).toNat (w 2) i.toNat))) h') (H2 : ¬ isH w k i → R (some (xI (-1))) h) : Wp m_S_then 0 [some (xR x), some (xI k), some (xI i)] [] h d mc ms R := by
  have v0 := hV.1.1
  have v1 := hV.1.2.1
  have v2 := hV.1.2.2.1
  have v3 := hV.1.2.2.2.1
  have v4 := hV.1.2.2.2.2.1
  have v5 := hV.1.2.2.2.2.2.1
  have v6 := hV.1.2.2.2.2.2.2.1
  have v7 := hV.1.2.2.2.2.2.2.2.1
  have v8 := hV.1.2.2.2.2.2.2.2.2.1
  have v9 := hV.1.2.2.2.2.2.2.2.2.2
  apply f_S_then_0
  refine ⟨⟨by omega, s.tag⟩, sp_cisHouse s a hV (by omega) (fun z v e => ?_) (fun z v e => ?_)⟩
  · cases e
    rw [if_neg (by decide)]
    have H := H1 z
    obtain ⟨c, c1, c2⟩ := z
    refine ⟨⟨by omega, s.tag⟩, sp_cfewest s a hV nu (by omega) (fun _ h' f x2 v e => ?_) (fun z => absurd c z)⟩
    cases e
    have H := H h' f
    have s := s.fr f (fun p _ z => by rcases z with ⟨z, _⟩ | z <;> omega)
    have nu := nu.fr f
    obtain ⟨q, rfl⟩ : ∃ q : Nat, i = (q : Int) := ⟨i.toNat, by omega⟩
    have hn := hV.hs (s := k.toNat) (by omega)
    rw [Int.toNat_natCast] at H
    by_cases c3 : fewA (hW w k.toNat) (w (280 + k.toNat)).toNat (w 2) = -1
    · rw [if_pos c3]; rw [if_pos c3] at H; exact H
    · rw [if_neg c3, s.numbering_n, nu.due_n, nu.due_t, Int.toNat_natCast, x2 c3 q (by omega)]
      rw [if_neg c3] at H
      exact ⟨s.tag, nu.tag, ⟨rfl, by omega, by show (q : Int) < 12; omega⟩, H⟩
  · cases e
    rw [if_pos rfl]; exact H2 z
