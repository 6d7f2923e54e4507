/-! ===== a street takes a name ===== -/
def addW (w : Nat → Int) (s : Nat) : Nat → Int := fun p =>
  if p = 8 then w 8 + 1
  else if 650 + 10 * (w 8).toNat ≤ p ∧ p < 660 + 10 * (w 8).toNat then w (180 + 10 * s + (p - (650 + 10 * (w 8).toNat)))
  else if p = 950 + (w 8).toNat then (s : Int)
  else if p = 980 + (w 8).toNat then w 9 + w 1
  else w p
def stpW (w : Nat → Int) (s k : Nat) : Nat → Int := fun p => if 180 + 10 * s ≤ p ∧ p < 190 + 10 * s then w (60 + 10 * k + (p - (180 + 10 * s))) else w p
theorem addW_8 (w : Nat → Int) (s : Nat) : addW w s 8 = w 8 + 1 := by unfold addW; rw [if_pos rfl]
theorem addW_low {w : Nat → Int} {s p : Nat} (h : p < 650) (h8 : p ≠ 8) : addW w s p = w p := by unfold addW; rw [if_neg h8, if_neg (by omega), if_neg (by omega), if_neg (by omega)]
theorem addW_new {w : Nat → Int} {s i : Nat} (hi : i < 10) : addW w s (650 + 10 * (w 8).toNat + i) = w (180 + 10 * s + i) := by
  unfold addW; rw [if_neg (by omega), if_pos (by omega)]; congr 1; omega
theorem addW_old {w : Nat → Int} {s a i : Nat} (ha : (a : Int) < w 8) (h8 : w 8 ≤ 30) (hi : i < 10) : addW w s (650 + 10 * a + i) = w (650 + 10 * a + i) := by
  unfold addW; rw [if_neg (by omega), if_neg (by omega), if_neg (by omega), if_neg (by omega)]
theorem addW_of {w : Nat → Int} {s : Nat} (h8 : 0 ≤ w 8 ∧ w 8 < 30) : addW w s (950 + (w 8).toNat) = (s : Int) := by
  unfold addW; rw [if_neg (by omega), if_neg (by omega), if_pos rfl]
theorem addW_ofo {w : Nat → Int} {s a : Nat} (ha : (a : Int) < w 8) (h8 : w 8 < 30) : addW w s (950 + a) = w (950 + a) := by
  unfold addW; rw [if_neg (by omega), if_neg (by omega), if_neg (by omega), if_neg (by omega)]
theorem addW_to {w : Nat → Int} {s : Nat} (h8 : 0 ≤ w 8 ∧ w 8 < 30) : addW w s (980 + (w 8).toNat) = w 9 + w 1 := by
  unfold addW; rw [if_neg (by omega), if_neg (by omega), if_neg (by omega), if_pos rfl]
theorem addW_too {w : Nat → Int} {s a : Nat} (ha : (a : Int) < w 8) (h8 : w 8 < 30) : addW w s (980 + a) = w (980 + a) := by
  unfold addW; rw [if_neg (by omega), if_neg (by omega), if_neg (by omega), if_neg (by omega)]
theorem addW_V {w : Nat → Int} (hV : V w) {s : Nat} (hs : (s : Int) < w 7) (h30 : w 8 < 30) : V (addW w s) := by
  obtain ⟨⟨v0, v1, v2, v3, v4, v5, v6, v7, v8, v9⟩, w1, w2, w3, w4, w5, w6, w7⟩ := hV
  have L : ∀ p, p < 650 → p ≠ 8 → addW w s p = w p := fun p h1 h2 => addW_low h1 h2
  refine ⟨⟨by rw [L 0 (by omega) (by omega)]; exact v0, by rw [L 1 (by omega) (by omega)]; exact v1, by rw [L 2 (by omega) (by omega)]; exact v2, by rw [L 3 (by omega) (by omega)]; exact v3, by rw [L 4 (by omega) (by omega)]; exact v4, by rw [L 5 (by omega) (by omega)]; exact v5, by rw [L 6 (by omega) (by omega)]; exact v6, by rw [L 7 (by omega) (by omega)]; exact v7, by rw [addW_8]; omega, by rw [L 9 (by omega) (by omega)]; exact v9⟩, fun j hj => ?_, fun j hj i hi => ?_, fun j hj => ?_, fun j hj => ?_, fun j hj => ?_, fun q hq => ?_, fun j hj => ?_⟩
  · rw [L _ (by omega) (by omega)]; exact w1 j hj
  · rw [L 5 (by omega) (by omega)] at hj
    rw [L _ (by omega) (by omega)]; exact w2 j hj i hi
  · rw [L 6 (by omega) (by omega)] at hj
    exact okN_ext (fun i hi => (L _ (by omega) (by omega)).symm) (w3 j hj)
  · rw [L 7 (by omega) (by omega)] at hj
    exact okN_ext (fun i hi => (L _ (by omega) (by omega)).symm) (w4 j hj)
  · rw [addW_8] at hj
    by_cases c : (j : Int) < w 8
    · exact okN_ext (fun i hi => by rw [addW_old c v8.2 hi]) (w5 j c)
    · rw [show j = (w 8).toNat by omega]
      exact okN_ext (fun i hi => by rw [addW_new hi]) (w4 s hs)
  · obtain ⟨z1, z2, z3, z4⟩ := w6 q hq
    rw [L (280 + q) (by omega) (by omega), L 7 (by omega) (by omega)]
    refine ⟨z1, z2, fun i hi => ?_, fun i j hi hj => ?_⟩
    · rw [L _ (by omega) (by omega), L _ (by omega) (by omega), L _ (by omega) (by omega)]; exact z3 i hi
    · rw [L _ (by omega) (by omega), L _ (by omega) (by omega), L _ (by omega) (by omega), L _ (by omega) (by omega)]; exact z4 i j hi hj
  · rw [addW_8] at hj
    rw [L 7 (by omega) (by omega)]
    by_cases c : (j : Int) < w 8
    · rw [addW_ofo c h30, addW_too c h30]; exact w7 j c
    · rw [show j = (w 8).toNat by omega, addW_of (by omega), addW_to (by omega)]; omega
theorem stpW_new {w : Nat → Int} {s k i : Nat} (hi : i < 10) : stpW w s k (180 + 10 * s + i) = w (60 + 10 * k + i) := by
  unfold stpW; rw [if_pos (by omega)]; congr 1; omega
theorem stpW_o {w : Nat → Int} {s k p : Nat} (h : p < 180 + 10 * s ∨ 190 + 10 * s ≤ p) : stpW w s k p = w p := by unfold stpW; rw [if_neg (by omega)]
theorem stpW_V {w : Nat → Int} (hV : V w) {s k : Nat} (hs : (s : Int) < w 7) (hk : (k : Int) < w 6) : V (stpW w s k) := by
  obtain ⟨⟨v0, v1, v2, v3, v4, v5, v6, v7, v8, v9⟩, w1, w2, w3, w4, w5, w6, w7⟩ := hV
  have L : ∀ p, p < 180 ∨ 280 ≤ p → stpW w s k p = w p := fun p h => stpW_o (by omega)
  refine ⟨⟨by rw [L 0 (by omega)]; exact v0, by rw [L 1 (by omega)]; exact v1, by rw [L 2 (by omega)]; exact v2, by rw [L 3 (by omega)]; exact v3, by rw [L 4 (by omega)]; exact v4, by rw [L 5 (by omega)]; exact v5, by rw [L 6 (by omega)]; exact v6, by rw [L 7 (by omega)]; exact v7, by rw [L 8 (by omega)]; exact v8, by rw [L 9 (by omega)]; exact v9⟩, fun j hj => ?_, fun j hj i hi => ?_, fun j hj => ?_, fun j hj => ?_, fun j hj => ?_, fun q hq => ?_, fun j hj => ?_⟩
  · rw [L _ (by omega)]; exact w1 j hj
  · rw [L 5 (by omega)] at hj
    rw [L _ (by omega)]; exact w2 j hj i hi
  · rw [L 6 (by omega)] at hj
    exact okN_ext (fun i hi => (L _ (by omega)).symm) (w3 j hj)
  · rw [L 7 (by omega)] at hj
    by_cases c : j = s
    · subst c; exact okN_ext (fun i hi => by rw [stpW_new hi]) (w3 k hk)
    · exact okN_ext (fun i hi => by rw [stpW_o (by omega)]) (w4 j hj)
  · rw [L 8 (by omega)] at hj
    exact okN_ext (fun i hi => (L _ (by omega)).symm) (w5 j hj)
  · obtain ⟨z1, z2, z3, z4⟩ := w6 q hq
    rw [L (280 + q) (by omega), L 7 (by omega)]
    refine ⟨z1, z2, fun i hi => ?_, fun i j hi hj => ?_⟩
    · rw [L _ (by omega), L _ (by omega), L _ (by omega)]; exact z3 i hi
    · rw [L _ (by omega), L _ (by omega), L _ (by omega), L _ (by omega)]; exact z4 i j hi hj
  · rw [L 8 (by omega)] at hj
    rw [L (950 + j) (by omega), L (980 + j) (by omega), L 7 (by omega)]; exact w7 j hj
/-- the street's own alias of a word -/
def ownW (w : Nat → Int) (s W : Nat) (j i : Nat) : Int := fst1 (fun a => decide (wordW w (650 + 10 * a) = W ∧ w (950 + a) = (s : Int) ∧ ¬ w (980 + a) < w 9)) j i
theorem sp_cownAlias {h : Hp} {t : Nat} {w : Nat → Int} (a : TR h t w) (hV : V w) {s W : Nat} {d mc ms : Nat} {R : PR} (hd : 1 ≤ d) {o4 : Option AV} (H : R (some (xI (ownW w s W (w 8).toNat 0))) h) : Wp m_Town_ownAlias 0 [some (xR t), some (xI (s : Int)), some (xL (W : Int)), none, o4] [] h d mc ms R := by
  have v0 := hV.1.1
  have v1 := hV.1.2.1
  have v2 := hV.1.2.2.1
  have v3 := hV.1.2.2.2.1
  have v4 := hV.1.2.2.2.2.1
  have v5 := hV.1.2.2.2.2.2.1
  have v6 := hV.1.2.2.2.2.2.2.1
  have v7 := hV.1.2.2.2.2.2.2.2.1
  have v8 := hV.1.2.2.2.2.2.2.2.2.1
  have v9 := hV.1.2.2.2.2.2.2.2.2.2
  have hT := a.1.1
  have b3 : NW h (t + 13) w (w 8) 650 := a.1.2.2.2.2.1
  have h16 := a.1.2.2.2.2.2.1
  apply f_Town_ownAlias_0
  have L : ∀ j i : Nat, ((i + j : Nat) : Int) = w 8 → R (some (xI (ownW w s W j i))) h → Wp m_Town_ownAlias 3 [some (xR t), some (xI (s : Int)), some (xL (W : Int)), none, some (xI (i : Int))] [] h d mc ms R := by
    intro j
    induction j with
    | zero =>
      intro i hi H
      apply f_Town_ownAlias_3
      rw [hT.aliases_n, b3.1, if_neg (by omega)]
      exact ⟨hT.tag, hT.aliases_a.tag, H⟩
    | succ j ih =>
      intro i hi H
      simp only [ownW, fst1, decide_eq_true_eq] at H
      apply f_Town_ownAlias_3
      rw [hT.aliases_n, b3.1, if_pos (by omega), hT.aliases_a.word_n, hT.aliases_a.word_t, Int.toNat_natCast, b3.2 i (by omega), ab_1 (by omega), hT.aliasStreet_n, hT.aliasStreet_t, h16 i (by omega)]
      refine ⟨hT.tag, hT.aliases_a.tag, hT.tag, hT.aliases_a.tag, ⟨rfl, by omega, by show (i : Int) < 30; omega⟩, ?_⟩
      by_cases c : wordW w (650 + 10 * i) = W
      · rw [if_pos (al_cmp_eq.mpr (by omega))]
        refine ⟨hT.tag, ⟨rfl, by omega, by show (i : Int) < 30; omega⟩, ?_⟩
        by_cases c1 : w (950 + i) = (s : Int)
        · rw [if_pos c1]
          refine ⟨⟨hd, hT.tag⟩, sp_cLive a hV (by omega) (fun v e => ?_)⟩
          cases e
          by_cases c2 : w (980 + i) < w 9
          · rw [if_pos c2, if_pos rfl]
            rw [if_neg (fun z => z.2.2 c2)] at H
            exact ih (i + 1) (by omega) H
          · rw [if_neg c2, if_neg (by decide)]
            rw [if_pos ⟨c, c1, c2⟩] at H
            exact H
        · rw [if_neg c1]
          rw [if_neg (fun z => c1 z.2.1)] at H
          exact ih (i + 1) (by omega) H
      · rw [if_neg (fun z => c (by have := al_cmp_eq.mp z; omega))]
        rw [if_neg (fun z => c z.1)] at H
        exact ih (i + 1) (by omega) H
  exact L (w 8).toNat 0 (by omega) H
theorem sp_areSame {h : Hp} {m : Nat} {w : Nat → Int} (a : RD h m w) {o o' : Nat} (ho : o + 10 ≤ 1010) (ho' : o' + 10 ≤ 1010) (h1 : okName w o) (h2 : okName w o') {d mc ms : Nat} {R : PR} {o3 : Option AV} (H : R (some (xI (if wordW w o = wordW w o' then 1 else 0))) h) : Wp m_M_areSame 0 [some (xR (m + 1)), some (xI (o : Int)), some (xI (o' : Int)), o3] [] h d mc ms R := by
  apply f_M_areSame_0
  have L : ∀ j i : Nat, i + j = 10 → (∀ q, q < i → w (o + q) = w (o' + q)) → Wp m_M_areSame 2 [some (xR (m + 1)), some (xI (o : Int)), some (xI (o' : Int)), some (xI (i : Int))] [] h d mc ms R := by
    intro j
    induction j with
    | zero =>
      intro i hi c
      apply f_M_areSame_2
      rw [if_neg (by omega)]
      rw [if_pos ((wordW_inj h1 h2).mpr (fun q hq => c q (by omega)))] at H
      exact ⟨by simp, H⟩
    | succ j ih =>
      intro i hi c
      apply f_M_areSame_2
      rw [if_pos (by omega), a.1.row_t, ai_add_nn (by omega), ai_add_nn (by omega), Int.toNat_natCast, Int.toNat_natCast, a.2 _ (by omega), a.2 _ (by omega), ab_1 (by omega)]
      refine ⟨⟨rfl, by omega, by show ((o + i : Nat) : Int) < 24240; omega⟩, ⟨rfl, by omega, by show ((o' + i : Nat) : Int) < 24240; omega⟩, ?_⟩
      by_cases e : w (o + i) = w (o' + i)
      · rw [if_pos e]
        refine ih (i + 1) (by omega) (fun q hq => ?_)
        by_cases z : q = i
        · subst z; exact e
        · exact c q (by omega)
      · rw [if_neg e]
        rw [if_neg (fun z => e ((wordW_inj h1 h2).mp z i (by omega)))] at H
        exact ⟨by simp, H⟩
  exact L 10 0 (by omega) (fun q hq => by omega)
theorem sp_mownAlias {h : Hp} {m : Nat} {w : Nat → Int} (a : RD h m w) (hV : V w) {s k : Nat} (hk : (k : Int) < w 6) {d mc ms : Nat} {R : PR} (hd : 1 ≤ d) {o3 : Option AV} (H : R (some (xI (ownW w s (wordW w (60 + 10 * k)) (w 8).toNat 0))) h) : Wp m_M_ownAlias 0 [some (xR m), some (xI (s : Int)), some (xI (k : Int)), o3] [] h d mc ms R := by
  have v0 := hV.1.1
  have v1 := hV.1.2.1
  have v2 := hV.1.2.2.1
  have v3 := hV.1.2.2.2.1
  have v4 := hV.1.2.2.2.2.1
  have v5 := hV.1.2.2.2.2.2.1
  have v6 := hV.1.2.2.2.2.2.2.1
  have v7 := hV.1.2.2.2.2.2.2.2.1
  have v8 := hV.1.2.2.2.2.2.2.2.2.1
  have v9 := hV.1.2.2.2.2.2.2.2.2.2
  apply f_M_ownAlias_0
  have L : ∀ j i : Nat, ((i + j : Nat) : Int) = w 8 → R (some (xI (ownW w s (wordW w (60 + 10 * k)) j i))) h → Wp m_M_ownAlias 2 [some (xR m), some (xI (s : Int)), some (xI (k : Int)), some (xI (i : Int))] [] h d mc ms R := by
    intro j
    induction j with
    | zero =>
      intro i hi H
      apply f_M_ownAlias_2
      rw [a.1.row_n, a.1.row_t, tn_8, a.2 8 (by omega), if_neg (by omega)]
      exact ⟨a.1.tag, ⟨rfl, by omega, by decide⟩, H⟩
    | succ j ih =>
      intro i hi H
      simp only [ownW, fst1, decide_eq_true_eq] at H
      apply f_M_ownAlias_2
      rw [a.1.row_n, a.1.row_t, tn_8, a.2 8 (by omega), if_pos (by omega), aa_950 (by omega), Int.toNat_natCast, a.2 _ (by omega), ab_1 (by omega), am_10 (by omega), am_10 (by omega), aa_650 (by omega), aa_60 (by omega)]
      refine ⟨a.1.tag, ⟨rfl, by omega, by decide⟩, a.1.tag, ⟨rfl, by omega, by show ((950 + i : Nat) : Int) < 24240; omega⟩, ?_⟩
      by_cases c1 : w (950 + i) = (s : Int)
      · rw [if_pos c1]
        refine ⟨⟨hd, a.1.tag⟩, sp_mLive a (by omega) (fun v e => ?_)⟩
        cases e
        by_cases c2 : w (980 + i) < w 9
        · rw [if_pos c2, if_pos rfl]
          rw [if_neg (fun z => z.2.2 c2)] at H
          exact ih (i + 1) (by omega) H
        · rw [if_neg c2, if_neg (by decide), a.1.row_n]
          refine ⟨a.1.tag, by omega, sp_areSame a (by omega) (by omega) (hV.2.2.2.2.2.1 i (by omega)) (hV.2.2.2.1 k hk) (fun v e => ?_)⟩
          cases e
          by_cases c : wordW w (650 + 10 * i) = wordW w (60 + 10 * k)
          · rw [if_pos c, if_neg (by decide)]
            rw [if_pos ⟨c, c1, c2⟩] at H
            exact H
          · rw [if_neg c, if_pos rfl]
            rw [if_neg (fun z => c z.1)] at H
            exact ih (i + 1) (by omega) H
      · rw [if_neg c1]
        rw [if_neg (fun z => c1 z.2.1)] at H
        exact ih (i + 1) (by omega) H
  exact L (w 8).toNat 0 (by omega) H
def drpW (w : Nat → Int) (o : Int) : Nat → Int := if o = -1 then w else dropW w o.toNat
def rnW (w : Nat → Int) (s k : Nat) : Nat → Int := stpW (addW (drpW w (ownW w s (wordW w (60 + 10 * k)) (w 8).toNat 0)) s) s k
/-- there is room -/
def rnR (w : Nat → Int) (s k : Nat) : Prop := ownW w s (wordW w (60 + 10 * k)) (w 8).toNat 0 ≠ -1 ∨ w 8 < 30
theorem ownW_bd {w : Nat → Int} {s W : Nat} (h : ownW w s W (w 8).toNat 0 ≠ -1) : ∃ i : Nat, ownW w s W (w 8).toNat 0 = (i : Int) ∧ (i : Int) < w 8 := by
  obtain ⟨i, h1, h2, _⟩ := fst1_bd h
  exact ⟨i, h1, by omega⟩
theorem drpW_V {w : Nat → Int} (hV : V w) {s k : Nat} (hR : rnR w s k) : V (drpW w (ownW w s (wordW w (60 + 10 * k)) (w 8).toNat 0)) ∧ drpW w (ownW w s (wordW w (60 + 10 * k)) (w 8).toNat 0) 8 < 30 ∧ ∀ p, p < 650 → p ≠ 8 → drpW w (ownW w s (wordW w (60 + 10 * k)) (w 8).toNat 0) p = w p := by
  have v8 := hV.1.2.2.2.2.2.2.2.2.1
  by_cases c : ownW w s (wordW w (60 + 10 * k)) (w 8).toNat 0 = -1
  · have e : drpW w (ownW w s (wordW w (60 + 10 * k)) (w 8).toNat 0) = w := by unfold drpW; rw [if_pos c]
    rw [e]
    rcases hR with z | z
    · exact absurd c z
    · exact ⟨hV, z, fun p _ _ => rfl⟩
  · obtain ⟨i, i1, i2⟩ := ownW_bd c
    have e : drpW w (ownW w s (wordW w (60 + 10 * k)) (w 8).toNat 0) = dropW w i := by unfold drpW; rw [if_neg c, i1, Int.toNat_natCast]
    rw [e]
    exact ⟨dropW_V hV i2, by rw [dropW_8]; omega, fun p h1 h2 => dropW_low h1 h2⟩
theorem rnW_V {w : Nat → Int} (hV : V w) {s k : Nat} (hs : (s : Int) < w 7) (hk : (k : Int) < w 6) (hR : rnR w s k) : V (rnW w s k) := by
  obtain ⟨d1, d2, d3⟩ := drpW_V hV hR
  have e7 := d3 7 (by omega) (by omega)
  have e6 := d3 6 (by omega) (by omega)
  unfold rnW
  generalize drpW w (ownW w s (wordW w (60 + 10 * k)) (w 8).toNat 0) = u at *
  have A := addW_V d1 (s := s) (by omega) d2
  exact stpW_V A (by rw [addW_low (by omega) (by omega)]; omega) (by rw [addW_low (by omega) (by omega)]; omega)
/-- the class puts an alias -/
theorem sp_isFull {h : Hp} {r l n : Nat} (a : namesAt h r l) (hc : hpC h r 2 = (n : Int)) {d mc ms : Nat} {R : PR} (H : R (some (xI (if n < l then 0 else 1))) h) : Wp m_Names_isFull 0 [some (xR r)] [] h d mc ms R := by
  apply f_Names_isFull_0
  rw [a.word_n, a.word_t, hc]
  refine ⟨a.tag, a.tag, rfl, ?_⟩
  by_cases c : n < l
  · rw [if_pos (show (n : Int) < (l : Int) by omega)]; rw [if_pos c] at H; exact ⟨by simp, H⟩
  · rw [if_neg (show ¬ (n : Int) < (l : Int) by omega)]; rw [if_neg c] at H; exact ⟨by simp, H⟩
theorem sp_Nadd {h : Hp} {r l n : Nat} (a : namesAt h r l) (hc : hpC h r 2 = (n : Int)) (hn : n < l) (hl : l ≤ 30) {W Z : Int} {d mc ms : Nat} {R : PR} (hd1 : 1 ≤ d) (H : ∀ h', FrP (Snl r) h h' → hpC h' r 2 = ((n + 1 : Nat) : Int) → hpC h' (r + 1) n = W → hpC h' (r + 2) n = Z → (∀ p, p ≠ n → hpC h' (r + 1) p = hpC h (r + 1) p ∧ hpC h' (r + 2) p = hpC h (r + 2) p) → R none h') : Wp m_Names_add 0 [some (xR r), some (xL W), none, some (xL Z), none] [] h d mc ms R := by
  apply f_Names_add_0
  refine ⟨⟨by omega, a.tag⟩, sp_isFull a hc (fun v e => ?_)⟩
  cases e
  rw [if_pos hn, if_pos rfl]
  simp (disch := omega) only [forall_eq, hpT_up, hpC_o1, hpC_o2, hc, a.tag, a.word_n, a.sound_n, a.word_t, a.sound_t, ab_1, Int.toNat_natCast, q_lt, n_lt, q_le, n_le, q_eq, n_eq, q_nle, not_false_eq_true, not_true_eq_false, true_and, and_true, true_or, or_true, and_self, ↓reduceIte]
  refine H _ ⟨rfl, rfl, fun q p hq => ?_⟩ (hpC_same _ _ _ _) ?_ ?_ (fun p hp => ⟨?_, ?_⟩)
  · unfold Snl at hq
    rw [hpC_ne (by omega), hpC_ne (by omega), hpC_ne (by omega)]
  · rw [hpC_o1 (by omega), hpC_o1 (by omega), hpC_same]
  · rw [hpC_o1 (by omega), hpC_same]
  · rw [hpC_o1 (by omega), hpC_o1 (by omega), hpC_o2 hp]
  · rw [hpC_o1 (by omega), hpC_o2 hp, hpC_o1 (by omega)]
theorem sp_Aadd {h : Hp} {t : Nat} {w : Nat → Int} (a : TR h t w) (hV : V w) (h30 : w 8 < 30) {s : Nat} (hs : (s : Int) < w 7) {d mc ms : Nat} {R : PR} (hd1 : 2 ≤ d) (H : ∀ h', FrP (Sal t) h h' → TR h' t (addW w s) → R none h') : Wp m_Town_addAlias 0 [some (xR t), some (xL (wordW w (180 + 10 * s) : Int)), none, some (xL (pkL (keyW w (180 + 10 * s)) : Int)), none, some (xI (s : Int)), some (xI (w 9 + w 1))] [] h d mc ms R := by
  have v0 := hV.1.1
  have v1 := hV.1.2.1
  have v2 := hV.1.2.2.1
  have v3 := hV.1.2.2.2.1
  have v4 := hV.1.2.2.2.2.1
  have v5 := hV.1.2.2.2.2.2.1
  have v6 := hV.1.2.2.2.2.2.2.1
  have v7 := hV.1.2.2.2.2.2.2.2.1
  have v8 := hV.1.2.2.2.2.2.2.2.2.1
  have v9 := hV.1.2.2.2.2.2.2.2.2.2
  have hT := a.1.1
  have b3 : NW h (t + 13) w (w 8) 650 := a.1.2.2.2.2.1
  have h16 := a.1.2.2.2.2.2.1
  have h17 := a.2.2.2.2
  have S13 := a.2.2.2.1
  obtain ⟨n, hn⟩ : ∃ n : Nat, w 8 = (n : Int) := ⟨(w 8).toNat, by omega⟩
  have hc : hpC h (t + 13) 2 = (n : Int) := by rw [← hn]; exact b3.1
  apply f_Town_addAlias_0
  rw [hT.aliases_n]
  refine ⟨hT.tag, ⟨by omega, hT.aliases_a.tag⟩, sp_isFull hT.aliases_a hc (fun v e => ?_)⟩
  cases e
  rw [if_pos (show n < 30 by omega), if_pos rfl, hT.aliases_n, hT.aliasStreet_n, hT.aliasStreet_t, hc, Int.toNat_natCast]
  refine ⟨hT.tag, hT.tag, hT.aliases_a.tag, ⟨rfl, by omega, by show (n : Int) < 30; omega⟩, fun g1 e1 => ?_⟩
  have f1 : FrP (Sal t) h g1 := by subst e1; exact FrP.up (Or.inr (by omega))
  have y1 : hpC g1 (t + 16) n = (s : Int) := by subst e1; rw [hpC_same]
  have o1 : ∀ q p, ¬ (q = t + 16 ∧ p = n) → hpC g1 q p = hpC h q p := fun q p hq => by subst e1; exact hpC_ne (by omega)
  clear e1
  have hT1 := hT.fd (Sal_SD f1)
  rw [hT1.aliases_n, hT1.aliasLast_n, hT1.aliasLast_t, o1 _ _ (by omega), hc, Int.toNat_natCast]
  refine ⟨hT1.tag, hT1.tag, hT1.aliases_a.tag, ⟨rfl, by omega, by show (n : Int) < 30; omega⟩, fun g2 e2 => ?_⟩
  have f2 : FrP (Sal t) h g2 := by subst e2; exact f1.tr (FrP.up (Or.inr (by omega)))
  have y2 : hpC g2 (t + 17) n = w 9 + w 1 := by subst e2; rw [hpC_same]
  have o2 : ∀ q p, ¬ (q = t + 17 ∧ p = n) → hpC g2 q p = hpC g1 q p := fun q p hq => by subst e2; exact hpC_ne (by omega)
  clear e2
  have hT2 := hT.fd (Sal_SD f2)
  rw [hT2.aliases_n]
  refine ⟨hT2.tag, ⟨by omega, hT2.aliases_a.tag⟩, sp_Nadd (n := n) hT2.aliases_a (by rw [o2 _ _ (by omega), o1 _ _ (by omega), hc]) (by omega) (by omega) (by omega) (fun g3 f3 c3 w3 z3 q3 _ => ?_)⟩
  have F3 : FrP (Sal t) h g3 := f2.tr (f3.wk (fun q p z => by unfold Snl at z; unfold Sal; omega))
  have E : eqC h g3 t (t + 12) := F3.eqC (fun q p h1 h2 z => by unfold Sal at z; omega)
  have E2 : eqC h g3 (t + 18) (t + 22) := F3.eqC (fun q p h1 h2 z => by unfold Sal at z; omega)
  have eR : eqR w (addW w s) := fun p hp h8 _ => (addW_low (by omega) h8).symm
  have n8 : addW w s 8 = ((n + 1 : Nat) : Int) := by rw [addW_8]; omega
  have tn : (w 8).toNat = n := by omega
  have o16 : ∀ p, hpC g3 (t + 16) p = hpC g1 (t + 16) p := fun p => by rw [f3.2.2 _ _ (by unfold Snl; omega), o2 _ _ (by omega)]
  have o17 : ∀ p, hpC g3 (t + 17) p = hpC g2 (t + 17) p := fun p => f3.2.2 _ _ (by unfold Snl; omega)
  refine H g3 F3 (TR.al hV a (hT.fd (Sal_SD F3)) (E.sub (by omega) (by omega)) E2 (E.C _ _ (by omega) (by omega)) (fun p h1 h2 => (addW_low h1 h2).symm) (by rw [n8]; exact c3) (fun q hq => ?_))
  rw [n8] at hq
  have oks := hV.2.2.2.2.1 s hs
  have ok := hV.2.2.2.2.2.1
  by_cases c : q = n
  · subst c
    have e8 : ∀ {i : Nat}, i < 10 → addW w s (650 + 10 * q + i) = w (180 + 10 * s + i) := fun {i} hi => by have := addW_new (w := w) (s := s) hi; rw [tn] at this; exact this
    have eo := addW_of (w := w) (s := s) (by omega)
    have et := addW_to (w := w) (s := s) (by omega)
    rw [tn] at eo et
    rw [o16, o17, y1, y2, eo, et]
    refine ⟨?_, ?_, rfl, rfl⟩
    · rw [show t + 14 = t + 13 + 1 from rfl, w3, wordW_ext (v := addW w s) (o' := 650 + 10 * q) (fun i hi => (e8 hi).symm)]
    · rw [show t + 15 = t + 13 + 2 from rfl, z3, keyW_ext (v := addW w s) (o' := 650 + 10 * q) hV eR oks (fun i hi => (e8 hi).symm)]
  · have hq8 : (q : Int) < w 8 := by omega
    rw [o16, o17, o1 _ _ (by omega), o2 _ _ (by omega), o1 _ _ (by omega), addW_ofo hq8 (by omega), addW_too hq8 (by omega)]
    refine ⟨?_, ?_, h16 q hq8, h17 q hq8⟩
    · rw [show t + 14 = t + 13 + 1 from rfl, (q3 q c).1, o2 _ _ (by omega), o1 _ _ (by omega), b3.2 q hq8, wordW_ext (v := addW w s) (o' := 650 + 10 * q) (fun i hi => by rw [addW_old hq8 (by omega) hi])]
    · rw [show t + 15 = t + 13 + 2 from rfl, (q3 q c).2, o2 _ _ (by omega), o1 _ _ (by omega), S13 q hq8, keyW_ext (v := addW w s) (o' := 650 + 10 * q) hV eR (ok q hq8) (fun i hi => by rw [addW_old hq8 (by omega) hi])]
/-- a street's name changes -/
theorem TR.st {h h' : Hp} {t : Nat} {w : Nat → Int} (hV : V w) (a : TR h t w) {s k : Nat} (hs : (s : Int) < w 7) (hk : (k : Int) < w 6) (f : FrP (fun q p => (q = t + 8 ∨ q = t + 9) ∧ p = s) h h') (c1 : hpC h' (t + 8) s = (wordW w (60 + 10 * k) : Int)) (c2 : hpC h' (t + 9) s = (pkL (keyW w (60 + 10 * k)) : Int)) : TR h' t (stpW w s k) := by
  have hV0 := hV
  obtain ⟨⟨v0, v1, v2, v3, v4, v5, v6, v7, v8, v9⟩, w1, w2, w3, w4, w5, w6, w7⟩ := hV
  obtain ⟨⟨a1, a2, a3, a4, a5, a6, a7, a8⟩, b1, b2, b3, b4⟩ := a
  have L : ∀ p, p < 180 ∨ 280 ≤ p → stpW w s k p = w p := fun p h => stpW_o (by omega)
  have eR : eqR w (stpW w s k) := fun p hp _ _ => (L p (by omega)).symm
  have E1 : eqC h h' t (t + 7) := f.eqC (fun q p h1 h2 z => by omega)
  have E2 : eqC h h' (t + 10) (t + 22) := f.eqC (fun q p h1 h2 z => by omega)
  have F : FrP (SD t) h h' := f.wk (fun q p z => by unfold SD; omega)
  have N10 := NW.ext (v := stpW w s k) (fun k' hk' i hi => (L _ (by omega)).symm) (a4.eq (E2.sub (by omega) (by omega)))
  have N13 := NW.ext (v := stpW w s k) (fun k' hk' i hi => (L _ (by omega)).symm) (a5.eq (E2.sub (by omega) (by omega)))
  have S10 := NS.ext hV0 eR w3 (fun k' hk' i hi => (L _ (by omega)).symm) (b2.eq (E2.sub (by omega) (by omega)))
  have S13 := NS.ext hV0 eR w5 (fun k' hk' i hi => (L _ (by omega)).symm) (b3.eq (E2.sub (by omega) (by omega)))
  have e7 := L 7 (by omega)
  have e6 := L 6 (by omega)
  have e8 := L 8 (by omega)
  rw [← e6] at N10 S10
  rw [← e8] at N13 S13
  refine ⟨⟨a1.fd F, (a2.eq (E1.sub (by omega) (by omega))).ext hV0 eR, ⟨by rw [e7, E1.C _ _ (by omega) (by omega)]; exact a3.1, fun q hq => ?_⟩, N10, N13, fun q hq => ?_, (a7.eq (E2.sub (by omega) (by omega))).ext hV0 (fun p h1 h2 => (L p (by omega)).symm), by rw [E1.C _ _ (by omega) (by omega), a8]; exact (L 9 (by omega)).symm⟩, fun q hq => ?_, S10, S13, fun q hq => ?_⟩
  · rw [e7] at hq
    by_cases c : q = s
    · subst c
      rw [show t + 7 + 1 = t + 8 from rfl, c1, wordW_ext (v := stpW w q k) (o' := 180 + 10 * q) (fun i hi => by rw [stpW_new hi])]
    · rw [show t + 7 + 1 = t + 8 from rfl, f.2.2 _ _ (by omega)]
      have := a3.2 q hq
      rw [show t + 7 + 1 = t + 8 from rfl] at this
      rw [this, wordW_ext (v := stpW w s k) (o' := 180 + 10 * q) (fun i hi => by rw [stpW_o (by omega)])]
  · rw [e8] at hq
    rw [E2.C _ _ (by omega) (by omega), a6 q hq, L _ (by omega)]
  · rw [e7] at hq
    by_cases c : q = s
    · subst c
      rw [show t + 7 + 2 = t + 9 from rfl, c2, keyW_ext (v := stpW w q k) (o' := 180 + 10 * q) hV0 eR (w3 k hk) (fun i hi => by rw [stpW_new hi])]
    · rw [show t + 7 + 2 = t + 9 from rfl, f.2.2 _ _ (by omega)]
      have := b1 q hq
      rw [show t + 7 + 2 = t + 9 from rfl] at this
      rw [this, keyW_ext (v := stpW w s k) (o' := 180 + 10 * q) hV0 eR (w4 q hq) (fun i hi => by rw [stpW_o (by omega)])]
  · rw [e8] at hq
    rw [E2.C _ _ (by omega) (by omega), b4 q hq, L _ (by omega)]
theorem sp_rename {h : Hp} {t : Nat} {w : Nat → Int} (a : TR h t w) (hV : V w) {s k : Nat} (hs : (s : Int) < w 7) (hk : (k : Int) < w 6) (hR : rnR w s k) {d mc ms : Nat} {R : PR} (hd1 : 3 ≤ d) (H : ∀ h', FrP (SD t) h h' → TR h' t (rnW w s k) → R none h') : Wp m_Town_rename 0 [some (xR t), some (xI (s : Int)), some (xI (k : Int))] [] h d mc ms R := by
  have v0 := hV.1.1
  have v1 := hV.1.2.1
  have v2 := hV.1.2.2.1
  have v3 := hV.1.2.2.2.1
  have v4 := hV.1.2.2.2.2.1
  have v5 := hV.1.2.2.2.2.2.1
  have v6 := hV.1.2.2.2.2.2.2.1
  have v7 := hV.1.2.2.2.2.2.2.2.1
  have v8 := hV.1.2.2.2.2.2.2.2.2.1
  have v9 := hV.1.2.2.2.2.2.2.2.2.2
  have hT := a.1.1
  have b2 : NW h (t + 10) w (w 6) 60 := a.1.2.2.2.1
  obtain ⟨dV, d30, dL⟩ := drpW_V hV hR
  -- behind the drop
  have after : ∀ (u : Nat → Int) (g : Hp), u = drpW w (ownW w s (wordW w (60 + 10 * k)) (w 8).toNat 0) → FrP (SD t) h g → TR g t u → ((hpT g t).1 = 10 ∧ ((hpT g (Int.toNat (hpC g t 1))).1 = 3 ∧ (((hpT g (Int.toNat (hpC g (Int.toNat (hpC g t 1)) 0))).1 = 21 ∧ 0 ≤ (s : Int) ∧ (s : Int) < ((hpT g (Int.toNat (hpC g (Int.toNat (hpC g t 1)) 0))).2 : Int)) ∧ ((hpT g t).1 = 10 ∧ ((hpT g (Int.toNat (hpC g t 1))).1 = 3 ∧ (((hpT g (Int.toNat (hpC g (Int.toNat (hpC g t 1)) 1))).1 = 21 ∧ 0 ≤ (s : Int) ∧ (s : Int) < ((hpT g (Int.toNat (hpC g (Int.toNat (hpC g t 1)) 1))).2 : Int)) ∧ ((hpT g t).1 = 10 ∧ ((hpT g t).1 = 10 ∧ ((hpT g (Int.toNat (hpC g t 0))).1 = 8 ∧ ((1 ≤ d ∧ (hpT g t).1 = 10) ∧ Wp m_Town_addAlias 0 [some (xR t), some (xL (hpC g (Int.toNat (hpC g (Int.toNat (hpC g t 1)) 0)) (Int.toNat (s : Int)))), none, some (xL (hpC g (Int.toNat (hpC g (Int.toNat (hpC g t 1)) 1)) (Int.toNat (s : Int)))), none, some (xI (s : Int)), some (xI (ai_add (hpC g t 7) (hpC g (Int.toNat (hpC g t 0)) 1)))] [] g (d - 1) 0 0 (fun rv h3 => rv = none → ((hpT h3 t).1 = 10 ∧ ((hpT h3 (Int.toNat (hpC h3 t 1))).1 = 3 ∧ ((hpT h3 t).1 = 10 ∧ ((hpT h3 (Int.toNat (hpC h3 t 2))).1 = 3 ∧ (((hpT h3 (Int.toNat (hpC h3 (Int.toNat (hpC h3 t 2)) 0))).1 = 21 ∧ 0 ≤ (k : Int) ∧ (k : Int) < ((hpT h3 (Int.toNat (hpC h3 (Int.toNat (hpC h3 t 2)) 0))).2 : Int)) ∧ (((hpT h3 (Int.toNat (hpC h3 (Int.toNat (hpC h3 t 1)) 0))).1 = 21 ∧ 0 ≤ (s : Int) ∧ (s : Int) < ((hpT h3 (Int.toNat (hpC h3 (Int.toNat (hpC h3 t 1)) 0))).2 : Int)) ∧ (∀ g1 : Hp, g1 = hpU h3 (Int.toNat (hpC h3 (Int.toNat (hpC h3 t 1)) 0)) (Int.toNat (s : Int)) (hpC h3 (Int.toNat (hpC h3 (Int.toNat (hpC h3 t 2)) 0)) (Int.toNat (k : Int))) → ((hpT g1 t).1 = 10 ∧ ((hpT g1 (Int.toNat (hpC g1 t 1))).1 = 3 ∧ ((hpT g1 t).1 = 10 ∧ ((hpT g1 (Int.toNat (hpC g1 t 2))).1 = 3 ∧ (((hpT g1 (Int.toNat (hpC g1 (Int.toNat (hpC g1 t 2)) 1))).1 = 21 ∧ 0 ≤ (k : Int) ∧ (k : Int) < ((hpT g1 (Int.toNat (hpC g1 (Int.toNat (hpC g1 t 2)) 1))).2 : Int)) ∧ (((hpT g1 (Int.toNat (hpC g1 (Int.toNat (hpC g1 t 1)) 1))).1 = 21 ∧ 0 ≤ (s : Int) ∧ (s : Int) < ((hpT g1 (Int.toNat (hpC g1 (Int.toNat (hpC g1 t 1)) 1))).2 : Int)) ∧ (∀ g2 : Hp, g2 = hpU g1 (Int.toNat (hpC g1 (Int.toNat (hpC g1 t 1)) 1)) (Int.toNat (s : Int)) (hpC g1 (Int.toNat (hpC g1 (Int.toNat (hpC g1 t 2)) 1)) (Int.toNat (k : Int))) → R none g2))))))))))))))))))))))))) := by
    intro u g eu F ag
    rw [← eu] at dV d30 dL
    have hTg := ag.1.1
    have e7 : u 7 = w 7 := dL 7 (by omega) (by omega)
    have e6 : u 6 = w 6 := dL 6 (by omega) (by omega)
    have u9 := dV.1.2.2.2.2.2.2.2.2.2
    have u1 := dV.1.2.1
    have s1 := ag.1.2.2.1.2 s (by omega)
    have s2 := ag.2.1 s (by omega)
    rw [hTg.streets_n, hTg.streets_a.word_n, hTg.streets_a.sound_n, hTg.streets_a.word_t, hTg.streets_a.sound_t, hTg.rules_n, Int.toNat_natCast, s1, s2, ag.1.2.2.2.2.2.2.2, ag.1.2.1.2.1, ai_add_eq (by omega) (by omega)]
    refine ⟨hTg.tag, hTg.streets_a.tag, ⟨rfl, by omega, by show (s : Int) < 10; omega⟩, hTg.tag, hTg.streets_a.tag, ⟨rfl, by omega, by show (s : Int) < 10; omega⟩, hTg.tag, hTg.tag, hTg.rules_a.tag, ⟨by omega, hTg.tag⟩, sp_Aadd ag dV d30 (by omega) (by omega) (fun g3 f3 ag3 _ => ?_)⟩
    have hT3 := ag3.1.1
    have p1 := ag3.1.2.2.2.1.2 k (by rw [addW_low (by omega) (by omega)]; omega)
    have p2 := ag3.2.2.1 k (by rw [addW_low (by omega) (by omega)]; omega)
    rw [hT3.streets_n, hT3.pool_n, hT3.pool_a.word_n, hT3.pool_a.word_t, hT3.streets_a.word_n, hT3.streets_a.word_t, Int.toNat_natCast, p1]
    refine ⟨hT3.tag, hT3.streets_a.tag, hT3.tag, hT3.pool_a.tag, ⟨rfl, by omega, by show (k : Int) < 12; omega⟩, ⟨rfl, by omega, by show (s : Int) < 10; omega⟩, fun g4 e4 => ?_⟩
    have f4 : FrP (fun q p => (q = t + 8 ∨ q = t + 9) ∧ p = s) g3 g4 := by subst e4; exact FrP.up ⟨Or.inl rfl, rfl⟩
    have y4 : hpC g4 (t + 8) s = (wordW (addW u s) (60 + 10 * k) : Int) := by subst e4; rw [show t + 8 = t + 7 + 1 from rfl, hpC_same]
    have o4 : ∀ q p, q ≠ t + 8 → hpC g4 q p = hpC g3 q p := fun q p hq => by subst e4; exact hpC_o1 hq
    clear e4
    have hT4 : townAt g4 t := hT3.fd (f4.wk (fun q p z => by unfold SD; omega))
    rw [hT4.streets_n, hT4.pool_n, hT4.pool_a.sound_n, hT4.pool_a.sound_t, hT4.streets_a.sound_n, hT4.streets_a.sound_t, o4 _ _ (by omega), p2]
    refine ⟨hT4.tag, hT4.streets_a.tag, hT4.tag, hT4.pool_a.tag, ⟨rfl, by omega, by show (k : Int) < 12; omega⟩, ⟨rfl, by omega, by show (s : Int) < 10; omega⟩, fun g5 e5 => ?_⟩
    have f5 : FrP (fun q p => (q = t + 8 ∨ q = t + 9) ∧ p = s) g3 g5 := by subst e5; exact f4.tr (FrP.up ⟨Or.inr rfl, rfl⟩)
    have y5 : hpC g5 (t + 9) s = (pkL (keyW (addW u s) (60 + 10 * k)) : Int) := by subst e5; rw [show t + 9 = t + 7 + 2 from rfl, hpC_same]
    have y6 : hpC g5 (t + 8) s = (wordW (addW u s) (60 + 10 * k) : Int) := by subst e5; rw [hpC_o1 (by omega)]; exact y4
    have AV' := addW_V dV (s := s) (by omega) d30
    have tr5 := TR.st AV' ag3 (s := s) (k := k) (by rw [addW_low (by omega) (by omega)]; omega) (by rw [addW_low (by omega) (by omega)]; omega) f5 y6 y5
    refine H g5 ((F.tr (Sal_SD f3)).tr (f5.wk (fun q p z => by unfold SD; omega))) ?_
    unfold rnW
    rw [← eu]
    exact tr5
  apply f_Town_rename_0
  rw [hT.pool_n, hT.pool_a.word_n, hT.pool_a.word_t, Int.toNat_natCast, b2.2 k (by omega)]
  refine ⟨hT.tag, hT.pool_a.tag, ⟨rfl, by omega, by show (k : Int) < 12; omega⟩, ⟨by omega, hT.tag⟩, sp_cownAlias a hV (by omega) (fun v e => ?_)⟩
  have ev := xI_inj e
  clear e
  refine ⟨⟨by omega, hT.tag⟩, ?_⟩
  by_cases c : v = -1
  · apply f_Town_dropAlias_0
    rw [hT.aliases_n]
    refine ⟨hT.tag, ⟨by omega, hT.aliases_a.tag⟩, sp_holds hT.aliases_a.tag a.1.2.2.2.2.1.1 (fun v2 e => ?_)⟩
    cases e
    rw [if_neg (show ¬ (0 ≤ v ∧ v < w 8) by omega), if_pos rfl]
    intro _
    have z := after w h (by unfold drpW; rw [if_pos (by rw [← ev]; exact c)]) FrP.rf a
    rw [Int.toNat_natCast] at z
    exact z
  · obtain ⟨i, i1, i2⟩ := ownW_bd (fun z => c (by rw [ev]; exact z))
    have i1' : v = (i : Int) := by rw [ev]; exact i1
    rw [i1']
    refine sp_Adrop a hV i2 (by omega) (fun g f tr _ => ?_)
    have z := after (dropW w i) g (by unfold drpW; rw [if_neg (fun y => c (by rw [ev]; exact y)), i1, Int.toNat_natCast]) (Sal_SD f) tr
    rw [Int.toNat_natCast] at z
    exact z
