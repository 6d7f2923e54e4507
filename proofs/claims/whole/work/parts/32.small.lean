/-! ===== alias, houses, at, status: both sides ===== -/
theorem sp_slot {s i : Nat} (hs : s < 10) (hi : i < 12) {h : Hp} {d mc ms : Nat} {R : PR} (H : R (some (xI ((12 * s + i : Nat) : Int))) h) : Wp m_Homes_slot 0 [some (xI (s : Int)), some (xI (i : Int))] [] h d mc ms R := by
  apply f_Homes_slot_0
  simp (disch := omega) only [ai_add_eq, ai_mul_eq]
  rw [show (s : Int) * 12 + (i : Int) = ((12 * s + i : Nat) : Int) by omega]
  exact H
theorem sp_houseAt {o s i : Nat} (ho : o ≤ 24240) (hs : s < 10) (hi : i < 12) {h : Hp} {d mc ms : Nat} {R : PR} (H : R (some (xI ((o + 290 + 36 * s + 3 * i : Nat) : Int))) h) : Wp m_M_houseAt 0 [some (xI (o : Int)), some (xI (s : Int)), some (xI (i : Int))] [] h d mc ms R := by
  apply f_M_houseAt_0
  simp (disch := omega) only [ai_add_eq, ai_mul_eq]
  rw [show (o : Int) + 290 + 36 * (s : Int) + 3 * (i : Int) = ((o + 290 + 36 * s + 3 * i : Nat) : Int) by omega]
  exact H
def aliasA (w : Nat → Int) (k what : Int) : Int := if 0 ≤ k ∧ k < w 8 then (if what = 0 then w (950 + k.toNat) else if what = 1 then w (980 + k.toNat) else if what = 2 then (if w (980 + k.toNat) < w 9 then 0 else 1) else -1) else -1
theorem sp_cLive {h : Hp} {t : Nat} {w : Nat → Int} (a : TR h t w) (hV : V w) {k : Nat} (hk : (k : Int) < w 8) {d mc ms : Nat} {R : PR} (H : R (some (xI (if w (980 + k) < w 9 then 0 else 1))) h) : Wp m_Town_isLive 0 [some (xR t), some (xI (k : Int))] [] h d mc ms R := by
  have hT := a.1.1
  have v8 := hV.1.2.2.2.2.2.2.2.2.1
  have h7 : hpC h t 7 = w 9 := a.1.2.2.2.2.2.2.2
  apply f_Town_isLive_0
  simp only [hT.tag, hT.aliasLast_n, hT.aliasLast_t, Int.toNat_natCast, a.2.2.2.2 k hk, h7, true_and]
  refine ⟨⟨by omega, by omega⟩, ?_⟩
  by_cases c : w (980 + k) < w 9
  · rw [if_pos c]; rw [if_pos c] at H; exact ⟨by simp, H⟩
  · rw [if_neg c]; rw [if_neg c] at H; exact ⟨by simp, H⟩
theorem sp_mLive {h : Hp} {m : Nat} {w : Nat → Int} (a : RD h m w) {k : Nat} (hk : k < 30) {d mc ms : Nat} {R : PR} (H : R (some (xI (if w (980 + k) < w 9 then 0 else 1))) h) : Wp m_M_isLive 0 [some (xR m), some (xI (k : Int))] [] h d mc ms R := by
  apply f_M_isLive_0
  have e : ai_add 980 (k : Int) = ((980 + k : Nat) : Int) := by simp (disch := omega) only [ai_add_eq] <;> omega
  simp only [a.1.tag, a.1.row_n, a.1.row_t, e, Int.toNat_natCast, show Int.toNat (9 : Int) = 9 from rfl, a.2 (980 + k) (by omega), a.2 9 (by omega), true_and]
  refine ⟨⟨by omega, by omega⟩, ⟨by omega, by omega⟩, ?_⟩
  by_cases c : w (980 + k) < w 9
  · rw [if_pos c]; rw [if_pos c] at H; exact ⟨by simp, H⟩
  · rw [if_neg c]; rw [if_neg c] at H; exact ⟨by simp, H⟩
theorem sp_calias {h : Hp} {x : Nat} {w : Nat → Int} (s : sAt h x) (a : TR h (x + 43) w) (hV : V w) {k what : Int} {d mc ms : Nat} (hd : 1 ≤ d) {R : PR} (H : R (some (xI (aliasA w k what))) h) : Wp m_S_alias 0 [some (xR x), some (xI k), some (xI what)] [] h d mc ms R := by
  have hT := a.1.1
  have v8 := hV.1.2.2.2.2.2.2.2.2.1
  have b3 : NW h (x + 43 + 13) w (w 8) 650 := a.1.2.2.2.2.1
  have h16 := a.1.2.2.2.2.2.1
  apply f_S_alias_0
  rw [s.now_n, hT.aliases_n]
  refine ⟨s.tag, hT.tag, ⟨by omega, hT.aliases_a.tag⟩, sp_holds hT.aliases_a.tag b3.1 (fun v e => ?_)⟩
  cases e
  unfold aliasA at H
  by_cases c : 0 ≤ k ∧ k < w 8
  · rw [if_pos c, if_neg (by decide)]
    rw [if_pos c] at H
    obtain ⟨q, rfl⟩ : ∃ q : Nat, k = (q : Int) := ⟨k.toNat, by omega⟩
    rw [Int.toNat_natCast] at H
    by_cases c0 : what = 0
    · rw [if_pos (by omega)]
      rw [if_pos c0] at H
      rw [s.now_n, hT.aliasStreet_n, hT.aliasStreet_t, Int.toNat_natCast, h16 q (by omega)]
      exact ⟨s.tag, hT.tag, ⟨rfl, by omega, by show (q : Int) < 30; omega⟩, H⟩
    · rw [if_neg (by omega)]
      rw [if_neg c0] at H
      by_cases c1 : what = 1
      · rw [if_pos (by omega)]
        rw [if_pos c1] at H
        rw [s.now_n, hT.aliasLast_n, hT.aliasLast_t, Int.toNat_natCast, a.2.2.2.2 q (by omega)]
        exact ⟨s.tag, hT.tag, ⟨rfl, by omega, by show (q : Int) < 30; omega⟩, H⟩
      · rw [if_neg (by omega)]
        rw [if_neg c1] at H
        by_cases c2 : what = 2
        · rw [if_pos (by omega), s.now_n]
          rw [if_pos c2] at H
          refine ⟨s.tag, ⟨by omega, hT.tag⟩, sp_cLive a hV (by omega) (fun v e => ?_)⟩
          cases e
          by_cases cl : w (980 + q) < w 9
          · rw [if_pos cl, if_pos rfl]; rw [if_pos cl] at H; exact H
          · rw [if_neg cl, if_neg (by decide)]; rw [if_neg cl] at H; exact H
        · rw [if_neg (by omega)]
          rw [if_neg c2] at H
          exact H
  · rw [if_neg c, if_pos rfl]
    rw [if_neg c] at H
    exact H
theorem sp_malias {h : Hp} {m : Nat} {w : Nat → Int} (a : RD h m w) (hV : V w) {k what : Int} {d mc ms : Nat} (hd : 1 ≤ d) {R : PR} (H : R (some (xI (aliasA w k what))) h) : Wp m_M_alias 0 [some (xR m), some (xI k), some (xI what)] [] h d mc ms R := by
  have v8 := hV.1.2.2.2.2.2.2.2.2.1
  apply f_M_alias_0
  simp (disch := omega) only [a.1.tag, a.1.row_n, a.1.row_t, show Int.toNat (8 : Int) = 8 from rfl, a.2 8 (by omega), ai_sub_eq, true_and]
  refine ⟨⟨by omega, by omega⟩, hd, sp_isIn (fun v e => ?_)⟩
  cases e
  unfold aliasA at H
  by_cases c : 0 ≤ k ∧ k < w 8
  · rw [if_pos (show 0 ≤ k ∧ k ≤ w 8 - 1 by omega), if_neg (by decide)]
    rw [if_pos c] at H
    obtain ⟨q, rfl⟩ : ∃ q : Nat, k = (q : Int) := ⟨k.toNat, by omega⟩
    rw [Int.toNat_natCast] at H
    have e1 : ai_add 950 (q : Int) = ((950 + q : Nat) : Int) := by simp (disch := omega) only [ai_add_eq] <;> omega
    have e2 : ai_add 980 (q : Int) = ((980 + q : Nat) : Int) := by simp (disch := omega) only [ai_add_eq] <;> omega
    rw [a.1.row_n, a.1.row_t, e1, e2, Int.toNat_natCast, Int.toNat_natCast, a.2 (950 + q) (by omega), a.2 (980 + q) (by omega)]
    by_cases c0 : what = 0
    · rw [if_pos c0]; rw [if_pos c0] at H
      exact ⟨a.1.tag, ⟨rfl, by omega, by show ((950 + q : Nat) : Int) < 24240; omega⟩, H⟩
    · rw [if_neg c0]; rw [if_neg c0] at H
      by_cases c1 : what = 1
      · rw [if_pos c1]; rw [if_pos c1] at H
        exact ⟨a.1.tag, ⟨rfl, by omega, by show ((980 + q : Nat) : Int) < 24240; omega⟩, H⟩
      · rw [if_neg c1]; rw [if_neg c1] at H
        by_cases c2 : what = 2
        · rw [if_pos c2]; rw [if_pos c2] at H
          refine ⟨⟨hd, a.1.tag⟩, sp_mLive a (by omega) (fun v e => ?_)⟩
          cases e
          by_cases cl : w (980 + q) < w 9
          · rw [if_pos cl, if_pos rfl]; rw [if_pos cl] at H; exact H
          · rw [if_neg cl, if_neg (by decide)]; rw [if_neg cl] at H; exact H
        · rw [if_neg c2]; rw [if_neg c2] at H; exact H
  · rw [if_neg (show ¬ (0 ≤ k ∧ k ≤ w 8 - 1) by omega), if_pos rfl]
    rw [if_neg c] at H
    exact H
def housesA (w : Nat → Int) (s : Int) : Int := if 0 ≤ s ∧ s < w 7 then w (280 + s.toNat) else -1
theorem sp_chouses {h : Hp} {x : Nat} {w : Nat → Int} (s : sAt h x) (a : TR h (x + 43) w) (hV : V w) {k : Int} {d mc ms : Nat} (hd : 1 ≤ d) {R : PR} (H : R (some (xI (housesA w k))) h) : Wp m_S_houses 0 [some (xR x), some (xI k)] [] h d mc ms R := by
  have hT := a.1.1
  have v7 := hV.1.2.2.2.2.2.2.2.1
  have b1 : NW h (x + 43 + 7) w (w 7) 180 := a.1.2.2.1
  have hw : HW h (x + 43 + 18) w := a.1.2.2.2.2.2.2.1
  apply f_S_houses_0
  rw [s.now_n, hT.streets_n]
  refine ⟨s.tag, hT.tag, ⟨by omega, hT.streets_a.tag⟩, sp_holds hT.streets_a.tag b1.1 (fun v e => ?_)⟩
  cases e
  unfold housesA at H
  by_cases c : 0 ≤ k ∧ k < w 7
  · rw [if_pos c, if_neg (by decide)]
    rw [if_pos c] at H
    rw [s.now_n, hT.homes_n, hT.homes_a.count_n, hT.homes_a.count_t, (hw k.toNat (by omega)).1]
    exact ⟨s.tag, hT.tag, hT.homes_a.tag, ⟨rfl, by omega, by show k < 10; omega⟩, H⟩
  · rw [if_neg c, if_pos rfl]
    rw [if_neg c] at H
    exact H
theorem sp_mhouses {h : Hp} {m : Nat} {w : Nat → Int} (a : RD h m w) (hV : V w) {k : Int} {d mc ms : Nat} (hd : 2 ≤ d) {R : PR} (H : R (some (xI (housesA w k))) h) : Wp m_M_houses 0 [some (xR m), some (xI k)] [] h d mc ms R := by
  have v7 := hV.1.2.2.2.2.2.2.2.1
  apply f_M_houses_0
  refine ⟨⟨by omega, a.1.tag⟩, sp_isStreet a hV (by omega) (fun v e => ?_)⟩
  cases e
  unfold housesA at H
  by_cases c : 0 ≤ k ∧ k < w 7
  · rw [if_pos c, if_neg (by decide)]
    rw [if_pos c] at H
    obtain ⟨q, rfl⟩ : ∃ q : Nat, k = (q : Int) := ⟨k.toNat, by omega⟩
    rw [Int.toNat_natCast] at H
    have e1 : ai_add 280 (q : Int) = ((280 + q : Nat) : Int) := by simp (disch := omega) only [ai_add_eq] <;> omega
    rw [a.1.row_n, a.1.row_t, e1, Int.toNat_natCast, a.2 (280 + q) (by omega)]
    exact ⟨a.1.tag, ⟨rfl, by omega, by show ((280 + q : Nat) : Int) < 24240; omega⟩, H⟩
  · rw [if_neg c, if_pos rfl]
    rw [if_neg c] at H
    exact H
