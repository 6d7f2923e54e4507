/-! ===== carry: the class ===== -/
def hasO (w : Nat → Int) (s W : Nat) : Prop := ∃ a : Nat, (a : Int) < w 8 ∧ wordW w (650 + 10 * a) = W ∧ w (950 + a) = (s : Int) ∧ ¬ w (980 + a) < w 9
theorem ownW_has {w : Nat → Int} {s W : Nat} : ownW w s W (w 8).toNat 0 ≠ -1 ↔ hasO w s W := by
  constructor
  · intro h
    obtain ⟨i, h1, h2, h3⟩ := fst1_bd h
    obtain ⟨y1, y2, y3⟩ := of_decide_eq_true h3
    exact ⟨i, by omega, y1, y2, y3⟩
  · rintro ⟨i, h1, h2, h3, h4⟩ z
    have := fst1_none.1 z i (by omega) (by omega)
    simp [h2, h3, h4] at this
theorem dropW_hasO {w : Nat → Int} (hV : V w) {k : Nat} (hk : (k : Int) < w 8) {s W : Nat} (hs : w (950 + k) ≠ (s : Int)) : hasO (dropW w k) s W ↔ hasO w s W := by
  have v8 := hV.1.2.2.2.2.2.2.2.2.1
  have e9 : dropW w k 9 = w 9 := dropW_low (by omega) (by omega)
  have nm : ∀ a : Nat, ((a + 1 : Nat) : Int) < w 8 → wordW (dropW w k) (650 + 10 * a) = if k ≤ a then wordW w (650 + 10 * (a + 1)) else wordW w (650 + 10 * a) := fun a ha => by
    by_cases c : k ≤ a
    · rw [if_pos c]; exact wordW_ext (fun i hi => by rw [dropW_name ha v8.2 hi, if_pos c])
    · rw [if_neg c]; exact wordW_ext (fun i hi => by rw [dropW_name ha v8.2 hi, if_neg c])
  constructor
  · rintro ⟨a, h1, h2, h3, h4⟩
    rw [dropW_8] at h1
    have ha : ((a + 1 : Nat) : Int) < w 8 := by omega
    rw [nm a ha] at h2
    rw [dropW_of ha v8.2] at h3
    rw [dropW_to ha v8.2, e9] at h4
    by_cases c : k ≤ a
    · rw [if_pos c] at h2 h3 h4
      exact ⟨a + 1, ha, h2, h3, h4⟩
    · rw [if_neg c] at h2 h3 h4
      exact ⟨a, by omega, h2, h3, h4⟩
  · rintro ⟨a, h1, h2, h3, h4⟩
    have hne : a ≠ k := fun e => hs (by rw [← e]; exact h3)
    by_cases c : a < k
    · have ha : ((a + 1 : Nat) : Int) < w 8 := by omega
      refine ⟨a, by rw [dropW_8]; omega, ?_, ?_, ?_⟩
      · rw [nm a ha, if_neg (by omega)]; exact h2
      · rw [dropW_of ha v8.2, if_neg (by omega)]; exact h3
      · rw [dropW_to ha v8.2, if_neg (by omega), e9]; exact h4
    · obtain ⟨e, rfl⟩ : ∃ e, a = e + 1 := ⟨a - 1, by omega⟩
      refine ⟨e, by rw [dropW_8]; omega, ?_, ?_, ?_⟩
      · rw [nm e h1, if_pos (by omega)]; exact h2
      · rw [dropW_of h1 v8.2, if_pos (by omega)]; exact h3
      · rw [dropW_to h1 v8.2, if_pos (by omega), e9]; exact h4
theorem addW_hasO {w : Nat → Int} (hV : V w) (h30 : w 8 < 30) {s' s W : Nat} (hs : s' ≠ s) : hasO (addW w s') s W ↔ hasO w s W := by
  have v8 := hV.1.2.2.2.2.2.2.2.2.1
  have e9 : addW w s' 9 = w 9 := addW_low (by omega) (by omega)
  constructor
  · rintro ⟨a, h1, h2, h3, h4⟩
    rw [addW_8] at h1
    by_cases c : (a : Int) < w 8
    · rw [wordW_ext (fun i hi => addW_old c v8.2 hi)] at h2
      rw [addW_ofo c h30] at h3
      rw [addW_too c h30, e9] at h4
      exact ⟨a, c, h2, h3, h4⟩
    · rw [show a = (w 8).toNat by omega, addW_of (by omega)] at h3
      omega
  · rintro ⟨a, c, h2, h3, h4⟩
    refine ⟨a, by rw [addW_8]; omega, ?_, ?_, ?_⟩
    · rw [wordW_ext (fun i hi => addW_old c v8.2 hi)]; exact h2
    · rw [addW_ofo c h30]; exact h3
    · rw [addW_too c h30, e9]; exact h4
theorem stpW_hasO {w : Nat → Int} {s' k s W : Nat} (hs : s' < 10) : hasO (stpW w s' k) s W ↔ hasO w s W := by
  have L : ∀ p, p < 180 ∨ 280 ≤ p → stpW w s' k p = w p := fun p h => stpW_o (by omega)
  unfold hasO
  rw [L 8 (by omega), L 9 (by omega)]
  have e : ∀ a : Nat, wordW (stpW w s' k) (650 + 10 * a) = wordW w (650 + 10 * a) := fun a => wordW_ext (fun i hi => L _ (by omega))
  have e1 : ∀ a : Nat, stpW w s' k (950 + a) = w (950 + a) := fun a => L _ (by omega)
  have e2 : ∀ a : Nat, stpW w s' k (980 + a) = w (980 + a) := fun a => L _ (by omega)
  simp only [e, e1, e2]
theorem rnW_hasO {w : Nat → Int} (hV : V w) {s' k s W : Nat} (hs : s' < 10) (hR : rnR w s' k) (hne : s' ≠ s) : hasO (rnW w s' k) s W ↔ hasO w s W := by
  obtain ⟨d1, d2, d3⟩ := drpW_V hV hR
  unfold rnW
  rw [stpW_hasO hs, addW_hasO d1 d2 hne]
  unfold drpW
  by_cases c : ownW w s' (wordW w (60 + 10 * k)) (w 8).toNat 0 = -1
  · rw [if_pos c]
  · rw [if_neg c]
    obtain ⟨i, h1, h2, h3⟩ := fst1_bd c
    have h1 : ownW w s' (wordW w (60 + 10 * k)) (w 8).toNat 0 = (i : Int) := h1
    obtain ⟨y1, y2, y3⟩ := of_decide_eq_true h3
    rw [h1, Int.toNat_natCast]
    exact dropW_hasO hV (by omega) (by rw [y2]; omega)
theorem rnW_8 {w : Nat → Int} {s k : Nat} (hs : s < 10) : rnW w s k 8 = w 8 + if ownW w s (wordW w (60 + 10 * k)) (w 8).toNat 0 = -1 then 1 else 0 := by
  unfold rnW drpW
  rw [stpW_o (by omega), addW_8]
  by_cases c : ownW w s (wordW w (60 + 10 * k)) (w 8).toNat 0 = -1
  · rw [if_pos c, if_pos c]
  · rw [if_neg c, if_neg c, dropW_8]; omega
theorem rnW_low {w : Nat → Int} (hV : V w) {s k : Nat} (hs : s < 10) (hR : rnR w s k) {p : Nat} (h1 : p < 180 ∨ (280 ≤ p ∧ p < 650)) (h8 : p ≠ 8) : rnW w s k p = w p := by
  obtain ⟨d1, d2, d3⟩ := drpW_V hV hR
  unfold rnW
  rw [stpW_o (by omega), addW_low (by omega) h8, d3 p (by omega) h8]
def crF (w : Nat → Int) (q : Nat) (f : Nat → Nat) : Nat → (Nat → Int)
  | 0 => w
  | k + 1 => if q.testBit k = true then rnW (crF w q f k) k (f k) else crF w q f k
def behF (w : Nat → Int) (q : Nat) (f : Nat → Nat) : Nat → Int
  | 0 => w 8
  | k + 1 => behF w q f k + if q.testBit k = true then (if ownW w k (wordW w (60 + 10 * f k)) (w 8).toNat 0 = -1 then 1 else 0) else 0
theorem behF_mono {w : Nat → Int} {q : Nat} {f : Nat → Nat} (k : Nat) : ∀ j, behF w q f k ≤ behF w q f (k + j)
  | 0 => Int.le_refl _
  | j + 1 => by
    have := behF_mono (w := w) (q := q) (f := f) k j
    rw [← Nat.add_assoc]
    simp only [behF]
    split <;> (try split) <;> omega
theorem behF_le {w : Nat → Int} {q : Nat} {f : Nat → Nat} : ∀ j, w 8 ≤ behF w q f j ∧ behF w q f j ≤ w 8 + j
  | 0 => by simp only [behF]; omega
  | j + 1 => by
    have := behF_le (w := w) (q := q) (f := f) j
    simp only [behF]
    split <;> (try split) <;> omega
theorem crF_inv {w : Nat → Int} (hV : V w) {q : Nat} {f : Nat → Nat} {n : Nat} (hn : (n : Int) = w 7) (hf : ∀ s, s < n → q.testBit s = true → ((f s : Nat) : Int) < w 6) (hb : behF w q f n ≤ 30) : ∀ k, k ≤ n → (V (crF w q f k) ∧ crF w q f k 8 = behF w q f k ∧ (∀ p, (p < 180 ∨ (280 ≤ p ∧ p < 650)) → p ≠ 8 → crF w q f k p = w p) ∧ (∀ s W, k ≤ s → (hasO (crF w q f k) s W ↔ hasO w s W))) ∧ (k < n → q.testBit k = true → rnR (crF w q f k) k (f k))
  | k, hk => by
    have v7 := hV.1.2.2.2.2.2.2.2.1
    have v6 := hV.1.2.2.2.2.2.2.1
    have key : V (crF w q f k) ∧ crF w q f k 8 = behF w q f k ∧ (∀ p, (p < 180 ∨ (280 ≤ p ∧ p < 650)) → p ≠ 8 → crF w q f k p = w p) ∧ (∀ s W, k ≤ s → (hasO (crF w q f k) s W ↔ hasO w s W)) := by
      cases k with
      | zero => exact ⟨hV, rfl, fun p _ _ => rfl, fun s W _ => Iff.rfl⟩
      | succ k =>
        obtain ⟨⟨i1, i2, i3, i4⟩, i5⟩ := crF_inv hV hn hf hb k (by omega)
        simp only [crF, behF]
        by_cases c : q.testBit k = true
        · rw [if_pos c, if_pos c]
          have hR := i5 (by omega) c
          have hfk := hf k (by omega) c
          have e7 := i3 7 (by omega) (by omega)
          have e6 := i3 6 (by omega) (by omega)
          have ew : wordW (crF w q f k) (60 + 10 * f k) = wordW w (60 + 10 * f k) := wordW_ext (fun i hi => i3 _ (by omega) (by omega))
          refine ⟨rnW_V i1 (by omega) (by omega) hR, ?_, fun p h1 h8 => ?_, fun s W hs => ?_⟩
          · rw [rnW_8 (by omega), i2, ew]
            congr 1
            have hh := i4 k (wordW w (60 + 10 * f k)) (Nat.le_refl _)
            by_cases d : ownW w k (wordW w (60 + 10 * f k)) (w 8).toNat 0 = -1
            · have : ownW (crF w q f k) k (wordW w (60 + 10 * f k)) (crF w q f k 8).toNat 0 = -1 := by
                by_cases e : ownW (crF w q f k) k (wordW w (60 + 10 * f k)) (crF w q f k 8).toNat 0 = -1
                · exact e
                · exact absurd d (ownW_has.2 (hh.1 (ownW_has.1 e)))
              rw [i2] at this
              rw [if_pos this, if_pos d]
            · have := ownW_has.2 (hh.2 (ownW_has.1 d))
              rw [i2] at this
              rw [if_neg this, if_neg d]
          · rw [rnW_low i1 (by omega) hR h1 h8]; exact i3 p h1 h8
          · rw [rnW_hasO i1 (by omega) hR (by omega)]; exact i4 s W (by omega)
        · rw [if_neg c, if_neg c]
          exact ⟨i1, by rw [i2]; omega, i3, fun s W hs => i4 s W (by omega)⟩
    refine ⟨key, fun hk2 c => ?_⟩
    obtain ⟨i1, i2, i3, i4⟩ := key
    have hfk := hf k hk2 c
    have ew : wordW (crF w q f k) (60 + 10 * f k) = wordW w (60 + 10 * f k) := wordW_ext (fun i hi => i3 _ (by omega) (by omega))
    unfold rnR
    rw [ew]
    by_cases d : ownW w k (wordW w (60 + 10 * f k)) (w 8).toNat 0 = -1
    · refine Or.inr ?_
      have m := behF_mono (w := w) (q := q) (f := f) (k + 1) (n - (k + 1))
      rw [show k + 1 + (n - (k + 1)) = n by omega] at m
      have e : behF w q f (k + 1) = behF w q f k + 1 := by simp only [behF]; rw [if_pos c, if_pos d]
      omega
    · exact Or.inl (ownW_has.2 ((i4 k _ (Nat.le_refl _)).2 (ownW_has.1 d)))
noncomputable def gnN (w : Nat → Int) : Nat → Nat := fun s => (gnW w s).toNat
noncomputable def crW (w : Nat → Int) : Nat → Int := crF w (plC w).toNat (gnN w) (w 7).toNat
noncomputable def bhW (w : Nat → Int) : Int := behF w (plC w).toNat (gnN w) (w 7).toNat
theorem crW_inv {w : Nat → Int} (hV : V w) (hp : plC w ≠ -1) (hb : bhW w ≤ 30) {k : Nat} (hk : k ≤ (w 7).toNat) : (V (crF w (plC w).toNat (gnN w) k) ∧ crF w (plC w).toNat (gnN w) k 8 = behF w (plC w).toNat (gnN w) k ∧ (∀ p, (p < 180 ∨ (280 ≤ p ∧ p < 650)) → p ≠ 8 → crF w (plC w).toNat (gnN w) k p = w p)) ∧ (k < (w 7).toNat → (plC w).toNat.testBit k = true → rnR (crF w (plC w).toNat (gnN w) k) k (gnN w k)) := by
  have v7 := hV.1.2.2.2.2.2.2.2.1
  obtain ⟨q, hq⟩ : ∃ q : Nat, plC w = (q : Int) := by
    rcases plP_bd hV (plC_spec w) with z | ⟨q, z1, _⟩
    · exact absurd z hp
    · exact ⟨q, z1⟩
  obtain ⟨⟨a, b, c, _⟩, e⟩ := crF_inv (q := (plC w).toNat) (f := gnN w) (n := (w 7).toNat) hV (by omega) (fun s hs hb => by
    rw [hq, Int.toNat_natCast] at hb
    have := gnW_bd hV hq hs hb
    unfold gnN; omega) hb k hk
  exact ⟨⟨a, b, c⟩, e⟩
theorem crW_V {w : Nat → Int} (hV : V w) (hp : plC w ≠ -1) (hb : bhW w ≤ 30) : V (crW w) := (crW_inv hV hp hb (Nat.le_refl _)).1.1
theorem sp_aliasesBehind {h : Hp} {r t : Nat} {w : Nat → Int} (pl : plAt h r) (a : TR h t w) (hV : V w) (K : plK h r w) (hp : plC w ≠ -1) {d mc ms : Nat} {R : PR} (hd : 2 ≤ d) {o2 o3 : Option AV} (H : R (some (xI (bhW w))) h) : Wp m_Planner_aliasesBehind 0 [some (xR r), some (xR t), o2, o3] [] h d mc ms R := by
  have v7 := hV.1.2.2.2.2.2.2.2.1
  have v8 := hV.1.2.2.2.2.2.2.2.2.1
  have v6 := hV.1.2.2.2.2.2.2.1
  have hT := a.1.1
  have b2 := a.1.2.2.2.1
  have hc' := plC_eq K.1
  obtain ⟨q, hq⟩ : ∃ q : Nat, plC w = (q : Int) := by
    rcases plP_bd hV (plC_spec w) with z | ⟨q, z1, _⟩
    · exact absurd z hp
    · exact ⟨q, z1⟩
  unfold bhW at H
  rw [hq, Int.toNat_natCast] at H
  apply f_Planner_aliasesBehind_0
  rw [hT.aliases_n, a.1.2.2.2.2.1.1]
  refine ⟨hT.tag, hT.aliases_a.tag, ?_⟩
  have L : ∀ j k : Nat, k + j = (w 7).toNat → Wp m_Planner_aliasesBehind 10 [some (xR r), some (xR t), some (xI (behF w q (gnN w) k)), some (xI (k : Int))] [] h d mc ms R := by
    intro j
    induction j with
    | zero =>
      intro k hk
      apply f_Planner_aliasesBehind_10
      rw [K.2.1, if_neg (by omega)]
      rw [show k = (w 7).toNat by omega]
      exact ⟨pl.tag, H⟩
    | succ j ih =>
      intro k hk
      have ih := ih (k + 1) (by omega)
      have bl := behF_le (w := w) (q := q) (f := gnN w) k
      apply f_Planner_aliasesBehind_10
      rw [K.2.1, if_pos (by omega), ab_1 (by omega)]
      refine ⟨pl.tag, ⟨by omega, pl.tag⟩, sp_isChosen pl hV K (by omega) (fun ⟨q', q1, q2⟩ v e => ?_) (fun z v e => ?_)⟩
      · cases e
        obtain rfl : q' = q := by omega
        have hb := K.2.2
        rw [hc'] at hb
        have gb := gnW_bd hV hq (t := k) (by omega) q2
        have b2k := b2.2 (gnW w k).toNat (by omega)
        rw [if_neg (by decide), pl.given_n, pl.given_t, Int.toNat_natCast, bsC_gn hb hq (by omega) q2, hT.pool_n, hT.pool_a.word_n, hT.pool_a.word_t, b2k]
        refine ⟨hT.tag, hT.pool_a.tag, pl.tag, ⟨rfl, by omega, by show (k : Int) < 10; omega⟩, ⟨rfl, by omega, by show gnW w k < 12; omega⟩, ⟨by omega, hT.tag⟩, sp_cownAlias a hV (by omega) (fun v e => ?_)⟩
        have ev := xI_inj e
        clear e
        simp only [behF] at ih
        rw [if_pos q2] at ih
        by_cases c : v = -1
        · rw [if_pos c, ai_add_eq (by omega) (by omega)]
          rw [if_pos (by unfold gnN; rw [← ev]; exact c)] at ih
          exact ih
        · rw [if_neg c]
          rw [if_neg (by unfold gnN; rw [← ev]; exact c), Int.add_zero] at ih
          exact ih
      · cases e
        rw [if_pos rfl]
        simp only [behF] at ih
        rw [if_neg (fun y => z ⟨q, by omega, y⟩), Int.add_zero] at ih
        exact ih
  exact L (w 7).toNat 0 (by omega)
theorem plK.keep {h h' : Hp} {r : Nat} {w : Nat → Int} (k : plK h r w) (e0 : hpC h' r 0 = hpC h r 0) (e4 : hpC h' r 4 = hpC h r 4) (e : ∀ p, hpC h' (r + 1) p = hpC h (r + 1) p) : plK h' r w := by
  obtain ⟨z1, z2, z3⟩ := k
  refine ⟨by rw [e0]; exact z1, by rw [e4]; exact z2, ?_⟩
  rw [e0]
  intro q hq
  obtain ⟨l, l1, l2⟩ := z3 q hq
  exact ⟨l, l1, fun t ht hb => by rw [e]; exact l2 t ht hb⟩
theorem sp_ccarry {h : Hp} {x : Nat} {w : Nat → Int} {b : Nat → Nat} {n : Nat} {K : List Nat} {A : Nat → Nat} {nx cnt : Nat} {U : Nat → Nat → Int} {ik : Nat → Bool} {iw : Nat → Nat → Int} (c : CS h x w b n K A nx cnt U ik iw) (hV : V w) {d mc ms : Nat} {R : PR} {o1 : Option AV} (hd : 18 ≤ d) (hmc : 23 ≤ mc) (hms : 682 ≤ ms) (H1 : plC w ≠ -1 → bhW w ≤ 30 → ∀ h' A', CS h' x (crW w) b n K A' ((nx + 1) % 20) (min (cnt + 1) 20) (stU w U) ik iw → FrC h h' x → KO h h' x 5 → R (some (xI (popc (plC w).toNat : Int))) h') (H2 : ¬ (plC w ≠ -1 ∧ bhW w ≤ 30) → ∀ h', CS h' x w b n K A nx cnt U ik iw → FrC h h' x → KO h h' x 2 → R (some (xI (-1))) h') : Wp m_S_carry 0 [some (xR x), o1] [] h d mc ms R := by
  have v7 := hV.1.2.2.2.2.2.2.2.1
  have v6 := hV.1.2.2.2.2.2.2.1
  have ref : ∀ g, CS g x w b n K A nx cnt U ik iw → FrC h g x → KO h g x 5 → ¬ (plC w ≠ -1 ∧ bhW w ≤ 30) → (1 ≤ d ∧ (hpT g x).1 = 11) ∧ Wp m_S_refuse 0 [some (xR x), some (xI (2 : Int))] [] g (d - 1) 0 0 (fun rv h4 => ∀ v4 : Int, rv = some (xI v4) → R (some (xI v4)) h4) := fun g c f k z => by
    refine ⟨⟨by omega, c.1.tag⟩, sp_refuse (i := 2) c.1 c.2.2.2.2.2.2.2.2.1 (by omega) (fun v e => ?_)⟩
    cases e
    obtain ⟨r1, r2⟩ := c.rf 2 (ai_add (hpC g (x + 69) 2) 1)
    exact H2 z _ r1 (f.tr r2) (k.tr KO.up)
  have ck := c.2.2.2.2.1
  have tr := c.2.2.2.2.2.2.1
  apply f_S_carry_0
  rw [c.1.planner_n, c.1.now_n]
  refine ⟨c.1.tag, c.1.tag, ⟨by omega, ck.1.tag⟩, sp_learnPlan ck.1 tr hV (by omega) ck.2.1 ck.2.2 (by omega) (fun g f k1 KK _ => ?_)⟩
  obtain ⟨cg, fc, ko⟩ := c.p f k1 (fun _ => KK)
  have hc' := plC_eq KK.1
  have trg := cg.2.2.2.2.2.2.1
  have plg := cg.2.2.2.2.1.1
  rw [cg.1.planner_n, cg.1.now_n, hc']
  refine ⟨cg.1.tag, plg.tag, ?_⟩
  by_cases c0 : plC w = -1
  · rw [if_pos c0]; exact ref g cg fc ko (fun z => z.1 c0)
  rw [if_neg c0]
  refine ⟨cg.1.tag, cg.1.tag, ⟨by omega, plg.tag⟩, sp_aliasesBehind plg trg hV KK c0 (by omega) (fun v e => ?_)⟩
  have ev := xI_inj e
  clear e
  by_cases c1 : 30 < v
  · rw [if_pos c1]; exact ref g cg fc ko (fun z => by have := z.2; omega)
  rw [if_neg c1]
  have hb : bhW w ≤ 30 := by omega
  have H1 := H1 c0 hb
  obtain ⟨q, hq⟩ : ∃ q : Nat, plC w = (q : Int) := by
    rcases plP_bd hV (plC_spec w) with z | ⟨q, z1, _⟩
    · exact absurd z c0
    · exact ⟨q, z1⟩
  have hq1024 : q < 1024 := by
    rcases plP_bd hV (plC_spec w) with z | ⟨q', z1, z2, _⟩
    · exact absurd z c0
    · omega
  have inv := fun k (hk : k ≤ (w 7).toNat) => crW_inv hV c0 hb (k := k) hk
  unfold crW at H1
  rw [hq, Int.toNat_natCast] at H1
  simp only [hq, Int.toNat_natCast] at inv
  refine ⟨⟨by omega, by omega, by omega, cg.1.tag⟩, sp_remember cg hV (by omega) (fun g2 A' c2 fc2 ko2 z kp _ => ?_)⟩
  have K2 : plK g2 (x + 30) w := KK.keep (kp _ _ (by omega) (by omega)) (kp _ _ (by omega) (by omega)) (fun p => kp _ _ (by omega) (by omega))
  have L : ∀ (j k : Nat) (g : Hp), k + j = (w 7).toNat → CS g x (crF w q (gnN w) k) b n K A' ((nx + 1) % 20) (min (cnt + 1) 20) (stU w U) ik iw → FrC h g x → KO h g x 5 → (hpC g (x + 30) 2 = 0 ∧ hpC g (x + 30) 3 = 0) → plK g (x + 30) w → Wp m_S_carry 50 [some (xR x), some (xI (k : Int))] [] g d (mc - 23) (ms - 682) R := by
    intro j
    induction j with
    | zero =>
      intro k g hk cg fg kg zg KG
      have tr := cg.2.2.2.2.2.2.1
      have pl := cg.2.2.2.2.1.1
      have hT := tr.1.1
      have e7 : crF w q (gnN w) k 7 = w 7 := (inv k (by omega)).1.2.2 7 (by omega) (by omega)
      apply f_S_carry_50
      rw [cg.1.now_n, hT.streets_n, tr.1.2.2.1.1, e7, if_neg (by omega), cg.1.planner_n, plC_eq KG.1, hq]
      refine ⟨cg.1.tag, hT.tag, hT.streets_a.tag, cg.1.tag, pl.tag, by omega, sp_bitCount (by omega) (fun v e => ?_)⟩
      have ev := xI_inj e
      rw [ev]
      rw [show k = (w 7).toNat by omega] at cg
      exact H1 g A' cg fg kg
    | succ j ih =>
      intro k g hk cg fg kg zg KG
      have tr := cg.2.2.2.2.2.2.1
      have pl := cg.2.2.2.2.1.1
      have hT := tr.1.1
      obtain ⟨⟨i1, i2, i3⟩, i4⟩ := inv k (by omega)
      have e7 : crF w q (gnN w) k 7 = w 7 := i3 7 (by omega) (by omega)
      have e6 : crF w q (gnN w) k 6 = w 6 := i3 6 (by omega) (by omega)
      have hc2 := plC_eq KG.1
      apply f_S_carry_50
      rw [cg.1.now_n, hT.streets_n, tr.1.2.2.1.1, e7, if_pos (by omega), cg.1.planner_n, ab_1 (by omega)]
      refine ⟨cg.1.tag, hT.tag, hT.streets_a.tag, cg.1.tag, ⟨by omega, pl.tag⟩, sp_isChosen pl hV KG (by omega) (fun ⟨q', q1, q2⟩ v e => ?_) (fun zz v e => ?_)⟩
      · cases e
        obtain rfl : q' = q := by omega
        have hb := KG.2.2
        rw [hc2] at hb
        have gb := gnW_bd hV hq (t := k) (by omega) q2
        rw [if_neg (by decide), cg.1.planner_n, cg.1.now_n, pl.given_n, pl.given_t, Int.toNat_natCast, bsC_gn hb hq (by omega) q2, show gnW w k = ((gnN w k : Nat) : Int) from by unfold gnN; omega]
        refine ⟨cg.1.tag, cg.1.tag, pl.tag, ⟨rfl, by omega, by show (k : Int) < 10; omega⟩, ⟨by omega, hT.tag⟩, sp_rename tr i1 (by omega) (by rw [e6]; show (((gnW w k).toNat : Nat) : Int) < w 6; omega) (i4 (by omega) q2) (by omega) (fun g3 f3 tr3 _ => ?_)⟩
        obtain ⟨c3, fc3, ko3, z3, o3⟩ := cg.now zg f3 tr3
        have er : rnW (crF w q' (gnN w) k) k (gnN w k) = crF w q' (gnN w) (k + 1) := by simp only [crF]; rw [if_pos q2]
        rw [er] at c3
        exact ih (k + 1) g3 (by omega) c3 (fg.tr fc3) (kg.tr ko3) z3 (KG.keep (o3 _ _ (by omega)) (o3 _ _ (by omega)) (fun p => o3 _ _ (by omega)))
      · cases e
        rw [if_pos rfl]
        have er : crF w q (gnN w) k = crF w q (gnN w) (k + 1) := by simp only [crF]; rw [if_neg (fun y => zz ⟨q, by omega, y⟩)]
        rw [er] at cg
        exact ih (k + 1) g (by omega) cg fg kg zg KG
  exact L (w 7).toNat 0 g2 (by omega) c2 (fc.tr fc2) (ko.tr ko2) z K2
