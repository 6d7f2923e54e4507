/-! ===== plan, planned, least, cost, bill: answers ===== -/
noncomputable def plC (w : Nat → Int) : Int := Classical.choose (seP_ex (fun S => (popc S : Int)) (hsW w) (ppW w) (2 ^ (w 7).toNat))
theorem plC_spec (w : Nat → Int) : plP w (plC w) := Classical.choose_spec (seP_ex (fun S => (popc S : Int)) (hsW w) (ppW w) (2 ^ (w 7).toNat))
theorem plC_eq {w : Nat → Int} {c : Int} (h : plP w c) : c = plC w := plP_uniq h (plC_spec w)
theorem mnP_ex (b : Nat → Int) (P : Nat → Prop) (n0 : Int) : ∀ N, ∃ c, mnP b P n0 N c
  | 0 => ⟨n0, Or.inl rfl, Int.le_refl _, fun S hS => by omega⟩
  | N + 1 => by
    obtain ⟨c, hc⟩ := mnP_ex b P n0 N
    rcases Classical.em (P N) with z | z
    · rcases Classical.em (b N < c) with y | y
      · exact ⟨_, mnP_take hc z y⟩
      · exact ⟨c, mnP_skip hc (Or.inr (by omega))⟩
    · exact ⟨c, mnP_skip hc (Or.inl z)⟩
noncomputable def leC (w : Nat → Int) : Int := Classical.choose (mnP_ex (fun S => (popc S : Int)) (apP (clW w) (w 7).toNat) (w 7) (2 ^ (w 7).toNat))
theorem leC_spec (w : Nat → Int) : leP w (leC w) := Classical.choose_spec (mnP_ex (fun S => (popc S : Int)) (apP (clW w) (w 7).toNat) (w 7) (2 ^ (w 7).toNat))
theorem leC_eq {w : Nat → Int} {c : Int} (h : leP w c) : c = leC w := mnP_uniq (P1 := apP (clW w) (w 7).toNat) (P2 := apP (clW w) (w 7).toNat) (fun S => by omega) (fun S _ h => h) (fun S _ h1 h2 => absurd h1 h2) h (leC_spec w)
theorem leT_eq {w : Nat → Int} (hV : V w) {c : Int} (h : leT w c) : c = leC w := (le_uniq hV (leC_spec w) h).symm
/-- the name that a street of the plan gets -/
noncomputable def gnW (w : Nat → Int) (t : Nat) : Int := ((nmW w (plC w).toNat).getD []).getD t 0
theorem bsC_gn {h : Hp} {r : Nat} {w : Nat → Int} {q : Nat} (hb : bsC h r w (plC w)) (hq : plC w = (q : Int)) {t : Nat} (ht : t < (w 7).toNat) (hbt : q.testBit t = true) : hpC h r t = gnW w t := by
  obtain ⟨l, h1, h2⟩ := hb q hq
  rw [h2 t ht hbt]
  unfold gnW
  rw [hq, Int.toNat_natCast, h1]; rfl
theorem bsM_gn {h : Hp} {r : Nat} {w : Nat → Int} {q : Nat} (hb : bsM h r w (plC w)) (hq : plC w = (q : Int)) {t : Nat} (ht : t < (w 7).toNat) : hpC h r t = gnW w t := by
  obtain ⟨l, h1, h2⟩ := hb q hq
  rw [h2 t ht]
  unfold gnW
  rw [hq, Int.toNat_natCast, h1]; rfl
theorem gnW_bd {w : Nat → Int} (hV : V w) {q : Nat} (hq : plC w = (q : Int)) {t : Nat} (ht : t < (w 7).toNat) (hbt : q.testBit t = true) : 0 ≤ gnW w t ∧ gnW w t < w 6 ∧ mayW w t (gnW w t).toNat = true := by
  have v0 := hV.1.1
  have v1 := hV.1.2.1
  have v2 := hV.1.2.2.1
  have v3 := hV.1.2.2.2.1
  have v4 := hV.1.2.2.2.2.1
  have v5 := hV.1.2.2.2.2.2.1
  have v6 := hV.1.2.2.2.2.2.2.1
  have v7 := hV.1.2.2.2.2.2.2.2.1
  have v8 := hV.1.2.2.2.2.2.2.2.2.1
  have v9 := hV.1.2.2.2.2.2.2.2.2.2
  rcases plP_bd hV (plC_spec w) with z | ⟨q', z1, _, _, z4⟩
  · omega
  · obtain rfl : q' = q := by omega
    unfold gnW
    rw [hq, Int.toNat_natCast]
    cases e : nmW w q' with
    | none => exact absurd e z4
    | some l =>
      have := (nmP_bd _ _ _ _ e t ht).1 (by rw [Nat.zero_add]; exact hbt)
      rw [Nat.zero_add] at this
      simp only [Option.getD_some]
      exact ⟨this.1, by omega, this.2.2⟩
noncomputable def planA (w : Nat → Int) (i : Int) : Int := if plC w = -1 then -1 else if i = 0 then (popc (plC w).toNat : Int) else if i = 1 then hsW w (plC w).toNat else if i = 2 then plC w else -1
theorem sp_mplan {h : Hp} {m : Nat} {w : Nat → Int} (a : RD h m w) (hV : V w) {i : Int} {d mc ms : Nat} {R : PR} (hd : 7 ≤ d) (H : ∀ h', FrP (SM m) h h' → R (some (xI (planA w i))) h') : Wp m_M_plan 0 [some (xR m), some (xI i)] [] h d mc ms R := by
  have v0 := hV.1.1
  have v1 := hV.1.2.1
  have v2 := hV.1.2.2.1
  have v3 := hV.1.2.2.2.1
  have v4 := hV.1.2.2.2.2.1
  have v5 := hV.1.2.2.2.2.2.1
  have v6 := hV.1.2.2.2.2.2.2.1
  have v7 := hV.1.2.2.2.2.2.2.2.1
  have v8 := hV.1.2.2.2.2.2.2.2.2.1
  have v9 := hV.1.2.2.2.2.2.2.2.2.2
  unfold planA at H
  apply f_M_plan_0
  refine ⟨by omega, sp_isIn (fun v e => ?_)⟩
  cases e
  by_cases c : 0 ≤ i ∧ i ≤ 2
  · rw [if_pos c, if_neg (by decide)]
    refine ⟨⟨by omega, a.1.tag⟩, sp_plans a hV (by omega) (fun g c0 f hc x hb v e => ?_)⟩
    cases e
    have a := a.fr f
    have H := H g f
    rw [← plC_eq hc] at H
    by_cases c1 : c0 = -1
    · rw [if_pos c1, if_pos rfl]; rw [if_pos c1] at H; exact H
    · rw [if_neg c1, if_neg (by decide), x]
      rw [if_neg c1] at H
      obtain ⟨q, hq, hq2⟩ : ∃ q : Nat, c0 = (q : Int) ∧ q < 1024 := by
        rcases plP_bd hV hc with z | ⟨q, z1, z2, _⟩
        · exact absurd z c1
        · exact ⟨q, z1, z2⟩
      rw [hq, Int.toNat_natCast] at H
      rw [hq]
      by_cases i0 : i = 0
      · rw [if_pos i0]; rw [if_pos i0] at H
        refine ⟨a.1.tag, by omega, sp_mbits (by omega) (fun v e => ?_)⟩
        cases e; exact H
      · rw [if_neg i0]; rw [if_neg i0] at H
        by_cases i1 : i = 1
        · rw [if_pos i1]; rw [if_pos i1] at H
          refine ⟨a.1.tag, ⟨by omega, a.1.tag⟩, sp_housesIn a hV (by omega) (fun v e => ?_)⟩
          cases e; exact H
        · rw [if_neg i1]; rw [if_neg i1, if_pos (by omega)] at H
          exact ⟨a.1.tag, H⟩
  · rw [if_neg c, if_pos rfl]
    have H := H h FrP.rf
    rw [if_neg (show ¬ i = 0 by omega), if_neg (show ¬ i = 1 by omega), if_neg (show ¬ i = 2 by omega)] at H
    split at H
    · exact H
    · exact H
theorem SP.SAt {h h' : Hp} {x : Nat} (f : FrP (SP (x + 30)) h h') (s : sAt h x) : sAt h' x := s.fr f (fun p _ z => by rcases z with ⟨z, _⟩ | z <;> omega)
theorem sp_cplan {h : Hp} {x : Nat} {w : Nat → Int} (s : sAt h x) (a : TR h (x + 43) w) (hV : V w) (pl : plAt h (x + 30)) (hk : hpC h (x + 30) 2 ≠ 0 → clC h (x + 30) w) (hp : hpC h (x + 30) 3 ≠ 0 → plK h (x + 30) w) {i : Int} {d mc ms : Nat} {R : PR} (hd : 17 ≤ d) (H : ∀ h', FrP (SP (x + 30)) h h' → (hpC h' (x + 30) 2 ≠ 0 → clC h' (x + 30) w) → plK h' (x + 30) w → R (some (xI (planA w i))) h') : Wp m_S_plan 0 [some (xR x), some (xI i)] [] h d mc ms R := by
  have v0 := hV.1.1
  have v1 := hV.1.2.1
  have v2 := hV.1.2.2.1
  have v3 := hV.1.2.2.2.1
  have v4 := hV.1.2.2.2.2.1
  have v5 := hV.1.2.2.2.2.2.1
  have v6 := hV.1.2.2.2.2.2.2.1
  have v7 := hV.1.2.2.2.2.2.2.2.1
  have v8 := hV.1.2.2.2.2.2.2.2.2.1
  have v9 := hV.1.2.2.2.2.2.2.2.2.2
  unfold planA at H
  apply f_S_plan_0
  rw [s.planner_n, s.now_n]
  refine ⟨s.tag, s.tag, ⟨by omega, pl.tag⟩, sp_learnPlan pl a hV (by omega) hk hp (by omega) (fun g f k1 K _ => ?_)⟩
  have pl := pl.fr f
  have s := SP.SAt f s
  have a := SP.TR f (by omega) a
  have H := H g f k1 K
  have hT := a.1.1
  have hw : HW g (x + 43 + 18) w := a.1.2.2.2.2.2.2.1
  rw [← plC_eq K.1] at H
  rw [s.planner_n]
  refine ⟨s.tag, pl.tag, ?_⟩
  rcases plP_bd hV K.1 with z | ⟨q, z1, z2, _⟩
  · rw [if_pos z]; rw [if_pos z] at H; exact H
  · rw [if_neg (by omega)]
    rw [if_neg (by omega), z1, Int.toNat_natCast] at H
    rw [z1, s.now_n, hT.homes_n]
    by_cases i0 : i = 0
    · rw [if_pos (by omega)]; rw [if_pos i0] at H
      refine ⟨s.tag, pl.tag, by omega, sp_bitCount (by omega) (fun v e => ?_)⟩
      cases e; exact H
    · rw [if_neg (by omega)]; rw [if_neg i0] at H
      by_cases i1 : i = 1
      · rw [if_pos (by omega)]; rw [if_pos i1] at H
        refine ⟨s.tag, hT.tag, s.tag, pl.tag, ⟨by omega, hT.homes_a.tag⟩, sp_ofSet hT.homes_a hw hV z2 (fun v e => ?_)⟩
        cases e; exact H
      · rw [if_neg (by omega)]; rw [if_neg i1] at H
        by_cases i2 : i = 2
        · rw [if_pos (by omega)]; rw [if_pos i2] at H
          exact ⟨s.tag, pl.tag, H⟩
        · rw [if_neg (by omega)]; rw [if_neg i2] at H; exact H
noncomputable def plannedA (w : Nat → Int) (k : Int) : Int := if 0 ≤ k ∧ k < w 7 ∧ plC w ≠ -1 ∧ (plC w).toNat.testBit k.toNat = true then gnW w k.toNat else -1
theorem sp_mplanned {h : Hp} {m : Nat} {w : Nat → Int} (a : RD h m w) (hV : V w) {k : Int} {d mc ms : Nat} {R : PR} (hd : 7 ≤ d) (H : ∀ h', FrP (SM m) h h' → R (some (xI (plannedA w k))) h') : Wp m_M_planned 0 [some (xR m), some (xI k)] [] h d mc ms R := by
  have v0 := hV.1.1
  have v1 := hV.1.2.1
  have v2 := hV.1.2.2.1
  have v3 := hV.1.2.2.2.1
  have v4 := hV.1.2.2.2.2.1
  have v5 := hV.1.2.2.2.2.2.1
  have v6 := hV.1.2.2.2.2.2.2.1
  have v7 := hV.1.2.2.2.2.2.2.2.1
  have v8 := hV.1.2.2.2.2.2.2.2.2.1
  have v9 := hV.1.2.2.2.2.2.2.2.2.2
  unfold plannedA at H
  apply f_M_planned_0
  refine ⟨⟨by omega, a.1.tag⟩, sp_isStreet a hV (by omega) (fun v e => ?_)⟩
  cases e
  by_cases c : 0 ≤ k ∧ k < w 7
  · rw [if_pos c, if_neg (by decide)]
    obtain ⟨st, rfl⟩ : ∃ q : Nat, k = (q : Int) := ⟨k.toNat, by omega⟩
    rw [Int.toNat_natCast] at H
    refine ⟨⟨by omega, a.1.tag⟩, sp_plans a hV (by omega) (fun g c0 f hc x hb v e => ?_)⟩
    cases e
    have a := a.fr f
    have H := H g f
    have hc' := plC_eq hc
    by_cases c1 : c0 = -1
    · rw [if_pos c1, if_pos rfl]; rw [if_neg (fun z => z.2.2.1 (by omega))] at H; exact H
    · rw [if_neg c1, if_neg (by decide), x]
      obtain ⟨q, hq, hq2⟩ : ∃ q : Nat, c0 = (q : Int) ∧ q < 1024 := by
        rcases plP_bd hV hc with z | ⟨q, z1, z2, _⟩
        · exact absurd z c1
        · exact ⟨q, z1, z2⟩
      rw [hc'] at hb
      rw [hq, ai_bit (by omega) (by omega)]
      rw [← hc', hq, Int.toNat_natCast] at H
      refine ⟨a.1.tag, ?_⟩
      by_cases c2 : q.testBit st = true
      · rw [if_pos c2, if_pos rfl, a.1.best_n, a.1.best_t, Int.toNat_natCast, bsM_gn hb (by omega : plC w = (q : Int)) (by omega)]
        rw [if_pos ⟨by omega, by omega, by omega, c2⟩] at H
        exact ⟨a.1.tag, ⟨rfl, by omega, by show (st : Int) < 10; omega⟩, H⟩
      · rw [if_neg c2, if_neg (by decide)]
        rw [if_neg (fun z => c2 z.2.2.2)] at H
        exact H
  · rw [if_neg c, if_pos rfl]
    have H := H h FrP.rf
    rw [if_neg (fun z => c ⟨z.1, z.2.1⟩)] at H
    exact H
theorem sp_cplanned {h : Hp} {x : Nat} {w : Nat → Int} (s : sAt h x) (a : TR h (x + 43) w) (hV : V w) (pl : plAt h (x + 30)) (hk : hpC h (x + 30) 2 ≠ 0 → clC h (x + 30) w) (hp : hpC h (x + 30) 3 ≠ 0 → plK h (x + 30) w) {k : Int} {d mc ms : Nat} {R : PR} (hd : 17 ≤ d) (H : ∀ h', FrP (SP (x + 30)) h h' → (hpC h' (x + 30) 2 ≠ 0 → clC h' (x + 30) w) → (hpC h' (x + 30) 3 ≠ 0 → plK h' (x + 30) w) → R (some (xI (plannedA w k))) h') : Wp m_S_planned 0 [some (xR x), some (xI k)] [] h d mc ms R := by
  have v0 := hV.1.1
  have v1 := hV.1.2.1
  have v2 := hV.1.2.2.1
  have v3 := hV.1.2.2.2.1
  have v4 := hV.1.2.2.2.2.1
  have v5 := hV.1.2.2.2.2.2.1
  have v6 := hV.1.2.2.2.2.2.2.1
  have v7 := hV.1.2.2.2.2.2.2.2.1
  have v8 := hV.1.2.2.2.2.2.2.2.2.1
  have v9 := hV.1.2.2.2.2.2.2.2.2.2
  have hT := a.1.1
  have hR := a.1.2.1
  have b1 : NW h (x + 43 + 7) w (w 7) 180 := a.1.2.2.1
  have b2 : NW h (x + 43 + 10) w (w 6) 60 := a.1.2.2.2.1
  have b3 : NW h (x + 43 + 13) w (w 8) 650 := a.1.2.2.2.2.1
  have hw : HW h (x + 43 + 18) w := a.1.2.2.2.2.2.2.1
  have h7 : hpC h (x + 43) 7 = w 9 := a.1.2.2.2.2.2.2.2
  unfold plannedA at H
  apply f_S_planned_0
  rw [s.now_n, hT.streets_n]
  refine ⟨s.tag, hT.tag, ⟨by omega, hT.streets_a.tag⟩, sp_holds hT.streets_a.tag b1.1 (fun v e => ?_)⟩
  cases e
  by_cases c : 0 ≤ k ∧ k < w 7
  · rw [if_pos c, if_neg (by decide), s.planner_n, s.now_n]
    obtain ⟨st, rfl⟩ : ∃ q : Nat, k = (q : Int) := ⟨k.toNat, by omega⟩
    rw [Int.toNat_natCast] at H
    refine ⟨s.tag, s.tag, ⟨by omega, pl.tag⟩, sp_learnPlan pl a hV (by omega) hk hp (by omega) (fun g f k1 K _ => ?_)⟩
    have pl := pl.fr f
    have s := SP.SAt f s
    have H := H g f k1 (fun _ => K)
    have hc' := plC_eq K.1
    rw [s.planner_n]
    refine ⟨s.tag, ⟨by omega, pl.tag⟩, sp_isChosen pl hV K (by omega) (fun ⟨q, q1, q2⟩ v e => ?_) (fun z v e => ?_)⟩
    · cases e
      have hb := K.2.2
      rw [hc'] at hb
      rw [if_neg (by decide), s.planner_n, pl.given_n, pl.given_t, Int.toNat_natCast, bsC_gn hb (by omega : plC w = (q : Int)) (by omega) q2]
      rw [← hc', q1, Int.toNat_natCast, if_pos ⟨by omega, by omega, by omega, q2⟩] at H
      exact ⟨s.tag, pl.tag, ⟨rfl, by omega, by show (st : Int) < 10; omega⟩, H⟩
    · cases e
      rw [if_pos rfl]
      rw [if_neg] at H
      · exact H
      · rintro ⟨_, _, y1, y2⟩
        apply z
        rcases plP_bd hV K.1 with u | ⟨q, u1, _⟩
        · omega
        · rw [← hc', u1, Int.toNat_natCast] at y2
          exact ⟨q, u1, y2⟩
  · rw [if_neg c, if_pos rfl]
    have H := H h FrP.rf hk hp
    rw [if_neg (fun z => c ⟨z.1, z.2.1⟩)] at H
    exact H
/-! cost, bill -/
theorem ac_lt0 {l : Int} : al_cmp l ((0 : Nat) : Int) < 0 ↔ l < 0 := al_cmp_lt
theorem ac_eq0 {l : Int} : al_cmp l ((0 : Nat) : Int) = 0 ↔ l = 0 := al_cmp_eq
def tmA (M l : Int) : Int := if 0 < M then (if 0 < al_cmp l (al_div ((9223372036854775807 : Nat) : Int) M) then -((2 : Nat) : Int) else al_mul M l) else ((0 : Nat) : Int)
def loW (w : Nat → Int) (s : Nat) : Int := w (280 + s) * (nW w (180 + 10 * s) : Int)
theorem loW_bd {w : Nat → Int} (hV : V w) {s : Nat} (hs : (s : Int) < w 7) : 0 ≤ loW w s ∧ loW w s ≤ 120 := by
  have v0 := hV.1.1
  have v1 := hV.1.2.1
  have v2 := hV.1.2.2.1
  have v3 := hV.1.2.2.2.1
  have v4 := hV.1.2.2.2.2.1
  have v5 := hV.1.2.2.2.2.2.1
  have v6 := hV.1.2.2.2.2.2.2.1
  have v7 := hV.1.2.2.2.2.2.2.2.1
  have v8 := hV.1.2.2.2.2.2.2.2.2.1
  have v9 := hV.1.2.2.2.2.2.2.2.2.2
  have h1 := (hV.2.2.2.2.2.2.1 s (by omega)).1
  have h2 := (hV.2.2.2.2.1 s hs).spec.2.1
  unfold loW
  constructor
  · exact Int.mul_nonneg h1.1 (by omega)
  · exact Int.le_trans (Int.mul_le_mul h1.2 (show (nW w (180 + 10 * s) : Int) ≤ 10 by omega) (by omega) (by omega)) (by omega)
def costA (w : Nat → Int) (k l : Int) : Int := if (0 ≤ k ∧ k < w 7) ∧ 0 ≤ l then tmA (loW w k.toNat) l else -((1 : Nat) : Int)
theorem sp_lettersOn {h : Hp} {t : Nat} {w : Nat → Int} (a : TR h t w) (hV : V w) {s : Nat} (hs : (s : Int) < w 7) {d mc ms : Nat} {R : PR} (hd : 2 ≤ d) (H : R (some (xI (loW w s))) h) : Wp m_Town_lettersOnHouses 0 [some (xR t), some (xI (s : Int))] [] h d mc ms R := by
  have v0 := hV.1.1
  have v1 := hV.1.2.1
  have v2 := hV.1.2.2.1
  have v3 := hV.1.2.2.2.1
  have v4 := hV.1.2.2.2.2.1
  have v5 := hV.1.2.2.2.2.2.1
  have v6 := hV.1.2.2.2.2.2.2.1
  have v7 := hV.1.2.2.2.2.2.2.2.1
  have v8 := hV.1.2.2.2.2.2.2.2.2.1
  have v9 := hV.1.2.2.2.2.2.2.2.2.2
  have hT := a.1.1
  have b1 : NW h (t + 7) w (w 7) 180 := a.1.2.2.1
  have hw : HW h (t + 18) w := a.1.2.2.2.2.2.2.1
  have hn := hV.2.2.2.2.1 s hs
  have lb := loW_bd hV hs
  apply f_Town_lettersOnHouses_0
  rw [hT.homes_n, hT.homes_a.count_n, hT.homes_a.count_t, hT.streets_n, hT.streets_a.word_n, hT.streets_a.word_t, Int.toNat_natCast, (hw s (by omega)).1, b1.2 s hs]
  refine ⟨hT.tag, hT.homes_a.tag, ⟨rfl, by omega, by show (s : Int) < 10; omega⟩, hT.tag, hT.streets_a.tag, ⟨rfl, by omega, by show (s : Int) < 10; omega⟩, by omega, sp_lengthOf (lt50 (wordW_lt hn)) (wordW_isL hn).len (by omega) (fun v e => ?_)⟩
  cases e
  unfold loW at H lb
  rw [ai_mul_eq (by omega) (by omega)]
  exact H
theorem sp_times {M l : Int} {h : Hp} {d mc ms : Nat} {R : PR} (H : R (some (xL (tmA M l))) h) : Wp m_S_times 0 [some (xI M), some (xL l), none] [] h d mc ms R := by
  unfold tmA at H
  apply f_S_times_0
  by_cases c : 0 < M
  · rw [if_pos c]; rw [if_pos c] at H
    refine ⟨by omega, ?_⟩
    by_cases c2 : 0 < al_cmp l (al_div ((9223372036854775807 : Nat) : Int) M)
    · rw [if_pos c2]; rw [if_pos c2] at H; exact H
    · rw [if_neg c2]; rw [if_neg c2] at H; exact H
  · rw [if_neg c]; rw [if_neg c] at H; exact H
theorem sp_ccost {h : Hp} {x : Nat} {w : Nat → Int} (s : sAt h x) (a : TR h (x + 43) w) (hV : V w) {k l : Int} {d mc ms : Nat} {R : PR} (hd : 3 ≤ d) (H : R (some (xL (costA w k l))) h) : Wp m_S_cost 0 [some (xR x), some (xI k), some (xL l), none] [] h d mc ms R := by
  have v0 := hV.1.1
  have v1 := hV.1.2.1
  have v2 := hV.1.2.2.1
  have v3 := hV.1.2.2.2.1
  have v4 := hV.1.2.2.2.2.1
  have v5 := hV.1.2.2.2.2.2.1
  have v6 := hV.1.2.2.2.2.2.2.1
  have v7 := hV.1.2.2.2.2.2.2.2.1
  have v8 := hV.1.2.2.2.2.2.2.2.2.1
  have v9 := hV.1.2.2.2.2.2.2.2.2.2
  have hT := a.1.1
  have hR := a.1.2.1
  have b1 : NW h (x + 43 + 7) w (w 7) 180 := a.1.2.2.1
  have b2 : NW h (x + 43 + 10) w (w 6) 60 := a.1.2.2.2.1
  have b3 : NW h (x + 43 + 13) w (w 8) 650 := a.1.2.2.2.2.1
  have hw : HW h (x + 43 + 18) w := a.1.2.2.2.2.2.2.1
  have h7 : hpC h (x + 43) 7 = w 9 := a.1.2.2.2.2.2.2.2
  unfold costA at H
  apply f_S_cost_0
  rw [s.now_n, hT.streets_n]
  refine ⟨s.tag, hT.tag, ⟨by omega, hT.streets_a.tag⟩, sp_holds hT.streets_a.tag b1.1 (fun v e => ?_)⟩
  cases e
  by_cases c : 0 ≤ k ∧ k < w 7
  · rw [if_pos c, if_neg (by decide)]
    by_cases c1 : l < 0
    · rw [if_pos (ac_lt0.mpr c1)]
      rw [if_neg (fun z => by omega)] at H
      exact H
    · rw [if_neg (fun z => c1 (ac_lt0.mp z)), s.now_n]
      rw [if_pos ⟨c, by omega⟩] at H
      obtain ⟨st, rfl⟩ : ∃ q : Nat, k = (q : Int) := ⟨k.toNat, by omega⟩
      rw [Int.toNat_natCast] at H
      refine ⟨s.tag, ⟨by omega, hT.tag⟩, sp_lettersOn a hV (by omega) (by omega) (fun v e => ?_)⟩
      cases e
      refine ⟨by omega, sp_times (fun v e => ?_)⟩
      cases e
      exact H
  · rw [if_neg c, if_pos rfl]
    rw [if_neg (fun z => c z.1)] at H
    exact H
theorem sp_mcost {h : Hp} {m : Nat} {w : Nat → Int} (a : RD h m w) (hV : V w) {k l : Int} {d mc ms : Nat} {R : PR} (hd : 2 ≤ d) {o4 o5 : Option AV} (H : ∀ h', FrP (SM m) h h' → R (some (xL (costA w k l))) h') : Wp m_M_cost 0 [some (xR m), some (xI k), some (xL l), none, o4, o5] [] h d mc ms R := by
  have v0 := hV.1.1
  have v1 := hV.1.2.1
  have v2 := hV.1.2.2.1
  have v3 := hV.1.2.2.2.1
  have v4 := hV.1.2.2.2.2.1
  have v5 := hV.1.2.2.2.2.2.1
  have v6 := hV.1.2.2.2.2.2.2.1
  have v7 := hV.1.2.2.2.2.2.2.2.1
  have v8 := hV.1.2.2.2.2.2.2.2.2.1
  have v9 := hV.1.2.2.2.2.2.2.2.2.2
  unfold costA at H
  apply f_M_cost_0
  refine ⟨⟨by omega, a.1.tag⟩, sp_isStreet a hV (by omega) (fun v e => ?_)⟩
  cases e
  by_cases c : 0 ≤ k ∧ k < w 7
  · rw [if_pos c, if_neg (by decide)]
    by_cases c1 : l < 0
    · rw [if_pos (ac_lt0.mpr c1)]
      have H := H h FrP.rf
      rw [if_neg (fun z => by omega)] at H
      exact H
    · rw [if_neg (fun z => c1 (ac_lt0.mp z))]
      rw [if_pos ⟨c, by omega⟩] at H
      obtain ⟨st, rfl⟩ : ∃ q : Nat, k = (q : Int) := ⟨k.toNat, by omega⟩
      rw [Int.toNat_natCast] at H
      have hn := hV.2.2.2.2.1 st (by omega)
      have lb := loW_bd hV (s := st) (by omega)
      rw [am_10 (by omega), aa_180 (by omega), aa_280 (by omega)]
      refine ⟨⟨by omega, a.1.tag⟩, sp_takesWord a.1 (by omega) (a.rLen (by omega) hn) (fun h1 f1 c1 c2 _ => ?_)⟩
      have a1 := a.fr (Stw_SM f1)
      have H := H h1 (Stw_SM f1)
      have em : al_mul (w (280 + st)) (nW w (180 + 10 * st) : Int) = loW w st := by unfold loW at lb ⊢; exact al_mul_eq (by omega) (by omega)
      rw [a1.1.row_n, a1.1.row_t, Int.toNat_natCast, a1.2 _ (by omega), c1, em]
      refine ⟨a1.1.tag, ⟨rfl, by omega, by show ((280 + st : Nat) : Int) < 24240; omega⟩, a1.1.tag, ?_⟩
      unfold tmA at H
      by_cases c3 : loW w st = 0
      · rw [if_pos (ac_eq0.mpr c3)]
        rw [if_neg (by omega)] at H
        exact H
      · rw [if_neg (fun z => c3 (ac_eq0.mp z))]
        rw [if_pos (by omega)] at H
        refine ⟨c3, ?_⟩
        by_cases c2 : 0 < al_cmp l (al_div ((9223372036854775807 : Nat) : Int) (loW w st))
        · rw [if_pos c2]; rw [if_pos c2] at H; exact H
        · rw [if_neg c2]; rw [if_neg c2] at H; exact H
  · rw [if_neg c, if_pos rfl]
    have H := H h FrP.rf
    rw [if_neg (fun z => c z.1)] at H
    exact H
def biW (w : Nat → Int) (q n : Nat) : Int := sumN (fun s => if q.testBit s then loW w s else 0) n
theorem biW_bd {w : Nat → Int} (hV : V w) (q : Nat) : ∀ n : Nat, (n : Int) ≤ w 7 → 0 ≤ biW w q n ∧ biW w q n ≤ 120 * n
  | 0, _ => by simp [biW, sumN]
  | n + 1, hn => by
    have h1 := biW_bd hV q n (by omega)
    have h2 := loW_bd hV (s := n) (by omega)
    unfold biW at h1 ⊢
    simp only [sumN]
    split <;> omega
noncomputable def billA (w : Nat → Int) (l : Int) : Int := if plC w ≠ -1 ∧ 0 ≤ l then tmA (biW w (plC w).toNat (w 7).toNat) l else -((1 : Nat) : Int)
theorem sp_cbill {h : Hp} {x : Nat} {w : Nat → Int} (s : sAt h x) (a : TR h (x + 43) w) (hV : V w) (pl : plAt h (x + 30)) (hk : hpC h (x + 30) 2 ≠ 0 → clC h (x + 30) w) (hp : hpC h (x + 30) 3 ≠ 0 → plK h (x + 30) w) {l : Int} {d mc ms : Nat} {R : PR} (hd : 17 ≤ d) {o3 o4 : Option AV} (H : ∀ h', FrP (SP (x + 30)) h h' → (hpC h' (x + 30) 2 ≠ 0 → clC h' (x + 30) w) → plK h' (x + 30) w → R (some (xL (billA w l))) h') : Wp m_S_bill 0 [some (xR x), some (xL l), none, o3, o4] [] h d mc ms R := by
  have v0 := hV.1.1
  have v1 := hV.1.2.1
  have v2 := hV.1.2.2.1
  have v3 := hV.1.2.2.2.1
  have v4 := hV.1.2.2.2.2.1
  have v5 := hV.1.2.2.2.2.2.1
  have v6 := hV.1.2.2.2.2.2.2.1
  have v7 := hV.1.2.2.2.2.2.2.2.1
  have v8 := hV.1.2.2.2.2.2.2.2.2.1
  have v9 := hV.1.2.2.2.2.2.2.2.2.2
  unfold billA at H
  apply f_S_bill_0
  rw [s.planner_n, s.now_n]
  refine ⟨s.tag, s.tag, ⟨by omega, pl.tag⟩, sp_learnPlan pl a hV (by omega) hk hp (by omega) (fun g f k1 K _ => ?_)⟩
  have pl := pl.fr f
  have s := SP.SAt f s
  have a := SP.TR f (by omega) a
  have H := H g f k1 K
  have hT := a.1.1
  have hR := a.1.2.1
  have b1 := a.1.2.2.1
  have b2 := a.1.2.2.2.1
  have b3 := a.1.2.2.2.2.1
  have hw := a.1.2.2.2.2.2.2.1
  have h7 := a.1.2.2.2.2.2.2.2
  rw [← plC_eq K.1] at H
  rw [s.planner_n]
  refine ⟨s.tag, pl.tag, ?_⟩
  rcases plP_bd hV K.1 with z | ⟨q, z1, z2, _⟩
  · rw [if_pos z]; rw [if_neg (fun y => y.1 z)] at H; exact H
  · rw [if_neg (by omega)]
    by_cases c1 : l < 0
    · rw [if_pos (ac_lt0.mpr c1)]
      rw [if_neg (fun y => by omega)] at H
      exact H
    · rw [if_neg (fun z => c1 (ac_lt0.mp z))]
      rw [if_pos ⟨by omega, by omega⟩, z1, Int.toNat_natCast] at H
      have L : ∀ j i : Nat, i + j = (w 7).toNat → Wp m_S_bill 37 [some (xR x), some (xL l), none, some (xI (biW w q i)), some (xI (i : Int))] [] g d mc ms R := by
        intro j
        induction j with
        | zero =>
          intro i hi
          apply f_S_bill_37
          rw [s.now_n, hT.streets_n, b1.1, if_neg (by omega)]
          refine ⟨s.tag, hT.tag, hT.streets_a.tag, by omega, sp_times (fun v e => ?_)⟩
          cases e
          rw [show i = (w 7).toNat by omega]
          exact H
        | succ j ih =>
          intro i hi
          have ih := ih (i + 1) (by omega)
          have bb := biW_bd hV q i (by omega)
          have lb := loW_bd hV (s := i) (by omega)
          apply f_S_bill_37
          rw [s.now_n, hT.streets_n, b1.1, if_pos (by omega), s.planner_n, ab_1 (by omega)]
          refine ⟨s.tag, hT.tag, hT.streets_a.tag, s.tag, ⟨by omega, pl.tag⟩, sp_isChosen pl hV K (by omega) (fun ⟨q', q1, q2⟩ v e => ?_) (fun z v e => ?_)⟩
          · cases e
            obtain rfl : q' = q := by omega
            rw [if_neg (by decide), s.now_n]
            refine ⟨s.tag, ⟨by omega, hT.tag⟩, sp_lettersOn a hV (by omega) (by omega) (fun v e => ?_)⟩
            cases e
            rw [ai_add_eq (by omega) (by omega)]
            rw [show biW w q' (i + 1) = biW w q' i + loW w i by unfold biW; simp only [sumN]; rw [if_pos q2]] at ih
            exact ih
          · cases e
            rw [if_pos rfl]
            rw [show biW w q (i + 1) = biW w q i by unfold biW; simp only [sumN]; rw [if_neg (fun y => z ⟨q, z1, y⟩)]; omega] at ih
            exact ih
      exact L (w 7).toNat 0 (by omega)
theorem sp_mbill {h : Hp} {m : Nat} {w : Nat → Int} (a : RD h m w) (hV : V w) {l : Int} {d mc ms : Nat} {R : PR} (hd : 7 ≤ d) {o3 o4 o5 : Option AV} (H : ∀ h', FrP (SM m) h h' → R (some (xL (billA w l))) h') : Wp m_M_bill 0 [some (xR m), some (xL l), none, o3, o4, o5] [] h d mc ms R := by
  have v0 := hV.1.1
  have v1 := hV.1.2.1
  have v2 := hV.1.2.2.1
  have v3 := hV.1.2.2.2.1
  have v4 := hV.1.2.2.2.2.1
  have v5 := hV.1.2.2.2.2.2.1
  have v6 := hV.1.2.2.2.2.2.2.1
  have v7 := hV.1.2.2.2.2.2.2.2.1
  have v8 := hV.1.2.2.2.2.2.2.2.2.1
  have v9 := hV.1.2.2.2.2.2.2.2.2.2
  unfold billA at H
  apply f_M_bill_0
  by_cases c1 : l < 0
  · rw [if_pos (ac_lt0.mpr c1)]
    have H := H h FrP.rf
    rw [if_neg (fun y => by omega)] at H
    exact H
  · rw [if_neg (fun z => c1 (ac_lt0.mp z))]
    refine ⟨⟨by omega, a.1.tag⟩, sp_plans a hV (by omega) (fun g c0 f hc x hb v e => ?_)⟩
    cases e
    rw [← plC_eq hc] at H
    by_cases c2 : c0 = -1
    · rw [if_pos c2, if_pos rfl]
      have H := H g f
      rw [if_neg (fun y => y.1 c2)] at H
      exact H
    · rw [if_neg c2, if_neg (by decide)]
      obtain ⟨q, hq, hq2⟩ : ∃ q : Nat, c0 = (q : Int) ∧ q < 1024 := by
        rcases plP_bd hV hc with z | ⟨q, z1, z2, _⟩
        · exact absurd z c2
        · exact ⟨q, z1, z2⟩
      rw [if_pos ⟨c2, by omega⟩, hq, Int.toNat_natCast] at H
      have L : ∀ (j i : Nat) (g : Hp), i + j = (w 7).toNat → FrP (SM m) h g → hpC g m 28 = (q : Int) → Wp m_M_bill 22 [some (xR m), some (xL l), none, some (xL (biW w q i)), none, some (xI (i : Int))] [] g d mc ms R := by
        intro j
        induction j with
        | zero =>
          intro i g hi f x
          have a := a.fr f
          have H := H g f
          apply f_M_bill_22
          rw [a.1.row_n, a.1.row_t, tn_7, a.2 7 (by omega), if_neg (by omega), show i = (w 7).toNat by omega]
          refine ⟨a.1.tag, ⟨rfl, by omega, by decide⟩, ?_⟩
          have bb := biW_bd hV q (w 7).toNat (by omega)
          unfold tmA at H
          by_cases c3 : biW w q (w 7).toNat = 0
          · rw [if_pos (ac_eq0.mpr c3)]
            rw [if_neg (by omega)] at H
            exact H
          · rw [if_neg (fun z => c3 (ac_eq0.mp z))]
            rw [if_pos (by omega)] at H
            refine ⟨c3, ?_⟩
            by_cases c2 : 0 < al_cmp l (al_div ((9223372036854775807 : Nat) : Int) (biW w q (w 7).toNat))
            · rw [if_pos c2]; rw [if_pos c2] at H; exact H
            · rw [if_neg c2]; rw [if_neg c2] at H; exact H
        | succ j ih =>
          intro i g hi f x
          have a := a.fr f
          have bb := biW_bd hV q i (by omega)
          have lb := loW_bd hV (s := i) (by omega)
          have hn := hV.2.2.2.2.1 i (by omega)
          apply f_M_bill_22
          rw [a.1.row_n, a.1.row_t, tn_7, a.2 7 (by omega), if_pos (by omega), x, ai_bit (by omega) (by omega), ab_1 (by omega), am_10 (by omega), aa_180 (by omega), aa_280 (by omega)]
          refine ⟨a.1.tag, ⟨rfl, by omega, by decide⟩, a.1.tag, ?_⟩
          by_cases c3 : q.testBit i = true
          · rw [if_pos c3, if_neg (by decide)]
            refine ⟨⟨by omega, a.1.tag⟩, sp_takesWord a.1 (by omega) (a.rLen (by omega) hn) (fun h1 f1 c1 c2 _ => ?_)⟩
            have a1 := a.fr (Stw_SM f1)
            have em : al_mul (w (280 + i)) (nW w (180 + 10 * i) : Int) = loW w i := by unfold loW at lb ⊢; exact al_mul_eq (by omega) (by omega)
            rw [a1.1.row_n, a1.1.row_t, Int.toNat_natCast, a1.2 _ (by omega), c1, em, al_add_eq (by omega) (by omega)]
            refine ⟨a1.1.tag, ⟨rfl, by omega, by show ((280 + i : Nat) : Int) < 24240; omega⟩, a1.1.tag, ?_⟩
            have := ih (i + 1) h1 (by omega) (f.tr (Stw_SM f1)) (by rw [f1.2.2 _ _ (fun z => by rcases z with ⟨_, z⟩ | z <;> omega)]; exact x)
            rw [show biW w q (i + 1) = biW w q i + loW w i by unfold biW; simp only [sumN]; rw [if_pos c3]] at this
            exact this
          · rw [if_neg c3, if_pos rfl]
            have := ih (i + 1) g (by omega) f x
            rw [show biW w q (i + 1) = biW w q i by unfold biW; simp only [sumN]; rw [if_neg c3]; omega] at this
            exact this
      exact L (w 7).toNat 0 g (by omega) f (by rw [x, hq])
