/-! ===== the reference's plan: the choice ===== -/
theorem nb1 {v1 v2 a b x y : Int} (h1 : v1 = a) (h2 : v2 = b) (h : v2 < v1) : ¬ (a < b ∨ (a = b ∧ x < y)) := by omega
theorem nb2 {v3 v4 v5 v6 a b x y : Int} (h3 : v3 = a) (h4 : v4 = b) (h : v3 = v4) (h5 : v5 = x) (h6 : v6 = y) (g : ¬ v5 < v6) : ¬ (a < b ∨ (a = b ∧ x < y)) := by omega
theorem yb1 {v3 v4 v5 v6 a b x y : Int} (h3 : v3 = a) (h4 : v4 = b) (h : v3 = v4) (h5 : v5 = x) (h6 : v6 = y) (g : v5 < v6) : (a < b ∨ (a = b ∧ x < y)) := by omega
theorem yb2 {v1 v2 v3 v4 a b x y : Int} (h1 : v1 = a) (h2 : v2 = b) (h : ¬ v2 < v1) (h3 : v3 = a) (h4 : v4 = b) (g : ¬ v3 = v4) : (a < b ∨ (a = b ∧ x < y)) := by omega
theorem xI_inj {a b : Int} (h : some (xI a) = some (xI b)) : b = a := by cases h; rfl
theorem sp_plans {h : Hp} {m : Nat} {w : Nat → Int} (a : RD h m w) (hV : V w) {d mc ms : Nat} {R : PR} (hd : 6 ≤ d) {o1 o2 o3 o4 : Option AV} (H : ∀ (h' : Hp) (c : Int), FrP (SM m) h h' → plP w c → hpC h' m 28 = c → bsM h' (m + 15) w c → R (some (xI (if c = -1 then 0 else 1))) h') : Wp m_M_plans 0 [some (xR m), o1, o2, o3, o4] [] h d mc ms R := by
  have v0 := hV.1.1
  have v1 := hV.1.2.1
  have v2 := hV.1.2.2.1
  have v3 := hV.1.2.2.2.1
  have v4 := hV.1.2.2.2.2.1
  have v5 := hV.1.2.2.2.2.2.1
  have v6 := hV.1.2.2.2.2.2.2.1
  have v7 := hV.1.2.2.2.2.2.2.2.1
  have v8 := hV.1.2.2.2.2.2.2.2.2.1
  have v9 := hV.1.2.2.2.2.2.2.2.2.2
  have p10 : 2 ^ (w 7).toNat ≤ 1024 := Nat.pow_le_pow_right (n := 2) (by decide) (show (w 7).toNat ≤ 10 by omega)
  have pp : 0 < 2 ^ (w 7).toNat := Nat.pow_pos (by decide)
  apply f_M_plans_0
  refine ⟨⟨by omega, a.1.tag⟩, sp_laysClashes a hV (by omega) (fun g1 f1 cm _ => ?_)⟩
  have a1 := a.fr (Slc_SM f1)
  refine ⟨⟨by omega, a1.1.tag⟩, sp_laysMay a1 hV (by omega) (fun g2 f2 my _ => ?_)⟩
  have a2 := a1.fr (Sly_SM f2)
  have cm2 : clM g2 m w := cm.fr (fun p => f2.2.2 _ _ (fun z => by rcases z with (⟨z, _⟩ | z) | z | z <;> omega))
  have e7 : w 7 = ((w 7).toNat : Int) := by omega
  have es : ai_sub (ai_shl 1 (w 7)) 1 = ((2 ^ (w 7).toNat - 1 : Nat) : Int) := by
    rw [e7, ai_shl_one _ (by omega), ← e7, as_1 (by omega) (by omega)]
  rw [a2.1.row_n, a2.1.row_t, tn_7, a2.2 7 (by omega), es]
  refine ⟨a2.1.tag, ⟨rfl, by omega, by decide⟩, a2.1.tag, fun g3 e3 => ?_⟩
  have f3 : FrP (Spn m) g2 g3 := by subst e3; exact FrP.up (Or.inl ⟨rfl, rfl⟩)
  have x3 : hpC g3 m 28 = -1 := by subst e3; rw [hpC_same]
  clear e3
  have F0 : FrP (SM m) h g2 := (Slc_SM f1).tr (Sly_SM f2)
  have L : ∀ (j S : Nat) (c : Int) (g : Hp) (o3 o4 : Option AV), S + j = 2 ^ (w 7).toNat → FrP (Spn m) g2 g → seP (fun S => (popc S : Int)) (hsW w) (ppW w) S c → hpC g m 28 = c → bsM g (m + 15) w c → Wp m_M_plans 27 [some (xR m), some (xI ((2 ^ (w 7).toNat - 1 : Nat) : Int)), some (xI (S : Int)), o3, o4] [] g d mc ms R := by
    intro j
    induction j with
    | zero =>
      intro S c g o3 o4 hS f hc x hb
      have a := a2.fr (Spn_SM f)
      apply f_M_plans_27
      rw [if_pos (by omega), x]
      refine ⟨a.1.tag, ?_⟩
      rw [show S = 2 ^ (w 7).toNat by omega] at hc
      have H := H g c (F0.tr (Spn_SM f)) hc x hb
      by_cases c1 : c = -1
      · rw [if_pos c1]; rw [if_pos c1] at H; exact ⟨by simp, H⟩
      · rw [if_neg c1]; rw [if_neg c1] at H; exact ⟨by simp, H⟩
    | succ j ih =>
      intro S c g o3 o4 hS f hc x hb
      have a := a2.fr (Spn_SM f)
      have rb := rest_bits (n := (w 7).toNat) (S := S) (by omega) (by omega)
      have W1 : (∃ q : Nat, c = (q : Int) ∧ ¬ beP (fun S => (popc S : Int)) (hsW w) q S) → ∀ o3 o4 : Option AV, Wp m_M_plans 89 [some (xR m), some (xI ((2 ^ (w 7).toNat - 1 : Nat) : Int)), some (xI (S : Int)), o3, o4] [xI 1] g d mc ms R := by
        intro z o3 o4
        apply f_M_plans_89
        rw [if_neg (by decide), ab_1 (by omega)]
        exact ih (S + 1) c g _ _ (by omega) f (seP_skip hc (Or.inr z)) x hb
      have W0 : (c = -1 ∨ ∃ q : Nat, c = (q : Int) ∧ beP (fun S => (popc S : Int)) (hsW w) q S) → ∀ o3 o4 : Option AV, Wp m_M_plans 89 [some (xR m), some (xI ((2 ^ (w 7).toNat - 1 : Nat) : Int)), some (xI (S : Int)), o3, o4] [xI 0] g d mc ms R := by
        intro z o3 o4
        apply f_M_plans_89
        rw [if_pos rfl, ai_andn (by omega) (by omega), ab_1 (by omega)]
        refine ⟨⟨by omega, a.1.tag⟩, sp_areApart a hV (Spn.cl f cm2) rb.1 rb.2 (fun ap v e => ?_) (fun ap v e => ?_)⟩
        · cases e
          rw [if_neg (by decide)]
          refine ⟨⟨by omega, a.1.tag⟩, sp_names a hV (Spn.my f my) (by omega) (by omega) (fun g4 l f4 e4 q4 v e => ?_) (fun g4 f4 e4 v e => ?_)⟩
          · cases e
            rw [if_neg (by decide)]
            have a4 := a.fr (Snm_SM f4)
            refine ⟨a4.1.tag, fun g5 e5 => ?_⟩
            have f5 : FrP (Spn m) g2 g5 := by subst e5; exact f.tr ((Snm_Spn f4).tr (FrP.up (Or.inl ⟨rfl, rfl⟩)))
            have x5 : hpC g5 m 28 = (S : Int) := by subst e5; rw [hpC_same]
            have y5 : ∀ i, i < (w 7).toNat → hpC g5 (m + 14) i = l.getD i 0 := fun i hi => by subst e5; rw [hpC_ne (Or.inl (by omega))]; exact q4 i hi
            clear e5
            have C : ∀ (i t : Nat) (g : Hp) (o3 : Option AV), t + i = 10 → FrP (Spn m) g2 g → hpC g m 28 = (S : Int) → (∀ i, i < (w 7).toNat → hpC g (m + 14) i = l.getD i 0) → (∀ u, u < t → u < (w 7).toNat → hpC g (m + 15) u = l.getD u 0) → Wp m_M_plans 125 [some (xR m), some (xI ((2 ^ (w 7).toNat - 1 : Nat) : Int)), some (xI (S : Int)), o3, some (xI (t : Int))] [] g d mc ms R := by
              intro i
              induction i with
              | zero =>
                intro t g o3 ht f x y z2
                apply f_M_plans_125
                rw [if_neg (by omega), ab_1 (by omega)]
                refine ih (S + 1) (S : Int) g _ _ (by omega) f (seP_take hc ⟨ap, by rw [e4]; simp⟩ z) x (fun q hq => ?_)
                obtain rfl : S = q := by omega
                exact ⟨l, e4, fun t ht => z2 t (by omega) ht⟩
              | succ i ih2 =>
                intro t g o3 ht f x y z2
                have a := a2.fr (Spn_SM f)
                apply f_M_plans_125
                rw [if_pos (by omega), a.1.choice_n, a.1.choice_t, a.1.best_n, a.1.best_t, Int.toNat_natCast, ab_1 (by omega)]
                refine ⟨a.1.tag, a.1.tag, ⟨rfl, by omega, by show (t : Int) < 10; omega⟩, ⟨rfl, by omega, by show (t : Int) < 10; omega⟩, fun g6 e6 => ?_⟩
                subst e6
                refine ih2 (t + 1) _ _ (by omega) (f.tr (FrP.up (Or.inr (Or.inr rfl)))) (by rw [hpC_ne (Or.inl (by omega))]; exact x) (fun i hi => by rw [hpC_ne (Or.inl (by omega))]; exact y i hi) (fun u h1 h2 => ?_)
                by_cases e : u = t
                · subst e; rw [hpC_same]; exact y u h2
                · rw [hpC_ne (Or.inr e)]; exact z2 u (by omega) h2
            exact C 10 0 g5 _ (by omega) f5 x5 y5 (fun u hu => by omega)
          · cases e
            rw [if_pos rfl]
            refine ih (S + 1) c g4 _ _ (by omega) (f.tr (Snm_Spn f4)) (seP_skip hc (Or.inl (fun y => y.2 e4))) (by rw [f4.2.2 _ _ (fun z => by have : m = m + 14 := z; omega)]; exact x) (fun q hq => ?_)
            obtain ⟨l, h1, h2⟩ := hb q hq
            exact ⟨l, h1, fun t ht => by rw [f4.2.2 _ _ (fun z => by have : m + 15 = m + 14 := z; omega)]; exact h2 t ht⟩
        · cases e
          rw [if_pos rfl]
          exact ih (S + 1) c g _ _ (by omega) f (seP_skip hc (Or.inl (fun y => ap y.1))) x hb
      apply f_M_plans_27
      rw [if_neg (by omega), x]
      refine ⟨a.1.tag, ?_⟩
      by_cases c1 : c = -1
      · rw [if_pos c1]; exact W0 (Or.inl c1) _ _
      · rw [if_neg c1]
        obtain ⟨q, hq, hq2⟩ : ∃ q : Nat, c = (q : Int) ∧ q < S := by
          rcases hc with ⟨z, _⟩ | ⟨q, z1, z2, _⟩
          · exact absurd z c1
          · exact ⟨q, z1, z2⟩
        have bP : beP (fun S => (popc S : Int)) (hsW w) q S ↔ ((popc S : Int) < (popc q : Int) ∨ ((popc S : Int) = (popc q : Int) ∧ hsW w S < hsW w q)) := Iff.rfl
        refine ⟨by omega, sp_mbits (by omega) (fun v1 e => ?_)⟩
        have e1 := xI_inj e
        clear e
        rw [x, hq]
        refine ⟨a.1.tag, by omega, sp_mbits (by omega) (fun v2 e => ?_)⟩
        have e2 := xI_inj e
        clear e
        by_cases c2 : v2 < v1
        · rw [if_pos c2]
          exact W1 ⟨q, hq, fun z => nb1 e1 e2 c2 (bP.mp z)⟩ _ _
        · rw [if_neg c2]
          refine ⟨by omega, sp_mbits (by omega) (fun v3 e => ?_)⟩
          have e3 := xI_inj e
          clear e
          rw [x, hq]
          refine ⟨a.1.tag, by omega, sp_mbits (by omega) (fun v4 e => ?_)⟩
          have e4 := xI_inj e
          clear e
          by_cases c3 : v3 = v4
          · rw [if_pos c3]
            refine ⟨⟨by omega, a.1.tag⟩, sp_housesIn a hV (by omega) (fun v5 e => ?_)⟩
            have e5 := xI_inj e
            clear e
            rw [x, hq]
            refine ⟨a.1.tag, ⟨by omega, a.1.tag⟩, sp_housesIn a hV (by omega) (fun v6 e => ?_)⟩
            have e6 := xI_inj e
            clear e
            by_cases c4 : v5 < v6
            · rw [if_pos c4]; exact W0 (Or.inr ⟨q, hq, bP.mpr (yb1 e3 e4 c3 e5 e6 c4)⟩) _ _
            · rw [if_neg c4]; exact W1 ⟨q, hq, fun z => nb2 e3 e4 c3 e5 e6 c4 (bP.mp z)⟩ _ _
          · rw [if_neg c3]; exact W0 (Or.inr ⟨q, hq, bP.mpr (yb2 e1 e2 c2 e3 e4 c3)⟩) _ _
  exact L (2 ^ (w 7).toNat) 0 (-1) g3 _ _ (by omega) f3 (Or.inl ⟨rfl, fun S hS => by omega⟩) x3 (fun q hq => by omega)
