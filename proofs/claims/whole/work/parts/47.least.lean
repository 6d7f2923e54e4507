/-! ===== least ===== -/
theorem ap_iff {w : Nat → Int} {S X : Nat} (hX : X < 2 ^ (w 7).toNat) (hb : ∀ t, t < (w 7).toNat → X.testBit t = !S.testBit t) : apP (clW w) (w 7).toNat S ↔ ∀ s, s < (w 7).toNat → X.testBit s = true → clB w s &&& X = 0 := by
  constructor
  · intro h s hs hx
    rw [and_zero_iff (clB_lt s)]
    intro t ht hc
    rw [clB_bit ht] at hc
    cases e : X.testBit t with
    | false => rfl
    | true =>
      rw [hb t ht] at e
      rw [hb s hs] at hx
      rw [h s t hs ht (by simpa using hx) (by simpa using e)] at hc
      cases hc
  · intro h s t hs ht a b
    have := h s hs (by rw [hb s hs, a]; rfl)
    rw [and_zero_iff (clB_lt s)] at this
    cases e : clW w s t with
    | false => rfl
    | true =>
      have := this t ht (by rw [clB_bit ht]; exact e)
      rw [hb t ht, b] at this
      cases this
theorem sp_areApart {h : Hp} {m : Nat} {w : Nat → Int} (a : RD h m w) (hV : V w) (cm : clM h m w) {X S : Nat} (hX : X < 2 ^ (w 7).toNat) (hb : ∀ t, t < (w 7).toNat → X.testBit t = !S.testBit t) {d mc ms : Nat} {R : PR} {o2 : Option AV} (H1 : apP (clW w) (w 7).toNat S → R (some (xI 1)) h) (H2 : ¬ apP (clW w) (w 7).toNat S → R (some (xI 0)) h) : Wp m_M_areApart 0 [some (xR m), some (xI (X : Int)), o2] [] h d mc ms R := by
  have v0 := hV.1.1
  have v1 := hV.1.2.1
  have v2 := hV.1.2.2.1
  have v3 := hV.1.2.2.2.1
  have v4 := hV.1.2.2.2.2.1
  have v5 := hV.1.2.2.2.2.2.1
  have v6 := hV.1.2.2.2.2.2.2.1
  have v7 := hV.1.2.2.2.2.2.2.2.1
  have v8 := hV.1.2.2.2.2.2.2.2.2.1
  have v9 := hV.1.2.2.2.2.2.2.2.2.2
  have p10 : 2 ^ (w 7).toNat ≤ 1024 := Nat.pow_le_pow_right (n := 2) (by decide) (show (w 7).toNat ≤ 10 by omega)
  rw [ap_iff hX hb] at H1 H2
  apply f_M_areApart_0
  have L : ∀ j i : Nat, i + j = (w 7).toNat → (∀ s, s < i → X.testBit s = true → clB w s &&& X = 0) → Wp m_M_areApart 2 [some (xR m), some (xI (X : Int)), some (xI (i : Int))] [] h d mc ms R := by
    intro j
    induction j with
    | zero =>
      intro i hi c
      apply f_M_areApart_2
      rw [a.1.row_n, a.1.row_t, tn_7, a.2 7 (by omega), if_neg (by omega)]
      exact ⟨a.1.tag, ⟨rfl, by omega, by decide⟩, by simp, H1 (fun s hs => c s (by omega))⟩
    | succ j ih =>
      intro i hi c
      have hc := clB_10 hV i
      apply f_M_areApart_2
      rw [a.1.row_n, a.1.row_t, tn_7, a.2 7 (by omega), if_pos (by omega), ai_bit (by omega) (by omega), ab_1 (by omega)]
      refine ⟨a.1.tag, ⟨rfl, by omega, by decide⟩, ?_⟩
      by_cases c1 : X.testBit i = true
      · rw [if_pos c1, if_pos rfl, a.1.clashes_n, a.1.clashes_t, Int.toNat_natCast, cm i (by omega), ai_and_nat (by omega) (by omega)]
        refine ⟨a.1.tag, ⟨rfl, by omega, by show (i : Int) < 10; omega⟩, ?_⟩
        by_cases c2 : clB w i &&& X = 0
        · rw [if_pos (by omega)]
          refine ih (i + 1) (by omega) (fun s hs hx => ?_)
          by_cases e : s = i
          · subst e; exact c2
          · exact c s (by omega) hx
        · rw [if_neg (by omega)]
          exact ⟨by simp, H2 (fun z => c2 (z i (by omega) c1))⟩
      · rw [if_neg c1, if_neg (by decide)]
        refine ih (i + 1) (by omega) (fun s hs hx => ?_)
        by_cases e : s = i
        · subst e; exact absurd hx c1
        · exact c s (by omega) hx
  exact L (w 7).toNat 0 (by omega) (fun s hs => by omega)
theorem ti_one {w : Nat → Int} (S s : Nat) : clB w s ^^^ (clB w s &&& S) = 0 ↔ ¬ ∃ t, t < (w 7).toNat ∧ clW w s t = true ∧ S.testBit t = false := by
  rw [andn_zero (clB_lt s)]
  constructor
  · rintro h ⟨t, h1, h2, h3⟩
    rw [h t h1 (by rw [clB_bit h1]; exact h2)] at h3; cases h3
  · intro h t h1 h2
    rw [clB_bit h1] at h2
    cases e : S.testBit t with
    | true => rfl
    | false => exact absurd ⟨t, h1, h2, e⟩ h
theorem sp_isTight {h : Hp} {r : Nat} {w : Nat → Int} (pl : plAt h r) (hV : V w) (hc : clC h r w) {S : Nat} (hS : S < 1024) {d mc ms : Nat} {R : PR} {o3 o4 o5 : Option AV} (H1 : tiP (clW w) (w 7).toNat S → R (some (xI 1)) h) (H2 : ¬ tiP (clW w) (w 7).toNat S → R (some (xI 0)) h) : Wp m_Planner_isTight 0 [some (xR r), some (xI (S : Int)), some (xI (w 7)), o3, o4, o5] [] h d mc ms R := by
  have v0 := hV.1.1
  have v1 := hV.1.2.1
  have v2 := hV.1.2.2.1
  have v3 := hV.1.2.2.2.1
  have v4 := hV.1.2.2.2.2.1
  have v5 := hV.1.2.2.2.2.2.1
  have v6 := hV.1.2.2.2.2.2.2.1
  have v7 := hV.1.2.2.2.2.2.2.2.1
  have v8 := hV.1.2.2.2.2.2.2.2.2.1
  have v9 := hV.1.2.2.2.2.2.2.2.2.2
  apply f_Planner_isTight_0
  have L : ∀ (j i : Nat) (o4 o5 : Option AV), i + j = (w 7).toNat → (∀ s, s < i → ((∃ t, t < (w 7).toNat ∧ clW w s t = true ∧ S.testBit t = false) ↔ S.testBit s = true)) → Wp m_Planner_isTight 2 [some (xR r), some (xI (S : Int)), some (xI (w 7)), some (xI (i : Int)), o4, o5] [] h d mc ms R := by
    intro j
    induction j with
    | zero =>
      intro i o4 o5 hi c
      apply f_Planner_isTight_2
      rw [if_neg (by omega)]
      exact ⟨by simp, H1 (fun s hs => c s (by omega))⟩
    | succ j ih =>
      intro i o4 o5 hi c
      have hc1 := clB_10 hV i
      have nx : ((∃ t, t < (w 7).toNat ∧ clW w i t = true ∧ S.testBit t = false) ↔ S.testBit i = true) → ∀ o4 o5 : Option AV, Wp m_Planner_isTight 2 [some (xR r), some (xI (S : Int)), some (xI (w 7)), some (xI ((i + 1 : Nat) : Int)), o4, o5] [] h d mc ms R := fun z o4 o5 => ih (i + 1) _ _ (by omega) (fun s hs => by
        by_cases e : s = i
        · subst e; exact z
        · exact c s (by omega))
      apply f_Planner_isTight_2
      rw [if_pos (by omega), pl.clash_n, pl.clash_t, Int.toNat_natCast, hc i (by omega), ai_andn (by omega) (by omega), ai_bit (by omega) (by omega), ab_1 (by omega)]
      refine ⟨pl.tag, ⟨rfl, by omega, by show (i : Int) < 10; omega⟩, ?_⟩
      have t1 := ti_one (w := w) S i
      by_cases c1 : clB w i ^^^ (clB w i &&& S) = 0
      · rw [if_pos (by omega)]
        have t2 := t1.mp c1
        by_cases c2 : S.testBit i = true
        · rw [if_pos c2, if_pos rfl, if_neg (by decide)]
          exact ⟨by simp, H2 (fun z => t2 ((z i (by omega)).mpr c2))⟩
        · rw [if_neg c2, if_neg (by decide), if_pos rfl]
          exact nx ⟨fun z => absurd z t2, fun z => absurd z c2⟩ _ _
      · rw [if_neg (by omega)]
        have t2 : ∃ t, t < (w 7).toNat ∧ clW w i t = true ∧ S.testBit t = false := Classical.byContradiction (fun z => c1 (t1.mpr z))
        by_cases c2 : S.testBit i = true
        · rw [if_pos c2, if_pos rfl, if_pos rfl]
          exact nx ⟨fun _ => c2, fun _ => t2⟩ _ _
        · rw [if_neg c2, if_neg (by decide), if_neg (by decide)]
          exact ⟨by simp, H2 (fun z => c2 ((z i (by omega)).mp t2))⟩
  exact L (w 7).toNat 0 _ _ (by omega) (fun s hs => by omega)
/-- the least of b over the sets that are such -/
def mnP (b : Nat → Int) (P : Nat → Prop) (n0 : Int) (N : Nat) (c : Int) : Prop := (c = n0 ∨ ∃ S, S < N ∧ P S ∧ b S = c) ∧ c ≤ n0 ∧ ∀ S, S < N → P S → c ≤ b S
theorem mnP_skip {b : Nat → Int} {P : Nat → Prop} {n0 : Int} {N : Nat} {c : Int} (h : mnP b P n0 N c) (hs : ¬ P N ∨ c ≤ b N) : mnP b P n0 (N + 1) c := by
  obtain ⟨h1, h2, h3⟩ := h
  refine ⟨?_, h2, fun S hS hP => ?_⟩
  · rcases h1 with z | ⟨S, z1, z2⟩
    · exact Or.inl z
    · exact Or.inr ⟨S, by omega, z2⟩
  · by_cases e : S = N
    · subst e
      rcases hs with z | z
      · exact absurd hP z
      · exact z
    · exact h3 S (by omega) hP
theorem mnP_take {b : Nat → Int} {P : Nat → Prop} {n0 : Int} {N : Nat} {c : Int} (h : mnP b P n0 N c) (hP : P N) (hb : b N < c) : mnP b P n0 (N + 1) (b N) := by
  obtain ⟨h1, h2, h3⟩ := h
  refine ⟨Or.inr ⟨N, by omega, hP, rfl⟩, by omega, fun S hS hP => ?_⟩
  by_cases e : S = N
  · subst e; omega
  · have := h3 S (by omega) hP; omega
theorem mnP_uniq {b : Nat → Int} {P1 P2 : Nat → Prop} {n0 : Int} {N : Nat} {c1 c2 : Int} (hb : ∀ S, 0 ≤ b S) (h12 : ∀ S, S < N → P2 S → P1 S) (hm : ∀ S, S < N → P1 S → ¬ P2 S → ∃ S', S' < N ∧ P1 S' ∧ b S' < b S) (h1 : mnP b P1 n0 N c1) (h2 : mnP b P2 n0 N c2) : c1 = c2 := by
  have key : ∀ (k : Nat) (S : Nat), S < N → P1 S → b S < k → ∃ S', S' < N ∧ P2 S' ∧ b S' ≤ b S := by
    intro k
    induction k with
    | zero => intro S _ _ h; have := hb S; omega
    | succ k ih =>
      intro S hS hP hk
      rcases Classical.em (P2 S) with z | z
      · exact ⟨S, hS, z, Int.le_refl _⟩
      · obtain ⟨S', g1, g2, g3⟩ := hm S hS hP z
        obtain ⟨S2, q1, q2, q3⟩ := ih S' g1 g2 (by omega)
        exact ⟨S2, q1, q2, by omega⟩
  obtain ⟨a1, a2, a3⟩ := h1
  obtain ⟨b1, b2, b3⟩ := h2
  have le1 : c1 ≤ c2 := by
    rcases b1 with z | ⟨S, z1, z2, z3⟩
    · omega
    · have := a3 S z1 (h12 S z1 z2); omega
  have le2 : c2 ≤ c1 := by
    rcases a1 with z | ⟨S, z1, z2, z3⟩
    · omega
    · obtain ⟨S', q1, q2, q3⟩ := key ((b S).toNat + 1) S z1 z2 (by have := hb S; omega)
      have := b3 S' q1 q2; omega
  omega
def leP (w : Nat → Int) (c : Int) : Prop := mnP (fun S => (popc S : Int)) (apP (clW w) (w 7).toNat) (w 7) (2 ^ (w 7).toNat) c
def leT (w : Nat → Int) (c : Int) : Prop := mnP (fun S => (popc S : Int)) (tiP (clW w) (w 7).toNat) (w 7) (2 ^ (w 7).toNat) c
theorem clr_lt {S s0 n : Nat} (hS : S < 2 ^ n) (h0 : s0 < n) : S ^^^ 2 ^ s0 < 2 ^ n := Nat.xor_lt_two_pow hS (pow_lt' h0)
theorem clr_popc {S s0 n : Nat} (hn : n ≤ 32) (hS : S < 2 ^ n) (h0 : s0 < n) (hb : S.testBit s0 = true) : (popc (S ^^^ 2 ^ s0) : Int) + 1 = (popc S : Int) := by
  rw [popc_nk hn hS, popc_nk hn (clr_lt hS h0)]
  exact (nkS_clr hb (clr_bit hb) n 0).2 (by omega) (by omega)
theorem le_uniq {w : Nat → Int} (hV : V w) {c1 c2 : Int} (h1 : leP w c1) (h2 : leT w c2) : c1 = c2 := by
  have v0 := hV.1.1
  have v1 := hV.1.2.1
  have v2 := hV.1.2.2.1
  have v3 := hV.1.2.2.2.1
  have v4 := hV.1.2.2.2.2.1
  have v5 := hV.1.2.2.2.2.2.1
  have v6 := hV.1.2.2.2.2.2.2.1
  have v7 := hV.1.2.2.2.2.2.2.2.1
  have v8 := hV.1.2.2.2.2.2.2.2.2.1
  have v9 := hV.1.2.2.2.2.2.2.2.2.2
  refine mnP_uniq (fun S => by omega) (fun S _ h => tiP_ap h) (fun S hS ha ht => ?_) h1 h2
  obtain ⟨s0, g1, g2, g3⟩ := ap_clr (clW_sym w) (clW_irr w) ha ht
  refine ⟨_, clr_lt hS g1, g3, ?_⟩
  have := clr_popc (n := (w 7).toNat) (by omega) hS g1 g2
  show (popc (S ^^^ 2 ^ s0) : Int) < (popc S : Int)
  omega
theorem rest_bits {n S : Nat} (hn : n ≤ 10) (hS : S < 2 ^ n) : (2 ^ n - 1) ^^^ ((2 ^ n - 1) &&& S) < 2 ^ n ∧ ∀ t, t < n → ((2 ^ n - 1) ^^^ ((2 ^ n - 1) &&& S)).testBit t = !S.testBit t := by
  have pp : 0 < 2 ^ n := Nat.pow_pos (by decide)
  constructor
  · exact Nat.xor_lt_two_pow (by omega) (Nat.lt_of_le_of_lt (Nat.and_le_left) (by omega))
  · intro t ht
    rw [andn_bit, Nat.testBit_two_pow_sub_one, decide_eq_true ht, Bool.true_and]
theorem sp_mleast {h : Hp} {m : Nat} {w : Nat → Int} (a : RD h m w) (hV : V w) {d mc ms : Nat} {R : PR} (hd : 6 ≤ d) {o1 o2 o3 : Option AV} (H : ∀ h' c, FrP (SM m) h h' → leP w c → R (some (xI c)) h') : Wp m_M_least 0 [some (xR m), o1, o2, o3] [] h d mc ms R := by
  have v0 := hV.1.1
  have v1 := hV.1.2.1
  have v2 := hV.1.2.2.1
  have v3 := hV.1.2.2.2.1
  have v4 := hV.1.2.2.2.2.1
  have v5 := hV.1.2.2.2.2.2.1
  have v6 := hV.1.2.2.2.2.2.2.1
  have v7 := hV.1.2.2.2.2.2.2.2.1
  have v8 := hV.1.2.2.2.2.2.2.2.2.1
  have v9 := hV.1.2.2.2.2.2.2.2.2.2
  have p10 : 2 ^ (w 7).toNat ≤ 1024 := Nat.pow_le_pow_right (n := 2) (by decide) (show (w 7).toNat ≤ 10 by omega)
  have pp : 0 < 2 ^ (w 7).toNat := Nat.pow_pos (by decide)
  apply f_M_least_0
  refine ⟨⟨by omega, a.1.tag⟩, sp_laysClashes a hV (by omega) (fun g f cm _ => ?_)⟩
  have a := a.fr (Slc_SM f)
  have e7 : w 7 = ((w 7).toNat : Int) := by omega
  have es : ai_sub (ai_shl 1 (w 7)) 1 = ((2 ^ (w 7).toNat - 1 : Nat) : Int) := by
    rw [e7, ai_shl_one _ (by omega), ← e7, as_1 (by omega) (by omega)]
  rw [a.1.row_n, a.1.row_t, tn_7, a.2 7 (by omega), es]
  refine ⟨a.1.tag, ⟨rfl, by omega, by decide⟩, a.1.tag, ⟨rfl, by omega, by decide⟩, ?_⟩
  have L : ∀ (j S : Nat) (c : Int), S + j = 2 ^ (w 7).toNat → mnP (fun S => (popc S : Int)) (apP (clW w) (w 7).toNat) (w 7) S c → Wp m_M_least 26 [some (xR m), some (xI ((2 ^ (w 7).toNat - 1 : Nat) : Int)), some (xI c), some (xI (S : Int))] [] g d mc ms R := by
    intro j
    induction j with
    | zero =>
      intro S c hS hc
      apply f_M_least_26
      rw [if_pos (by omega)]
      rw [show S = 2 ^ (w 7).toNat by omega] at hc
      exact H g c (Slc_SM f) hc
    | succ j ih =>
      intro S c hS hc
      have rb := rest_bits (n := (w 7).toNat) (S := S) (by omega) (by omega)
      apply f_M_least_26
      rw [if_neg (by omega), ai_andn (by omega) (by omega), ab_1 (by omega)]
      refine ⟨by omega, sp_mbits (by omega) (fun v e => ?_)⟩
      cases e
      by_cases c1 : (popc S : Int) < c
      · rw [if_pos c1]
        refine ⟨⟨by omega, a.1.tag⟩, sp_areApart a hV cm rb.1 rb.2 (fun z v e => ?_) (fun z v e => ?_)⟩
        · cases e
          rw [if_neg (by decide)]
          refine ⟨by omega, sp_mbits (by omega) (fun v e => ?_)⟩
          cases e
          exact ih (S + 1) _ (by omega) (mnP_take hc z c1)
        · cases e
          rw [if_pos rfl]
          exact ih (S + 1) _ (by omega) (mnP_skip hc (Or.inl z))
      · rw [if_neg c1]
        exact ih (S + 1) _ (by omega) (mnP_skip hc (Or.inr (by show c ≤ (popc S : Int); omega)))
  exact L (2 ^ (w 7).toNat) 0 (w 7) (by omega) ⟨Or.inl rfl, Int.le_refl _, fun S hS => by omega⟩
theorem sp_cleast {h : Hp} {x : Nat} {w : Nat → Int} (s : sAt h x) (a : TR h (x + 43) w) (hV : V w) (pl : plAt h (x + 30)) (hk : hpC h (x + 30) 2 ≠ 0 → clC h (x + 30) w) {d mc ms : Nat} {R : PR} (hd : 6 ≤ d) (H : ∀ h' c, FrP (Slk (x + 30)) h h' → clC h' (x + 30) w → leT w c → R (some (xI c)) h') : Wp m_S_least 0 [some (xR x)] [] h d mc ms R := by
  have v0 := hV.1.1
  have v1 := hV.1.2.1
  have v2 := hV.1.2.2.1
  have v3 := hV.1.2.2.2.1
  have v4 := hV.1.2.2.2.2.1
  have v5 := hV.1.2.2.2.2.2.1
  have v6 := hV.1.2.2.2.2.2.2.1
  have v7 := hV.1.2.2.2.2.2.2.2.1
  have v8 := hV.1.2.2.2.2.2.2.2.2.1
  have v9 := hV.1.2.2.2.2.2.2.2.2.2
  have p10 : 2 ^ (w 7).toNat ≤ 1024 := Nat.pow_le_pow_right (n := 2) (by decide) (show (w 7).toNat ≤ 10 by omega)
  apply f_S_least_0
  rw [s.planner_n, s.now_n]
  refine ⟨s.tag, s.tag, ⟨by omega, pl.tag⟩, sp_learnClashes pl a hV (by omega) hk (by omega) (fun g f k1 k2 _ => ?_)⟩
  have pl := pl.fr (Slk_SP f)
  have s := Slk.SAt f s
  have a := Slk.TR f a
  have hT := a.1.1
  have b1 := a.1.2.2.1
  rw [s.planner_n, s.now_n, hT.streets_n, b1.1]
  refine ⟨s.tag, s.tag, hT.tag, hT.streets_a.tag, ⟨by omega, pl.tag⟩, ?_⟩
  apply f_Planner_fewestLeft_0
  have es : ai_shl 1 (w 7) = ((2 ^ (w 7).toNat : Nat) : Int) := by
    have e7 : w 7 = ((w 7).toNat : Int) := by omega
    rw [e7, ai_shl_one _ (by omega), ← e7]
  have L : ∀ (j S : Nat) (c : Int) (o4 : Option AV), S + j = 2 ^ (w 7).toNat → mnP (fun S => (popc S : Int)) (tiP (clW w) (w 7).toNat) (w 7) S c → Wp m_Planner_fewestLeft 4 [some (xR (x + 30)), some (xI (w 7)), some (xI c), some (xI (S : Int)), o4] [] g (d - 1) 0 0 (fun rv h2 => ∀ v2 : Int, rv = some (xI v2) → R (some (xI v2)) h2) := by
    intro j
    induction j with
    | zero =>
      intro S c o4 hS hc
      apply f_Planner_fewestLeft_4
      rw [es, if_neg (by omega)]
      rw [show S = 2 ^ (w 7).toNat by omega] at hc
      intro v e
      cases e
      exact H g c f k2 hc
    | succ j ih =>
      intro S c o4 hS hc
      apply f_Planner_fewestLeft_4
      rw [es, if_pos (by omega), ab_1 (by omega)]
      refine ⟨by omega, sp_bitCount (by omega) (fun v e => ?_)⟩
      cases e
      by_cases c1 : (popc S : Int) < c
      · rw [if_pos c1]
        refine ⟨⟨by omega, pl.tag⟩, sp_isTight pl hV k2 (by omega) (fun z v e => ?_) (fun z v e => ?_)⟩
        · cases e
          rw [if_neg (by decide)]
          exact ih (S + 1) _ _ (by omega) (mnP_take hc z c1)
        · cases e
          rw [if_pos rfl]
          exact ih (S + 1) _ _ (by omega) (mnP_skip hc (Or.inl z))
      · rw [if_neg c1]
        exact ih (S + 1) _ _ (by omega) (mnP_skip hc (Or.inr (by show c ≤ (popc S : Int); omega)))
  exact L (2 ^ (w 7).toNat) 0 (w 7) _ (by omega) ⟨Or.inl rfl, Int.le_refl _, fun S hS => by omega⟩
