/-! ===== names given, with the dead sets ===== -/
def Bu (w : Nat → Int) (u x : Nat) : Bool := (List.range (w 6).toNat).any (fun k => u.testBit k && rvW w k x)
theorem Bu_iff {w : Nat → Int} {u x : Nat} : Bu w u x = true ↔ ∃ k, k < (w 6).toNat ∧ u.testBit k = true ∧ rvW w k x = true := by
  unfold Bu
  rw [List.any_eq_true]
  constructor
  · rintro ⟨k, h1, h2⟩
    rw [Bool.and_eq_true] at h2
    exact ⟨k, List.mem_range.mp h1, h2⟩
  · rintro ⟨k, h1, h2⟩
    exact ⟨k, List.mem_range.mpr h1, by rw [Bool.and_eq_true]; exact h2⟩
theorem Bu_zero (w : Nat → Int) : Bu w 0 = fun _ => false := by
  funext x
  cases e : Bu w 0 x with
  | false => rfl
  | true => obtain ⟨k, _, h, _⟩ := Bu_iff.mp e; rw [Nat.zero_testBit] at h; cases h
theorem Bu_or {w : Nat → Int} {u k : Nat} (hk : k < (w 6).toNat) : Bu w (u ||| 2 ^ k) = fun x => Bu w u x || rvW w k x := by
  funext x
  rw [Bool.eq_iff_iff, Bu_iff, Bool.or_eq_true, Bu_iff]
  constructor
  · rintro ⟨q, h1, h2, h3⟩
    rw [or_bit, Bool.or_eq_true, decide_eq_true_eq] at h2
    rcases h2 with z | z
    · exact Or.inl ⟨q, h1, z, h3⟩
    · subst z; exact Or.inr h3
  · rintro (⟨q, h1, h2, h3⟩ | z)
    · exact ⟨q, h1, by rw [or_bit, h2]; rfl, h3⟩
    · exact ⟨k, hk, by rw [or_bit]; simp, z⟩
def cN (X n : Nat) : Int := sumN (fun t => if X.testBit t then 1 else 0) n
theorem cN_succ (X n : Nat) : cN X (n + 1) = cN X n + if X.testBit n then 1 else 0 := rfl
theorem cN_mono (X : Nat) : ∀ (j n : Nat), cN X n ≤ cN X (n + j)
  | 0, _ => Int.le_refl _
  | j + 1, n => by
    have := cN_mono X j n
    rw [← Nat.add_assoc, cN_succ]
    split <;> omega
theorem cN_or {u k : Nat} (h : u.testBit k = false) : ∀ n, cN (u ||| 2 ^ k) n = cN u n + if k < n then 1 else 0
  | 0 => by simp [cN, sumN]
  | n + 1 => by
    rw [cN_succ, cN_succ, cN_or h n, or_bit]
    by_cases e : n = k
    · subst e; rw [h]; simp
    · rw [decide_eq_false e, Bool.or_false]
      by_cases e2 : k < n
      · rw [if_pos e2, if_pos (show k < n + 1 by omega)]; omega
      · rw [if_neg e2, if_neg (show ¬ k < n + 1 by omega)]; omega
theorem cN_zero : ∀ n, cN 0 n = 0
  | 0 => rfl
  | n + 1 => by rw [cN_succ, cN_zero n, Nat.zero_testBit]; rfl
theorem cN_inj {S s t : Nat} (hs : S.testBit s = true) (ht : S.testBit t = true) (h : cN S s = cN S t) : s = t := by
  rcases Nat.lt_trichotomy s t with z | z | z
  · have := cN_mono S (t - (s + 1)) (s + 1)
    rw [cN_succ, if_pos hs, show s + 1 + (t - (s + 1)) = t by omega] at this
    omega
  · exact z
  · have := cN_mono S (s - (t + 1)) (t + 1)
    rw [cN_succ, if_pos ht, show t + 1 + (s - (t + 1)) = s by omega] at this
    omega
/-- what the dead sets say -/
def DI (h : Hp) (r : Nat) (w : Nat → Int) (S : Nat) : Prop := ∀ u : Nat, u < 4096 → lbit (hpC h (r + 5) (u / 64)) (u % 64) = true → ∀ s, s < (w 7).toNat → S.testBit s = true → cN u 12 = cN S s → nmP (mayW w) (rvW w) S (w 6).toNat ((w 7).toNat - s) s (Bu w u) = none
def Sgv (r : Nat) : Nat → Nat → Prop := fun q _ => q = r + 1 ∨ q = r + 5
theorem Sgv_SP {r : Nat} {h h' : Hp} (f : FrP (Sgv r) h h') : FrP (SP r) h h' := f.wk (fun q p z => Or.inr (by rcases z with z | z <;> omega))
def gvK (h : Hp) (r : Nat) (w : Nat → Int) : Prop := plAt h r ∧ hpC h r 4 = w 7 ∧ hpC h r 5 = w 6 ∧ tkC h r w ∧ rvC h r w
theorem gvK.fr {h h' : Hp} {r : Nat} {w : Nat → Int} (a : gvK h r w) (f : FrP (Sgv r) h h') : gvK h' r w := by
  have no : ∀ q p, (q = r ∨ q = r + 3 ∨ q = r + 4) → hpC h' q p = hpC h q p := fun q p hq => f.2.2 _ _ (fun z => by rcases z with z | z <;> omega)
  refine ⟨a.1.fr (Sgv_SP f), by rw [no _ _ (Or.inl rfl)]; exact a.2.1, by rw [no _ _ (Or.inl rfl)]; exact a.2.2.1, fun k hk => ?_, fun k hk => ?_⟩
  · rw [no _ _ (Or.inr (Or.inl rfl))]; exact a.2.2.2.1 k hk
  · rw [no _ _ (Or.inr (Or.inr rfl))]; exact a.2.2.2.2 k hk
theorem sp_giveFrom {r : Nat} {w : Nat → Int} (hV : V w) {S : Nat} (hS : S < 1024) : ∀ (j s u X : Nat) (h : Hp) (d mc ms : Nat) (R : PR) (o5 o6 : Option AV), s + j = (w 7).toNat → gvK h r w → u < 2 ^ (w 6).toNat → X < 4096 → (∀ x, x < (w 6).toNat → X.testBit x = Bu w u x) → cN u 12 = cN S s → DI h r w S → j + 2 ≤ d →
    (∀ (h' : Hp) (l : List Int), FrP (Sgv r) h h' → nmP (mayW w) (rvW w) S (w 6).toNat j s (Bu w u) = some l → (∀ t, t < s → hpC h' (r + 1) t = hpC h (r + 1) t) → (∀ i, i < j → S.testBit (s + i) = true → hpC h' (r + 1) (s + i) = l.getD i 0) → R (some (xI 1)) h') →
    (∀ h' : Hp, FrP (fun q _ => q = r + 5) h h' → nmP (mayW w) (rvW w) S (w 6).toNat j s (Bu w u) = none → DI h' r w S → R (some (xI 0)) h') →
    Wp m_Planner_giveFrom 0 [some (xR r), some (xI (s : Int)), some (xI (S : Int)), some (xI (u : Int)), some (xI (X : Int)), o5, o6] [] h d mc ms R := by
  have v0 := hV.1.1
  have v1 := hV.1.2.1
  have v2 := hV.1.2.2.1
  have v3 := hV.1.2.2.2.1
  have v4 := hV.1.2.2.2.2.1
  have v5 := hV.1.2.2.2.2.2.1
  have v6 := hV.1.2.2.2.2.2.2.1
  have v7 := hV.1.2.2.2.2.2.2.2.1
  have v8 := hV.1.2.2.2.2.2.2.2.2.1
  have v9 := hV.1.2.2.2.2.2.2.2.2.2
  have p12 : 2 ^ (w 6).toNat ≤ 4096 := Nat.pow_le_pow_right (n := 2) (by decide) (show (w 6).toNat ≤ 12 by omega)
  intro j
  induction j with
  | zero =>
    intro s u X h d mc ms R o5 o6 hs K hu hX hB hc D hd Y N
    apply f_Planner_giveFrom_0
    rw [K.2.1, if_neg (by omega)]
    exact ⟨K.1.tag, by simp, Y h [] FrP.rf rfl (fun t _ => rfl) (fun i hi => by omega)⟩
  | succ j ih =>
    intro s u X h d mc ms R o5 o6 hs K hu hX hB hc D hd Y N
    have pl := K.1
    apply f_Planner_giveFrom_0
    rw [K.2.1, if_pos (by omega), ai_bit (by omega) (by omega), ab_1 (by omega)]
    refine ⟨pl.tag, ?_⟩
    by_cases c : S.testBit s = true
    · rw [if_pos c, if_neg (by decide), pl.dead_n, pl.dead_t, div64 (by omega), rem64 (by omega), Int.toNat_natCast]
      refine ⟨pl.tag, by decide, ⟨rfl, by omega, by show ((u / 64 : Nat) : Int) < 64; omega⟩, by decide, ?_⟩
      have lb := lbit_get (v := hpC h (r + 5) (u / 64)) (b := u % 64) (by omega)
      by_cases c1 : lbit (hpC h (r + 5) (u / 64)) (u % 64) = true
      · rw [if_pos (lb.mpr c1)]
        have := D u (by omega) c1 s (by omega) c hc
        rw [show (w 7).toNat - s = j + 1 by omega] at this
        exact ⟨by simp, N h FrP.rf this D⟩
      · rw [if_neg (fun z => c1 (lb.mp z))]
        simp only [nmP, if_pos c] at Y N
        have I : ∀ (i k : Nat) (g : Hp) (o6 : Option AV), k + i = (w 6).toNat → FrP (fun q _ => q = r + 5) h g → DI g r w S → tryK (fun k => nmP (mayW w) (rvW w) S (w 6).toNat j (s + 1) (fun x => Bu w u x || rvW w k x)) (fun k => mayW w s k && !Bu w u k) (w 6).toNat 0 = tryK (fun k => nmP (mayW w) (rvW w) S (w 6).toNat j (s + 1) (fun x => Bu w u x || rvW w k x)) (fun k => mayW w s k && !Bu w u k) i k →
            Wp m_Planner_giveFrom 56 [some (xR r), some (xI (s : Int)), some (xI (S : Int)), some (xI (u : Int)), some (xI (X : Int)), some (xI (k : Int)), o6] [] g d mc ms R := by
          intro i
          induction i with
          | zero =>
            intro k g o6 hk f D E
            have K := K.fr (f.wk (fun q p z => Or.inr z))
            have pl := K.1
            apply f_Planner_giveFrom_56
            rw [K.2.2.1, if_neg (by omega), pl.dead_n, pl.dead_t, div64 (by omega), rem64 (by omega), Int.toNat_natCast]
            refine ⟨pl.tag, pl.tag, by decide, ⟨rfl, by omega, by show ((u / 64 : Nat) : Int) < 64; omega⟩, by decide, ⟨rfl, by omega, by show ((u / 64 : Nat) : Int) < 64; omega⟩, fun g1 e1 => ?_⟩
            subst e1
            simp only [tryK] at E
            refine ⟨by simp, N _ (f.tr (FrP.up rfl)) E (fun u' hu' hb s' hs' hS' hc' => ?_)⟩
            rw [hpC_up] at hb
            by_cases e : u' / 64 = u / 64
            · rw [if_pos ⟨rfl, e⟩, lbit_or (by omega) (by omega), Bool.or_eq_true, decide_eq_true_eq] at hb
              rcases hb with z | z
              · exact D u' hu' (by rw [e]; exact z) s' hs' hS' hc'
              · obtain rfl : u' = u := by omega
                obtain rfl : s' = s := cN_inj hS' c (by omega)
                rw [show (w 7).toNat - s' = j + 1 by omega]
                simp only [nmP, if_pos c]
                exact E
            · rw [if_neg (fun z => e z.2)] at hb
              exact D u' hu' hb s' hs' hS' hc'
          | succ i ih2 =>
            intro k g o6 hk f D E
            have K' := K.fr (f.wk (fun q p z => Or.inr z))
            have pl := K'.1
            obtain ⟨T, t1, t2, t3⟩ := K'.2.2.2.1 k (by omega)
            have skip : (mayW w s k && !Bu w u k) = false → ∀ p0 : Int, p0 = 0 → ∀ o6 : Option AV, Wp m_Planner_giveFrom 95 [some (xR r), some (xI (s : Int)), some (xI (S : Int)), some (xI (u : Int)), some (xI (X : Int)), some (xI (k : Int)), o6] [xI p0] g d mc ms R := fun z p0 hp o6 => by
              apply f_Planner_giveFrom_95
              rw [if_pos hp, ab_1 (by omega)]
              refine ih2 (k + 1) g _ (by omega) f D ?_
              rw [E]; simp only [tryK, z]; rfl
            apply f_Planner_giveFrom_56
            rw [K'.2.2.1, if_pos (by omega), pl.takers_n, pl.takers_t, Int.toNat_natCast, t2, ai_bit (by omega) (by omega), t3 s (by omega), ai_bit (by omega) (by omega), hB k (by omega)]
            refine ⟨pl.tag, pl.tag, ⟨rfl, by omega, by show (k : Int) < 12; omega⟩, ?_⟩
            by_cases d1 : mayW w s k = true
            · rw [if_pos d1, if_pos rfl]
              by_cases d2 : Bu w u k = true
              · rw [if_pos d2, if_neg (by decide)]
                exact skip (by rw [d2]; simp) 0 rfl _
              · have d2 : Bu w u k = false := by simpa using d2
                rw [d2, show (if false = true then (1 : Int) else 0) = 0 from rfl, if_pos rfl]
                have ok : (mayW w s k && !Bu w u k) = true := by rw [d1, d2]; rfl
                have nu : u.testBit k = false := by
                  cases e : u.testBit k with
                  | false => rfl
                  | true => rw [Bu_iff.mpr ⟨k, by omega, e, rvW_self w k⟩] at d2; cases d2
                obtain ⟨V', r1, r2, r3⟩ := K'.2.2.2.2 k (by omega)
                have pk : 2 ^ k < 2 ^ (w 6).toNat := pow_lt' (by omega)
                apply f_Planner_giveFrom_95
                rw [if_neg (by decide), pl.rivals_n, pl.rivals_t, Int.toNat_natCast, r2, ab_1 (by omega), ab_1 (by omega), ai_shl_one k (by omega), ai_or_nat (by omega) (by omega), ai_or_nat (by omega) (by omega)]
                refine ⟨pl.tag, ⟨rfl, by omega, by show (k : Int) < 12; omega⟩, ⟨by omega, pl.tag⟩, ?_⟩
                refine ih (s + 1) (u ||| 2 ^ k) (X ||| V') g (d - 1) 0 0 _ _ _ (by omega) K' (or_lt hu pk) (or_lt (n := 12) hX r1) (fun x hx => ?_) ?_ D (by omega) (fun h' l f' e' q1 q2 v e => ?_) (fun h' f' e' D' v e => ?_)
                · rw [Nat.testBit_or, hB x hx, r3 x hx, Bu_or (by omega)]
                · rw [cN_or nu, if_pos (show k < 12 by omega), cN_succ S s, if_pos c, hc]
                · cases e
                  rw [Bu_or (by omega)] at e'
                  have K2 := K'.fr f'
                  rw [if_neg (by decide), K2.1.given_n, K2.1.given_t, Int.toNat_natCast]
                  refine ⟨K2.1.tag, ⟨rfl, by omega, by show (s : Int) < 10; omega⟩, fun g1 e1 => ⟨by simp, ?_⟩⟩
                  subst e1
                  refine Y _ ((k : Int) :: l) (((f.wk (fun q p z => Or.inr z)).tr f').tr (FrP.up (Or.inl rfl))) ?_ (fun t ht => ?_) (fun i hi hb => ?_)
                  · rw [E]; simp only [tryK, if_pos ok, e']
                  · rw [hpC_ne (Or.inr (by omega)), q1 t (by omega), f.2.2 _ _ (by omega)]
                  · cases i with
                    | zero => show hpC (hpU h' (r + 1) s (k : Int)) (r + 1) s = (k : Int); rw [hpC_same]
                    | succ i =>
                      rw [hpC_ne (Or.inr (by omega)), show s + (i + 1) = s + 1 + i by omega, q2 i (by omega) (by rw [show s + 1 + i = s + (i + 1) by omega]; exact hb)]; rfl
                · cases e
                  rw [Bu_or (by omega)] at e'
                  rw [if_pos rfl]
                  refine ih2 (k + 1) h' _ (by omega) (f.tr f') D' ?_
                  rw [E]; simp only [tryK, if_pos ok, e']
            · rw [if_neg d1, if_neg (by decide)]
              exact skip (by rw [show mayW w s k = false by simpa using d1]; rfl) 0 rfl _
        exact I (w 6).toNat 0 h _ (by omega) FrP.rf D rfl
    · rw [if_neg c, if_pos rfl]
      simp only [nmP, if_neg c] at Y N
      refine ⟨⟨by omega, pl.tag⟩, ih (s + 1) u X h (d - 1) 0 0 _ _ _ (by omega) K hu hX hB ?_ D (by omega) (fun h' l f' e' q1 q2 v e => ?_) (fun h' f' e' D' v e => ?_)⟩
      · rw [cN_succ S s, if_neg c, hc]; omega
      · cases e
        simp only [e'] at Y
        refine ⟨by simp, Y h' ((-1) :: l) f' rfl (fun t ht => q1 t (by omega)) (fun i hi hb => ?_)⟩
        cases i with
        | zero => exact absurd hb c
        | succ i => rw [show s + (i + 1) = s + 1 + i by omega, q2 i (by omega) (by rw [show s + 1 + i = s + (i + 1) by omega]; exact hb)]; rfl
      · cases e
        simp only [e'] at N
        exact ⟨by simp, N h' f' trivial D'⟩
theorem sp_fill2 {h : Hp} {r n : Nat} (ht : hpT h r = (21, n)) (hn : n < 1000) {v : Int} {d mc ms : Nat} {R : PR} {o3 o4 : Option AV} (H : ∀ h', Fr (fun q => q = r) h h' → (∀ i, i < n → hpC h' r i = v) → R none h') : Wp m_Arrays_fill2 0 [some (xR r), some (xL v), none, o3, o4] [] h d mc ms R := by
  apply f_Arrays_fill2_0
  rw [ht]
  refine ⟨rfl, ?_⟩
  have L : ∀ (j k : Nat) (g : Hp), k + j = n → Fr (fun q => q = r) h g → (∀ i, i < k → hpC g r i = v) → Wp m_Arrays_fill2 6 [some (xR r), some (xL v), none, some (xI (k : Int)), some (xI (n : Int))] [] g d mc ms R := by
    intro j
    induction j with
    | zero =>
      intro k g hk f c
      apply f_Arrays_fill2_6
      rw [if_neg (by omega)]
      exact H g f (fun i hi => c i (by omega))
    | succ j ih =>
      intro k g hk f c
      apply f_Arrays_fill2_6
      rw [if_pos (by omega), f.2.1, ht, Int.toNat_natCast, ab_1 (by omega)]
      refine ⟨⟨rfl, by omega, by show (k : Int) < (n : Int); omega⟩, fun g1 e1 => ?_⟩
      subst e1
      refine ih (k + 1) _ (by omega) (f.tr (Fr.up rfl)) (fun i hi => ?_)
      by_cases e : i = k
      · subst e; rw [hpC_same]
      · rw [hpC_ne (Or.inr e)]; exact c i (by omega)
  exact L n 0 h (by omega) Fr.rf (fun i hi => by omega)
theorem sp_canBeGiven {h : Hp} {r : Nat} {w : Nat → Int} (K : gvK h r w) (hV : V w) {S : Nat} (hS : S < 1024) {d mc ms : Nat} {R : PR} (hd : 14 ≤ d)
    (Y : ∀ (h' : Hp) (l : List Int), FrP (Sgv r) h h' → nmW w S = some l → (∀ t, t < (w 7).toNat → S.testBit t = true → hpC h' (r + 1) t = l.getD t 0) → R (some (xI 1)) h')
    (N : ∀ h' : Hp, FrP (fun q _ => q = r + 5) h h' → nmW w S = none → R (some (xI 0)) h') : Wp m_Planner_canBeGiven 0 [some (xR r), some (xI (S : Int))] [] h d mc ms R := by
  have v0 := hV.1.1
  have v1 := hV.1.2.1
  have v2 := hV.1.2.2.1
  have v3 := hV.1.2.2.2.1
  have v4 := hV.1.2.2.2.2.1
  have v5 := hV.1.2.2.2.2.2.1
  have v6 := hV.1.2.2.2.2.2.2.1
  have v7 := hV.1.2.2.2.2.2.2.2.1
  have v8 := hV.1.2.2.2.2.2.2.2.2.1
  have v9 := hV.1.2.2.2.2.2.2.2.2.2
  have pl := K.1
  apply f_Planner_canBeGiven_0
  rw [pl.dead_n]
  refine ⟨pl.tag, by omega, sp_fill2 pl.dead_t (by omega) (fun g1 f1 z1 _ => ?_)⟩
  have f1 : FrP (fun q _ => q = r + 5) h g1 := f1.P (fun q p z => z)
  have K1 := K.fr (f1.wk (fun q p z => Or.inr z))
  have e0 : (fun _ => false) = Bu w 0 := (Bu_zero w).symm
  refine ⟨⟨by omega, K1.1.tag⟩, sp_giveFrom hV hS (w 7).toNat 0 0 0 g1 (d - 1) 0 0 _ _ _ (by omega) K1 (Nat.pow_pos (by decide)) (by omega) (fun x hx => by rw [Nat.zero_testBit, Bu_zero]) (by rw [cN_zero]; rfl) (fun u hu hb => ?_) (by omega) (fun h' l f' e' _ q2 v e => ?_) (fun h' f' e' D' v e => ?_)⟩
  · rw [z1 _ (by omega), show ((0 : Nat) : Int) = 0 from rfl, lbit_zero] at hb; cases hb
  · cases e
    rw [← e0] at e'
    exact ⟨by simp, Y h' l ((f1.wk (fun q p z => Or.inr z)).tr f') e' (fun t ht hb => by have := q2 t ht (by rw [Nat.zero_add]; exact hb); rw [Nat.zero_add] at this; exact this)⟩
  · cases e
    rw [← e0] at e'
    exact ⟨by simp, N h' (f1.tr f') e'⟩
/-! choosing -/
def ppT (w : Nat → Int) (S : Nat) : Prop := tiP (clW w) (w 7).toNat S ∧ nmW w S ≠ none
def bsC (h : Hp) (r : Nat) (w : Nat → Int) (c : Int) : Prop := ∀ q : Nat, c = (q : Int) → ∃ l, nmW w q = some l ∧ ∀ t, t < (w 7).toNat → q.testBit t = true → hpC h r t = l.getD t 0
theorem seP_ex (b e : Nat → Int) (P : Nat → Prop) : ∀ N, ∃ c, seP b e P N c
  | 0 => ⟨-1, Or.inl ⟨rfl, fun S hS => by omega⟩⟩
  | N + 1 => by
    obtain ⟨c, hc⟩ := seP_ex b e P N
    rcases Classical.em (P N) with z | z
    · rcases Classical.em (c = -1 ∨ ∃ q : Nat, c = (q : Int) ∧ beP b e q N) with y | y
      · exact ⟨_, seP_take hc z y⟩
      · refine ⟨c, seP_skip hc (Or.inr ?_)⟩
        rcases hc with ⟨h1, _⟩ | ⟨q, h1, _⟩
        · exact absurd (Or.inl h1) y
        · exact ⟨q, h1, fun w => y (Or.inr ⟨q, h1, w⟩)⟩
    · exact ⟨c, seP_skip hc (Or.inl z)⟩
theorem ppT_conv {w : Nat → Int} (hV : V w) {c : Int} (h : seP (fun S => (popc S : Int)) (hsW w) (ppT w) (2 ^ (w 7).toNat) c) : plP w c := by
  have v0 := hV.1.1
  have v1 := hV.1.2.1
  have v2 := hV.1.2.2.1
  have v3 := hV.1.2.2.2.1
  have v4 := hV.1.2.2.2.2.1
  have v5 := hV.1.2.2.2.2.2.1
  have v6 := hV.1.2.2.2.2.2.2.1
  have v7 := hV.1.2.2.2.2.2.2.2.1
  have v8 := hV.1.2.2.2.2.2.2.2.2.1
  have v9 := hV.1.2.2.2.2.2.2.2.2.2
  obtain ⟨c1, h1⟩ := seP_ex (fun S => (popc S : Int)) (hsW w) (ppW w) (2 ^ (w 7).toNat)
  have : c1 = c := by
    refine seP_uniq (P1 := ppW w) (P2 := ppT w) (fun S _ h => ⟨tiP_ap h.1, h.2⟩) (fun S hS h1 h2 => ?_) h1 h
    obtain ⟨s0, g1, g2, g3⟩ := ap_clr (clW_sym w) (clW_irr w) h1.1 (fun z => h2 ⟨z, h1.2⟩)
    refine ⟨_, clr_lt hS g1, ⟨g3, nm_clr g2 h1.2⟩, ?_⟩
    have := clr_popc (n := (w 7).toNat) (by omega) hS g1 g2
    show (popc (S ^^^ 2 ^ s0) : Int) < (popc S : Int)
    omega
  rw [← this]; exact h1
theorem plP_uniq {w : Nat → Int} {c1 c2 : Int} (h1 : plP w c1) (h2 : plP w c2) : c1 = c2 := seP_uniq (fun S _ h => h) (fun S _ h1 h2 => absurd h1 h2) h1 h2
theorem plP_bd {w : Nat → Int} (hV : V w) {c : Int} (h : plP w c) : c = -1 ∨ ∃ q : Nat, c = (q : Int) ∧ q < 1024 ∧ q < 2 ^ (w 7).toNat ∧ nmW w q ≠ none := by
  have v0 := hV.1.1
  have v1 := hV.1.2.1
  have v2 := hV.1.2.2.1
  have v3 := hV.1.2.2.2.1
  have v4 := hV.1.2.2.2.2.1
  have v5 := hV.1.2.2.2.2.2.1
  have v6 := hV.1.2.2.2.2.2.2.1
  have v7 := hV.1.2.2.2.2.2.2.2.1
  have v8 := hV.1.2.2.2.2.2.2.2.2.1
  have v9 := hV.1.2.2.2.2.2.2.2.2.2
  have p10 : 2 ^ (w 7).toNat ≤ 1024 := Nat.pow_le_pow_right (n := 2) (by decide) (show (w 7).toNat ≤ 10 by omega)
  rcases h with ⟨z, _⟩ | ⟨q, z1, z2, z3, _⟩
  · exact Or.inl z
  · exact Or.inr ⟨q, z1, by omega, z2, z3.2⟩
def Sch (r : Nat) : Nat → Nat → Prop := fun q p => (q = r ∧ p = 0) ∨ q = r + 1 ∨ q = r + 5
theorem Sch_SP {r : Nat} {h h' : Hp} (f : FrP (Sch r) h h') : FrP (SP r) h h' := f.wk (fun q p z => by
  rcases z with ⟨z1, z2⟩ | z | z
  · exact Or.inl ⟨z1, Or.inl z2⟩
  · exact Or.inr (by omega)
  · exact Or.inr (by omega))
theorem gvK.fc {h h' : Hp} {r : Nat} {w : Nat → Int} (a : gvK h r w) (f : FrP (Sch r) h h') : gvK h' r w := by
  have no : ∀ q p, (q = r ∧ p ≠ 0) ∨ q = r + 3 ∨ q = r + 4 → hpC h' q p = hpC h q p := fun q p hq => f.2.2 _ _ (fun z => by rcases z with ⟨z, _⟩ | z | z <;> omega)
  refine ⟨a.1.fr (Sch_SP f), by rw [no _ _ (Or.inl ⟨rfl, by decide⟩)]; exact a.2.1, by rw [no _ _ (Or.inl ⟨rfl, by decide⟩)]; exact a.2.2.1, fun k hk => ?_, fun k hk => ?_⟩
  · rw [no _ _ (Or.inr (Or.inl rfl))]; exact a.2.2.2.1 k hk
  · rw [no _ _ (Or.inr (Or.inr rfl))]; exact a.2.2.2.2 k hk
theorem Sch.cl {h h' : Hp} {r : Nat} {w : Nat → Int} (f : FrP (Sch r) h h') (a : clC h r w) : clC h' r w := fun s hs => by
  rw [f.2.2 _ _ (fun z => by rcases z with ⟨z, _⟩ | z | z <;> omega)]; exact a s hs
theorem SP.TR {h h' : Hp} {r t : Nat} {w : Nat → Int} (f : FrP (SP r) h h') (hx : r + 6 ≤ t) (a : TR h t w) : TR h' t w := a.eq (f.eqC (fun q p h1 h2 z => by rcases z with ⟨z, _⟩ | z <;> omega))
theorem yc1 {v1 v2 a b x y : Int} (h1 : v1 = b) (h2 : v2 = a) (h : 0 < v1 - v2) : a < b ∨ (a = b ∧ x < y) := by omega
theorem nc1 {v1 v2 a b x y : Int} (h1 : v1 = b) (h2 : v2 = a) (h : ¬ 0 < v1 - v2) (g : ¬ v1 - v2 = 0) : ¬ (a < b ∨ (a = b ∧ x < y)) := by omega
theorem yc2 {v1 v2 v3 v4 a b x y : Int} (h1 : v1 = b) (h2 : v2 = a) (h : v1 - v2 = 0) (h3 : v3 = x) (h4 : v4 = y) (g : v3 < v4) : a < b ∨ (a = b ∧ x < y) := by omega
theorem nc2 {v1 v2 v3 v4 a b x y : Int} (h1 : v1 = b) (h2 : v2 = a) (h : v1 - v2 = 0) (h3 : v3 = x) (h4 : v4 = y) (g : ¬ v3 < v4) : ¬ (a < b ∨ (a = b ∧ x < y)) := by omega
theorem sp_isBetter {h : Hp} {r t : Nat} {w : Nat → Int} (pl : plAt h r) (a : TR h t w) (hV : V w) {S : Nat} (hS : S < 1024) {c : Int} (hc : hpC h r 0 = c) (hb : c = -1 ∨ ∃ q : Nat, c = (q : Int) ∧ q < 1024) {d mc ms : Nat} {R : PR} (hd : 1 ≤ d) {o3 : Option AV}
    (H1 : (c = -1 ∨ ∃ q : Nat, c = (q : Int) ∧ beP (fun S => (popc S : Int)) (hsW w) q S) → R (some (xI 1)) h) (H0 : (∃ q : Nat, c = (q : Int) ∧ ¬ beP (fun S => (popc S : Int)) (hsW w) q S) → R (some (xI 0)) h) : Wp m_Planner_isBetter 0 [some (xR r), some (xR t), some (xI (S : Int)), o3] [] h d mc ms R := by
  have v0 := hV.1.1
  have v1 := hV.1.2.1
  have v2 := hV.1.2.2.1
  have v3 := hV.1.2.2.2.1
  have v4 := hV.1.2.2.2.2.1
  have v5 := hV.1.2.2.2.2.2.1
  have v6 := hV.1.2.2.2.2.2.2.1
  have v7 := hV.1.2.2.2.2.2.2.2.1
  have v8 := hV.1.2.2.2.2.2.2.2.2.1
  have v9 := hV.1.2.2.2.2.2.2.2.2.2
  have hT := a.1.1
  have hw : HW h (t + 18) w := a.1.2.2.2.2.2.2.1
  apply f_Planner_isBetter_0
  rw [hc]
  refine ⟨pl.tag, ?_⟩
  by_cases c1 : c = -1
  · rw [if_pos c1]; exact ⟨by simp, H1 (Or.inl c1)⟩
  · rw [if_neg c1]
    obtain ⟨q, hq, hq2⟩ : ∃ q : Nat, c = (q : Int) ∧ q < 1024 := by
      rcases hb with z | z
      · exact absurd z c1
      · exact z
    rw [hq]
    have bP : beP (fun S => (popc S : Int)) (hsW w) q S ↔ ((popc S : Int) < (popc q : Int) ∨ ((popc S : Int) = (popc q : Int) ∧ hsW w S < hsW w q)) := Iff.rfl
    have b1 : popc q ≤ 32 := pcn_le 32 q
    have b2 : popc S ≤ 32 := pcn_le 32 S
    refine ⟨pl.tag, by omega, sp_bitCount (by omega) (fun v1 e => ?_)⟩
    have e1 := xI_inj e
    clear e
    refine ⟨by omega, sp_bitCount (by omega) (fun v2 e => ?_)⟩
    have e2 := xI_inj e
    clear e
    rw [ai_sub_eq (by omega) (by omega)]
    clear b1 b2
    by_cases c2 : (0 : Int) < v1 - v2
    · rw [if_pos c2]; exact ⟨by simp, H1 (Or.inr ⟨q, hq, bP.mpr (yc1 e1 e2 c2)⟩)⟩
    · rw [if_neg c2]
      by_cases c3 : v1 - v2 = 0
      · rw [if_pos c3, hT.homes_n]
        refine ⟨hT.tag, ⟨by omega, hT.homes_a.tag⟩, sp_ofSet hT.homes_a hw hV hS (fun v3 e => ?_)⟩
        have e3 := xI_inj e
        clear e
        rw [hT.homes_n, hc, hq]
        refine ⟨hT.tag, pl.tag, ⟨by omega, hT.homes_a.tag⟩, sp_ofSet hT.homes_a hw hV hq2 (fun v4 e => ?_)⟩
        have e4 := xI_inj e
        clear e
        by_cases c4 : v3 < v4
        · rw [if_pos c4]; exact ⟨by simp, H1 (Or.inr ⟨q, hq, bP.mpr (yc2 e1 e2 c3 e3 e4 c4)⟩)⟩
        · rw [if_neg c4]; exact ⟨by simp, H0 ⟨q, hq, fun z => nc2 e1 e2 c3 e3 e4 c4 (bP.mp z)⟩⟩
      · rw [if_neg c3]; exact ⟨by simp, H0 ⟨q, hq, fun z => nc1 e1 e2 c2 c3 (bP.mp z)⟩⟩
theorem sp_choose {h : Hp} {r t : Nat} {w : Nat → Int} (K : gvK h r w) (a : TR h t w) (hV : V w) (hx : r + 6 ≤ t) (cl : clC h r w) (h0 : hpC h r 0 = -1) (nt : ¬ tiP (clW w) (w 7).toNat 0) {d mc ms : Nat} {R : PR} (hd : 15 ≤ d) {o2 : Option AV}
    (H : ∀ (h' : Hp) (c : Int), FrP (Sch r) h h' → plP w c → hpC h' r 0 = c → bsC h' (r + 1) w c → R none h') : Wp m_Planner_choose 0 [some (xR r), some (xR t), o2] [] h d mc ms R := by
  have v0 := hV.1.1
  have v1 := hV.1.2.1
  have v2 := hV.1.2.2.1
  have v3 := hV.1.2.2.2.1
  have v4 := hV.1.2.2.2.2.1
  have v5 := hV.1.2.2.2.2.2.1
  have v6 := hV.1.2.2.2.2.2.2.1
  have v7 := hV.1.2.2.2.2.2.2.2.1
  have v8 := hV.1.2.2.2.2.2.2.2.2.1
  have v9 := hV.1.2.2.2.2.2.2.2.2.2
  have p10 : 2 ^ (w 7).toNat ≤ 1024 := Nat.pow_le_pow_right (n := 2) (by decide) (show (w 7).toNat ≤ 10 by omega)
  have pp : 0 < 2 ^ (w 7).toNat := Nat.pow_pos (by decide)
  have es : ai_shl 1 (w 7) = ((2 ^ (w 7).toNat : Nat) : Int) := by
    have e7 : w 7 = ((w 7).toNat : Int) := by omega
    rw [e7, ai_shl_one _ (by omega), ← e7]
  apply f_Planner_choose_0
  have L : ∀ (j S : Nat) (c : Int) (g : Hp), S + j = 2 ^ (w 7).toNat → FrP (Sch r) h g → seP (fun S => (popc S : Int)) (hsW w) (ppT w) S c → hpC g r 0 = c → bsC g (r + 1) w c → Wp m_Planner_choose 2 [some (xR r), some (xR t), some (xI (S : Int))] [] g d mc ms R := by
    intro j
    induction j with
    | zero =>
      intro S c g hS f hc x hb
      have K := K.fc f
      apply f_Planner_choose_2
      rw [K.2.1, es, if_neg (by omega)]
      rw [show S = 2 ^ (w 7).toNat by omega] at hc
      exact ⟨K.1.tag, H g c f (ppT_conv hV hc) x hb⟩
    | succ j ih =>
      intro S c g hS f hc x hb
      have K := K.fc f
      have a := SP.TR (Sch_SP f) hx a
      have cl := Sch.cl f cl
      apply f_Planner_choose_2
      rw [K.2.1, es, if_pos (by omega), ab_1 (by omega)]
      refine ⟨K.1.tag, K.1.tag, ⟨by omega, K.1.tag⟩, sp_isTight K.1 hV cl (by omega) (fun ti v e => ?_) (fun ti v e => ?_)⟩
      · cases e
        rw [if_neg (by decide)]
        have hb2 : c = -1 ∨ ∃ q : Nat, c = (q : Int) ∧ q < 1024 := by
          rcases hc with ⟨z, _⟩ | ⟨q, z1, z2, _⟩
          · exact Or.inl z
          · exact Or.inr ⟨q, z1, by omega⟩
        refine ⟨⟨by omega, K.1.tag⟩, sp_isBetter K.1 a hV (by omega) x hb2 (by omega) (fun z v e => ?_) (fun z v e => ?_)⟩
        · cases e
          rw [if_neg (by decide)]
          refine ⟨⟨by omega, K.1.tag⟩, sp_canBeGiven K hV (by omega) (by omega) (fun g4 l f4 e4 q4 v e => ?_) (fun g4 f4 e4 v e => ?_)⟩
          · cases e
            rw [if_neg (by decide)]
            have K4 := K.fr f4
            refine ⟨K4.1.tag, fun g5 e5 => ?_⟩
            subst e5
            have f5 : FrP (Sch r) g g4 := f4.wk (fun q p z => Or.inr z)
            refine ih (S + 1) (S : Int) _ (by omega) (f.tr (f5.tr (FrP.up (Or.inl ⟨rfl, rfl⟩)))) (seP_take hc ⟨ti, by rw [e4]; simp⟩ z) (by rw [hpC_same]) (fun q hq => ?_)
            obtain rfl : S = q := by omega
            exact ⟨l, e4, fun t ht hb => by rw [hpC_ne (Or.inl (by omega))]; exact q4 t ht hb⟩
          · cases e
            rw [if_pos rfl]
            refine ih (S + 1) c g4 (by omega) (f.tr (f4.wk (fun q p z => Or.inr (Or.inr z)))) (seP_skip hc (Or.inl (fun y => y.2 e4))) (by rw [f4.2.2 _ _ (by omega)]; exact x) (fun q hq => ?_)
            obtain ⟨l, h1, h2⟩ := hb q hq
            exact ⟨l, h1, fun t ht hb => by rw [f4.2.2 _ _ (by omega)]; exact h2 t ht hb⟩
        · cases e
          rw [if_pos rfl]
          exact ih (S + 1) c g (by omega) f (seP_skip hc (Or.inr z)) x hb
      · cases e
        rw [if_pos rfl]
        exact ih (S + 1) c g (by omega) f (seP_skip hc (Or.inl (fun y => ti y.1))) x hb
  have s0 : seP (fun S => (popc S : Int)) (hsW w) (ppT w) 0 (-1) := Or.inl ⟨rfl, fun S hS => by omega⟩
  exact L (2 ^ (w 7).toNat - 1) 1 (-1) h (by omega) FrP.rf (seP_skip s0 (Or.inl (fun z => nt z.1))) h0 (fun q hq => by omega)
/-- what the planner knows -/
def plK (h : Hp) (r : Nat) (w : Nat → Int) : Prop := plP w (hpC h r 0) ∧ hpC h r 4 = w 7 ∧ bsC h (r + 1) w (hpC h r 0)
theorem nmP_zero (may rv : Nat → Nat → Bool) (pc : Nat) : ∀ j s B, nmP may rv 0 pc j s B ≠ none
  | 0, s, B => by simp [nmP]
  | j + 1, s, B => by
    simp only [nmP, Nat.zero_testBit]
    have := nmP_zero may rv pc j (s + 1) B
    cases e : nmP may rv 0 pc j (s + 1) B with
    | none => exact absurd e this
    | some l => simp
theorem hsW_zero {w : Nat → Int} : hsW w 0 = 0 := sumN_zero 10 (fun i _ => by rw [Nat.zero_testBit]; rfl)
theorem popc_zero : popc 0 = 0 := pcn_zero 32
theorem sp_learnPlan {h : Hp} {r t : Nat} {w : Nat → Int} (pl : plAt h r) (a : TR h t w) (hV : V w) (hx : r + 6 ≤ t) (hk : hpC h r 2 ≠ 0 → clC h r w) (hp : hpC h r 3 ≠ 0 → plK h r w) {d mc ms : Nat} {R : PR} (hd : 16 ≤ d) (H : ∀ h', FrP (SP r) h h' → (hpC h' r 2 ≠ 0 → clC h' r w) → plK h' r w → R none h') : Wp m_Planner_learnPlan 0 [some (xR r), some (xR t)] [] h d mc ms R := by
  have v0 := hV.1.1
  have v1 := hV.1.2.1
  have v2 := hV.1.2.2.1
  have v3 := hV.1.2.2.2.1
  have v4 := hV.1.2.2.2.2.1
  have v5 := hV.1.2.2.2.2.2.1
  have v6 := hV.1.2.2.2.2.2.2.1
  have v7 := hV.1.2.2.2.2.2.2.2.1
  have v8 := hV.1.2.2.2.2.2.2.2.2.1
  have v9 := hV.1.2.2.2.2.2.2.2.2.2
  have pp : 0 < 2 ^ (w 7).toNat := Nat.pow_pos (by decide)
  apply f_Planner_learnPlan_0
  refine ⟨pl.tag, ?_⟩
  by_cases c : hpC h r 3 = 0
  · rw [if_pos c]
    refine ⟨⟨by omega, pl.tag⟩, sp_learnClashes pl a hV hx hk (by omega) (fun g f k1 k2 _ => ?_)⟩
    have pl := pl.fr (Slk_SP f)
    have a := SP.TR (Slk_SP f) hx a
    have F := Slk_SP f
    have up : ∀ {g g' : Hp} {p : Nat} {v : Int}, (p = 0 ∨ p = 3 ∨ p = 4 ∨ p = 5) → g' = hpU g r p v → FrP (SP r) g g' := fun hp e => by
      subst e; exact FrP.up (Or.inl ⟨rfl, by omega⟩)
    have hT := a.1.1
    have b1 := a.1.2.2.1
    have b2 := a.1.2.2.2.1
    rw [hT.streets_n, b1.1]
    refine ⟨hT.tag, hT.streets_a.tag, pl.tag, fun g1 e1 => ?_⟩
    have f1 := up (by omega) e1
    have a1 := SP.TR f1 hx a
    have pl1 := pl.fr f1
    have x14 : hpC g1 r 4 = w 7 := by subst e1; rw [hpC_same]
    have x1 : ∀ p, hpC g1 (r + 2) p = hpC g (r + 2) p := fun p => by subst e1; rw [hpC_ne (Or.inl (by omega))]
    have x12 : hpC g1 r 2 = hpC g r 2 := by subst e1; rw [hpC_ne (Or.inr (by decide))]
    clear e1
    rw [a1.1.1.pool_n, a1.1.2.2.2.1.1]
    refine ⟨a1.1.1.tag, a1.1.1.pool_a.tag, pl1.tag, fun g2 e2 => ?_⟩
    have f2 := up (by omega) e2
    have a2 := SP.TR f2 hx a1
    have pl2 := pl1.fr f2
    have x25 : hpC g2 r 5 = w 6 := by subst e2; rw [hpC_same]
    have x24 : hpC g2 r 4 = w 7 := by subst e2; rw [hpC_ne (Or.inr (by decide))]; exact x14
    have x2 : ∀ p, hpC g2 (r + 2) p = hpC g (r + 2) p := fun p => by subst e2; rw [hpC_ne (Or.inl (by omega))]; exact x1 p
    have x22 : hpC g2 r 2 = hpC g r 2 := by subst e2; rw [hpC_ne (Or.inr (by decide))]; exact x12
    clear e2
    refine ⟨pl2.tag, fun g3 e3 => ?_⟩
    have f3 := up (by omega) e3
    have a3 := SP.TR f3 hx a2
    have pl3 := pl2.fr f3
    have x30 : hpC g3 r 0 = -1 := by subst e3; rw [hpC_same]
    have x35 : hpC g3 r 5 = w 6 := by subst e3; rw [hpC_ne (Or.inr (by decide))]; exact x25
    have x34 : hpC g3 r 4 = w 7 := by subst e3; rw [hpC_ne (Or.inr (by decide))]; exact x24
    have x3 : ∀ p, hpC g3 (r + 2) p = hpC g (r + 2) p := fun p => by subst e3; rw [hpC_ne (Or.inl (by omega))]; exact x2 p
    have x32 : hpC g3 r 2 = hpC g r 2 := by subst e3; rw [hpC_ne (Or.inr (by decide))]; exact x22
    clear e3
    have cl3 : clC g3 r w := fun s hs => by rw [x3]; exact k2 s hs
    have F3 : FrP (SP r) h g3 := F.tr (f1.tr (f2.tr f3))
    rw [x34]
    refine ⟨pl3.tag, ⟨by omega, pl3.tag⟩, sp_isTight (S := 0) pl3 hV cl3 (by omega) (fun ti v e => ?_) (fun ti v e => ?_)⟩
    · cases e
      rw [if_neg (by decide)]
      refine ⟨pl3.tag, fun g4 e4 => ?_⟩
      have f4 := up (by omega) e4
      have x40 : hpC g4 r 0 = 0 := by subst e4; rw [hpC_same]
      have x44 : hpC g4 r 4 = w 7 := by subst e4; rw [hpC_ne (Or.inr (by decide))]; exact x34
      have x4 : ∀ p, hpC g4 (r + 2) p = hpC g (r + 2) p := fun p => by subst e4; rw [hpC_ne (Or.inl (by omega))]; exact x3 p
      have pl4 := pl3.fr f4
      clear e4
      refine ⟨pl4.tag, by simp, fun g5 e5 => ?_⟩
      have f5 := up (by omega) e5
      subst e5
      have nz : nmW w 0 ≠ none := nmP_zero _ _ _ _ _ _
      refine H _ (F3.tr (f4.tr f5)) (fun _ s hs => by rw [hpC_ne (Or.inl (by omega)), x4]; exact k2 s hs) ⟨?_, by rw [hpC_ne (Or.inr (by decide))]; exact x44, fun q hq => ?_⟩
      · rw [hpC_ne (Or.inr (by decide)), x40]
        refine Or.inr ⟨0, rfl, pp, ⟨tiP_ap ti, nz⟩, fun S hS hP => ⟨fun z => ?_, fun _ _ => Nat.zero_le _⟩⟩
        have hb := (hsW_bd hV S 10 (by omega)).1
        unfold beP at z
        simp only [popc_zero, hsW_zero] at z
        have : 0 ≤ hsW w S := hb
        omega
      · rw [hpC_ne (Or.inr (by decide)), x40] at hq
        obtain rfl : q = 0 := by omega
        cases e : nmW w 0 with
        | none => exact absurd e nz
        | some l => exact ⟨l, rfl, fun t _ hb => by rw [Nat.zero_testBit] at hb; cases hb⟩
    · cases e
      rw [if_pos rfl]
      refine ⟨⟨by omega, pl3.tag⟩, sp_learnTakers pl3 a3 hV hx x34 x35 (by omega) (fun g4 f4 tk _ => ?_)⟩
      have f4' : FrP (SP r) g3 g4 := f4.wk (fun q p z => Or.inr (by omega))
      have pl4 := pl3.fr f4'
      have a4 := SP.TR f4' hx a3
      have x45 : hpC g4 r 5 = w 6 := by rw [f4.2.2 _ _ (by omega)]; exact x35
      have x44 : hpC g4 r 4 = w 7 := by rw [f4.2.2 _ _ (by omega)]; exact x34
      refine ⟨⟨by omega, pl4.tag⟩, sp_learnRivals pl4 a4 hV hx x45 (by omega) (fun g5 f5 rv _ => ?_)⟩
      have f5' : FrP (SP r) g4 g5 := f5.wk (fun q p z => Or.inr (by omega))
      have pl5 := pl4.fr f5'
      have a5 := SP.TR f5' hx a4
      have K5 : gvK g5 r w := ⟨pl5, by rw [f5.2.2 _ _ (by omega)]; exact x44, by rw [f5.2.2 _ _ (by omega)]; exact x45, fun k hk => by rw [f5.2.2 _ _ (by omega)]; exact tk k hk, rv⟩
      have cl5 : clC g5 r w := fun s hs => by rw [f5.2.2 _ _ (by omega), f4.2.2 _ _ (by omega)]; exact cl3 s hs
      have x50 : hpC g5 r 0 = -1 := by rw [f5.2.2 _ _ (by omega), f4.2.2 _ _ (by omega)]; exact x30
      refine ⟨⟨by omega, pl5.tag⟩, sp_choose K5 a5 hV hx cl5 x50 ti (by omega) (fun g6 c f6 pc x6 b6 _ => ?_)⟩
      have K6 := K5.fc f6
      refine ⟨K6.1.tag, by simp, fun g7 e7 => ?_⟩
      have f7 := up (by omega) e7
      subst e7
      have cl6 := Sch.cl f6 cl5
      refine H _ (F3.tr (f4'.tr (f5'.tr ((Sch_SP f6).tr f7)))) (fun _ s hs => by rw [hpC_ne (Or.inl (by omega))]; exact cl6 s hs) ⟨?_, by rw [hpC_ne (Or.inr (by decide))]; exact K6.2.1, ?_⟩
      · rw [hpC_ne (Or.inr (by decide)), x6]; exact pc
      · rw [hpC_ne (Or.inr (by decide)), x6]
        intro q hq
        obtain ⟨l, h1, h2⟩ := b6 q hq
        exact ⟨l, h1, fun t ht hb => by rw [hpC_ne (Or.inl (by omega))]; exact h2 t ht hb⟩
  · rw [if_neg c]
    exact H h FrP.rf hk (hp c)
theorem sp_isChosen {h : Hp} {r : Nat} {w : Nat → Int} (pl : plAt h r) (hV : V w) (K : plK h r w) {s : Nat} (hs : s < 10) {d mc ms : Nat} {R : PR} (H1 : (∃ q : Nat, hpC h r 0 = (q : Int) ∧ q.testBit s = true) → R (some (xI 1)) h) (H0 : (¬ ∃ q : Nat, hpC h r 0 = (q : Int) ∧ q.testBit s = true) → R (some (xI 0)) h) : Wp m_Planner_isChosen 0 [some (xR r), some (xI (s : Int))] [] h d mc ms R := by
  apply f_Planner_isChosen_0
  refine ⟨pl.tag, ?_⟩
  rcases plP_bd hV K.1 with z | ⟨q, z1, z2, _⟩
  · rw [if_pos z]
    exact ⟨by simp, H0 (fun ⟨q, h1, _⟩ => by omega)⟩
  · rw [if_neg (by omega), z1, ai_bit (by omega) (by omega)]
    refine ⟨pl.tag, ?_⟩
    by_cases c : q.testBit s = true
    · rw [if_pos c, if_pos rfl]; exact ⟨by simp, H1 ⟨q, z1, c⟩⟩
    · rw [if_neg c, if_neg (by decide)]
      refine ⟨by simp, H0 ?_⟩
      rintro ⟨q', h1, h2⟩
      obtain rfl : q' = q := by omega
      exact c h2
