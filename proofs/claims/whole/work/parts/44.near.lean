/-! ===== frames of towns; nearest ===== -/
def eqC (h h' : Hp) (lo hi : Nat) : Prop := ∀ q, lo ≤ q → q ≤ hi → hpT h' q = hpT h q ∧ ∀ p, hpC h' q p = hpC h q p
theorem FrP.eqC {S : Nat → Nat → Prop} {h h' : Hp} (f : FrP S h h') {lo hi : Nat} (hS : ∀ q p, lo ≤ q → q ≤ hi → ¬ S q p) : eqC h h' lo hi := fun q h1 h2 => ⟨by rw [f.2.1], fun p => f.2.2 q p (hS q p h1 h2)⟩
theorem eqC.sub {h h' : Hp} {lo hi lo' hi' : Nat} (e : eqC h h' lo hi) (h1 : lo ≤ lo') (h2 : hi' ≤ hi) : eqC h h' lo' hi' := fun q g1 g2 => e q (by omega) (by omega)
theorem eqC.tr {h h' h'' : Hp} {lo hi : Nat} (e : eqC h h' lo hi) (e' : eqC h' h'' lo hi) : eqC h h'' lo hi := fun q g1 g2 => ⟨(e' q g1 g2).1.trans (e q g1 g2).1, fun p => ((e' q g1 g2).2 p).trans ((e q g1 g2).2 p)⟩
theorem eqC.T {h h' : Hp} {lo hi : Nat} (e : eqC h h' lo hi) (q : Nat) (h1 : lo ≤ q) (h2 : q ≤ hi) : hpT h' q = hpT h q := (e q h1 h2).1
theorem eqC.C {h h' : Hp} {lo hi : Nat} (e : eqC h h' lo hi) (q p : Nat) (h1 : lo ≤ q) (h2 : q ≤ hi) : hpC h' q p = hpC h q p := (e q h1 h2).2 p
theorem rulesAt.eq {h h' : Hp} {r : Nat} (e : eqC h h' r (r + 5)) (a : rulesAt h r) : rulesAt h' r := by
  unfold rulesAt at *
  simp (disch := omega) only [e.T, e.C]
  exact a
theorem namesAt.eq {h h' : Hp} {r l : Nat} (e : eqC h h' r (r + 2)) (a : namesAt h r l) : namesAt h' r l := by
  unfold namesAt at *
  simp (disch := omega) only [e.T, e.C]
  exact a
theorem homesAt.eq {h h' : Hp} {r : Nat} (e : eqC h h' r (r + 4)) (a : homesAt h r) : homesAt h' r := by
  unfold homesAt at *
  simp (disch := omega) only [e.T, e.C]
  exact a
theorem townAt.eq {h h' : Hp} {t : Nat} (e : eqC h h' t (t + 22)) (a : townAt h t) : townAt h' t := by
  refine ⟨?_, ?_, ?_, ?_, ?_, ?_, ?_, ?_, ?_, ?_, a.rules_a.eq (e.sub (by omega) (by omega)), a.streets_a.eq (e.sub (by omega) (by omega)), a.pool_a.eq (e.sub (by omega) (by omega)), a.aliases_a.eq (e.sub (by omega) (by omega)), a.homes_a.eq (e.sub (by omega) (by omega))⟩
  · rw [e.T _ (by omega) (by omega)]; exact a.tag
  · rw [e.C _ _ (by omega) (by omega)]; exact a.rules
  · rw [e.C _ _ (by omega) (by omega)]; exact a.streets
  · rw [e.C _ _ (by omega) (by omega)]; exact a.pool
  · rw [e.C _ _ (by omega) (by omega)]; exact a.aliases
  · rw [e.C _ _ (by omega) (by omega)]; exact a.aliasStreet
  · rw [e.C _ _ (by omega) (by omega)]; exact a.aliasLast
  · rw [e.C _ _ (by omega) (by omega)]; exact a.homes
  · rw [e.T _ (by omega) (by omega)]; exact a.aliasStreet_t
  · rw [e.T _ (by omega) (by omega)]; exact a.aliasLast_t
theorem cHead_eq {h h' : Hp} {r : Nat} (e : eqC h h' r (r + 5)) (l : Int) : ∀ k g, cHead h' r l k g = cHead h r l k g
  | 0, g => rfl
  | k + 1, g => by simp only [cHead]; rw [e.C _ _ (by omega) (by omega), e.C _ _ (by omega) (by omega), cHead_eq e l k (g + 1)]
theorem RW.eq {h h' : Hp} {r : Nat} {w : Nat → Int} (e : eqC h h' r (r + 5)) (a : RW h r w) : RW h' r w := by
  unfold RW at *
  simp (disch := omega) only [e.C, cHead_eq e]
  exact a
theorem NW.eq {h h' : Hp} {r : Nat} {w : Nat → Int} {n : Int} {o : Nat} (e : eqC h h' r (r + 2)) (a : NW h r w n o) : NW h' r w n o := by
  unfold NW at *
  simp (disch := omega) only [e.C]
  exact a
theorem NS.eq {h h' : Hp} {r : Nat} {w : Nat → Int} {n : Int} {o : Nat} (e : eqC h h' r (r + 2)) (a : NS h r w n o) : NS h' r w n o := by
  unfold NS at *
  simp (disch := omega) only [e.C]
  exact a
theorem HW.eq {h h' : Hp} {r : Nat} {w : Nat → Int} (e : eqC h h' r (r + 4)) (a : HW h r w) : HW h' r w := by
  unfold HW at *
  simp (disch := omega) only [e.C]
  exact a
theorem TR0.eq {h h' : Hp} {t : Nat} {w : Nat → Int} (e : eqC h h' t (t + 22)) (a : TR0 h t w) : TR0 h' t w := by
  obtain ⟨a1, a2, a3, a4, a5, a6, a7, a8⟩ := a
  refine ⟨a1.eq e, a2.eq (e.sub (by omega) (by omega)), a3.eq (e.sub (by omega) (by omega)), a4.eq (e.sub (by omega) (by omega)), a5.eq (e.sub (by omega) (by omega)), fun k hk => ?_, a7.eq (e.sub (by omega) (by omega)), ?_⟩
  · rw [e.C _ _ (by omega) (by omega)]; exact a6 k hk
  · rw [e.C _ _ (by omega) (by omega)]; exact a8
theorem TR.eq {h h' : Hp} {t : Nat} {w : Nat → Int} (e : eqC h h' t (t + 22)) (a : TR h t w) : TR h' t w := by
  obtain ⟨a1, a2, a3, a4, a5⟩ := a
  refine ⟨a1.eq e, a2.eq (e.sub (by omega) (by omega)), a3.eq (e.sub (by omega) (by omega)), a4.eq (e.sub (by omega) (by omega)), fun k hk => ?_⟩
  rw [e.C _ _ (by omega) (by omega)]; exact a5 k hk
theorem lv_max (a b : Nat → Nat) : ∀ m n, lv a b m n ≤ max m n
  | 0, n => by rw [lv_0]; omega
  | m + 1, 0 => by rw [lv_s0]; omega
  | m + 1, n + 1 => by
    have := lv_max a b m n
    rw [lv_ss]
    split <;> omega
theorem chW_le {w v : Nat → Int} {o1 o2 : Nat} (h1 : okName w o1) (h2 : okName w o2) : chW w o1 o2 ≤ 10 := by
  have := lv_max (fW w o1) (fW w o2) (nW w o1) (nW w o2)
  have := h1.spec.2.1
  have := h2.spec.2.1
  unfold chW; omega
/-! nearest -/
def nrW (f : Nat → Int) (sk : Nat → Bool) : Nat → Nat → Int → Int → Int × Int
  | 0, _, b, l => (b, l)
  | j + 1, s, b, l => if sk s then nrW f sk j (s + 1) b l else if b = -1 ∨ f s < l then nrW f sk j (s + 1) (s : Int) (f s) else nrW f sk j (s + 1) b l
def nearV (w : Nat → Int) (kind k : Int) : Int × Int := nrW (fun s => (chW w (oN w kind k) (180 + 10 * s) : Int)) (fun s => decide (kind = 0 ∧ (s : Int) = k)) (w 7).toNat 0 (-1) (-1)
def pk2 (what : Int) (q : Int × Int) : Int := if what = 0 then q.1 else q.2
def nearA (w : Nat → Int) (kind k what : Int) : Int := pk2 what (nearV w kind k)
theorem sp_mnearest {h : Hp} {m : Nat} {w : Nat → Int} (a : RD h m w) (hV : V w) {kind k what : Int} {d mc ms : Nat} {R : PR} (hd : 4 ≤ d) {o4 o5 o6 o7 o8 : Option AV} (H1 : hasN w kind k → (0 ≤ what ∧ what ≤ 1) → ∀ h', FrP (SM m) h h' → R (some (xI (nearA w kind k what))) h') (H2 : ¬ (hasN w kind k ∧ 0 ≤ what ∧ what ≤ 1) → R (some (xI (-1))) h) : Wp m_M_nearest 0 [some (xR m), some (xI kind), some (xI k), some (xI what), o4, o5, o6, o7, o8] [] h d mc ms R := by
  have v0 := hV.1.1
  have v1 := hV.1.2.1
  have v2 := hV.1.2.2.1
  have v3 := hV.1.2.2.2.1
  have v4 := hV.1.2.2.2.2.1
  have v5 := hV.1.2.2.2.2.2.1
  have v6 := hV.1.2.2.2.2.2.2.1
  have v7 := hV.1.2.2.2.2.2.2.2.1
  have v8 := hV.1.2.2.2.2.2.2.2.2.1
  have v9 := hV.1.2.2.2.2.2.2.2.2.2
  apply f_M_nearest_0
  refine ⟨⟨by omega, a.1.tag⟩, sp_nameAt a hV (by omega) (fun hn v e => ?_) (fun hn v e => ?_)⟩
  · cases e
    rw [if_neg (by omega)]
    obtain ⟨n1, n2, n3⟩ := hn.ok hV
    refine ⟨by omega, sp_isIn (fun v e => ?_)⟩
    cases e
    by_cases c : 0 ≤ what ∧ what ≤ 1
    · rw [if_pos c, if_neg (by decide)]
      have H := H1 hn c
      unfold nearA nearV at H
      have L : ∀ (j i : Nat) (b l : Int) (g : Hp) (o8 : Option AV), ((i + j : Nat) : Int) = w 7 → FrP (SM m) h g → (∀ h', FrP (SM m) h h' → R (some (xI (pk2 what (nrW (fun s => (chW w (oN w kind k) (180 + 10 * s) : Int)) (fun s => decide (kind = 0 ∧ (s : Int) = k)) j i b l)))) h') → Wp m_M_nearest 34 [some (xR m), some (xI kind), some (xI k), some (xI what), some (xI (oN w kind k : Int)), some (xI b), some (xI l), some (xI (i : Int)), o8] [] g d mc ms R := by
        intro j
        induction j with
        | zero =>
          intro i b l g o8 hi f H
          have a := a.fr f
          have H := H g f
          simp only [nrW, pk2] at H
          apply f_M_nearest_34
          rw [a.1.row_n, a.1.row_t, tn_7, a.2 7 (by omega), if_neg (by omega)]
          refine ⟨a.1.tag, ⟨rfl, by omega, by decide⟩, ?_⟩
          by_cases c2 : what = 0
          · rw [if_pos c2]; rw [if_pos c2] at H; exact H
          · rw [if_neg c2]; rw [if_neg c2] at H; exact H
        | succ j ih =>
          intro i b l g o8 hi f H
          have a := a.fr f
          simp only [nrW, decide_eq_true_eq] at H
          have tk : ¬ (kind = 0 ∧ (i : Int) = k) → (1 ≤ d ∧ (hpT g m).1 = 12) ∧ Wp m_M_changesOf 0 [some (xR m), some (xI (oN w kind k : Int)), some (xI ((180 + 10 * i : Nat) : Int))] [] g (d - 1) 0 0 (fun rv h2 => ∀ v2 : Int, rv = some (xI v2) → (if b = (-1 : Int) then Wp m_M_nearest 34 [some (xR m), some (xI kind), some (xI k), some (xI what), some (xI (oN w kind k : Int)), some (xI (i : Int)), some (xI v2), some (xI ((i + 1 : Nat) : Int)), some (xI v2)] [] h2 d mc ms R else (if v2 < l then Wp m_M_nearest 34 [some (xR m), some (xI kind), some (xI k), some (xI what), some (xI (oN w kind k : Int)), some (xI (i : Int)), some (xI v2), some (xI ((i + 1 : Nat) : Int)), some (xI v2)] [] h2 d mc ms R else Wp m_M_nearest 34 [some (xR m), some (xI kind), some (xI k), some (xI what), some (xI (oN w kind k : Int)), some (xI b), some (xI l), some (xI ((i + 1 : Nat) : Int)), some (xI v2)] [] h2 d mc ms R))) := by
            intro ns
            rw [if_neg ns] at H
            refine ⟨⟨by omega, a.1.tag⟩, sp_changesOf a n2 n1 (by omega) (hV.2.2.2.2.1 i (by omega)) (by omega) (fun g2 f2 v e => ?_)⟩
            cases e
            have fs : FrP (SM m) g g2 := f2.wk (fun r p z => by
              rcases z with (⟨z1, z2⟩ | z) | z
              · exact Or.inl ⟨z1, Or.inl z2⟩
              · exact Or.inr (Or.inl (by omega))
              · exact Or.inr (Or.inl (by omega)))
            by_cases c1 : b = -1
            · rw [if_pos c1]; rw [if_pos (Or.inl c1)] at H; exact ih (i + 1) _ _ g2 _ (by omega) (f.tr fs) H
            · rw [if_neg c1]
              by_cases c2 : (chW w (oN w kind k) (180 + 10 * i) : Int) < l
              · rw [if_pos c2]; rw [if_pos (Or.inr c2)] at H; exact ih (i + 1) _ _ g2 _ (by omega) (f.tr fs) H
              · rw [if_neg c2]; rw [if_neg (by omega)] at H; exact ih (i + 1) _ _ g2 _ (by omega) (f.tr fs) H
          apply f_M_nearest_34
          rw [a.1.row_n, a.1.row_t, tn_7, a.2 7 (by omega), if_pos (by omega), am_10 (by omega), aa_180 (by omega), ab_1 (by omega)]
          refine ⟨a.1.tag, ⟨rfl, by omega, by decide⟩, ?_⟩
          by_cases c1 : kind = 0
          · rw [if_pos c1]
            by_cases c2 : (i : Int) = k
            · rw [if_pos c2]
              rw [if_pos ⟨c1, c2⟩] at H
              exact ih (i + 1) b l g _ (by omega) f H
            · rw [if_neg c2]; exact tk (fun z => c2 z.2)
          · rw [if_neg c1]; exact tk (fun z => c1 z.1)
      exact L (w 7).toNat 0 (-1) (-1) h _ (by omega) FrP.rf H
    · rw [if_neg c, if_pos rfl]; exact H2 (fun z => c z.2)
  · cases e
    rw [if_pos rfl]; exact H2 (fun z => hn z.1)
theorem Fr.TR {h h' : Hp} {x : Nat} {w : Nat → Int} (f : Fr (fun q => q = x + 29) h h') (a : TR h (x + 43) w) : TR h' (x + 43) w := a.eq ((f.P (S' := fun q _ => q = x + 29) (fun r p z => z)).eqC (fun q p h1 h2 z => by omega))
theorem Fr.sAt {h h' : Hp} {x : Nat} (f : Fr (fun q => q = x + 29) h h') (a : sAt h x) : sAt h' x := a.fr (f.P (S' := fun q _ => q = x + 29) (fun r p z => z)) (fun p _ z => by omega)
theorem sp_cnearest {h : Hp} {x : Nat} {w : Nat → Int} (s : sAt h x) (a : TR h (x + 43) w) (hV : V w) (he : earAt h (x + 28) (x + 29)) {kind k what : Int} {d mc ms : Nat} {R : PR} (hd : 4 ≤ d) {o4 o5 o6 o7 o8 o9 o10 : Option AV} (H1 : hasN w kind k → (0 ≤ what ∧ what ≤ 1) → ∀ h', Fr (fun q => q = x + 29) h h' → R (some (xI (nearA w kind k what))) h') (H2 : ¬ (hasN w kind k ∧ 0 ≤ what ∧ what ≤ 1) → R (some (xI (-1))) h) : Wp m_S_nearest 0 [some (xR x), some (xI kind), some (xI k), some (xI what), o4, o5, o6, o7, o8, o9, o10] [] h d mc ms R := by
  have v0 := hV.1.1
  have v1 := hV.1.2.1
  have v2 := hV.1.2.2.1
  have v3 := hV.1.2.2.2.1
  have v4 := hV.1.2.2.2.2.1
  have v5 := hV.1.2.2.2.2.2.1
  have v6 := hV.1.2.2.2.2.2.2.1
  have v7 := hV.1.2.2.2.2.2.2.2.1
  have v8 := hV.1.2.2.2.2.2.2.2.2.1
  have v9 := hV.1.2.2.2.2.2.2.2.2.2
  have hT := a.1.1
  apply f_S_nearest_0
  rw [s.now_n]
  refine ⟨s.tag, ⟨by omega, hT.tag⟩, sp_ofKind hT (fun v e => ?_)⟩
  cases e
  rcases kR_spec a hV kind with ⟨z1, z2⟩ | ⟨z1, len, z2, z3, z4, z5⟩
  · rw [if_pos z1]; exact H2 (fun z => z2 k z.1)
  · rw [if_neg z1]
    refine ⟨⟨by omega, z2.tag⟩, sp_holds z2.tag z3.1 (fun v e => ?_)⟩
    cases e
    by_cases c : 0 ≤ k ∧ k < kN w kind
    · rw [if_pos c, if_neg (by decide)]
      have hn : hasN w kind k := c
      obtain ⟨n1, n2, n3⟩ := hn.ok hV
      by_cases c0 : 0 ≤ what ∧ what ≤ 1
      · rw [if_neg (by omega), if_neg (by omega), z2.word_n, z2.word_t, z3.2 k.toNat (by omega)]
        refine ⟨z2.tag, ⟨rfl, by omega, by show k < (len : Int); omega⟩, ?_⟩
        have H := H1 hn c0
        unfold nearA nearV at H
        have L : ∀ (j i : Nat) (b l fw : Int) (g : Hp) (o4 o10 : Option AV), ((i + j : Nat) : Int) = w 7 → Fr (fun q => q = x + 29) h g → ((b = -1 ∧ l = -1 ∧ fw = 11) ∨ (b ≠ -1 ∧ fw = l)) → (∀ h', Fr (fun q => q = x + 29) h h' → R (some (xI (pk2 what (nrW (fun s => (chW w (oN w kind k) (180 + 10 * s) : Int)) (fun s => decide (kind = 0 ∧ (s : Int) = k)) j i b l)))) h') → Wp m_S_nearest 54 [some (xR x), some (xI kind), some (xI k), some (xI what), o4, some (xL (wordW w (oN w kind k) : Int)), none, some (xI fw), some (xI b), some (xI (i : Int)), o10] [] g d mc ms R := by
          intro j
          induction j with
          | zero =>
            intro i b l fw g o4 o10 hi f hb H
            have a := f.TR a
            have s := f.sAt s
            have hT := a.1.1
            have hR := a.1.2.1
            have b1 := a.1.2.2.1
            have b2 := a.1.2.2.2.1
            have b3 := a.1.2.2.2.2.1
            have hw := a.1.2.2.2.2.2.2.1
            have h7 := a.1.2.2.2.2.2.2.2
            have H := H g f
            simp only [nrW, pk2] at H
            apply f_S_nearest_54
            rw [s.now_n, hT.streets_n, b1.1, if_neg (by omega)]
            refine ⟨s.tag, hT.tag, hT.streets_a.tag, ?_⟩
            by_cases c1 : b = -1
            · rw [if_pos c1]
              by_cases c2 : what = 0
              · rw [if_pos c2] at H; exact H
              · rw [if_neg c2, show l = b by omega] at H; exact H
            · rw [if_neg c1]
              by_cases c2 : what = 0
              · rw [if_pos c2]; rw [if_pos c2] at H; exact H
              · rw [if_neg c2]; rw [if_neg c2, show l = fw by omega] at H; exact H
          | succ j ih =>
            intro i b l fw g o4 o10 hi f hb H
            have a := f.TR a
            have s := f.sAt s
            have he := he.fr f (by omega)
            have hT := a.1.1
            have hR := a.1.2.1
            have b1 := a.1.2.2.1
            have b2 := a.1.2.2.2.1
            have b3 := a.1.2.2.2.2.1
            have hw := a.1.2.2.2.2.2.2.1
            have h7 := a.1.2.2.2.2.2.2.2
            simp only [nrW, decide_eq_true_eq] at H
            have oki := hV.2.2.2.2.1 i (by omega)
            have ch := chW_le (v := w) n1 oki
            have tk : ¬ (kind = 0 ∧ (i : Int) = k) → Wp m_S_nearest 82 [some (xR x), some (xI kind), some (xI k), some (xI what), o4, some (xL (wordW w (oN w kind k) : Int)), none, some (xI fw), some (xI b), some (xI (i : Int)), o10] [] g d mc ms R := by
              intro ns
              rw [if_neg ns] at H
              apply f_S_nearest_82
              rw [s.now_n, hT.streets_n, hT.streets_a.word_n, hT.streets_a.word_t, s.ear_n, Int.toNat_natCast, b1.2 i (by omega), ab_1 (by omega)]
              refine ⟨s.tag, s.tag, hT.tag, hT.streets_a.tag, ⟨rfl, by omega, by show (i : Int) < 10; omega⟩, ⟨by omega, he.1⟩, ?_⟩
              refine sp_distance (wordW_lt n1) (wordW_lt oki) (wordW_isL n1).len (wordW_isL oki).len (by omega) he (fun h5 f5 v e => ?_)
              rw [lv_wordW n1 oki] at e
              cases e
              by_cases c1 : (chW w (oN w kind k) (180 + 10 * i) : Int) < fw
              · rw [if_pos c1]
                rw [if_pos (by omega)] at H
                exact ih (i + 1) (i : Int) _ _ h5 _ _ (by omega) (f.tr f5) (Or.inr ⟨by omega, rfl⟩) H
              · rw [if_neg c1]
                rw [if_neg (by omega)] at H
                exact ih (i + 1) b l fw h5 _ _ (by omega) (f.tr f5) hb H
            apply f_S_nearest_54
            rw [s.now_n, hT.streets_n, b1.1, if_pos (by omega)]
            refine ⟨s.tag, hT.tag, hT.streets_a.tag, ?_⟩
            by_cases c1 : kind = 0
            · rw [if_pos c1]
              by_cases c2 : (i : Int) = k
              · rw [if_pos c2, ab_1 (by omega)]
                rw [if_pos ⟨c1, c2⟩] at H
                exact ih (i + 1) b l fw g _ _ (by omega) f hb H
              · rw [if_neg c2]; exact tk (fun z => c2 z.2)
            · rw [if_neg c1]; exact tk (fun z => c1 z.1)
        exact L (w 7).toNat 0 (-1) (-1) 11 h _ _ (by omega) Fr.rf (Or.inl ⟨rfl, rfl, rfl⟩) H
      · by_cases c5 : what < 0
        · rw [if_pos c5]; exact H2 (fun z => c0 z.2)
        · rw [if_neg c5, if_pos (by omega)]; exact H2 (fun z => c0 z.2)
    · rw [if_neg c, if_pos rfl]; exact H2 (fun z => c z.1)
