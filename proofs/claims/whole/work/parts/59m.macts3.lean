/-! ===== the reference's acts: past, images, tape, numbers, carry ===== -/
theorem sp_mundo {h : Hp} {m : Nat} {w : Nat → Int} {b : Nat → Nat} {n : Nat} {K : List Nat} {cnt : Nat} {U : Nat → Nat → Int} {ik : Nat → Bool} {iw : Nat → Nat → Int} (c : MS h m w b n K cnt U ik iw) (h20 : cnt ≤ 20) {d mc ms : Nat} {R : PR} (hd : 2 ≤ d) (H1 : 0 < cnt → ∀ h', MS h' m (U 0) b n K (cnt - 1) (unU U) ik iw → FrM h h' m → KM h h' m 5 → R (some (xI 1)) h') (H2 : cnt = 0 → ∀ h', MS h' m w b n K cnt U ik iw → FrM h h' m → KM h h' m 3 → R (some (xI 0)) h') : Wp m_M_undo 0 [some (xR m)] [] h d mc ms R := by
  obtain ⟨c1, c2, c3, c4, c5, c6, c7, c8⟩ := id c
  apply f_M_undo_0
  rw [c5]
  refine ⟨c1.1.tag, ?_⟩
  by_cases c0 : cnt = 0
  · rw [if_pos (by omega)]
    refine ⟨⟨by omega, c1.1.tag⟩, sp_mref0 c (i := 3) (by omega) (fun g2 c2 f2 k2 v e => ?_)⟩
    cases e
    exact ⟨by simp, H2 c0 g2 c2 f2 k2⟩
  · rw [if_neg (by omega), show ai_sub (cnt : Int) 1 = ((cnt - 1 : Nat) : Int) from by rw [ai_sub_eq (by omega) (by omega)]; omega]
    refine ⟨c1.1.tag, c1.1.tag, fun g e => ?_⟩
    have f : FrP (Spa m) h g := by subst e; exact FrP.up (Or.inl ⟨rfl, rfl⟩)
    have ag := c1.1.fo f (Spa_off m)
    have x2 : hpC g m 2 = ((cnt - 1 : Nat) : Int) := by subst e; rw [hpC_same]
    have o2 : ∀ q p, ¬ (q = m ∧ p = 2) → hpC g q p = hpC h q p := fun q p hq => by subst e; exact hpC_ne (by omega)
    clear e
    rw [x2, am_1010 (by omega), aa_4040 (by omega)]
    have cp := sp_copies (d := d - 1) (mc := 0) (ms := 0) (o3 := none) (R := fun rv h1 => rv = none → (((1 : Int) = 0 ∨ (1 : Int) = 1) ∧ R (some (xI (1 : Int))) h1)) ag (o := 0) (o' := 4040 + 1010 * (cnt - 1)) (by omega) (by omega) (by omega)
    refine ⟨ag.tag, ⟨by omega, ag.tag⟩, cp (fun g2 f2 r2 _ => ⟨by simp, ?_⟩)⟩
    have no : ∀ q p, ¬ (q = m ∧ p = 2) → ¬ (q = m + 1 ∧ p < 1010) → hpC g2 q p = hpC h q p := fun q p h1 h2 => by rw [f2.2.2 q p (by omega), o2 q p h1]
    obtain ⟨r1, r3, r4⟩ := c.pa (w' := U 0) (cnt' := cnt - 1) (U' := unU U) (ik' := ik) (iw' := iw) (f.tr (f2.wk (fun q p z => by unfold Spa; omega))) (fun p hp => by
      have := r2 p hp
      rw [Nat.zero_add] at this
      rw [this, o2 _ _ (by omega)]
      have := c6 0 (by omega) p hp
      rw [Nat.sub_zero] at this
      exact this) (by rw [f2.2.2 _ _ (by omega)]; exact x2) (fun i hi p hp => by
      rw [no _ _ (by omega) (by omega)]
      have := c6 (i + 1) (by omega) p hp
      unfold unU
      rw [show cnt - 1 - 1 - i = cnt - 1 - (i + 1) by omega]; exact this) (fun k hk => by rw [no _ _ (by omega) (by omega)]; exact c7 k hk) (fun k hk z p hp => by rw [no _ _ (by omega) (by omega)]; exact c8 k hk z p hp)
    exact H1 (by omega) g2 r1 r3 r4
theorem sp_mback {h : Hp} {m : Nat} {w : Nat → Int} {b : Nat → Nat} {n : Nat} {K : List Nat} {cnt : Nat} {U : Nat → Nat → Int} {ik : Nat → Bool} {iw : Nat → Nat → Int} (c : MS h m w b n K cnt U ik iw) {i : Int} {d mc ms : Nat} {R : PR} (hd : 2 ≤ d) (H1 : isK ik i → ∀ h', MS h' m (iw i.toNat) b n K 0 U ik iw → FrM h h' m → KM h h' m 5 → R (some (xI 1)) h') (H2 : ¬ isK ik i → ∀ h', MS h' m w b n K cnt U ik iw → FrM h h' m → KM h h' m 4 → R (some (xI 0)) h') : Wp m_M_back 0 [some (xR m), some (xI i)] [] h d mc ms R := by
  obtain ⟨c1, c2, c3, c4, c5, c6, c7, c8⟩ := id c
  have ref : ¬ isK ik i → (1 ≤ d ∧ (hpT h m).1 = 12) ∧ Wp m_M_isRefused 0 [some (xR m), some (xI (4 : Int))] [] h (d - 1) 0 0 (fun rv h2 => ∀ v2 : Int, rv = some (xI v2) → ((v2 = 0 ∨ v2 = 1) ∧ R (some (xI v2)) h2)) := fun z => by
    refine ⟨⟨by omega, c1.1.tag⟩, sp_mref0 c (i := 4) (by omega) (fun g2 c2 f2 k2 v e => ?_)⟩
    cases e
    exact ⟨by simp, H2 z g2 c2 f2 k2⟩
  apply f_M_back_0
  refine ⟨by omega, sp_isIn (fun v e => ?_)⟩
  cases e
  by_cases d1 : 0 ≤ i ∧ i ≤ 1
  · rw [if_pos d1, if_neg (by decide)]
    obtain ⟨k, rfl⟩ : ∃ q : Nat, i = (q : Int) := ⟨i.toNat, by omega⟩
    have hk : k < 2 := by omega
    unfold isK at H1 ref
    rw [Int.toNat_natCast] at H1 ref
    rw [c1.1.isKept_n, c1.1.isKept_t, Int.toNat_natCast, c7 k hk]
    refine ⟨c1.1.tag, ⟨rfl, by omega, by show (k : Int) < 2; omega⟩, ?_⟩
    cases e : ik k with
    | false =>
      rw [if_pos (by simp)]
      exact ref (fun z => by rw [e] at z; exact Bool.noConfusion z.2.2)
    | true =>
      rw [if_neg (by simp), am_1010 (by omega), aa_2020 (by omega)]
      have cp := sp_copies (d := d - 1) (mc := 0) (ms := 0) (o3 := none) (R := fun rv h3 => rv = none → ((hpT h3 m).1 = 12 ∧ (∀ g1 : Hp, g1 = hpU h3 m 2 (0 : Int) → (((1 : Int) = 0 ∨ (1 : Int) = 1) ∧ R (some (xI (1 : Int))) g1)))) c1.1 (o := 0) (o' := 2020 + 1010 * k) (by omega) (by omega) (by omega)
      refine ⟨⟨by omega, c1.1.tag⟩, cp (fun g2 f2 r2 _ => ?_)⟩
      have f2' : FrP (Spa m) h g2 := f2.wk (fun q p z => by unfold Spa; omega)
      have a2 := c1.1.fo f2' (Spa_off m)
      refine ⟨a2.tag, fun g3 e3 => ⟨by simp, ?_⟩⟩
      have f3 : FrP (Spa m) g2 g3 := by subst e3; exact FrP.up (Or.inl ⟨rfl, rfl⟩)
      have x3 : hpC g3 m 2 = 0 := by subst e3; rw [hpC_same]
      have o3 : ∀ q p, ¬ (q = m ∧ p = 2) → hpC g3 q p = hpC g2 q p := fun q p hq => by subst e3; exact hpC_ne (by omega)
      clear e3
      have no : ∀ q p, ¬ (q = m ∧ p = 2) → ¬ (q = m + 1 ∧ p < 1010) → hpC g3 q p = hpC h q p := fun q p h1 h2 => by rw [o3 q p h1, f2.2.2 q p (by omega)]
      obtain ⟨r1, r3, r4⟩ := c.pa (w' := iw k) (cnt' := 0) (U' := U) (ik' := ik) (iw' := iw) (f2'.tr f3) (fun p hp => by
        have := r2 p hp
        rw [Nat.zero_add] at this
        rw [o3 _ _ (by omega), this]; exact c8 k hk e p hp) x3 (fun i hi => by omega) (fun j hj => by rw [no _ _ (by omega) (by omega)]; exact c7 j hj) (fun j hj z p hp => by rw [no _ _ (by omega) (by omega)]; exact c8 j hj z p hp)
      exact H1 ⟨by omega, by omega, e⟩ g3 r1 r3 r4
  · rw [if_neg d1, if_pos rfl]; exact ref (fun z => d1 ⟨z.1, z.2.1⟩)
theorem sp_mkeep {h : Hp} {m : Nat} {w : Nat → Int} {b : Nat → Nat} {n : Nat} {K : List Nat} {cnt : Nat} {U : Nat → Nat → Int} {ik : Nat → Bool} {iw : Nat → Nat → Int} (c : MS h m w b n K cnt U ik iw) {i : Int} {d mc ms : Nat} {R : PR} (hd : 2 ≤ d) (H1 : (0 ≤ i ∧ i ≤ 1) → ∀ h', MS h' m w b n K cnt U (kpB ik i.toNat) (kpI iw i.toNat w) → FrM h h' m → KM h h' m 5 → R (some (xI 1)) h') (H2 : ¬ (0 ≤ i ∧ i ≤ 1) → ∀ h', MS h' m w b n K cnt U ik iw → FrM h h' m → KM h h' m 4 → R (some (xI 0)) h') : Wp m_M_keep 0 [some (xR m), some (xI i)] [] h d mc ms R := by
  obtain ⟨c1, c2, c3, c4, c5, c6, c7, c8⟩ := id c
  apply f_M_keep_0
  refine ⟨by omega, sp_isIn (fun v e => ?_)⟩
  cases e
  by_cases d1 : 0 ≤ i ∧ i ≤ 1
  · rw [if_pos d1, if_neg (by decide)]
    have H1 := H1 d1
    obtain ⟨k, rfl⟩ : ∃ q : Nat, i = (q : Int) := ⟨i.toNat, by omega⟩
    have hk : k < 2 := by omega
    rw [Int.toNat_natCast] at H1
    rw [am_1010 (by omega), aa_2020 (by omega)]
    have cp := sp_copies (d := d - 1) (mc := 0) (ms := 0) (o3 := none) (R := fun rv h2 => rv = none → ((hpT h2 m).1 = 12 ∧ (((hpT h2 (Int.toNat (hpC h2 m 1))).1 = 23 ∧ 0 ≤ (k : Int) ∧ (k : Int) < ((hpT h2 (Int.toNat (hpC h2 m 1))).2 : Int)) ∧ (∀ g1 : Hp, g1 = hpU h2 (Int.toNat (hpC h2 m 1)) (Int.toNat (k : Int)) (ai_nar 23 (1 : Int)) → (((1 : Int) = 0 ∨ (1 : Int) = 1) ∧ R (some (xI (1 : Int))) g1))))) c1.1 (o := 2020 + 1010 * k) (o' := 0) (by omega) (by omega) (by omega)
    refine ⟨⟨by omega, c1.1.tag⟩, cp (fun g2 f2 r2 _ => ?_)⟩
    have f2' : FrP (Spa m) h g2 := f2.wk (fun q p z => by unfold Spa; omega)
    have a2 := c1.1.fo f2' (Spa_off m)
    rw [a2.isKept_n, a2.isKept_t, Int.toNat_natCast, show ai_nar 23 (1 : Int) = 1 from by decide]
    refine ⟨a2.tag, ⟨rfl, by omega, by show (k : Int) < 2; omega⟩, fun g3 e3 => ⟨by simp, ?_⟩⟩
    have f3 : FrP (Spa m) g2 g3 := by subst e3; exact FrP.up (Or.inr (Or.inr rfl))
    have x3 : hpC g3 (m + 2) k = 1 := by subst e3; rw [hpC_same]
    have o3 : ∀ q p, ¬ (q = m + 2 ∧ p = k) → hpC g3 q p = hpC g2 q p := fun q p hq => by subst e3; exact hpC_ne (by omega)
    clear e3
    have no : ∀ q p, ¬ (q = m + 2 ∧ p = k) → ¬ (q = m + 1 ∧ 2020 + 1010 * k ≤ p ∧ p < 2020 + 1010 * k + 1010) → hpC g3 q p = hpC h q p := fun q p h1 h2 => by rw [o3 q p h1, f2.2.2 q p (by omega)]
    obtain ⟨r1, r3, r4⟩ := c.pa (w' := w) (cnt' := cnt) (U' := U) (ik' := kpB ik k) (iw' := kpI iw k w) (f2'.tr f3) (fun p hp => by rw [no _ _ (by omega) (by omega)]; exact c1.2 p hp) (by rw [no _ _ (by omega) (by omega)]; exact c5) (fun i hi p hp => by rw [no _ _ (by omega) (by omega)]; exact c6 i hi p hp) (fun j hj => by
      unfold kpB
      by_cases e : j = k
      · subst e; rw [if_pos rfl, x3]; rfl
      · rw [if_neg e, no _ _ (by omega) (by omega)]; exact c7 j hj) (fun j hj z p hp => by
      unfold kpB at z
      unfold kpI
      by_cases e : j = k
      · subst e; rw [if_pos rfl, o3 _ _ (by omega), r2 p hp, Nat.zero_add]; exact c1.2 p hp
      · rw [if_neg e] at z ⊢
        rw [no _ _ (by omega) (by omega)]; exact c8 j hj z p hp)
    exact H1 g3 r1 r3 r4
  · rw [if_neg d1, if_pos rfl]
    refine ⟨⟨by omega, c1.1.tag⟩, sp_mref0 c (i := 4) (by omega) (fun g2 c2 f2 k2 v e => ?_)⟩
    cases e
    exact ⟨by simp, H2 d1 g2 c2 f2 k2⟩
/-- the tape changes -/
theorem MS.tp {h : Hp} {m : Nat} {w : Nat → Int} {b : Nat → Nat} {n : Nat} {K : List Nat} {cnt : Nat} {U : Nat → Nat → Int} {ik : Nat → Bool} {iw : Nat → Nat → Int} (c : MS h m w b n K cnt U ik iw) {h' : Hp} {b' : Nat → Nat} {n' : Nat} (f : FrP (Stm m) h h') (t : TPm h' m b' n') : MS h' m w b' n' K cnt U ik iw ∧ FrM h h' m ∧ KM h h' m 5 := by
  have f' : FrP (mcr m) h h' := f.wk (fun q p z => by unfold Stm at z; unfold mcr; omega)
  have no : ∀ q p, ¬ Stm m q p → hpC h' q p = hpC h q p := f.2.2
  exact ⟨c.up f' t ⟨by rw [no _ _ (by unfold Stm; omega)]; exact c.2.2.2.1.1, fun i hi => by rw [no _ _ (by unfold Stm; omega)]; exact c.2.2.2.1.2 i hi⟩, mcr_M f', KM.of (fun p hp => no _ _ (by unfold Stm; omega)) (fun p => no _ _ (by unfold Stm; omega))⟩
theorem sp_mfeed {h : Hp} {m : Nat} {w : Nat → Int} {b : Nat → Nat} {n : Nat} {K : List Nat} {cnt : Nat} {U : Nat → Nat → Int} {ik : Nat → Bool} {iw : Nat → Nat → Int} (c : MS h m w b n K cnt U ik iw) {v1 v2 v3 v4 v5 : Int} {d mc ms : Nat} {R : PR} (hd : 2 ≤ d) (H1 : n + 20 ≤ 2000 → ∀ h', MS h' m w (feB b n v1 v2 v3 v4 v5) (n + 20) K cnt U ik iw → FrM h h' m → KM h h' m 5 → R (some (xI ((n + 20 : Nat) : Int))) h') (H2 : ¬ n + 20 ≤ 2000 → ∀ h', MS h' m w b n K cnt U ik iw → FrM h h' m → KM h h' m 0 → R (some (xI (-1))) h') : Wp m_M_feed 0 [some (xR m), some (xI v1), some (xI v2), some (xI v3), some (xI v4), some (xI v5)] [] h d mc ms R := by
  have t := c.2.1
  have hn := t.2.1
  apply f_M_feed_0
  rw [t.1, ab_20 (by omega)]
  refine ⟨c.1.1.tag, ?_⟩
  by_cases c0 : n + 20 ≤ 2000
  · rw [if_neg (by omega)]
    have H1 := H1 c0
    refine ⟨⟨by omega, c.1.1.tag⟩, sp_lays c.1.1 t (by omega) (fun g1 f1 t1 _ => ?_)⟩
    obtain ⟨c1, q1, p1⟩ := c.tp f1 t1
    refine ⟨⟨by omega, c1.1.1.tag⟩, sp_lays c1.1.1 t1 (by omega) (fun g2 f2 t2 _ => ?_)⟩
    obtain ⟨c2, q2, p2⟩ := c1.tp f2 t2
    refine ⟨⟨by omega, c2.1.1.tag⟩, sp_lays c2.1.1 t2 (by omega) (fun g3 f3 t3 _ => ?_)⟩
    obtain ⟨c3, q3, p3⟩ := c2.tp f3 t3
    refine ⟨⟨by omega, c3.1.1.tag⟩, sp_lays c3.1.1 t3 (by omega) (fun g4 f4 t4 _ => ?_)⟩
    obtain ⟨c4, q4, p4⟩ := c3.tp f4 t4
    refine ⟨⟨by omega, c4.1.1.tag⟩, sp_lays c4.1.1 t4 (by omega) (fun g5 f5 t5 _ => ?_)⟩
    obtain ⟨c5, q5, p5⟩ := c4.tp f5 t5
    rw [t5.1]
    exact ⟨c5.1.1.tag, H1 g5 c5 ((((q1.tr q2).tr q3).tr q4).tr q5) ((((p1.tr p2).tr p3).tr p4).tr p5)⟩
  · rw [if_pos (by omega)]
    refine ⟨⟨by omega, c.1.1.tag⟩, sp_mref c (i := 0) (by omega) (fun g2 c2 f2 k2 v e => ?_)⟩
    cases e
    exact H2 c0 g2 c2 f2 k2
theorem sp_mend {h : Hp} {m : Nat} {w : Nat → Int} {b : Nat → Nat} {n : Nat} {K : List Nat} {cnt : Nat} {U : Nat → Nat → Int} {ik : Nat → Bool} {iw : Nat → Nat → Int} (c : MS h m w b n K cnt U ik iw) {i : Int} {d mc ms : Nat} {R : PR} (hd : 2 ≤ d) (H1 : (0 ≤ i ∧ i ≤ (n : Int)) → ∀ h', MS h' m w b i.toNat K cnt U ik iw → FrM h h' m → KM h h' m 5 → R (some (xI 1)) h') (H2 : ¬ (0 ≤ i ∧ i ≤ (n : Int)) → ∀ h', MS h' m w b n K cnt U ik iw → FrM h h' m → KM h h' m 0 → R (some (xI 0)) h') : Wp m_M_end 0 [some (xR m), some (xI i)] [] h d mc ms R := by
  have t := c.2.1
  have ref : ¬ (0 ≤ i ∧ i ≤ (n : Int)) → (1 ≤ d ∧ (hpT h m).1 = 12) ∧ Wp m_M_isRefused 0 [some (xR m), some (xI (0 : Int))] [] h (d - 1) 0 0 (fun rv h2 => ∀ v2 : Int, rv = some (xI v2) → ((v2 = 0 ∨ v2 = 1) ∧ R (some (xI v2)) h2)) := fun z => by
    refine ⟨⟨by omega, c.1.1.tag⟩, sp_mref0 c (i := 0) (by omega) (fun g2 c2 f2 k2 v e => ?_)⟩
    cases e
    exact ⟨by simp, H2 z g2 c2 f2 k2⟩
  apply f_M_end_0
  by_cases c1 : i < 0
  · rw [if_pos c1]; exact ref (by omega)
  rw [if_neg c1, t.1]
  refine ⟨c.1.1.tag, ?_⟩
  by_cases c2 : (n : Int) < i
  · rw [if_pos c2]; exact ref (by omega)
  rw [if_neg c2]
  refine ⟨c.1.1.tag, fun g e => ⟨by simp, ?_⟩⟩
  have f : FrP (Stm m) h g := by subst e; exact FrP.up (Or.inl ⟨rfl, rfl⟩)
  have t' : TPm g m b i.toNat := ⟨by subst e; rw [hpC_same]; omega, by have := t.2.1; omega, fun j hj => by subst e; rw [hpC_o1 (by omega)]; exact t.2.2 j (by omega)⟩
  obtain ⟨r1, r2, r3⟩ := c.tp f t'
  exact H1 (by omega) g r1 r2 r3
theorem sp_mfault {h : Hp} {m : Nat} (a : modelAt h m) {i : Int} {d mc ms : Nat} {R : PR} (H : R (some (xI (if i = 0 then hpC h m 6 else if i = 1 then hpC h m 7 else -1))) h) : Wp m_M_fault 0 [some (xR m), some (xI i)] [] h d mc ms R := by
  apply f_M_fault_0
  by_cases c0 : i = 0
  · rw [if_pos c0] at H ⊢; exact ⟨a.tag, H⟩
  · rw [if_neg c0] at H ⊢
    by_cases c1 : i = 1
    · rw [if_pos c1] at H ⊢; exact ⟨a.tag, H⟩
    · rw [if_neg c1] at H ⊢; exact H
theorem sp_mstatus {h : Hp} {m : Nat} (a : modelAt h m) {i : Int} {d mc ms : Nat} {R : PR} (hd : 1 ≤ d) (H : R (some (xI (if 0 ≤ i ∧ i < 5 then hpC h (m + 3) i.toNat else -1))) h) : Wp m_M_status 0 [some (xR m), some (xI i)] [] h d mc ms R := by
  apply f_M_status_0
  refine ⟨by omega, sp_isIn (fun v e => ?_)⟩
  cases e
  by_cases c : 0 ≤ i ∧ i ≤ 4
  · rw [if_pos (by omega)] at H
    rw [if_pos c, if_neg (by decide), a.refused_n, a.refused_t]
    exact ⟨a.tag, ⟨rfl, by omega, by show i < 5; omega⟩, H⟩
  · rw [if_neg (by omega)] at H
    rw [if_neg c, if_pos rfl]; exact H
