/-! ===== the class reads statements: names ===== -/
theorem RW.ex2 {h : Hp} {r : Nat} {w v : Nat → Int} (hV : V w) (e : ∀ p, p < 6 ∨ (10 ≤ p ∧ p < 60) → w p = v p) (a : RW h r w) : RW h r v := by
  have h5 := hV.1.2.2.2.2.2.1
  obtain ⟨r0, r1, r2, r3, r4, r5, r6, r7⟩ := a
  have e5 := e 5 (by omega)
  refine ⟨by rw [← e 0 (by omega)]; exact r0, by rw [← e 1 (by omega)]; exact r1, by rw [← e 2 (by omega)]; exact r2, by rw [← e 3 (by omega)]; exact r3, by rw [← e 4 (by omega)]; exact r4, by rw [← e5]; exact r5, fun k hk => ?_, fun l h1 h2 => ?_⟩
  · rw [← e _ (by omega), ← e _ (by omega), ← e _ (by omega)]
    exact r6 k (by omega)
  · rw [← e 4 (by omega), ← e _ (by omega)]; exact r7 l h1 h2
theorem TR0.st2 {h h' : Hp} {t : Nat} {D D' : Nat → Int} (hV : V D) (a : TR0 h t D) (F : FrP (SD t) h h') (E1 : eqC h h' (t + 1) (t + 6)) (E2 : eqC h h' (t + 10) (t + 22)) (ey : hpC h' t 7 = hpC h t 7) (L : ∀ p, p ≠ 7 → ¬ (180 ≤ p ∧ p < 280) → D p = D' p) (nw : NW h' (t + 7) D' (D' 7) 180) : TR0 h' t D' := by
  obtain ⟨⟨_, _, _, _, _, _, v6, v7, v8, _⟩, _⟩ := id hV
  obtain ⟨a1, a2, a3, a4, a5, a6, a7, a8⟩ := a
  have l6 := L 6 (by omega) (by omega)
  have l8 := L 8 (by omega) (by omega)
  refine ⟨a1.fd F, (a2.eq E1).ex2 hV (fun p h1 => L p (by omega) (by omega)), nw, ?_, ?_, fun k hk => ?_, (a7.eq (E2.sub (by omega) (by omega))).ext hV (fun p h1 h2 => L p (by omega) (by omega)), by rw [ey, a8]; exact L 9 (by omega) (by omega)⟩
  · rw [← l6]; exact NW.ext (fun k hk i hi => L _ (by omega) (by omega)) (a4.eq (E2.sub (by omega) (by omega)))
  · rw [← l8]; exact NW.ext (fun k hk i hi => L _ (by omega) (by omega)) (a5.eq (E2.sub (by omega) (by omega)))
  · rw [← l8] at hk
    rw [E2.C _ _ (by omega) (by omega), a6 k hk]; exact L _ (by omega) (by omega)
theorem TR0.po2 {h h' : Hp} {t : Nat} {D D' : Nat → Int} (hV : V D) (a : TR0 h t D) (F : FrP (SD t) h h') (E1 : eqC h h' (t + 1) (t + 9)) (E2 : eqC h h' (t + 13) (t + 22)) (ey : hpC h' t 7 = hpC h t 7) (L : ∀ p, p ≠ 6 → ¬ (60 ≤ p ∧ p < 180) → D p = D' p) (nw : NW h' (t + 10) D' (D' 6) 60) : TR0 h' t D' := by
  obtain ⟨⟨_, _, _, _, _, _, v6, v7, v8, _⟩, _⟩ := id hV
  obtain ⟨a1, a2, a3, a4, a5, a6, a7, a8⟩ := a
  have l7 := L 7 (by omega) (by omega)
  have l8 := L 8 (by omega) (by omega)
  refine ⟨a1.fd F, (a2.eq (E1.sub (by omega) (by omega))).ex2 hV (fun p h1 => L p (by omega) (by omega)), ?_, nw, ?_, fun k hk => ?_, (a7.eq (E2.sub (by omega) (by omega))).ext hV (fun p h1 h2 => L p (by omega) (by omega)), by rw [ey, a8]; exact L 9 (by omega) (by omega)⟩
  · rw [← l7]; exact NW.ext (fun k hk i hi => L _ (by omega) (by omega)) (a3.eq (E1.sub (by omega) (by omega)))
  · rw [← l8]; exact NW.ext (fun k hk i hi => L _ (by omega) (by omega)) (a5.eq (E2.sub (by omega) (by omega)))
  · rw [← l8] at hk
    rw [E2.C _ _ (by omega) (by omega), a6 k hk]; exact L _ (by omega) (by omega)
theorem TR0.al2 {h h' : Hp} {t : Nat} {D D' : Nat → Int} (hV : V D) (a : TR0 h t D) (F : FrP (SD t) h h') (E1 : eqC h h' (t + 1) (t + 12)) (E2 : eqC h h' (t + 18) (t + 22)) (ey : hpC h' t 7 = hpC h t 7) (L : ∀ p, p ≠ 8 → p < 650 → D p = D' p) (nw : NW h' (t + 13) D' (D' 8) 650) (al : ∀ k : Nat, (k : Int) < D' 8 → hpC h' (t + 16) k = D' (950 + k)) : TR0 h' t D' := by
  obtain ⟨⟨_, _, _, _, _, _, v6, v7, v8, _⟩, _⟩ := id hV
  obtain ⟨a1, a2, a3, a4, a5, a6, a7, a8⟩ := a
  have l7 := L 7 (by omega) (by omega)
  have l6 := L 6 (by omega) (by omega)
  refine ⟨a1.fd F, (a2.eq (E1.sub (by omega) (by omega))).ex2 hV (fun p h1 => L p (by omega) (by omega)), ?_, ?_, nw, al, (a7.eq (E2.sub (by omega) (by omega))).ext hV (fun p h1 h2 => L p (by omega) (by omega)), by rw [ey, a8]; exact L 9 (by omega) (by omega)⟩
  · rw [← l7]; exact NW.ext (fun k hk i hi => L _ (by omega) (by omega)) (a3.eq (E1.sub (by omega) (by omega)))
  · rw [← l6]; exact NW.ext (fun k hk i hi => L _ (by omega) (by omega)) (a4.eq (E1.sub (by omega) (by omega)))
theorem TR0.ho2 {h h' : Hp} {t : Nat} {D D' : Nat → Int} (hV : V D) (a : TR0 h t D) (F : FrP (SD t) h h') (E : eqC h h' t (t + 18)) (L : ∀ p, (p < 280 ∨ 650 ≤ p) → D p = D' p) (hw : HW h' (t + 18) D') : TR0 h' t D' := by
  obtain ⟨⟨_, _, _, _, _, _, v6, v7, v8, _⟩, _⟩ := id hV
  obtain ⟨a1, a2, a3, a4, a5, a6, a7, a8⟩ := a
  have l7 := L 7 (by omega)
  have l6 := L 6 (by omega)
  have l8 := L 8 (by omega)
  refine ⟨a1.fd F, (a2.eq (E.sub (by omega) (by omega))).ex2 hV (fun p h1 => L p (by omega)), ?_, ?_, ?_, fun k hk => ?_, hw, by rw [E.C _ _ (by omega) (by omega), a8]; exact L 9 (by omega)⟩
  · rw [← l7]; exact NW.ext (fun k hk i hi => L _ (by omega)) (a3.eq (E.sub (by omega) (by omega)))
  · rw [← l6]; exact NW.ext (fun k hk i hi => L _ (by omega)) (a4.eq (E.sub (by omega) (by omega)))
  · rw [← l8]; exact NW.ext (fun k hk i hi => L _ (by omega)) (a5.eq (E.sub (by omega) (by omega)))
  · rw [← l8] at hk
    rw [E.C _ _ (by omega) (by omega), a6 k hk]; exact L _ (by omega)
/-- a name more -/
theorem NW.add {h h' : Hp} {r n o W : Nat} {D D' v : Nat → Int} (a : NW h r D (n : Int) o) (c : hpC h' r 2 = ((n + 1 : Nat) : Int)) (w : hpC h' (r + 1) n = (W : Int)) (k : ∀ p, p ≠ n → hpC h' (r + 1) p = hpC h (r + 1) p) (hN : ∀ i, i < 10 → D' (o + 10 * n + i) = v i) (hv : wordW v 0 = W) (L : ∀ q, q < n → ∀ i, i < 10 → D (o + 10 * q + i) = D' (o + 10 * q + i)) : NW h' r D' ((n + 1 : Nat) : Int) o := by
  refine ⟨c, fun q hq => ?_⟩
  by_cases e : q = n
  · subst e
    rw [w, ← hv, wordW_ext (v := D') (o' := o + 10 * q) (fun i hi => by rw [hN i hi, Nat.zero_add])]
  · rw [k q e, a.2 q (by omega), wordW_ext (L q (by omega))]
theorem sp_knows {h : Hp} {t : Nat} {D : Nat → Int} (a : TR0 h t D) (hV : V D) {W : Nat} {d mc ms : Nat} {R : PR} (hd : 1 ≤ d) (H1 : toS D W → R (some (xI 1)) h) (H0 : ¬ toS D W → R (some (xI 0)) h) : Wp m_Town_knows 0 [some (xR t), some (xL (W : Int)), none] [] h d mc ms R := by
  obtain ⟨⟨_, _, _, _, _, _, v6, v7, v8, _⟩, _⟩ := id hV
  obtain ⟨a1, a2, a3, a4, a5, a6, a7, a8⟩ := a
  apply f_Town_knows_0
  rw [a1.streets_n]
  refine ⟨a1.tag, ⟨hd, a1.streets_a.tag⟩, sp_placeOfN (W := W) a1.streets_a a3 (by omega) (by omega) (fun v ee => ?_)⟩
  have ev := xI_inj ee
  by_cases z : v = -1
  · rw [if_pos z, a1.pool_n]
    refine ⟨a1.tag, ⟨hd, a1.pool_a.tag⟩, sp_placeOfN (W := W) a1.pool_a a4 (by omega) (by omega) (fun v2 ee2 => ?_)⟩
    have ev2 := xI_inj ee2
    by_cases z2 : v2 = -1
    · rw [if_pos z2, a1.aliases_n]
      refine ⟨a1.tag, ⟨hd, a1.aliases_a.tag⟩, sp_placeOfN (W := W) a1.aliases_a a5 (by omega) (by omega) (fun v3 ee3 => ?_)⟩
      have ev3 := xI_inj ee3
      by_cases z3 : v3 = -1
      · rw [if_pos z3]; exact ⟨by simp, H0 (fun y => by rcases y with y | y | y; exact y (ev2 ▸ z2); exact y (ev ▸ z); exact y (ev3 ▸ z3))⟩
      · rw [if_neg z3]; exact ⟨by simp, H1 (Or.inr (Or.inr (fun y => z3 (ev3.trans y))))⟩
    · rw [if_neg z2]; exact ⟨by simp, H1 (Or.inl (fun y => z2 (ev2.trans y)))⟩
  · rw [if_neg z]; exact ⟨by simp, H1 (Or.inr (Or.inl (fun y => z (ev.trans y))))⟩
theorem sp_isNewName {h : Hp} {x : Nat} {b : Nat → Nat} {n e : Nat} {D : Nat → Int} {T G : Nat} (c : CG h x b n e D T G) (hV : V D) {d mc ms : Nat} {R : PR} (hd : 2 ≤ d) (H1 : nmS b n e → ¬ toS D (wS b n e) → R (some (xI 1)) h) (H3 : nmS b n e → toS D (wS b n e) → ∀ h', FrP (Scr2 x) h h' → CF h' x b n 3 (tS b n e) → R (some (xI 0)) h') (H0 : ¬ nmS b n e → ∀ h', FrP (Scr2 x) h h' → CF h' x b n 1 (tS b n e) → R (some (xI 0)) h') : Wp m_Reader_isNewName 0 [some (xR (x + 4))] [] h d mc ms R := by
  apply f_Reader_isNewName_0
  refine ⟨⟨by omega, c.1.tag⟩, sp_isName c.1 (by omega) (fun nm v ee => ?_) (fun nm g f cf v ee => ?_)⟩
  · have ev := xI_inj ee
    rw [if_neg (by omega), c.1.1.draft_n, c.1.w nm]
    refine ⟨c.1.tag, c.1.tag, ⟨by omega, c.1.town.tag⟩, sp_knows c.2.1 hV (by omega) (fun k v ee => ?_) (fun k v ee => ?_)⟩
    · have ev := xI_inj ee
      rw [if_neg (by omega)]
      exact sp_failsA c.1 (by decide) (by omega) (H3 nm k)
    · have ev := xI_inj ee
      rw [if_pos ev]; exact ⟨by simp, H1 nm k⟩
  · have ev := xI_inj ee
    rw [if_pos ev]; exact ⟨by simp, H0 nm g f cf⟩
theorem sp_isStreetName {h : Hp} {x : Nat} {b : Nat → Nat} {n e : Nat} {D : Nat → Int} {T G : Nat} (c : CG h x b n e D T G) (hV : V D) {d mc ms : Nat} {R : PR} (hd : 2 ≤ d) (H1 : nmS b n e → plW D 180 (D 7) (wS b n e) ≠ -1 → R (some (xI 1)) h) (H3 : nmS b n e → plW D 180 (D 7) (wS b n e) = -1 → ∀ h', FrP (Scr2 x) h h' → CF h' x b n 3 (tS b n e) → R (some (xI 0)) h') (H0 : ¬ nmS b n e → ∀ h', FrP (Scr2 x) h h' → CF h' x b n 1 (tS b n e) → R (some (xI 0)) h') : Wp m_Reader_isStreetName 0 [some (xR (x + 4))] [] h d mc ms R := by
  obtain ⟨⟨_, _, _, _, _, _, v6, v7, v8, _⟩, _⟩ := id hV
  apply f_Reader_isStreetName_0
  refine ⟨⟨by omega, c.1.tag⟩, sp_isName c.1 (by omega) (fun nm v ee => ?_) (fun nm g f cf v ee => ?_)⟩
  · have ev := xI_inj ee
    rw [if_neg (by omega), c.1.1.draft_n, c.1.w nm, c.1.town.streets_n]
    refine ⟨c.1.tag, c.1.town.tag, c.1.tag, ⟨by omega, c.1.town.streets_a.tag⟩, sp_placeOfN (W := wS b n e) c.1.town.streets_a c.2.1.2.2.1 (by omega) (by omega) (fun v ee => ?_)⟩
    have ev := xI_inj ee
    by_cases z : v = -1
    · rw [if_pos z]
      exact sp_failsA c.1 (by decide) (by omega) (H3 nm (ev ▸ z))
    · rw [if_neg z]; exact ⟨by simp, H1 nm (fun y => z (ev.trans y))⟩
  · have ev := xI_inj ee
    rw [if_pos ev]; exact ⟨by simp, H0 nm g f cf⟩
theorem sp_cstr {h : Hp} {x : Nat} {b : Nat → Nat} {n e : Nat} {D : Nat → Int} {T G : Nat} (c : CG h x b n e D T G) (hV : V D) (k1 : kS b n e = 1) {d mc ms : Nat} {R : PR} (hd : 3 ≤ d) (H : ∀ h' v, FrP (Scr2 x) h h' → OUTC h' x b n v (pStr b n e D T G) → R (some (xI v)) h') : Wp m_Reader_readStreet 0 [some (xR (x + 4))] [] h d mc ms R := by
  obtain ⟨⟨_, _, _, _, _, _, v6, v7, v8, _⟩, _⟩ := id hV
  obtain ⟨k, hk⟩ : ∃ k : Nat, D 7 = (k : Int) := ⟨(D 7).toNat, by omega⟩
  have tk : (D 7).toNat = k := by omega
  unfold pStr at H
  have hc : ∀ {g : Hp} {e2 : Nat}, CG g x b n e2 D T G → hpC g (x + 5 + 7) 2 = (k : Int) := fun c => by rw [← hk]; exact c.2.1.2.2.1.1
  apply f_Reader_readStreet_0
  rw [c.1.1.draft_n, c.1.town.streets_n]
  refine ⟨c.1.tag, c.1.town.tag, ⟨by omega, c.1.town.streets_a.tag⟩, sp_isFull c.1.town.streets_a (hc c) (fun v ee => ?_)⟩
  have ev := xI_inj ee
  by_cases z : D 7 = 10
  · rw [if_neg (by omega)] at ev
    rw [if_neg (by omega)]
    rw [if_pos z] at H
    exact sp_failsB c.1 (by decide) (by omega) (fun h' f cf => H h' 0 f ⟨rfl, cf⟩)
  · rw [if_pos (by omega)] at ev
    rw [if_pos ev]
    rw [if_neg z] at H
    refine ⟨⟨by omega, c.1.tag⟩, sp_stpG c (Or.inl k1) (by omega) (fun g f c1 _ => ?_)⟩
    refine ⟨⟨by omega, c1.1.tag⟩, sp_isNewName c1 hV (by omega) (fun nm nk v ee => ?_) (fun nm nk g2 f2 cf v ee => ?_) (fun nm g2 f2 cf v ee => ?_)⟩
    · have ev := xI_inj ee
      rw [if_pos nm, if_neg nk] at H
      rw [if_neg (by omega), c1.1.1.draft_n, c1.1.w nm, c1.1.town.streets_n]
      refine ⟨c1.1.tag, c1.1.town.tag, c1.1.tag, ⟨by omega, c1.1.town.streets_a.tag⟩, sp_Nadd (n := k) c1.1.town.streets_a (hc c1) (by omega) (by omega) (by omega) (fun g2 f2 q1 q2 q3 q4 _ => ⟨by simp, ?_⟩)⟩
      have F : FrP (SD (x + 5)) g g2 := f2.wk (fun q p z => by unfold Snl at z; unfold SD; omega)
      refine H g2 1 (f.tr (SD_2 F)) ⟨rfl, _, rfl, Or.inl nm.1, c1.up F (TR0.st2 hV c1.2.1 F (f2.eqC (fun q p h1 h2 z => by unfold Snl at z; omega)) (f2.eqC (fun q p h1 h2 z => by unfold Snl at z; omega)) (f2.2.2 _ _ (by unfold Snl; omega)) (fun p h1 h2 => ?_) ?_) (c1.2.2.2.eq (fun p => f2.2.2 _ _ (by unfold Snl; omega)) ?_)⟩
      · rw [upD_o h1, ptW_o (by omega)]
      · rw [upD_s, hk]
        have a3 := c1.2.1.2.2.1
        rw [hk] at a3
        exact NW.add (v := tV b n (tE b n e)) a3 q1 q2 (fun p hp => (q4 p hp).1) (fun i hi => by rw [upD_o (by omega), Int.toNat_natCast, ptW_n hi]) (tV_ok c1.1.le nm).2 (fun q hq i hi => by rw [upD_o (by omega), ptW_o (by omega)])
      · rw [upD_o (by omega), ptW_o (by omega)]
    · have ev := xI_inj ee
      rw [if_pos nm, if_pos nk] at H
      rw [if_pos ev]
      exact ⟨by simp, H g2 0 (f.tr f2) ⟨rfl, cf⟩⟩
    · have ev := xI_inj ee
      rw [if_neg nm] at H
      rw [if_pos ev]
      exact ⟨by simp, H g2 0 (f.tr f2) ⟨rfl, cf⟩⟩
