/-! ===== the class reads statements: settings, mute ===== -/
def orF (f : Nat → Int) : Nat → Nat
  | 0 => 0
  | k + 1 => orF f k ||| (f k).toNat
def GB (h : Hp) (r : Nat) (D : Nat → Int) (G : Nat) : Prop := (∀ k : Nat, (k : Int) < D 4 → 0 ≤ hpC h (r + 2) k ∧ hpC h (r + 2) k < 134217728) ∧ orF (hpC h (r + 2)) (D 4).toNat = 2 * G
theorem GB.eq {h h' : Hp} {r G : Nat} {D D' : Nat → Int} (a : GB h r D G) (e : ∀ p, hpC h' (r + 2) p = hpC h (r + 2) p) (e4 : D' 4 = D 4) : GB h' r D' G := by
  have : hpC h' (r + 2) = hpC h (r + 2) := funext e
  unfold GB; rw [this, e4]; exact a
def CG (h : Hp) (x : Nat) (b : Nat → Nat) (n e : Nat) (D : Nat → Int) (T G : Nat) : Prop := CB h x b n e ∧ TR0 h (x + 5) D ∧ (hpC h (x + 4) 9 = (T : Int) ∧ hpC h (x + 4) 1 = 0 ∧ hpC h (x + 4) 2 = -1) ∧ GB h (x + 6) D G
theorem CG.st {h : Hp} {x : Nat} {b : Nat → Nat} {n e : Nat} {D : Nat → Int} {T G : Nat} (c : CG h x b n e D T G) {h' : Hp} {e' : Nat} (f : FrP (Srd x) h h') (k : CB h' x b n e') : CG h' x b n e' D T G := by
  have no : ∀ q p, ¬ (q = x + 4 ∧ 4 ≤ p ∧ p ≤ 8) → hpC h' q p = hpC h q p := f.2.2
  exact ⟨k, c.2.1.eq (f.eqC (fun q p h1 h2 z => by unfold Srd at z; omega)), ⟨by rw [no _ _ (by omega)]; exact c.2.2.1.1, by rw [no _ _ (by omega)]; exact c.2.2.1.2.1, by rw [no _ _ (by omega)]; exact c.2.2.1.2.2⟩, c.2.2.2.eq (fun p => no _ _ (by omega)) rfl⟩
theorem CG.t9 {h : Hp} {x : Nat} {b : Nat → Nat} {n e : Nat} {D : Nat → Int} {T G : Nat} (c : CG h x b n e D T G) {h' : Hp} {T' : Nat} (f : FrP (fun q p => q = x + 4 ∧ p = 9) h h') (k : hpC h' (x + 4) 9 = (T' : Int)) : CG h' x b n e D T' G := by
  have no : ∀ q p, ¬ (q = x + 4 ∧ p = 9) → hpC h' q p = hpC h q p := f.2.2
  exact ⟨c.1.fr (f.wk (fun q p z => Or.inl (by omega))) (fun p h1 h2 => no _ _ (by omega)), c.2.1.eq (f.eqC (fun q p h1 h2 z => by omega)), ⟨k, by rw [no _ _ (by omega)]; exact c.2.2.1.2.1, by rw [no _ _ (by omega)]; exact c.2.2.1.2.2⟩, c.2.2.2.eq (fun p => no _ _ (by omega)) rfl⟩
theorem CB.sd {h : Hp} {x : Nat} {b : Nat → Nat} {n e : Nat} (c : CB h x b n e) {h' : Hp} (f : FrP (SD (x + 5)) h h') : CB h' x b n e := c.fr (SD_2 f) (fun p h1 h2 => f.2.2 _ _ (by unfold SD; omega))
theorem CG.up {h : Hp} {x : Nat} {b : Nat → Nat} {n e : Nat} {D : Nat → Int} {T G : Nat} (c : CG h x b n e D T G) {h' : Hp} {D' : Nat → Int} {G' : Nat} (f : FrP (SD (x + 5)) h h') (t : TR0 h' (x + 5) D') (g : GB h' (x + 6) D' G') : CG h' x b n e D' T G' := by
  have no : ∀ p, hpC h' (x + 4) p = hpC h (x + 4) p := fun p => f.2.2 _ _ (by unfold SD; omega)
  exact ⟨c.1.sd f, t, ⟨by rw [no]; exact c.2.2.1.1, by rw [no]; exact c.2.2.1.2.1, by rw [no]; exact c.2.2.1.2.2⟩, g⟩
def OUTC (h : Hp) (x : Nat) (b : Nat → Nat) (n : Nat) (v : Int) : PO → Prop
  | .inl (f, p) => v = 0 ∧ CF h x b n f p
  | .inr (e', D', T', G') => v = 1 ∧ ∃ e1, tE b n e1 = e' ∧ (kS b n e1 = 1 ∨ kS b n e1 = 2) ∧ CG h x b n e1 D' T' G'
theorem sp_stpG {h : Hp} {x : Nat} {b : Nat → Nat} {n e : Nat} {D : Nat → Int} {T G : Nat} (c : CG h x b n e D T G) (hk : kS b n e = 1 ∨ kS b n e = 2 ∨ kS b n e = 3) {d mc ms : Nat} {R : PR} (hd : 2 ≤ d) {o1 o2 : Option AV} (H : ∀ h', FrP (Scr2 x) h h' → CG h' x b n (tE b n e) D T G → R none h') : Wp m_Reader_step 0 [some (xR (x + 4)), o1, o2] [] h d mc ms R := sp_stp c.1 hk hd (fun h' f k => H h' (Srd_2 f) (c.st f k))
/-- only rules change -/
theorem TR0.ru {h h' : Hp} {t : Nat} {D D' : Nat → Int} (hV : V D) (a : TR0 h t D) (F : FrP (SD t) h h') (E : eqC h h' (t + 7) (t + 22)) (ey : hpC h' t 7 = hpC h t 7) (L : ∀ p, (6 ≤ p ∧ p ≤ 9) ∨ 60 ≤ p → D p = D' p) (r : RW h' (t + 1) D') : TR0 h' t D' := by
  obtain ⟨a1, a2, a3, a4, a5, a6, a7, a8⟩ := a
  have l6 := L 6 (by omega)
  have l7 := L 7 (by omega)
  have l8 := L 8 (by omega)
  refine ⟨a1.fd F, r, ?_, ?_, ?_, fun k hk => ?_, (a7.eq (E.sub (by omega) (by omega))).ext hV (fun p h1 h2 => L p (by omega)), by rw [ey, a8]; exact L 9 (by omega)⟩
  · rw [← l7]; exact NW.ext (fun k hk i hi => L _ (by omega)) (a3.eq (E.sub (by omega) (by omega)))
  · rw [← l6]; exact NW.ext (fun k hk i hi => L _ (by omega)) (a4.eq (E.sub (by omega) (by omega)))
  · rw [← l8]; exact NW.ext (fun k hk i hi => L _ (by omega)) (a5.eq (E.sub (by omega) (by omega)))
  · rw [← l8] at hk
    rw [E.C _ _ (by omega) (by omega), a6 k hk]; exact L _ (by omega)
theorem cHead_12 {h h' : Hp} {r : Nat} (e : ∀ q p, (q = r + 1 ∨ q = r + 2) → hpC h' q p = hpC h q p) (l : Int) : ∀ k g, cHead h' r l k g = cHead h r l k g
  | 0, g => rfl
  | k + 1, g => by simp only [cHead]; rw [e _ _ (by omega), e _ _ (by omega), cHead_12 e l k (g + 1)]
theorem TR0.set {h : Hp} {t : Nat} {D : Nat → Int} (hV : V D) (a : TR0 h t D) {i : Nat} (hi : i < 4) {v u : Int} (hu : u = if i = 3 then 2 * v else v) : TR0 (hpU h (t + 1) i u) t (upD D i v) := by
  have f : FrP (fun q p => q = t + 1 ∧ p = i) h (hpU h (t + 1) i u) := FrP.up ⟨rfl, rfl⟩
  have r := a.2.1
  have no : ∀ q p, ¬ (q = t + 1 ∧ p = i) → hpC (hpU h (t + 1) i u) q p = hpC h q p := f.2.2
  obtain ⟨r0, r1, r2, r3, r4, r5, r6, r7⟩ := r
  refine a.ru hV (f.wk (fun q p z => by unfold SD; omega)) (f.eqC (fun q p h1 h2 z => by omega)) (no _ _ (by omega)) (fun p hp => (upD_o (by omega)).symm) ⟨?_, ?_, ?_, ?_, ?_, ?_, fun k hk => ?_, fun l h1 h2 => ?_⟩
  · by_cases z : i = 0
    · subst z; rw [hpC_same, upD_s, hu, if_neg (by decide)]
    · rw [hpC_o2 (by omega), upD_o (by omega)]; exact r0
  · by_cases z : i = 1
    · subst z; rw [hpC_same, upD_s, hu, if_neg (by decide)]
    · rw [hpC_o2 (by omega), upD_o (by omega)]; exact r1
  · by_cases z : i = 2
    · subst z; rw [hpC_same, upD_s, hu, if_neg (by decide)]
    · rw [hpC_o2 (by omega), upD_o (by omega)]; exact r2
  · by_cases z : i = 3
    · subst z; rw [hpC_same, upD_s, hu, if_pos rfl]
    · rw [hpC_o2 (by omega), upD_o (by omega)]; exact r3
  · rw [hpC_o2 (by omega), upD_o (by omega)]; exact r4
  · rw [hpC_o2 (by omega), upD_o (by omega)]; exact r5
  · rw [upD_o (by omega)] at hk
    rw [no _ _ (by omega), no _ _ (by omega), no _ _ (by omega), upD_o (by omega), upD_o (by omega), upD_o (by omega)]; exact r6 k hk
  · rw [cHead_12 (fun q p hq => no _ _ (by omega)), upD_o (by omega), upD_o (by omega)]; exact r7 l h1 h2
theorem CG.set {h : Hp} {x : Nat} {b : Nat → Nat} {n e : Nat} {D : Nat → Int} {T G : Nat} (c : CG h x b n e D T G) (hV : V D) {i : Nat} (hi : i < 4) {v u : Int} (hu : u = if i = 3 then 2 * v else v) {h' : Hp} (eh : h' = hpU h (x + 6) i u) : CG h' x b n e (upD D i v) T G ∧ FrP (SD (x + 5)) h h' := by
  subst eh
  have f : FrP (SD (x + 5)) h (hpU h (x + 6) i u) := FrP.up (by unfold SD; omega)
  exact ⟨c.up f (c.2.1.set hV hi hu) (c.2.2.2.eq (fun p => hpC_o1 (by omega)) (upD_o (by omega))), f⟩
theorem sp_cset {h : Hp} {x : Nat} {b : Nat → Nat} {n e : Nat} {D : Nat → Int} {T G : Nat} (c : CG h x b n e D T G) (hV : V D) (hT : T < 65536) {i : Nat} (hi : i < 3) (k1 : kS b n e = 1) (e8 : oS b n e = (i : Int)) {d mc ms : Nat} {R : PR} (hd : 4 ≤ d) {o2 : Option AV} (H : ∀ h' v, FrP (Scr2 x) h h' → OUTC h' x b n v (pSet b n i e D T G) → R (some (xI v)) h') : Wp m_Reader_readSetting 0 [some (xR (x + 4)), some (xI (i : Int)), o2] [] h d mc ms R := by
  unfold pSet at H
  apply f_Reader_readSetting_0
  refine ⟨⟨by omega, c.1.tag⟩, sp_isFirst c.1 c.2.2.1.1 hT (by omega) e8 (by omega) (fun tb g f q9 v ee => ?_) (fun tb g f cf v ee => ?_)⟩
  · have ev := xI_inj ee
    clear ee
    rw [if_neg (by omega)]
    rw [if_neg tb] at H
    have c1 := c.t9 f q9
    have F1 : FrP (Scr2 x) h g := f.wk (fun q p z => Or.inl (by omega))
    refine ⟨⟨by omega, c1.1.tag⟩, sp_stpG c1 (Or.inl k1) (by omega) (fun g2 f2 c2 _ => ?_)⟩
    have F2 := F1.tr f2
    refine ⟨⟨by omega, c2.1.tag⟩, sp_isNumber c2.1 (by omega) (fun nu v ee => ?_) (fun nu g3 f3 cf v ee => ?_)⟩
    · have ev := xI_inj ee
      clear ee
      rw [if_neg (by omega)]
      rw [if_pos nu] at H
      refine ⟨⟨by omega, c2.1.tag⟩, sp_cnumber c2.1 nu (fun v ee => ?_)⟩
      have ev := xI_inj ee
      clear ee
      have nb := nuV_bd nu
      rw [← ev] at nb H
      have good : ∀ g3, g3 = hpU g2 (x + 5 + 1) i v → (stLo i ≤ v ∧ v ≤ stHi i) → R (some (xI 1)) g3 := fun g3 e3 ok => by
        obtain ⟨c3, f3⟩ := c2.set hV (i := i) (by omega) (v := v) (u := v) (by rw [if_neg (by omega)]) e3
        rw [if_pos ok] at H
        exact H g3 1 (F2.tr (SD_2 f3)) ⟨rfl, _, rfl, Or.inr nu.1, c3⟩
      have bad : ∀ g3, g3 = hpU g2 (x + 5 + 1) i v → ¬ (stLo i ≤ v ∧ v ≤ stHi i) → CB g3 x b n (tE b n e) ∧ ∀ h', FrP (Scr2 x) g3 h' → CF h' x b n 2 (tS b n (tE b n e)) → R (some (xI 0)) h' := fun g3 e3 ok => by
        obtain ⟨c3, f3⟩ := c2.set hV (i := i) (by omega) (v := v) (u := v) (by rw [if_neg (by omega)]) e3
        rw [if_neg ok] at H
        exact ⟨c3.1, fun h' f' cf => H h' 0 ((F2.tr (SD_2 f3)).tr f') ⟨rfl, cf⟩⟩
      rw [c2.1.1.draft_n, c2.1.town.rules_n]
      have hi3 : i = 0 ∨ i = 1 ∨ i = 2 := by omega
      rcases hi3 with rfl | rfl | rfl
      · rw [if_pos rfl]
        refine ⟨c2.1.tag, c2.1.town.tag, c2.1.town.rules_a.tag, fun g3 e3 => ?_⟩
        by_cases z : 3 < v
        · rw [if_pos z]
          obtain ⟨q1, q2⟩ := bad g3 e3 (fun y => by have := y.2; unfold stHi at this; rw [if_pos rfl] at this; omega)
          exact sp_failsA q1 (by decide) (by omega) q2
        · rw [if_neg z]
          exact ⟨by simp, good g3 e3 ⟨by unfold stLo; rw [if_neg (by decide)]; omega, by unfold stHi; rw [if_pos rfl]; omega⟩⟩
      · rw [if_neg (by decide), if_pos rfl]
        refine ⟨c2.1.tag, c2.1.town.tag, c2.1.town.rules_a.tag, fun g3 e3 => ?_⟩
        by_cases z : 99 < v
        · rw [if_pos z]
          obtain ⟨q1, q2⟩ := bad g3 e3 (fun y => by have := y.2; unfold stHi at this; rw [if_neg (by decide)] at this; omega)
          exact sp_failsA q1 (by decide) (by omega) q2
        · rw [if_neg z]
          exact ⟨by simp, good g3 e3 ⟨by unfold stLo; rw [if_neg (by decide)]; omega, by unfold stHi; rw [if_neg (by decide)]; omega⟩⟩
      · rw [if_neg (by decide), if_neg (by decide)]
        refine ⟨c2.1.tag, c2.1.town.tag, c2.1.town.rules_a.tag, fun g3 e3 => ?_⟩
        by_cases y : v < 1
        · rw [if_pos y]
          obtain ⟨q1, q2⟩ := bad g3 e3 (fun y => by have := y.1; unfold stLo at this; rw [if_pos rfl] at this; omega)
          exact sp_failsA q1 (by decide) (by omega) q2
        rw [if_neg y]
        by_cases z : 99 < v
        · rw [if_pos z]
          obtain ⟨q1, q2⟩ := bad g3 e3 (fun y => by have := y.2; unfold stHi at this; rw [if_neg (by decide)] at this; omega)
          exact sp_failsA q1 (by decide) (by omega) q2
        · rw [if_neg z]
          exact ⟨by simp, good g3 e3 ⟨by unfold stLo; rw [if_pos rfl]; omega, by unfold stHi; rw [if_neg (by decide)]; omega⟩⟩
    · have ev := xI_inj ee
      rw [if_neg nu] at H
      rw [if_pos ev]
      exact ⟨by simp, H g3 0 (F2.tr f3) ⟨rfl, cf⟩⟩
  · have ev := xI_inj ee
    rw [if_pos tb] at H
    rw [if_pos ev]
    exact ⟨by simp, H g 0 f ⟨rfl, cf⟩⟩
theorem sp_cmute {h : Hp} {x : Nat} {b : Nat → Nat} {n e : Nat} {D : Nat → Int} {T G : Nat} (c : CG h x b n e D T G) (hV : V D) (hT : T < 65536) (k1 : kS b n e = 1) (e8 : oS b n e = 3) {d mc ms : Nat} {R : PR} (hd : 4 ≤ d) (H : ∀ h' v, FrP (Scr2 x) h h' → OUTC h' x b n v (pMute b n e D T G) → R (some (xI v)) h') : Wp m_Reader_readMute 0 [some (xR (x + 4))] [] h d mc ms R := by
  unfold pMute at H
  apply f_Reader_readMute_0
  refine ⟨⟨by omega, c.1.tag⟩, sp_isFirst (i := 3) c.1 c.2.2.1.1 hT (by omega) e8 (by omega) (fun tb g f q9 v ee => ?_) (fun tb g f cf v ee => ?_)⟩
  · have ev := xI_inj ee
    clear ee
    rw [if_neg (by omega)]
    rw [if_neg tb] at H
    have c1 := c.t9 f q9
    have F1 : FrP (Scr2 x) h g := f.wk (fun q p z => Or.inl (by omega))
    refine ⟨⟨by omega, c1.1.tag⟩, sp_stpG c1 (Or.inl k1) (by omega) (fun g2 f2 c2 _ => ?_)⟩
    have F2 := F1.tr f2
    refine ⟨⟨by omega, c2.1.tag⟩, sp_areLetters (lo := 1) (hi := 26) c2.1 (by omega) (fun le v ee => ?_) (fun le g3 f3 cf v ee => ?_)⟩
    · have ev := xI_inj ee
      clear ee
      rw [if_neg (by omega)]
      rw [if_pos le] at H
      rw [c2.1.1.draft_n, c2.1.town.rules_n]
      refine ⟨c2.1.tag, c2.1.town.tag, ⟨by omega, c2.1.tag⟩, sp_letterBits c2.1 le.1 (by omega) (fun v ee => ?_)⟩
      have ev := xI_inj ee
      clear ee
      refine ⟨c2.1.town.rules_a.tag, fun g3 e3 => ?_⟩
      obtain ⟨c3, f3⟩ := c2.set hV (i := 3) (by omega) (v := (lbS b n (tE b n e) : Int)) (u := v) (by rw [if_pos rfl, ev]; omega) e3
      have F3 := F2.tr (SD_2 f3)
      refine ⟨⟨by omega, c3.1.tag⟩, sp_areUnlike c3.1 le.1 (by omega) (fun ld v ee => ?_) (fun ld v ee => ?_)⟩
      · have ev := xI_inj ee
        rw [if_neg (by omega)]
        rw [if_pos ld] at H
        exact ⟨by simp, H g3 1 F3 ⟨rfl, _, rfl, Or.inl le.1, c3⟩⟩
      · have ev := xI_inj ee
        rw [if_pos ev]
        rw [if_neg ld] at H
        exact sp_failsA c3.1 (by decide) (by omega) (fun h' f' cf => H h' 0 (F3.tr f') ⟨rfl, cf⟩)
    · have ev := xI_inj ee
      rw [if_neg le] at H
      rw [if_pos ev]
      exact ⟨by simp, H g3 0 (F2.tr f3) ⟨rfl, cf⟩⟩
  · have ev := xI_inj ee
    rw [if_pos tb] at H
    rw [if_pos ev]
    exact ⟨by simp, H g 0 f ⟨rfl, cf⟩⟩
