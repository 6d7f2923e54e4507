/-! ===== the class's town ===== -/
def OUTR (h : Hp) (x : Nat) (b : Nat → Nat) (n : Nat) : PO → Prop
  | .inl (f, p) => (rd2 h x ∧ TPc h x b n ∧ townAt h (x + 5)) ∧ f ≠ 0 ∧ hpC h (x + 4) 1 = f ∧ hpC h (x + 4) 2 = (p : Int)
  | .inr (_, D, _, _) => (rd2 h x ∧ TPc h x b n ∧ townAt h (x + 5)) ∧ TR h (x + 5) (seW D) ∧ hpC h (x + 4) 1 = 0 ∧ hpC h (x + 4) 2 = -1
theorem kS_0 {b : Nat → Nat} {n e : Nat} : kS b n e = 0 ↔ tR b n e = 0 := by
  unfold kS tK
  by_cases c : (tR b n e = 1 ∨ tR b n e = 2) ∧ lgT b n e = true ∧ tS b n e = e
  · rw [if_pos c]; omega
  · rw [if_neg c]
theorem tR_n {b : Nat → Nat} {n : Nat} : tR b n n = 0 := by
  have := (tS_spec b n n).1
  unfold tR
  rw [kdT_end]
  have := this.2 (Nat.le_refl _)
  omega
theorem sp_rt45 {h : Hp} {x : Nat} {b : Nat → Nat} {n : Nat} {P : PO} {d mc ms : Nat} {R : PR} (hd : 6 ≤ d) (H : ∀ h', FrP (Scr2 x) h h' → OUTR h' x b n P → R none h') : ∀ (f e i : Nat) (D : Nat → Int) (T G : Nat) (g : Hp), n - e < f → i ≤ e → V D → Dz D → T < 65536 → G < 67108864 → FrP (Scr2 x) h g → CG g x b n e D T G → pAll b n f e D T G = P → Wp m_Reader_readTown 45 [some (xR (x + 4)), some (xI (1 : Int)), some (xI (i : Int))] [] g d mc ms R := by
  intro f
  induction f with
  | zero => intro e i D T G g hf; omega
  | succ f ih =>
    intro e i D T G g hf hi hV hz hT hG fr c eP
    have he := c.1.le
    have hn := c.1.2.1.2.2.1
    simp only [pAll] at eP
    have good : tR b n e = 0 → (hpT g (x + 4)).1 = 7 ∧ (if (hpC g (x + 4) 1) = (0 : Int) then ((hpT g (x + 4)).1 = 7 ∧ ((1 ≤ d ∧ (hpT g (Int.toNat (hpC g (x + 4) 0))).1 = 10) ∧ Wp m_Town_settle 0 [some (xR (Int.toNat (hpC g (x + 4) 0)))] [] g (d - 1) 0 0 (fun rv h2 => rv = none → R none h2))) else R none g) := fun z => by
      rw [if_pos z] at eP
      rw [if_pos c.2.2.1.2.1, c.1.1.draft_n]
      refine ⟨c.1.tag, c.1.tag, ⟨by omega, c.1.town.tag⟩, sp_Tsettle c.2.1 hV (by omega) (fun g2 f2 t2 _ => H g2 (fr.tr (SD_2 f2)) ?_)⟩
      have no : ∀ p, hpC g2 (x + 4) p = hpC g (x + 4) p := fun p => f2.2.2 _ _ (by unfold SD; omega)
      have c2 := c.1.sd f2
      rw [← eP]
      exact ⟨⟨c2.1, c2.2.1, c2.town⟩, t2, by rw [no]; exact c.2.2.1.2.1, by rw [no]; exact c.2.2.1.2.2⟩
    have part1 : i < 2000 → Wp m_Reader_readTown 45 [some (xR (x + 4)), some (xI (1 : Int)), some (xI (i : Int))] [] g d mc ms R := by
      intro i2
      apply f_Reader_readTown_45
      rw [if_pos (by omega), if_neg (by decide), c.1.k]
      refine ⟨c.1.tag, ?_⟩
      by_cases z : kS b n e = 0
      · rw [if_pos z]
        exact good (kS_0.1 z)
      · rw [if_neg z]
        rw [if_neg (fun y => z (kS_0.2 y))] at eP
        refine ⟨⟨by omega, c.1.tag⟩, sp_cstm c hV hz hT hG (by omega) (fun g1 v f1 ou v1 ee => ?_)⟩
        have ev := xI_inj ee
        clear ee
        have F1 := fr.tr f1
        cases q : pStm b n e D T G with
        | inl r =>
          obtain ⟨rf, rp⟩ := r
          rw [q] at ou eP
          obtain ⟨v0, r1, t1, w1, ⟨s0, z0, a5, a6, a7⟩, hf0, a1, a2⟩ := ou
          refine ⟨⟨by omega, r1.tag⟩, sp_step r1 t1 rfl a5 a6 a7 (by omega) (fun g2 f2 _ _ => ?_)⟩
          have F2 := F1.tr (Srd_2 f2)
          have no : ∀ p, p < 4 → hpC g2 (x + 4) p = hpC g1 (x + 4) p := fun p hp => f2.2.2 _ _ (by unfold Srd; omega)
          have r2 := r1.f2 (Srd_2 f2)
          have fin : R none g2 := H g2 F2 (by rw [← eP]; exact ⟨⟨r2, t1.f2 (Srd_2 f2), w1.f2 (Srd_2 f2)⟩, hf0, by rw [no _ (by omega)]; exact a1, by rw [no _ (by omega)]; exact a2⟩)
          have bad : (hpT g2 (x + 4)).1 = 7 ∧ (if (hpC g2 (x + 4) 1) = (0 : Int) then ((hpT g2 (x + 4)).1 = 7 ∧ ((1 ≤ d ∧ (hpT g2 (Int.toNat (hpC g2 (x + 4) 0))).1 = 10) ∧ Wp m_Town_settle 0 [some (xR (Int.toNat (hpC g2 (x + 4) 0)))] [] g2 (d - 1) 0 0 (fun rv h2 => rv = none → R none h2))) else R none g2) := by
            rw [if_neg (by rw [no _ (by omega), a1]; exact hf0)]
            exact ⟨r2.tag, fin⟩
          rw [ev, v0, ab_1 (by omega)]
          have q1 : i + 1 < 2000 → Wp m_Reader_readTown 45 [some (xR (x + 4)), some (xI (0 : Int)), some (xI ((i + 1 : Nat) : Int))] [] g2 d mc ms R := by
            intro i3
            apply f_Reader_readTown_45
            rw [if_pos (by omega), if_pos rfl]; exact bad
          have q2 : 2000 ≤ i + 1 → Wp m_Reader_readTown 45 [some (xR (x + 4)), some (xI (0 : Int)), some (xI ((i + 1 : Nat) : Int))] [] g2 d mc ms R := by
            intro i3
            apply f_Reader_readTown_45
            rw [if_neg (by omega)]; exact bad
          exact (Nat.lt_or_ge (i + 1) 2000).elim q1 q2
        | inr r =>
          obtain ⟨e', D', T', G'⟩ := r
          rw [q] at ou eP
          obtain ⟨v0, e1, e2, k3, c1⟩ := ou
          obtain ⟨⟨o1, o2, o3, o4⟩, o5, o6, _⟩ := pStm_ok he hV hz hT hG q
          refine ⟨⟨by omega, c1.1.tag⟩, sp_stpG c1 (Or.inr (Or.inr k3)) (by omega) (fun g2 f2 c2 _ => ?_)⟩
          rw [ev, v0, ab_1 (by omega)]
          rw [e2] at c2
          exact ih e' (i + 1) D' T' G' g2 (by omega) (by omega) o2 o5 o3 o4 (F1.tr f2) c2 eP
    have part2 : 2000 ≤ i → Wp m_Reader_readTown 45 [some (xR (x + 4)), some (xI (1 : Int)), some (xI (i : Int))] [] g d mc ms R := by
      intro i2
      apply f_Reader_readTown_45
      rw [if_neg (by omega)]
      refine good ?_
      rw [show e = n by omega]; exact tR_n
    exact (Nat.lt_or_ge i 2000).elim part1 part2
theorem sp_readTown {h : Hp} {x : Nat} {b : Nat → Nat} {n : Nat} (r : rd2 h x) (t : TPc h x b n) (a : townAt h (x + 5)) {d mc ms : Nat} {R : PR} (hd : 6 ≤ d) {o1 o2 : Option AV} (H : ∀ h', FrP (Scr2 x) h h' → OUTR h' x b n (pTown b n) → R none h') : Wp m_Reader_readTown 0 [some (xR (x + 4)), o1, o2] [] h d mc ms R := by
  have st : ∀ {g g' : Hp} {p : Nat} {v : Int}, FrP (Scr2 x) h g → Scr2 x (x + 4) p → g' = hpU g (x + 4) p v → FrP (Scr2 x) h g' := fun f z e => by subst e; exact f.tr (FrP.up z)
  apply f_Reader_readTown_0
  rw [r.draft_n]
  refine ⟨r.tag, ⟨by omega, a.tag⟩, sp_Tclear a (by omega) (fun g0 f0 t0 _ => ?_)⟩
  have s0 := SD_2 f0
  refine ⟨(r.f2 s0).tag, fun u1 i1 => ?_⟩
  have s1 := st s0 (Or.inl ⟨rfl, by omega⟩) i1
  refine ⟨(r.f2 s1).tag, fun u2 i2 => ?_⟩
  have s2 := st s1 (Or.inl ⟨rfl, by omega⟩) i2
  refine ⟨(r.f2 s2).tag, fun u3 i3 => ?_⟩
  have s3 := st s2 (Or.inl ⟨rfl, by omega⟩) i3
  refine ⟨(r.f2 s3).tag, fun u4 i4 => ?_⟩
  have s4 := st s3 (Or.inl ⟨rfl, by omega⟩) i4
  refine ⟨(r.f2 s4).tag, fun u5 i5 => ?_⟩
  have s5 := st s4 (Or.inl ⟨rfl, by omega⟩) i5
  refine ⟨(r.f2 s5).tag, fun u6 i6 => ?_⟩
  have s6 := st s5 (Or.inl ⟨rfl, by omega⟩) i6
  have vals : hpC u6 (x + 4) 1 = 0 ∧ hpC u6 (x + 4) 2 = -1 ∧ hpC u6 (x + 4) 9 = 0 ∧ hpC u6 (x + 4) 4 = 0 ∧ hpC u6 (x + 4) 5 = 0 ∧ hpC u6 (x + 4) 6 = 0 ∧ (∀ q p, q ≠ x + 4 → hpC u6 q p = hpC g0 q p) ∧ hpT u6 = hpT g0 := by
    subst i6; subst i5; subst i4; subst i3; subst i2; subst i1
    refine ⟨?_, ?_, ?_, ?_, ?_, ?_, fun q p hq => ?_, ?_⟩
    · simp (disch := decide) only [hpC_o2, hpC_same]
    · simp (disch := decide) only [hpC_o2, hpC_same]
    · simp (disch := decide) only [hpC_o2, hpC_same]
    · simp (disch := decide) only [hpC_o2, hpC_same]
    · simp (disch := decide) only [hpC_o2, hpC_same]
    · simp (disch := decide) only [hpC_o2, hpC_same]
    · rw [hpC_o1 hq, hpC_o1 hq, hpC_o1 hq, hpC_o1 hq, hpC_o1 hq, hpC_o1 hq]
    · rfl
  clear i1 i2 i3 i4 i5 i6
  obtain ⟨q1, q2, q9, q4, q5, q6, qo, qT⟩ := vals
  have r6 := r.f2 s6
  have t6 := t.f2 s6
  have tr6 : TR0 u6 (x + 5) wE := t0.eq (fun q h1 h2 => ⟨by rw [qT], fun p => qo q p (by omega)⟩)
  refine ⟨⟨by omega, r6.tag⟩, sp_step (s0 := 0) (z0 := 0) r6 t6 q4 q5 q6 (by omega) (by omega) (fun g f k _ => ?_)⟩
  have no : ∀ q p, ¬ (q = x + 4 ∧ 4 ≤ p ∧ p ≤ 8) → hpC g q p = hpC u6 q p := f.2.2
  have lg0 : lgT b n 0 = false := by unfold lgT; simp
  have fg := s6.tr (Srd_2 f)
  have trg : TR0 g (x + 5) wE := tr6.eq (f.eqC (fun q p h1 h2 z => by unfold Srd at z; omega))
  refine sp_rt45 (P := pTown b n) hd H (n + 1) 0 0 wE 0 0 g (by omega) (by omega) wE_V wE_Dz (by decide) (by decide) fg ⟨⟨r.f2 fg, t.f2 fg, ?_, by omega, trg.1⟩, trg, ⟨by rw [no _ _ (by omega)]; exact q9, by rw [no _ _ (by omega)]; exact q1, by rw [no _ _ (by omega)]; exact q2⟩, fun k hk => ?_, ?_⟩ rfl
  · rw [lg0]
    rw [decide_eq_false (by decide)] at k
    exact k
  · rw [show wE 4 = 0 from by decide] at hk; omega
  · rw [show wE 4 = 0 from by decide]; rfl
def Stn (x : Nat) : Nat → Nat → Prop := fun q p => Scr2 x q p ∨ (q = x + 1 ∧ p = 1) ∨ (q = x ∧ (p = 9 ∨ p = 10))
theorem Stn_no {x q p : Nat} (h : q < x ∨ (q = x ∧ p ≠ 9 ∧ p ≠ 10) ∨ (q = x + 1 ∧ p ≠ 1) ∨ q = x + 2 ∨ q = x + 3 ∨ x + 28 ≤ q) : ¬ Stn x q p := by unfold Stn Scr2 SD; omega
theorem CS.tn {h : Hp} {x : Nat} {w : Nat → Int} {b : Nat → Nat} {n : Nat} {K : List Nat} {A : Nat → Nat} {nx cnt : Nat} {U : Nat → Nat → Int} {ik : Nat → Bool} {iw : Nat → Nat → Int} (c : CS h x w b n K A nx cnt U ik iw) {h' : Hp} (f : FrP (Stn x) h h') (rd : rdAt h' x) (h1 : hpC h' (x + 1) 1 = 0) : CS h' x w b 0 K A nx cnt U ik iw ∧ FrC h h' x := by
  obtain ⟨c1, c2, c3, c4, c5, c6, c7, c8, c9, c10, c11⟩ := c
  have no : ∀ q p, ¬ Stn x q p → hpC h' q p = hpC h q p := f.2.2
  refine ⟨⟨c1.fr f (fun p hp => Stn_no (by omega)), ⟨c2.1.fr f.2.1 (fun r p hr => no _ _ (Stn_no (by omega))), h1, by omega, fun i hi => by omega⟩, rd, ⟨by rw [f.2.1]; exact c4.1, by rw [no _ _ (Stn_no (by omega))]; exact c4.2.1, by rw [f.2.1]; exact c4.2.2.1, c4.2.2.2⟩, c5.eq (f.eqC (fun q p h1 h2 => Stn_no (by omega))), c6.eq (f.eqC (fun q p h1 h2 => Stn_no (by omega))), c7.eq (f.eqC (fun q p h1 h2 => Stn_no (by omega))), c8.fr (f.eqC (fun q p h1 h2 => Stn_no (by omega))) ⟨by rw [f.1]; exact Nat.le_refl _, fun q h1 h2 => ⟨by rw [f.2.1], fun p => no q p (Stn_no (by omega))⟩⟩, by rw [f.2.1]; exact c9, by unfold heC; rw [no _ _ (Stn_no (by omega))]; exact c10, by rw [f.1]; exact c11⟩, by rw [f.1]; exact Nat.le_refl _, fun q hq => ⟨by rw [f.2.1], fun p => no q p (Stn_no (by omega))⟩⟩
theorem sp_ctown {h : Hp} {x : Nat} {w : Nat → Int} {b : Nat → Nat} {n : Nat} {K : List Nat} {A : Nat → Nat} {nx cnt : Nat} {U : Nat → Nat → Int} {ik : Nat → Bool} {iw : Nat → Nat → Int} (c : CS h x w b n K A nx cnt U ik iw) (hV : V w) {d mc ms : Nat} {R : PR} (hd : 7 ≤ d) (H1 : ∀ f p, pTown b n = .inl (f, p) → ∀ h', CS h' x w b 0 K A nx cnt U ik iw → FrC h h' x → hpC h' x 9 = f → hpC h' x 10 = (p : Int) → KR h h' (x + 69) 1 → R (some (xI (-1))) h') (H2 : ∀ e D T G, pTown b n = .inr (e, D, T, G) → ∀ h', CS h' x (seW D) b 0 K A nx 0 U ik iw → FrC h h' x → hpC h' x 9 = 0 → hpC h' x 10 = -1 → KR h h' (x + 69) 5 → R (some (xI (D 7))) h') : Wp m_S_town 0 [some (xR x)] [] h d mc ms R := by
  have rd := c.2.2.1
  apply f_S_town_0
  rw [c.1.reader_n]
  refine ⟨c.1.tag, ⟨by omega, rd.1⟩, sp_readTown ⟨rd.1, rd.2.1, rd.2.2.1⟩ c.2.1 rd.2.2.2 (by omega) (fun g f ou _ => ?_)⟩
  have s0 : FrP (Stn x) h g := f.wk (fun q p z => Or.inl z)
  have A0 : ∀ {g : Hp}, FrP (Stn x) h g → sAt g x := fun f => c.1.fr f (fun p hp => Stn_no (by omega))
  have bs : rd2 g x ∧ TPc g x b n ∧ townAt g (x + 5) := by
    cases q : pTown b n with
    | inl r => rw [q] at ou; exact ou.1
    | inr r => rw [q] at ou; exact ou.1
  have st : ∀ {g g' : Hp} {q p : Nat} {v : Int}, FrP (Stn x) h g → Stn x q p → g' = hpU g q p v → FrP (Stn x) h g' := fun f z e => by subst e; exact f.tr (FrP.up z)
  rw [(A0 s0).tape_n]
  refine ⟨(A0 s0).tag, bs.2.1.1.tag, fun u1 i1 => ?_⟩
  have s1 := st s0 (Or.inr (Or.inl ⟨rfl, rfl⟩)) i1
  have n1 : ∀ q p, ¬ (q = x + 1 ∧ p = 1) → hpC u1 q p = hpC g q p := fun q p hq => by subst i1; exact hpC_ne (by omega)
  have T1 : hpT u1 = hpT g := by subst i1; rfl
  have z1 : hpC u1 (x + 1) 1 = 0 := by subst i1; rw [hpC_same]
  clear i1
  rw [(A0 s1).reader_n]
  refine ⟨(A0 s1).tag, by rw [T1]; exact bs.1.1, (A0 s1).tag, fun u2 i2 => ?_⟩
  have s2 := st s1 (Or.inr (Or.inr ⟨rfl, Or.inl rfl⟩)) i2
  have n2 : ∀ q p, ¬ (q = x ∧ p = 9) → hpC u2 q p = hpC u1 q p := fun q p hq => by subst i2; exact hpC_ne (by omega)
  have T2 : hpT u2 = hpT g := by subst i2; exact T1
  have z2 : hpC u2 x 9 = hpC g (x + 4) 1 := by subst i2; rw [hpC_same, n1 _ _ (by omega)]
  clear i2
  rw [(A0 s2).reader_n]
  refine ⟨(A0 s2).tag, by rw [T2]; exact bs.1.1, (A0 s2).tag, fun u3 i3 => ?_⟩
  have s3 := st s2 (Or.inr (Or.inr ⟨rfl, Or.inr rfl⟩)) i3
  have n3 : ∀ q p, ¬ (q = x ∧ p = 10) → hpC u3 q p = hpC u2 q p := fun q p hq => by subst i3; exact hpC_ne (by omega)
  have T3 : hpT u3 = hpT g := by subst i3; exact T2
  have z3 : hpC u3 x 10 = hpC g (x + 4) 2 := by subst i3; rw [hpC_same, n2 _ _ (by omega), n1 _ _ (by omega)]
  clear i3
  have z9 : hpC u3 x 9 = hpC g (x + 4) 1 := by rw [n3 _ _ (by omega), z2]
  have no3 : ∀ q p, ¬ ((q = x ∧ (p = 9 ∨ p = 10)) ∨ (q = x + 1 ∧ p = 1)) → hpC u3 q p = hpC g q p := fun q p hq => by rw [n3 _ _ (by omega), n2 _ _ (by omega), n1 _ _ (by omega)]
  have e3 : eqC g u3 (x + 4) (x + 27) := fun q h1 h2 => ⟨by rw [T3], fun p => no3 q p (by omega)⟩
  have rd3 : rdAt u3 x := ⟨by rw [T3]; exact bs.1.1, by rw [no3 _ _ (by omega)]; exact bs.1.2.1, by rw [no3 _ _ (by omega)]; exact bs.1.2.2, bs.2.2.eq (e3.sub (by omega) (by omega))⟩
  obtain ⟨c3, fc3⟩ := c.tn s3 rd3 (by rw [n3 _ _ (by omega), n2 _ _ (by omega)]; exact z1)
  have k69 : ∀ p, hpC u3 (x + 69) p = hpC h (x + 69) p := fun p => s3.2.2 _ _ (Stn_no (by omega))
  refine ⟨(A0 s3).tag, ?_⟩
  cases q : pTown b n with
  | inl r =>
    obtain ⟨rf, rp⟩ := r
    rw [q] at ou
    obtain ⟨_, hf, a1, a2⟩ := ou
    rw [if_neg (by rw [z9, a1]; exact hf)]
    refine ⟨⟨by omega, (A0 s3).tag⟩, sp_refuse (i := 1) c3.1 c3.2.2.2.2.2.2.2.2.1 (by omega) (fun v ee => ?_)⟩
    have ev := xI_inj ee
    rw [ev]
    obtain ⟨c4, fc4⟩ := c3.rf 1 (ai_add (hpC u3 (x + 69) 1) 1)
    refine H1 rf rp q _ c4 (fc3.tr fc4) (by rw [hpC_o1 (by omega), z9]; exact a1) (by rw [hpC_o1 (by omega), z3]; exact a2) (fun i hi => ?_)
    by_cases e : i = 1
    · subst e; rw [if_pos rfl, hpC_same, k69]
    · rw [if_neg e, hpC_o2 e, k69]
  | inr r =>
    obtain ⟨e', D, T, G⟩ := r
    rw [q] at ou
    obtain ⟨_, t0, a1, a2⟩ := ou
    obtain ⟨⟨_, hVD, _, _⟩, _⟩ := pTown_ok q
    rw [if_pos (by rw [z9]; exact a1), (A0 s3).reader_n, rd3.2.1, Int.toNat_natCast]
    refine ⟨(A0 s3).tag, rd3.1, ⟨by omega, (A0 s3).tag⟩, sp_becomes c3 hV (t0.eq (e3.sub (by omega) (by omega))) (seW_V hVD) (by omega) (by omega) (fun g4 c4 fc4 ko _ => ?_)⟩
    have tr4 := c4.2.2.2.2.2.2.1
    rw [c4.1.now_n, tr4.1.1.streets_n, tr4.1.2.2.1.1, seW_lo (by omega)]
    exact ⟨c4.1.tag, tr4.1.1.tag, tr4.1.1.streets_a.tag, H2 _ _ _ _ q g4 c4 (fc3.tr fc4) (by rw [ko.1, z9]; exact a1) (by rw [ko.2.1, z3]; exact a2) (fun i hi => by
      have := ko.2.2 i hi
      rw [if_neg (by omega)] at this
      rw [if_neg (by omega), this, k69])⟩
