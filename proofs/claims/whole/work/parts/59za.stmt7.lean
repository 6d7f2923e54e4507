/-! ===== statements: pool ===== -/
theorem tS_idem (b : Nat → Nat) (n e : Nat) : tS b n (tS b n e) = tS b n e := by
  have := (tS_spec b n e).2.2
  show ruN (blP b n) n (tS b n e) = tS b n e
  rw [ruN_step blP_lt, if_neg this]
theorem tR_idem (b : Nat → Nat) (n e : Nat) : tR b n (tS b n e) = tR b n e := by unfold tR; rw [tS_idem]
theorem tE_idem (b : Nat → Nat) (n e : Nat) : tE b n (tS b n e) = tE b n e := by unfold tE; rw [tR_idem, tS_idem]
theorem tL_idem (b : Nat → Nat) (n e : Nat) : tL b n (tS b n e) = tL b n e := by unfold tL; rw [tE_idem, tS_idem]
theorem wS_idem (b : Nat → Nat) (n e : Nat) : wS b n (tS b n e) = wS b n e := by unfold wS; rw [tL_idem]
theorem tV_idem (b : Nat → Nat) (n e : Nat) : tV b n (tS b n e) = tV b n e := by unfold tV; rw [tE_idem, tS_idem]
theorem kS_idem (b : Nat → Nat) (n e : Nat) : kS b n (tS b n e) = kS b n e := by
  by_cases c : tS b n e = e
  · rw [c]
  · have S := tS_spec b n e
    have bl := of_decide_eq_true (S.2.1 (tS b n e - 1) (by omega) (by omega))
    have lg : lgT b n (tS b n e) ≠ true := by
      unfold lgT alP dgP
      simp
      omega
    unfold kS tK
    rw [tR_idem, if_neg (fun z => lg z.2.1), if_neg (fun z => c z.2.2)]
theorem nmS_idem (b : Nat → Nat) (n e : Nat) : nmS b n (tS b n e) ↔ nmS b n e := by unfold nmS; rw [kS_idem, tE_idem, tS_idem, tL_idem]
def npW (D v : Nat → Int) : Nat → Int := upD (ptW D (60 + 10 * (D 6).toNat) v) 6 (D 6 + 1)
theorem npW_V {D : Nat → Int} (hV : V D) {v : Nat → Int} (hv : okName v 0) (h6 : D 6 < 12) : V (npW D v) := by
  obtain ⟨⟨v0, v1, v2, v3, v4, v5, v6, v7, v8, v9⟩, w1, w2, w3, w4, w5, w6, w7⟩ := hV
  have L : ∀ p, p ≠ 6 → (p < 60 + 10 * (D 6).toNat ∨ 70 + 10 * (D 6).toNat ≤ p) → npW D v p = D p := fun p h1 h2 => by unfold npW; rw [upD_o h1, ptW_o (by omega)]
  have e6 : npW D v 6 = D 6 + 1 := upD_s _ _ _
  have N : ∀ i, i < 10 → npW D v (60 + 10 * (D 6).toNat + i) = v i := fun i hi => by unfold npW; rw [upD_o (by omega), ptW_n hi]
  generalize npW D v = u at *
  refine ⟨⟨by rw [L 0 (by omega) (by omega)]; exact v0, by rw [L 1 (by omega) (by omega)]; exact v1, by rw [L 2 (by omega) (by omega)]; exact v2, by rw [L 3 (by omega) (by omega)]; exact v3, by rw [L 4 (by omega) (by omega)]; exact v4, by rw [L 5 (by omega) (by omega)]; exact v5, by rw [e6]; omega, by rw [L 7 (by omega) (by omega)]; exact v7, by rw [L 8 (by omega) (by omega)]; exact v8, by rw [L 9 (by omega) (by omega)]; exact v9⟩, fun k hk => by rw [L _ (by omega) (by omega)]; exact w1 k hk, fun k hk i hi => ?_, fun k hk => ?_, fun k hk => ?_, fun k hk => ?_, fun s hs => ?_, fun k hk => ?_⟩
  · rw [L 5 (by omega) (by omega)] at hk
    rw [L _ (by omega) (by omega)]; exact w2 k hk i hi
  · rw [e6] at hk
    by_cases c : (k : Int) < D 6
    · exact okN_ext (fun i hi => (L _ (by omega) (by omega)).symm) (w3 k c)
    · rw [show k = (D 6).toNat by omega]
      exact okN_ext (fun i hi => by rw [Nat.zero_add, N i hi]) hv
  · rw [L 7 (by omega) (by omega)] at hk
    exact okN_ext (fun i hi => (L _ (by omega) (by omega)).symm) (w4 k hk)
  · rw [L 8 (by omega) (by omega)] at hk
    exact okN_ext (fun i hi => (L _ (by omega) (by omega)).symm) (w5 k hk)
  · obtain ⟨z1, z2, z3, z4⟩ := w6 s hs
    rw [L (280 + s) (by omega) (by omega), L 7 (by omega) (by omega)]
    refine ⟨z1, z2, fun i hi => ?_, fun i j hi hj => ?_⟩
    · rw [L _ (by omega) (by omega), L _ (by omega) (by omega), L _ (by omega) (by omega)]; exact z3 i hi
    · rw [L _ (by omega) (by omega), L _ (by omega) (by omega), L _ (by omega) (by omega), L _ (by omega) (by omega)]; exact z4 i j hi hj
  · rw [L 8 (by omega) (by omega)] at hk
    rw [L (950 + k) (by omega) (by omega), L (980 + k) (by omega) (by omega), L 7 (by omega) (by omega)]; exact w7 k hk
def pPoF (b : Nat → Nat) (n : Nat) (T G : Nat) : Nat → Nat → (Nat → Int) → PO
  | 0, e, _ => .inl (4, tS b n e)
  | f + 1, e, D => if kS b n e = 3 then .inr (tS b n e, D, T, G) else if nmS b n e then (if toS D (wS b n e) then .inl (3, tS b n e) else if D 6 = 12 then .inl (4, tS b n e) else pPoF b n T G f (tE b n e) (npW D (tV b n e))) else .inl (1, tS b n e)
def pPoo (b : Nat → Nat) (n e : Nat) (D : Nat → Int) (T G : Nat) : PO := if tR b n (tE b n e) = 1 then pPoF b n T G 13 (tE b n e) D else .inl (1, tS b n (tE b n e))
theorem sp_rpoo {h : Hp} {m : Nat} {b : Nat → Nat} {n : Nat} (c : MB h m b n) {e : Nat} (he : e ≤ n) {D : Nat → Int} (hV : V D) {T G : Nat} (hT : T < 65536) (s9 : hpC h m 9 = (tE b n e : Int)) (s10 : hpC h m 10 = (tS b n e : Int)) (s11 : hpC h m 11 = 0) (s14 : hpC h m 14 = (T : Int) ∧ hpC h m 12 = -1) (s15 : hpC h m 15 = (G : Int)) (sD : DR h m D) {d mc ms : Nat} {R : PR} (hd : 5 ≤ d) {o1 : Option AV} (H : ∀ h', FrP (Smr m) h h' → OUT h' m (pPoo b n e D T G) → R none h') : Wp m_M_readsPool 0 [some (xR m), o1] [] h d mc ms R := by
  have E1 := tE_le (b := b) he
  have hn := c.2.1.2.1
  have n9 : ∀ {g g' : Hp}, FrP (fun q p => q = m ∧ p = 9) g g' → FrP (Smr m) g g' := fun f => f.wk (fun q p z => Or.inl ⟨z.1, Or.inl z.2⟩)
  -- failed
  have no25 : ∀ (g : Hp) (f : Int) (p : Nat) (o1 : Option AV), FrP (Smr m) h g → hpC g m 11 = f → f ≠ 0 → hpC g m 12 = (p : Int) → pPoo b n e D T G = .inl (f, p) → Wp m_M_readsPool 25 [some (xR m), o1] [] g d mc ms R := fun g f p o1 fr a1 hf a2 eP => by
    have cg := c.fr fr
    apply f_M_readsPool_25
    refine ⟨⟨by omega, cg.tag⟩, sp_goesWell cg a1 (fun v ee => ?_)⟩
    have ev := xI_inj ee
    rw [if_neg hf] at ev
    rw [if_pos ev]
    exact H g fr (by rw [eP]; exact ⟨a1, hf, a2⟩)
  have no76 : ∀ (g : Hp) (f : Int) (p : Nat) (v : Int), FrP (Smr m) h g → hpC g m 11 = f → f ≠ 0 → hpC g m 12 = (p : Int) → pPoo b n e D T G = .inl (f, p) → Wp m_M_readsPool 76 [some (xR m), some (xI v)] [] g d mc ms R := fun g f p v fr a1 hf a2 eP => by
    have cg := c.fr fr
    apply f_M_readsPool_76
    refine ⟨⟨by omega, cg.tag⟩, sp_goesWell cg a1 (fun v ee => ?_)⟩
    have ev := xI_inj ee
    rw [if_neg hf] at ev
    rw [if_pos ev]
    exact H g fr (by rw [eP]; exact ⟨a1, hf, a2⟩)
  have L : ∀ (f q : Nat) (u : Nat → Int) (g : Hp) (o1 : Option AV), 12 - u 6 < (f : Int) → q ≤ n → V u → FrP (Smr m) h g → MG g m q u T G → pPoo b n e D T G = pPoF b n T G f q u → Wp m_M_readsPool 25 [some (xR m), o1] [] g d mc ms R := by
    intro f
    induction f with
    | zero =>
      intro q u g o1 hf hq vu fr mg eP
      have := vu.1.2.2.2.2.2.2.1
      omega
    | succ f ih =>
      intro q u g o1 hf hq vu fr ⟨k9, k11, k14, k15, kD⟩ eP
      have cg := c.fr fr
      have u6 := vu.1.2.2.2.2.2.2.1
      have S1 := (tS_spec b n q).1.2 hq
      simp only [pPoF] at eP
      apply f_M_readsPool_25
      refine ⟨⟨by omega, cg.tag⟩, sp_goesWell cg k11 (fun v ee => ?_)⟩
      have ev := xI_inj ee
      clear ee
      rw [if_pos rfl] at ev
      rw [if_neg (by omega)]
      refine ⟨⟨by omega, cg.tag⟩, sp_here cg k9 hq (by omega) (fun g1 f1 q9 v2 ee => ?_)⟩
      have ev2 := xI_inj ee
      clear ee
      have F1 := fr.tr (n9 f1)
      have c1 := c.fr F1
      have kp : ∀ p, p ≠ 9 → hpC g1 m p = hpC g m p := fun p hp => f1.2.2 _ _ (by omega)
      have D1 : DR g1 m u := kD.fr f1 (fun p z => by omega)
      have key : kS b n q = 3 ↔ v2 = 59 := by
        rw [kS_3, ev2]
        unfold tR
        rw [kdT_stop]
        unfold bvT
        by_cases z : tS b n q < n
        · rw [if_pos (by omega), Int.toNat_natCast]; omega
        · rw [if_neg (by omega)]; omega
      by_cases z : v2 = 59
      · rw [if_pos z]
        rw [if_pos (key.2 z)] at eP
        exact H g1 F1 (by rw [eP]; exact ⟨q9, by rw [kp _ (by omega)]; exact k11, ⟨by rw [kp _ (by omega)]; exact k14.1, by rw [kp _ (by omega)]; exact k14.2⟩, by rw [kp _ (by omega)]; exact k15, D1⟩)
      · rw [if_neg z]
        rw [if_neg (fun y => z (key.1 y))] at eP
        have g111 : hpC g1 m 11 = 0 := by rw [kp _ (by omega)]; exact k11
        have t16 : Int.toNat (1016 : Int) = 1010 + 6 := rfl
        refine ⟨⟨by omega, c1.tag⟩, sp_mfresh c1 g111 q9 S1 D1 vu (by omega) (fun nS nt g2 f2 a9 a10 _ => ?_) (fun nS nt g2 f2 a1 a2 _ => ?_) (fun nS g2 f2 a1 a2 _ => ?_)⟩
        · rw [nmS_idem] at nS
          rw [wS_idem] at nt
          rw [tE_idem] at a9
          rw [tS_idem] at a10
          rw [if_pos nS, if_neg nt] at eP
          have F2 := F1.tr (F910_mr f2)
          have c2 := c.fr F2
          have g211 : hpC g2 m 11 = 0 := by rw [FrP.c910 f2 (by omega)]; exact g111
          have D2 := D1.fr f2 F910_row
          rw [c2.1.row_n, c2.1.row_t, t16, D2 6 (by omega)]
          refine ⟨c2.tag, ⟨rfl, by decide, by decide⟩, ⟨by omega, c2.tag⟩, sp_goesWell c2 g211 (fun v ee => ?_)⟩
          have ev := xI_inj ee
          clear ee
          rw [if_pos rfl] at ev
          rw [if_neg (by omega)]
          by_cases y : u 6 = 12
          · rw [if_pos y]
            rw [if_pos y] at eP
            refine ⟨c2.tag, ⟨by omega, c2.tag⟩, sp_faultsG c2 g211 (fun g3 f3 a1 a2 _ _ => ?_)⟩
            exact no76 g3 4 _ _ (F2.tr f3) a1 (by decide) (by rw [a2]; exact a10) eP
          · rw [if_neg y]
            rw [if_neg y] at eP
            obtain ⟨k, hk⟩ : ∃ k : Nat, u 6 = (k : Int) := ⟨(u 6).toNat, by omega⟩
            have nk : (u 6).toNat = k := by omega
            apply f_M_readsPool_76
            refine ⟨⟨by omega, c2.tag⟩, sp_goesWell c2 g211 (fun v ee => ?_)⟩
            have ev := xI_inj ee
            clear ee
            rw [if_pos rfl] at ev
            rw [if_neg (by omega), hk, am_10 (by omega), show ai_add (1070 : Int) ((10 * k : Nat) : Int) = ((1010 + (60 + 10 * k) : Nat) : Int) from by rw [ai_add_eq (by omega) (by omega)]; omega]
            refine ⟨⟨by omega, c2.tag⟩, sp_mputs c2 hq nS a9 a10 D2 (by omega) (fun g3 f3 d3 _ => ?_)⟩
            have F3 : FrP (Smr m) h g3 := F2.tr (f3.wk (fun q p z => Or.inr z))
            have c3 := c.fr F3
            have x6 : hpC g3 (m + 1) 1016 = (k : Int) := by
              have := d3 6 (by omega)
              rw [ptW_o (by omega), hk] at this
              exact this
            rw [c3.1.row_n, c3.1.row_t, show Int.toNat (1016 : Int) = 1016 from rfl, x6, ab_1 (by omega)]
            refine ⟨c3.tag, ⟨rfl, by decide, by decide⟩, ⟨rfl, by decide, by decide⟩, fun g4 e4 => ?_⟩
            have f4 : FrP (Smr m) g3 g4 := by subst e4; exact FrP.up (Or.inr ⟨rfl, by omega, by omega⟩)
            have keep : ∀ q, q ≠ 9 → q ≠ 10 → hpC g4 m q = hpC g m q := fun q h1 h2 => by subst e4; rw [hpC_o1 (by omega), f3.2.2 _ _ (by omega), FrP.c910 f2 (by omega), kp _ h1]
            have g49 : hpC g4 m 9 = (tE b n q : Int) := by subst e4; rw [hpC_o1 (by omega), f3.2.2 _ _ (by omega)]; exact a9
            have D4 : DR g4 m (npW u (tV b n q)) := fun p hp => by
              unfold npW
              rw [nk]
              subst e4
              by_cases q : p = 6
              · rw [q, hpC_same, upD_s, hk]; omega
              · rw [hpC_o2 (by omega), upD_o q]; exact d3 p hp
            have n6 : npW u (tV b n q) 6 = u 6 + 1 := upD_s _ _ _
            exact ih (tE b n q) (npW u (tV b n q)) g4 _ (by rw [n6]; omega) (tE_le hq) (npW_V vu (tV_ok hq nS).1 (by omega)) (F3.tr f4) ⟨g49, by rw [keep _ (by omega) (by omega)]; exact k11, ⟨by rw [keep _ (by omega) (by omega)]; exact k14.1, by rw [keep _ (by omega) (by omega)]; exact k14.2⟩, by rw [keep _ (by omega) (by omega)]; exact k15, D4⟩ eP
        · rw [nmS_idem] at nS
          rw [wS_idem] at nt
          rw [tS_idem] at a2
          rw [if_pos nS, if_pos nt] at eP
          have F2 := F1.tr f2
          have c2 := c.fr F2
          rw [c2.1.row_n, c2.1.row_t]
          refine ⟨c2.tag, ⟨rfl, by decide, by decide⟩, ⟨by omega, c2.tag⟩, sp_goesWell c2 a1 (fun v ee => ?_)⟩
          have ev := xI_inj ee
          rw [if_neg (by decide)] at ev
          rw [if_pos ev]
          exact no76 g2 3 _ _ F2 a1 (by decide) a2 eP
        · rw [nmS_idem] at nS
          rw [tS_idem] at a2
          rw [if_neg nS] at eP
          have F2 := F1.tr f2
          have c2 := c.fr F2
          rw [c2.1.row_n, c2.1.row_t]
          refine ⟨c2.tag, ⟨rfl, by decide, by decide⟩, ⟨by omega, c2.tag⟩, sp_goesWell c2 a1 (fun v ee => ?_)⟩
          have ev := xI_inj ee
          rw [if_neg (by decide)] at ev
          rw [if_pos ev]
          exact no76 g2 1 _ _ F2 a1 (by decide) a2 eP
  have S1 := (tS_spec b n (tE b n e)).1.2 E1
  have v6 := hV.1.2.2.2.2.2.2.1
  apply f_M_readsPool_0
  refine ⟨⟨by omega, c.tag⟩, sp_here c s9 E1 (by omega) (fun g f q9 v ee => ?_)⟩
  clear ee
  have F := n9 f
  have cg := c.fr F
  have kp : ∀ p, p ≠ 9 → hpC g m p = hpC h m p := fun p hp => f.2.2 _ _ (by omega)
  have gD : DR g m D := sD.fr f (fun p z => by omega)
  have g11 : hpC g m 11 = 0 := by rw [kp _ (by omega)]; exact s11
  rw [q9]
  refine ⟨cg.tag, ⟨by omega, cg.tag⟩, sp_isSmall cg.1 cg.2.1 (by omega) (fun sm v ee => ?_) (fun sm v ee => ?_)⟩
  · cases ee
    rw [if_neg (by decide)]
    have hR : tR b n (tE b n e) = 1 := kdT_al.2 (smT_al.1 sm)
    have eP : pPoo b n e D T G = pPoF b n T G 13 (tS b n (tE b n e)) D := by
      unfold pPoo
      rw [if_pos hR]
      simp only [pPoF, kS_idem, tS_idem, tE_idem, wS_idem, tV_idem, nmS_idem]
    exact L 13 (tS b n (tE b n e)) D g _ (by omega) S1 hV F ⟨q9, g11, ⟨by rw [kp _ (by omega)]; exact s14.1, by rw [kp _ (by omega)]; exact s14.2⟩, by rw [kp _ (by omega)]; exact s15, gD⟩ eP
  · cases ee
    rw [if_pos rfl, q9]
    refine ⟨cg.tag, ⟨by omega, cg.tag⟩, sp_faultsG cg g11 (fun g2 f2 a1 a2 _ _ => ?_)⟩
    exact no25 g2 1 _ _ (F.tr f2) a1 (by decide) a2 (by unfold pPoo; rw [if_neg (show ¬ tR b n (tE b n e) = 1 from fun z => sm (smT_al.2 (kdT_al.1 z)))])
