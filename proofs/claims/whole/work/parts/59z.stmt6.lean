/-! ===== statements: alias ===== -/
def nalW (D v : Nat → Int) (s : Int) : Nat → Int := upD (upD (ptW D (650 + 10 * (D 8).toNat) v) (950 + (D 8).toNat) s) 8 (D 8 + 1)
theorem nalW_V {D : Nat → Int} (hV : V D) {v : Nat → Int} (hv : okName v 0) (h8 : D 8 < 30) {s : Int} (hs : 0 ≤ s ∧ s < D 7) (hz : D (980 + (D 8).toNat) = 0) : V (nalW D v s) := by
  obtain ⟨⟨v0, v1, v2, v3, v4, v5, v6, v7, v8, v9⟩, w1, w2, w3, w4, w5, w6, w7⟩ := hV
  have L : ∀ p, p ≠ 8 → p ≠ 950 + (D 8).toNat → (p < 650 + 10 * (D 8).toNat ∨ 660 + 10 * (D 8).toNat ≤ p) → nalW D v s p = D p := fun p h1 h2 h3 => by unfold nalW; rw [upD_o h1, upD_o h2, ptW_o (by omega)]
  have e8 : nalW D v s 8 = D 8 + 1 := upD_s _ _ _
  have e9 : nalW D v s (950 + (D 8).toNat) = s := by unfold nalW; rw [upD_o (by omega), upD_s]
  have N : ∀ i, i < 10 → nalW D v s (650 + 10 * (D 8).toNat + i) = v i := fun i hi => by unfold nalW; rw [upD_o (by omega), upD_o (by omega), ptW_n hi]
  generalize nalW D v s = u at *
  refine ⟨⟨by rw [L 0 (by omega) (by omega) (by omega)]; exact v0, by rw [L 1 (by omega) (by omega) (by omega)]; exact v1, by rw [L 2 (by omega) (by omega) (by omega)]; exact v2, by rw [L 3 (by omega) (by omega) (by omega)]; exact v3, by rw [L 4 (by omega) (by omega) (by omega)]; exact v4, by rw [L 5 (by omega) (by omega) (by omega)]; exact v5, by rw [L 6 (by omega) (by omega) (by omega)]; exact v6, by rw [L 7 (by omega) (by omega) (by omega)]; exact v7, by rw [e8]; omega, by rw [L 9 (by omega) (by omega) (by omega)]; exact v9⟩, fun k hk => by rw [L _ (by omega) (by omega) (by omega)]; exact w1 k hk, fun k hk i hi => ?_, fun k hk => ?_, fun k hk => ?_, fun k hk => ?_, fun s' hs' => ?_, fun k hk => ?_⟩
  · rw [L 5 (by omega) (by omega) (by omega)] at hk
    rw [L _ (by omega) (by omega) (by omega)]; exact w2 k hk i hi
  · rw [L 6 (by omega) (by omega) (by omega)] at hk
    exact okN_ext (fun i hi => (L _ (by omega) (by omega) (by omega)).symm) (w3 k hk)
  · rw [L 7 (by omega) (by omega) (by omega)] at hk
    exact okN_ext (fun i hi => (L _ (by omega) (by omega) (by omega)).symm) (w4 k hk)
  · rw [e8] at hk
    by_cases c : (k : Int) < D 8
    · exact okN_ext (fun i hi => (L _ (by omega) (by omega) (by omega)).symm) (w5 k c)
    · rw [show k = (D 8).toNat by omega]
      exact okN_ext (fun i hi => by rw [Nat.zero_add, N i hi]) hv
  · obtain ⟨z1, z2, z3, z4⟩ := w6 s' hs'
    rw [L (280 + s') (by omega) (by omega) (by omega), L 7 (by omega) (by omega) (by omega)]
    refine ⟨z1, z2, fun i hi => ?_, fun i j hi hj => ?_⟩
    · rw [L _ (by omega) (by omega) (by omega), L _ (by omega) (by omega) (by omega), L _ (by omega) (by omega) (by omega)]; exact z3 i hi
    · rw [L _ (by omega) (by omega) (by omega), L _ (by omega) (by omega) (by omega), L _ (by omega) (by omega) (by omega), L _ (by omega) (by omega) (by omega)]; exact z4 i j hi hj
  · rw [e8] at hk
    rw [L 7 (by omega) (by omega) (by omega)]
    by_cases c : (k : Int) < D 8
    · rw [L (950 + k) (by omega) (by omega) (by omega), L (980 + k) (by omega) (by omega) (by omega)]; exact w7 k c
    · rw [show k = (D 8).toNat by omega, e9, L (980 + (D 8).toNat) (by omega) (by omega) (by omega), hz]; omega
def pAl3 (b : Nat → Nat) (n e1 e : Nat) (D : Nat → Int) (T G : Nat) : PO :=
  if nmS b n e then (if plW D 180 (D 7) (wS b n e) = -1 then .inl (3, tS b n e) else .inr (tE b n e, nalW D (tV b n e1) (plW D 180 (D 7) (wS b n e)), T, G)) else .inl (1, tS b n e)
def pAl2 (b : Nat → Nat) (n e1 e : Nat) (D : Nat → Int) (T G : Nat) : PO :=
  if oS b n e = 11 then pAl3 b n e1 (tE b n e) D T G else .inl (1, tS b n e)
def pAli (b : Nat → Nat) (n e : Nat) (D : Nat → Int) (T G : Nat) : PO :=
  if D 8 = 12 then .inl (4, tS b n e)
  else if nmS b n (tE b n e) then (if toS D (wS b n (tE b n e)) then .inl (3, tS b n (tE b n e)) else pAl2 b n (tE b n e) (tE b n (tE b n e)) D T G) else .inl (1, tS b n (tE b n e))
theorem pAli_ok {b : Nat → Nat} {n e e' T G T' G' : Nat} {D D' : Nat → Int} (he : e ≤ n) (hV : V D) (hz : ∀ j, j < 30 → D (980 + j) = 0) (h12 : D 8 ≤ 12) (hT : T < 65536) (hG : G < 67108864) (h : pAli b n e D T G = .inr (e', D', T', G')) : OKS n e' D' T' G' ∧ tE b n e ≤ e' := by
  have E1 := tE_le (b := b) he
  have v8 := hV.1.2.2.2.2.2.2.2.2.1
  unfold pAli at h
  split at h
  · cases h
  · rename_i c0
    split at h
    · rename_i c1
      split at h
      · cases h
      · have E2 := tE_spec b n (tE b n e) E1
        have S2 := (tS_spec b n (tE b n e)).1.1
        have tv := (tV_ok E1 c1).1
        unfold pAl2 at h
        split at h
        · have E3 := tE_spec b n (tE b n (tE b n e)) E2.2.1
          have S3 := (tS_spec b n (tE b n (tE b n e))).1.1
          unfold pAl3 at h
          split at h
          · split at h
            · cases h
            · rename_i c5
              cases h
              obtain ⟨s, hs1, hs2, _⟩ := plW_bd c5
              have E4 := tE_spec b n (tE b n (tE b n (tE b n e))) E3.2.1
              have S4 := (tS_spec b n (tE b n (tE b n (tE b n e)))).1.1
              exact ⟨⟨E4.2.1, nalW_V hV tv (by omega) (by rw [hs1]; omega) (hz _ (by omega)), hT, hG⟩, by omega⟩
          · cases h
        · cases h
    · cases h
theorem sp_rali {h : Hp} {m : Nat} {b : Nat → Nat} {n : Nat} (c : MB h m b n) {e : Nat} (he : e ≤ n) {D : Nat → Int} (hV : V D) {T G : Nat} (hT : T < 65536) (s9 : hpC h m 9 = (tE b n e : Int)) (s10 : hpC h m 10 = (tS b n e : Int)) (s11 : hpC h m 11 = 0) (s14 : hpC h m 14 = (T : Int) ∧ hpC h m 12 = -1) (s15 : hpC h m 15 = (G : Int)) (sD : DR h m D) (h12 : D 8 ≤ 12) {d mc ms : Nat} {R : PR} (hd : 5 ≤ d) {o1 o2 o3 o4 o5 : Option AV} (H : ∀ h', FrP (Smr m) h h' → OUT h' m (pAli b n e D T G) → R none h') : Wp m_M_readsAlias 0 [some (xR m), o1, o2, o3, o4, o5] [] h d mc ms R := by
  have E1 := tE_le (b := b) he
  have v8 := hV.1.2.2.2.2.2.2.2.2.1
  have v7 := hV.1.2.2.2.2.2.2.2.1
  have hn := c.2.1.2.1
  have t18 : Int.toNat (1018 : Int) = 1010 + 8 := rfl
  -- failed: after fresh
  have gw : ∀ (g : Hp) (f : Int) (p : Nat), FrP (Smr m) h g → hpC g m 11 = f → f ≠ 0 → hpC g m 12 = (p : Int) → pAli b n e D T G = .inl (f, p) → ∀ (Q : Int → Hp → Prop), (1 ≤ d ∧ (hpT g m).1 = 12) ∧ Wp m_M_goesWell 0 [some (xR m)] [] g (d - 1) 0 0 (fun rv h2 => ∀ v2 : Int, rv = some (xI v2) → (if v2 = (0 : Int) then R none h2 else Q v2 h2)) := fun g f p fr a1 hf a2 eP Q => by
    have cg := c.fr fr
    refine ⟨⟨by omega, cg.tag⟩, sp_goesWell cg a1 (fun v ee => ?_)⟩
    have ev := xI_inj ee
    rw [if_neg hf] at ev
    rw [if_pos ev]
    exact H g fr (by rw [eP]; exact ⟨a1, hf, a2⟩)
  have st : ∀ (g : Hp) (f : Int) (p : Nat), FrP (Smr m) h g → hpC g m 11 = f → f ≠ 0 → hpC g m 12 = (p : Int) → pAli b n e D T G = .inl (f, p) → ∀ (Q : Int → Int → Hp → Prop), (1 ≤ d ∧ (hpT g m).1 = 12) ∧ Wp m_M_street 0 [some (xR m), none] [] g (d - 1) 0 0 (fun rv h3 => ∀ v3 : Int, rv = some (xI v3) → ((1 ≤ d ∧ (hpT h3 m).1 = 12) ∧ Wp m_M_goesWell 0 [some (xR m)] [] h3 (d - 1) 0 0 (fun rv h4 => ∀ v4 : Int, rv = some (xI v4) → (if v4 = (0 : Int) then R none h4 else Q v3 v4 h4)))) := fun g f p fr a1 hf a2 eP Q => by
    have cg := c.fr fr
    exact ⟨⟨by omega, cg.tag⟩, sp_mstreetN cg a1 hf (by omega) (fun v3 _ => gw g f p fr a1 hf a2 eP _)⟩
  have mu : ∀ (g : Hp) (f : Int) (p : Nat), FrP (Smr m) h g → hpC g m 11 = f → f ≠ 0 → hpC g m 12 = (p : Int) → pAli b n e D T G = .inl (f, p) → ∀ (Q : Int → Int → Hp → Prop), (1 ≤ d ∧ (hpT g m).1 = 12) ∧ Wp m_M_must 0 [some (xR m), some (xI (11 : Int)), none] [] g (d - 1) 0 0 (fun rv h2 => rv = none → ((1 ≤ d ∧ (hpT h2 m).1 = 12) ∧ Wp m_M_street 0 [some (xR m), none] [] h2 (d - 1) 0 0 (fun rv h3 => ∀ v3 : Int, rv = some (xI v3) → ((1 ≤ d ∧ (hpT h3 m).1 = 12) ∧ Wp m_M_goesWell 0 [some (xR m)] [] h3 (d - 1) 0 0 (fun rv h4 => ∀ v4 : Int, rv = some (xI v4) → (if v4 = (0 : Int) then R none h4 else Q v3 v4 h4)))))) := fun g f p fr a1 hf a2 eP Q => by
    have cg := c.fr fr
    exact ⟨⟨by omega, cg.tag⟩, sp_mmustN cg a1 hf (by omega) (fun _ => st g f p fr a1 hf a2 eP Q)⟩
  apply f_M_readsAlias_0
  rw [c.1.row_n, c.1.row_t, t18, sD 8 (by omega)]
  refine ⟨c.tag, ⟨rfl, by decide, by decide⟩, ?_⟩
  by_cases c0 : D 8 = 12
  · rw [if_pos c0]
    refine ⟨c.tag, ⟨by omega, c.tag⟩, sp_faultsG c s11 (fun g f a1 a2 _ _ => ?_)⟩
    have cg := c.fr f
    apply f_M_readsAlias_24
    refine ⟨⟨by omega, cg.tag⟩, sp_mfreshN cg a1 (by decide) (by omega) (fun _ => ?_)⟩
    exact ⟨cg.tag, cg.tag, mu g 4 (tS b n e) f a1 (by decide) (by rw [a2]; exact s10) (by unfold pAli; rw [if_pos c0]) _⟩
  · rw [if_neg c0]
    obtain ⟨k, hk⟩ : ∃ k : Nat, D 8 = (k : Int) := ⟨(D 8).toNat, by omega⟩
    have nk : (D 8).toNat = k := by omega
    rw [hk]
    apply f_M_readsAlias_24
    refine ⟨⟨by omega, c.tag⟩, sp_mfresh c s11 s9 E1 sD hV (by omega) (fun nS nt g f a9 a10 _ => ?_) (fun nS nt g f a1 a2 _ => ?_) (fun nS g f a1 a2 _ => ?_)⟩
    · have F := F910_mr f
      have cg := c.fr F
      have g11 : hpC g m 11 = 0 := by rw [FrP.c910 f (by omega)]; exact s11
      have gD := sD.fr f F910_row
      have E2 := tE_spec b n (tE b n e) E1
      have eP : pAli b n e D T G = pAl2 b n (tE b n e) (tE b n (tE b n e)) D T G := by unfold pAli; rw [if_neg c0, if_pos nS, if_neg nt]
      unfold pAl2 at eP
      rw [a9, a10]
      refine ⟨cg.tag, cg.tag, ⟨by omega, cg.tag⟩, sp_mmust cg g11 a9 E2.2.1 (by omega) (by omega) (fun oo g2 f2 p9 p10 _ => ?_) (fun oo g2 f2 b1 b2 _ => ?_)⟩
      · rw [if_pos oo] at eP
        unfold pAl3 at eP
        have F2 := F.tr (F910_mr f2)
        have cg2 := c.fr F2
        have g211 : hpC g2 m 11 = 0 := by rw [FrP.c910 f2 (by omega)]; exact g11
        have g2D := gD.fr f2 F910_row
        have E3 := tE_spec b n (tE b n (tE b n e)) E2.2.1
        refine ⟨⟨by omega, cg2.tag⟩, sp_mstreet cg2 g211 p9 E3.2.1 g2D hV (by omega) (fun nS3 pl g3 f3 r9 r10 v3 ee => ?_) (fun nS3 pl g3 f3 b1 b2 v3 ee => ?_) (fun nS3 g3 f3 b1 b2 v3 ee => ?_)⟩
        · have ev3 := xI_inj ee
          clear ee
          rw [if_pos nS3, if_neg pl] at eP
          have F3 := F2.tr (F910_mr f3)
          have cg3 := c.fr F3
          have g311 : hpC g3 m 11 = 0 := by rw [FrP.c910 f3 (by omega)]; exact g211
          have g3D := g2D.fr f3 F910_row
          refine ⟨⟨by omega, cg3.tag⟩, sp_goesWell cg3 g311 (fun v4 ee => ?_)⟩
          have ev4 := xI_inj ee
          clear ee
          rw [if_pos rfl] at ev4
          rw [if_neg (by omega)]
          have al := tL_al (kS_1.1 nS.1).1
          have s1e := E2.1
          have L : ∀ (j i : Nat) (g4 : Hp), i + j = 10 → FrP (fun q p => q = m + 1 ∧ 1010 ≤ p ∧ p < 2020) g3 g4 → (∀ p, p < 1010 → hpC g4 (m + 1) (1010 + p) = if 650 + 10 * k ≤ p ∧ p < 650 + 10 * k + i then tV b n (tE b n e) (p - (650 + 10 * k)) else D p) → Wp m_M_readsAlias 61 [some (xR m), some (xI (k : Int)), some (xI (tS b n (tE b n e) : Int)), some (xI (tE b n (tE b n e) : Int)), some (xI v3), some (xI (i : Int))] [] g4 d mc ms R := by
            intro j
            induction j with
            | zero =>
              intro i g4 hi f4 r
              obtain rfl : i = 10 := by omega
              have cg4 := cg3.fr (f4.wk (fun q p z => Or.inr z))
              apply f_M_readsAlias_61
              rw [if_neg (by decide), cg4.1.row_n, cg4.1.row_t, show ai_add (1960 : Int) (k : Int) = ((1010 + (950 + k) : Nat) : Int) from by rw [ai_add_eq (by omega) (by omega)]; omega, Int.toNat_natCast]
              refine ⟨cg4.tag, ⟨rfl, by omega, by show ((1010 + (950 + k) : Nat) : Int) < 24240; omega⟩, fun h1 e1 => ?_⟩
              have u1 : FrP (fun q p => q = m + 1 ∧ 1010 ≤ p ∧ p < 2020) g3 h1 := f4.tr (by subst e1; exact FrP.up ⟨rfl, by omega, by omega⟩)
              have b1 := cg3.fr (u1.wk (fun q p z => Or.inr z))
              have x8 : hpC h1 (m + 1) 1018 = (k : Int) := by
                have := r 8 (by omega)
                rw [if_neg (by omega), hk] at this
                subst e1
                rw [hpC_o2 (by omega)]; exact this
              rw [b1.1.row_n, b1.1.row_t, show Int.toNat (1018 : Int) = 1018 from rfl, x8, ab_1 (by omega)]
              refine ⟨b1.tag, ⟨rfl, by decide, by decide⟩, ⟨rfl, by decide, by decide⟩, fun h2 e2 => ?_⟩
              have u2 : FrP (fun q p => q = m + 1 ∧ 1010 ≤ p ∧ p < 2020) g3 h2 := u1.tr (by subst e2; exact FrP.up ⟨rfl, by omega, by omega⟩)
              refine H h2 (F3.tr (u2.wk (fun q p z => Or.inr z))) ?_
              rw [eP]
              have keep : ∀ q, q ≠ 9 → q ≠ 10 → hpC h2 m q = hpC h m q := fun q h1 h2 => by rw [u2.2.2 _ _ (by omega), FrP.c910 f3 (by omega), FrP.c910 f2 (by omega), FrP.c910 f (by omega)]
              refine ⟨by rw [u2.2.2 _ _ (by omega)]; exact r9, by rw [keep _ (by omega) (by omega)]; exact s11, ⟨by rw [keep _ (by omega) (by omega)]; exact s14.1, by rw [keep _ (by omega) (by omega)]; exact s14.2⟩, by rw [keep _ (by omega) (by omega)]; exact s15, fun p hp => ?_⟩
              unfold nalW
              rw [nk]
              subst e2; subst e1
              by_cases q : p = 8
              · rw [q, hpC_same, upD_s, hk]; omega
              rw [hpC_o2 (by omega), upD_o q]
              by_cases q : p = 950 + k
              · rw [q, hpC_same, upD_s, ev3]
              rw [hpC_o2 (by omega), upD_o q]
              exact r p hp
            | succ j ih =>
              intro i g4 hi f4 r
              have cg4 := cg3.fr (f4.wk (fun q p z => Or.inr z))
              have nx : ∀ (g5 : Hp) (v : Int), g5 = hpU g4 (m + 1) (1010 + (650 + 10 * k + i)) v → v = tV b n (tE b n e) i → Wp m_M_readsAlias 61 [some (xR m), some (xI (k : Int)), some (xI (tS b n (tE b n e) : Int)), some (xI (tE b n (tE b n e) : Int)), some (xI v3), some (xI ((i + 1 : Nat) : Int))] [] g5 d mc ms R := fun g5 v e5 ev => by
                refine ih (i + 1) g5 (by omega) (f4.tr (by subst e5; exact FrP.up ⟨rfl, by omega, by omega⟩)) (fun p hp => ?_)
                subst e5
                by_cases q : p = 650 + 10 * k + i
                · rw [q, hpC_same, if_pos (by omega), show 650 + 10 * k + i - (650 + 10 * k) = i by omega]; exact ev
                · rw [hpC_o2 (by omega), r p hp]
                  by_cases y : 650 + 10 * k ≤ p ∧ p < 650 + 10 * k + i
                  · rw [if_pos y, if_pos (by omega)]
                  · rw [if_neg y, if_neg (by omega)]
              apply f_M_readsAlias_61
              rw [if_pos (by omega), ai_add_nn (b := i) (by omega), show ai_add (ai_add (1660 : Int) (ai_mul 10 (k : Int))) (i : Int) = ((1010 + (650 + 10 * k + i) : Nat) : Int) from by rw [am_10 (by omega), show ai_add (1660 : Int) ((10 * k : Nat) : Int) = ((1660 + 10 * k : Nat) : Int) from by rw [ai_add_eq (by omega) (by omega)]; omega, ai_add_nn (by omega)]; omega, ab_1 (by omega), Int.toNat_natCast, Int.toNat_natCast, cg4.1.row_n, cg4.1.row_t, cg4.1.tape_n, cg4.1.tape_t]
              refine ⟨cg4.tag, ?_⟩
              by_cases z : tS b n (tE b n e) + i < tE b n (tE b n e)
              · have li := al i (by omega)
                rw [if_pos (by omega), (cg4.2.1.2.2 _ li.1).1, ai_sub_eq (by omega) (by omega)]
                refine ⟨cg4.tag, ⟨rfl, by omega, by show ((tS b n (tE b n e) + i : Nat) : Int) < 2000; omega⟩, ⟨rfl, by omega, by show ((1010 + (650 + 10 * k + i) : Nat) : Int) < 24240; omega⟩, fun g5 e5 => nx g5 _ e5 ?_⟩
                unfold tV tvW; rw [if_pos (by omega)]
              · rw [if_neg (by omega)]
                refine ⟨⟨rfl, by omega, by show ((1010 + (650 + 10 * k + i) : Nat) : Int) < 24240; omega⟩, fun g5 e5 => nx g5 _ e5 ?_⟩
                unfold tV tvW; rw [if_neg (by omega)]
          exact L 10 0 g3 (by omega) FrP.rf (fun p hp => by rw [if_neg (by omega)]; exact g3D p hp)
        · rw [if_pos nS3, if_pos pl] at eP
          exact gw g3 3 _ (F2.tr f3) b1 (by decide) b2 eP _
        · rw [if_neg nS3] at eP
          exact gw g3 1 _ (F2.tr f3) b1 (by decide) b2 eP _
      · rw [if_neg oo] at eP
        exact st g2 1 _ (F.tr f2) b1 (by decide) b2 eP _
    · have cg := c.fr f
      exact ⟨cg.tag, cg.tag, mu g 3 _ f a1 (by decide) a2 (by unfold pAli; rw [if_neg c0, if_pos nS, if_pos nt]) _⟩
    · have cg := c.fr f
      exact ⟨cg.tag, cg.tag, mu g 1 _ f a1 (by decide) a2 (by unfold pAli; rw [if_neg c0, if_neg nS]) _⟩
