/-! ===== statements: house ===== -/
def pHo4 (b : Nat → Nat) (n e : Nat) (D : Nat → Int) (T G s : Nat) (sd y : Int) : PO :=
  if nuS b n e then (if 1 ≤ nuV b n e ∧ nuV b n e ≤ 999 then .inr (tE b n e, bldW D s sd y (nuV b n e), T, G) else .inl (2, tS b n e)) else .inl (1, tS b n e)
def pHo3 (b : Nat → Nat) (n e : Nat) (D : Nat → Int) (T G s : Nat) (sd : Int) : PO :=
  if nuS b n e then (if stW D s sd (nuV b n e) (D (280 + s)).toNat 0 = -1 then pHo4 b n (tE b n e) D T G s sd (nuV b n e) else .inl (3, tS b n e)) else .inl (1, tS b n e)
def pHo2 (b : Nat → Nat) (n e : Nat) (D : Nat → Int) (T G s : Nat) : PO :=
  if oS b n e = 8 ∨ oS b n e = 9 then pHo3 b n (tE b n e) D T G s (oS b n e - 8) else .inl (1, tS b n e)
def pHou (b : Nat → Nat) (n e : Nat) (D : Nat → Int) (T G : Nat) : PO :=
  if nmS b n (tE b n e) then (if plW D 180 (D 7) (wS b n (tE b n e)) = -1 then .inl (3, tS b n (tE b n e)) else if D (280 + (plW D 180 (D 7) (wS b n (tE b n e))).toNat) = 12 then .inl (4, tS b n (tE b n e)) else pHo2 b n (tE b n (tE b n e)) D T G (plW D 180 (D 7) (wS b n (tE b n e))).toNat) else .inl (1, tS b n (tE b n e))
theorem plW_bd {D : Nat → Int} {o : Nat} {k : Int} {W : Nat} (h : plW D o k W ≠ -1) : ∃ i : Nat, plW D o k W = (i : Int) ∧ (i : Int) < k ∧ wordW D (o + 10 * i) = W := by
  obtain ⟨i, h1, h2, h3⟩ := fst1_bd h
  exact ⟨i, h1, by omega, of_decide_eq_true h3⟩
theorem pHou_ok {b : Nat → Nat} {n e e' T G T' G' : Nat} {D D' : Nat → Int} (he : e ≤ n) (hV : V D) (hT : T < 65536) (hG : G < 67108864) (h : pHou b n e D T G = .inr (e', D', T', G')) : OKS n e' D' T' G' ∧ tE b n e ≤ e' := by
  unfold pHou at h
  split at h
  · split at h
    · cases h
    · rename_i c1 c2
      split at h
      · cases h
      · rename_i c3
        obtain ⟨s, hs1, hs2, _⟩ := plW_bd c2
        rw [hs1, Int.toNat_natCast] at c3 h
        have v7 := hV.1.2.2.2.2.2.2.2.1
        have hb := hV.hs (s := s) (by omega)
        have E1 := tE_le (b := b) he
        have E2 := tE_spec b n (tE b n e) E1
        have S2 := (tS_spec b n (tE b n e)).1.1
        generalize tE b n (tE b n e) = e2 at *
        unfold pHo2 at h
        split at h
        · rename_i c4
          have E3 := tE_spec b n e2 E2.2.1
          have S3 := (tS_spec b n e2).1.1
          generalize tE b n e2 = e3 at *
          unfold pHo3 at h
          split at h
          · rename_i c5
            split at h
            · rename_i c6
              have E4 := tE_spec b n e3 E3.2.1
              have S4 := (tS_spec b n e3).1.1
              have nb := nuV_bd c5
              unfold pHo4 at h
              split at h
              · split at h
                · rename_i c8
                  cases h
                  have E5 := tE_spec b n (tE b n e3) E4.2.1
                  have S5 := (tS_spec b n (tE b n e3)).1.1
                  refine ⟨⟨E5.2.1, bldW_V hV hs2 (by omega) (by omega) nb c8 (fun i hi => ?_), hT, hG⟩, by omega⟩
                  have := fst1_none.1 c6 i (by omega) (by omega)
                  intro z
                  simp [z.1, z.2] at this
                · cases h
              · cases h
            · cases h
          · cases h
        · cases h
  · cases h
theorem sp_rhou {h : Hp} {m : Nat} {b : Nat → Nat} {n : Nat} (c : MB h m b n) {e : Nat} (he : e ≤ n) {D : Nat → Int} (hV : V D) {T G : Nat} (hT : T < 65536) (s9 : hpC h m 9 = (tE b n e : Int)) (s10 : hpC h m 10 = (tS b n e : Int)) (s11 : hpC h m 11 = 0) (s14 : hpC h m 14 = (T : Int) ∧ hpC h m 12 = -1) (s15 : hpC h m 15 = (G : Int)) (sD : DR h m D) {d mc ms : Nat} {R : PR} (hd : 5 ≤ d) {o1 o2 o3 o4 o5 o6 : Option AV} (H : ∀ h', FrP (Smr m) h h' → OUT h' m (pHou b n e D T G) → R none h') : Wp m_M_readsHouse 0 [some (xR m), o1, o2, o3, o4, o5, o6] [] h d mc ms R := by
  have E1 := tE_le (b := b) he
  have v7 := hV.1.2.2.2.2.2.2.2.1
  have hn := c.2.1.2.1
  -- failed
  have gw : ∀ (g : Hp) (f : Int) (p : Nat), FrP (Smr m) h g → hpC g m 11 = f → f ≠ 0 → hpC g m 12 = (p : Int) → pHou b n e D T G = .inl (f, p) → ∀ (Q : Int → Hp → Prop), (1 ≤ d ∧ (hpT g m).1 = 12) ∧ Wp m_M_goesWell 0 [some (xR m)] [] g (d - 1) 0 0 (fun rv h2 => ∀ v2 : Int, rv = some (xI v2) → (if v2 = (0 : Int) then R none h2 else Q v2 h2)) := fun g f p fr a1 hf a2 eP Q => by
    have cg := c.fr fr
    refine ⟨⟨by omega, cg.tag⟩, sp_goesWell cg a1 (fun v ee => ?_)⟩
    have ev := xI_inj ee
    rw [if_neg hf] at ev
    rw [if_pos ev]
    exact H g fr (by rw [eP]; exact ⟨a1, hf, a2⟩)
  have no116 : ∀ (g : Hp) (f : Int) (p : Nat) (i1 i2 i3 i4 : Int) (o5 o6 : Option AV), FrP (Smr m) h g → hpC g m 11 = f → f ≠ 0 → hpC g m 12 = (p : Int) → pHou b n e D T G = .inl (f, p) → Wp m_M_readsHouse 116 [some (xR m), some (xI i1), some (xI i2), some (xI i3), some (xI i4), o5, o6] [] g d mc ms R := fun g f p i1 i2 i3 i4 o5 o6 fr a1 hf a2 eP => by
    have cg := c.fr fr
    apply f_M_readsHouse_116
    exact ⟨⟨by omega, cg.tag⟩, sp_mnumN cg a1 hf (by omega) (fun v _ => gw g f p fr a1 hf a2 eP _)⟩
  have no72 : ∀ (g : Hp) (f : Int) (p : Nat) (i1 i2 i3 : Int) (o4 o5 o6 : Option AV), FrP (Smr m) h g → hpC g m 11 = f → f ≠ 0 → hpC g m 12 = (p : Int) → pHou b n e D T G = .inl (f, p) → Wp m_M_readsHouse 72 [some (xR m), some (xI i1), some (xI i2), some (xI i3), o4, o5, o6] [] g d mc ms R := fun g f p i1 i2 i3 o4 o5 o6 fr a1 hf a2 eP => by
    have cg := c.fr fr
    apply f_M_readsHouse_72
    refine ⟨⟨by omega, cg.tag⟩, sp_mnumN cg a1 hf (by omega) (fun v _ => ⟨⟨by omega, cg.tag⟩, sp_goesWell cg a1 (fun v2 ee => ?_)⟩)⟩
    have ev := xI_inj ee
    rw [if_neg hf] at ev
    rw [if_pos ev]
    exact no116 g f p _ _ _ _ _ _ fr a1 hf a2 eP
  have no39 : ∀ (g : Hp) (f : Int) (p : Nat) (i1 i2 : Int) (o3 o4 o5 o6 : Option AV), FrP (Smr m) h g → hpC g m 11 = f → f ≠ 0 → hpC g m 12 = (p : Int) → pHou b n e D T G = .inl (f, p) → Wp m_M_readsHouse 39 [some (xR m), some (xI i1), some (xI i2), o3, o4, o5, o6] [] g d mc ms R := fun g f p i1 i2 o3 o4 o5 o6 fr a1 hf a2 eP => by
    have cg := c.fr fr
    apply f_M_readsHouse_39
    refine ⟨⟨by omega, cg.tag⟩, sp_mownN cg a1 hf (by omega) (fun v _ => ⟨⟨by omega, cg.tag⟩, sp_goesWell cg a1 (fun v2 ee => ?_)⟩)⟩
    have ev := xI_inj ee
    rw [if_neg hf] at ev
    rw [if_pos ev]
    exact no72 g f p _ _ _ _ _ _ fr a1 hf a2 eP
  -- going
  have g116 : ∀ (g : Hp) (e4 : Nat) (s z : Nat) (i3 y : Int) (o5 o6 : Option AV), e4 ≤ n → FrP (Smr m) h g → MG g m e4 D T G → s < 10 → D (280 + s) = (z : Int) → z < 12 → (i3 = 8 ∨ i3 = 9) → pHou b n e D T G = pHo4 b n e4 D T G s (i3 - 8) y → Wp m_M_readsHouse 116 [some (xR m), some (xI (s : Int)), some (xI (z : Int)), some (xI i3), some (xI y), o5, o6] [] g d mc ms R := by
    intro g e4 s z i3 y o5 o6 he4 fr ⟨k9, k11, k14, k15, kD⟩ hs hz hz12 hi3 eP
    have cg := c.fr fr
    unfold pHo4 at eP
    apply f_M_readsHouse_116
    refine ⟨⟨by omega, cg.tag⟩, sp_mnum cg k11 k9 he4 (by omega) (fun nS r g1 f1 a9 a10 v ee => ?_) (fun nS r g1 f1 a1 a2 v ee => ?_) (fun nS g1 f1 a1 a2 v ee => ?_)⟩
    · have ev := xI_inj ee
      clear ee
      rw [if_pos nS, if_pos r] at eP
      have F1 := fr.tr (F910_mr f1)
      have c1 := c.fr F1
      have g11 : hpC g1 m 11 = 0 := by rw [FrP.c910 f1 (by omega)]; exact k11
      have D1 := kD.fr f1 F910_row
      refine ⟨⟨by omega, c1.tag⟩, sp_goesWell c1 g11 (fun v2 ee => ?_)⟩
      have ev2 := xI_inj ee
      clear ee
      rw [if_pos rfl] at ev2
      rw [if_neg (by omega)]
      refine ⟨by omega, sp_houseAt (o := 1010) (by omega) hs hz12 (fun v3 ee => ?_)⟩
      cases ee
      rw [ab_1 (by omega), ab_2 (by omega), Int.toNat_natCast, Int.toNat_natCast, Int.toNat_natCast, c1.1.row_n, c1.1.row_t, ai_sub_eq (by omega) (by omega), show ai_add (1290 : Int) (s : Int) = ((1010 + (280 + s) : Nat) : Int) from by rw [ai_add_eq (by omega) (by omega)]; omega, Int.toNat_natCast]
      refine ⟨c1.tag, ⟨rfl, by omega, by show ((1010 + 290 + 36 * s + 3 * z : Nat) : Int) < 24240; omega⟩, fun h1 e1 => ?_⟩
      have u1 : FrP (fun q p => q = m + 1 ∧ 1010 ≤ p ∧ p < 2020) g1 h1 := by subst e1; exact FrP.up ⟨rfl, by omega, by omega⟩
      have b1 := c1.fr (u1.wk (fun q p z => Or.inr z))
      rw [b1.1.row_n, b1.1.row_t]
      refine ⟨b1.tag, ⟨rfl, by omega, by show ((1010 + 290 + 36 * s + 3 * z + 1 : Nat) : Int) < 24240; omega⟩, fun h2 e2 => ?_⟩
      have u2 : FrP (fun q p => q = m + 1 ∧ 1010 ≤ p ∧ p < 2020) g1 h2 := u1.tr (by subst e2; exact FrP.up ⟨rfl, by omega, by omega⟩)
      have b2 := c1.fr (u2.wk (fun q p z => Or.inr z))
      rw [b2.1.row_n, b2.1.row_t]
      refine ⟨b2.tag, ⟨rfl, by omega, by show ((1010 + 290 + 36 * s + 3 * z + 2 : Nat) : Int) < 24240; omega⟩, fun h3 e3 => ?_⟩
      have u3 : FrP (fun q p => q = m + 1 ∧ 1010 ≤ p ∧ p < 2020) g1 h3 := u2.tr (by subst e3; exact FrP.up ⟨rfl, by omega, by omega⟩)
      have b3 := c1.fr (u3.wk (fun q p z => Or.inr z))
      have x5 : hpC h3 (m + 1) (1010 + (280 + s)) = (z : Int) := by
        have := D1 (280 + s) (by omega)
        rw [hz] at this
        subst e3; subst e2; subst e1
        rw [hpC_o2 (by omega), hpC_o2 (by omega), hpC_o2 (by omega)]; exact this
      rw [b3.1.row_n, b3.1.row_t, x5, ab_1 (by omega)]
      refine ⟨b3.tag, ⟨rfl, by omega, by show ((1010 + (280 + s) : Nat) : Int) < 24240; omega⟩, ⟨rfl, by omega, by show ((1010 + (280 + s) : Nat) : Int) < 24240; omega⟩, fun h4 e4' => ?_⟩
      have u4 : FrP (fun q p => q = m + 1 ∧ 1010 ≤ p ∧ p < 2020) g1 h4 := u3.tr (by subst e4'; exact FrP.up ⟨rfl, by omega, by omega⟩)
      refine H h4 (F1.tr (u4.wk (fun q p z => Or.inr z))) ?_
      rw [eP]
      have keep : ∀ q, q ≠ 9 → q ≠ 10 → hpC h4 m q = hpC g m q := fun q h1 h2 => by rw [u4.2.2 _ _ (by omega), FrP.c910 f1 (by omega)]
      refine ⟨by rw [u4.2.2 _ _ (by omega)]; exact a9, by rw [keep _ (by omega) (by omega)]; exact k11, ⟨by rw [keep _ (by omega) (by omega)]; exact k14.1, by rw [keep _ (by omega) (by omega)]; exact k14.2⟩, by rw [keep _ (by omega) (by omega)]; exact k15, fun p hp => ?_⟩
      unfold bldW
      rw [show (D (280 + s)).toNat = z by omega]
      subst e4'; subst e3; subst e2; subst e1
      by_cases q : p = 280 + s
      · rw [if_pos q, q, hpC_same, hz]; omega
      rw [if_neg q, hpC_o2 (by omega)]
      by_cases q2 : p = 290 + 36 * s + 3 * z + 2
      · rw [q2, if_neg (by omega), if_neg (by omega), if_pos rfl, show 1010 + (290 + 36 * s + 3 * z + 2) = 1010 + 290 + 36 * s + 3 * z + 2 by omega, hpC_same, ev]
      rw [hpC_o2 (by omega)]
      by_cases q1 : p = 290 + 36 * s + 3 * z + 1
      · rw [q1, if_neg (by omega), if_pos rfl, show 1010 + (290 + 36 * s + 3 * z + 1) = 1010 + 290 + 36 * s + 3 * z + 1 by omega, hpC_same]
      rw [hpC_o2 (by omega)]
      by_cases q0 : p = 290 + 36 * s + 3 * z
      · rw [q0, if_pos rfl, show 1010 + (290 + 36 * s + 3 * z) = 1010 + 290 + 36 * s + 3 * z by omega, hpC_same]
      rw [hpC_o2 (by omega), if_neg q0, if_neg q1, if_neg q2]
      exact D1 p hp
    · rw [if_pos nS, if_neg r] at eP
      exact gw g1 2 _ (fr.tr f1) a1 (by decide) a2 eP _
    · rw [if_neg nS] at eP
      exact gw g1 1 _ (fr.tr f1) a1 (by decide) a2 eP _
  have g72 : ∀ (g : Hp) (e3 : Nat) (s z : Nat) (i3 : Int) (o4 o5 o6 : Option AV), e3 ≤ n → FrP (Smr m) h g → MG g m e3 D T G → s < 10 → D (280 + s) = (z : Int) → z < 12 → (i3 = 8 ∨ i3 = 9) → pHou b n e D T G = pHo3 b n e3 D T G s (i3 - 8) → Wp m_M_readsHouse 72 [some (xR m), some (xI (s : Int)), some (xI (z : Int)), some (xI i3), o4, o5, o6] [] g d mc ms R := by
    intro g e3 s z i3 o4 o5 o6 he3 fr ⟨k9, k11, k14, k15, kD⟩ hs hz hz12 hi3 eP
    have cg := c.fr fr
    unfold pHo3 at eP
    have no : ∀ (g1 : Hp) (f : Int) (p : Nat) (v : Int) (Q : Int → Hp → Prop), FrP (Smr m) h g1 → hpC g1 m 11 = f → f ≠ 0 → hpC g1 m 12 = (p : Int) → pHou b n e D T G = .inl (f, p) → (1 ≤ d ∧ (hpT g1 m).1 = 12) ∧ Wp m_M_goesWell 0 [some (xR m)] [] g1 (d - 1) 0 0 (fun rv h2 => ∀ v2 : Int, rv = some (xI v2) → (if v2 = (0 : Int) then Wp m_M_readsHouse 116 [some (xR m), some (xI (s : Int)), some (xI (z : Int)), some (xI i3), some (xI v), o5, o6] [] h2 d mc ms R else Q v2 h2)) := fun g1 f p v Q f1 a1 hf a2 eP => by
      have c1 := c.fr f1
      refine ⟨⟨by omega, c1.tag⟩, sp_goesWell c1 a1 (fun v2 ee => ?_)⟩
      have ev := xI_inj ee
      rw [if_neg hf] at ev
      rw [if_pos ev]
      exact no116 g1 f p _ _ _ _ _ _ f1 a1 hf a2 eP
    apply f_M_readsHouse_72
    refine ⟨⟨by omega, cg.tag⟩, sp_mnum cg k11 k9 he3 (by omega) (fun nS r g1 f1 a9 a10 v ee => ?_) (fun nS r g1 f1 a1 a2 v ee => absurd (nuV_bd nS) r) (fun nS g1 f1 a1 a2 v ee => ?_)⟩
    · have ev := xI_inj ee
      clear ee
      rw [if_pos nS] at eP
      have F1 := fr.tr (F910_mr f1)
      have c1 := c.fr F1
      have g11 : hpC g1 m 11 = 0 := by rw [FrP.c910 f1 (by omega)]; exact k11
      have D1 := kD.fr f1 F910_row
      have hb := hV.hs hs
      refine ⟨⟨by omega, c1.tag⟩, sp_goesWell c1 g11 (fun v2 ee => ?_)⟩
      have ev2 := xI_inj ee
      clear ee
      rw [if_pos rfl] at ev2
      rw [if_neg (by omega), ai_sub_eq (by omega) (by omega)]
      refine ⟨⟨by omega, c1.tag⟩, sp_standsAt (o := 1010) c1.1 (by omega) D1 hs (by omega) (by omega) (fun v3 ee => ?_)⟩
      have ev3 := xI_inj ee
      clear ee
      rw [ev] at ev3 ⊢
      by_cases q : v3 = -1
      · rw [if_pos q]
        rw [if_pos (by rw [← ev3]; exact q)] at eP
        exact g116 g1 (tE b n e3) s z i3 _ _ _ (tE_le he3) F1 ⟨a9, g11, ⟨by rw [FrP.c910 f1 (by omega)]; exact k14.1, by rw [FrP.c910 f1 (by omega)]; exact k14.2⟩, by rw [FrP.c910 f1 (by omega)]; exact k15, D1⟩ hs hz hz12 hi3 eP
      · rw [if_neg q]
        rw [if_neg (by rw [← ev3]; exact q)] at eP
        refine ⟨c1.tag, ⟨by omega, c1.tag⟩, sp_faultsG c1 g11 (fun g2 f2 a1 a2 _ _ => ?_)⟩
        exact no116 g2 3 _ _ _ _ _ _ _ (F1.tr f2) a1 (by decide) (by rw [a2]; exact a10) eP
    · rw [if_neg nS] at eP
      exact no g1 1 _ v _ (fr.tr f1) a1 (by decide) a2 eP
  have g39 : ∀ (g : Hp) (e2 : Nat) (s z : Nat) (o3 o4 o5 o6 : Option AV), e2 ≤ n → FrP (Smr m) h g → MG g m e2 D T G → s < 10 → D (280 + s) = (z : Int) → z < 12 → pHou b n e D T G = pHo2 b n e2 D T G s → Wp m_M_readsHouse 39 [some (xR m), some (xI (s : Int)), some (xI (z : Int)), o3, o4, o5, o6] [] g d mc ms R := by
    intro g e2 s z o3 o4 o5 o6 he2 fr ⟨k9, k11, k14, k15, kD⟩ hs hz hz12 eP
    have cg := c.fr fr
    unfold pHo2 at eP
    apply f_M_readsHouse_39
    refine ⟨⟨by omega, cg.tag⟩, sp_mown cg k11 k9 he2 (by omega) (fun k1 g1 f1 a9 a10 v ee => ?_) (fun k1 g1 f1 a1 a2 v ee => ?_)⟩
    · have ev := xI_inj ee
      clear ee
      have F1 := fr.tr (F910_mr f1)
      have c1 := c.fr F1
      have g11 : hpC g1 m 11 = 0 := by rw [FrP.c910 f1 (by omega)]; exact k11
      refine ⟨⟨by omega, c1.tag⟩, sp_goesWell c1 g11 (fun v2 ee => ?_)⟩
      have ev2 := xI_inj ee
      clear ee
      rw [if_pos rfl] at ev2
      rw [if_neg (by omega)]
      have good : (v = 8 ∨ v = 9) → ∀ (o4 o5 o6 : Option AV), Wp m_M_readsHouse 72 [some (xR m), some (xI (s : Int)), some (xI (z : Int)), some (xI v), o4, o5, o6] [] g1 d mc ms R := fun hv o4 o5 o6 => by
        rw [if_pos (by rw [← ev]; exact hv), ← ev] at eP
        exact g72 g1 (tE b n e2) s z v _ _ _ (tE_le he2) F1 ⟨a9, g11, ⟨by rw [FrP.c910 f1 (by omega)]; exact k14.1, by rw [FrP.c910 f1 (by omega)]; exact k14.2⟩, by rw [FrP.c910 f1 (by omega)]; exact k15, kD.fr f1 F910_row⟩ hs hz hz12 hv eP
      by_cases q8 : v = 8
      · rw [if_pos q8]; exact good (Or.inl q8) _ _ _
      rw [if_neg q8]
      by_cases q9 : v = 9
      · rw [if_pos q9]; exact good (Or.inr q9) _ _ _
      rw [if_neg q9]
      rw [if_neg (by rw [← ev]; omega)] at eP
      refine ⟨c1.tag, ⟨by omega, c1.tag⟩, sp_faultsG c1 g11 (fun g2 f2 a1 a2 _ _ => ?_)⟩
      exact no72 g2 1 _ _ _ _ _ _ _ (F1.tr f2) a1 (by decide) (by rw [a2]; exact a10) eP
    · have F1 := fr.tr f1
      have c1 := c.fr F1
      rw [if_neg (by rw [oS_0 k1]; omega)] at eP
      refine ⟨⟨by omega, c1.tag⟩, sp_goesWell c1 a1 (fun v2 ee2 => ?_)⟩
      have ev2 := xI_inj ee2
      rw [if_neg (by decide)] at ev2
      rw [if_pos ev2]
      exact no72 g1 1 _ _ _ _ _ _ _ F1 a1 (by decide) a2 eP
  apply f_M_readsHouse_0
  refine ⟨⟨by omega, c.tag⟩, sp_mstreet c s11 s9 E1 sD hV (by omega) (fun nS pl g f a9 a10 v ee => ?_) (fun nS pl g f a1 a2 v ee => ?_) (fun nS g f a1 a2 v ee => ?_)⟩
  · have ev := xI_inj ee
    clear ee
    have F := F910_mr f
    have cg := c.fr F
    have g11 : hpC g m 11 = 0 := by rw [FrP.c910 f (by omega)]; exact s11
    have gD := sD.fr f F910_row
    obtain ⟨s, hs1, hs2, _⟩ := plW_bd pl
    have hb := hV.hs (s := s) (by omega)
    obtain ⟨z, hz⟩ : ∃ z : Nat, D (280 + s) = (z : Int) := ⟨(D (280 + s)).toNat, by omega⟩
    have eP : pHou b n e D T G = if D (280 + s) = 12 then .inl (4, tS b n (tE b n e)) else pHo2 b n (tE b n (tE b n e)) D T G s := by
      unfold pHou; rw [if_pos nS, if_neg pl, hs1, Int.toNat_natCast]
    refine ⟨⟨by omega, cg.tag⟩, sp_goesWell cg g11 (fun v2 ee => ?_)⟩
    have ev2 := xI_inj ee
    clear ee
    rw [if_pos rfl] at ev2
    rw [if_neg (by omega), ev, hs1, show ai_add (1290 : Int) (s : Int) = ((1010 + (280 + s) : Nat) : Int) from by rw [ai_add_eq (by omega) (by omega)]; omega, Int.toNat_natCast, cg.1.row_n, cg.1.row_t, gD (280 + s) (by omega)]
    refine ⟨cg.tag, ⟨rfl, by omega, by show ((1010 + (280 + s) : Nat) : Int) < 24240; omega⟩, ?_⟩
    by_cases q : D (280 + s) = 12
    · rw [if_pos q]
      rw [if_pos q] at eP
      refine ⟨cg.tag, ⟨by omega, cg.tag⟩, sp_faultsG cg g11 (fun g2 f2 a1 a2 _ _ => ?_)⟩
      exact no39 g2 4 _ _ _ _ _ _ _ (F.tr f2) a1 (by decide) (by rw [a2]; exact a10) eP
    · rw [if_neg q, hz]
      rw [if_neg q] at eP
      exact g39 g (tE b n (tE b n e)) s z _ _ _ _ (tE_le E1) F ⟨a9, g11, ⟨by rw [FrP.c910 f (by omega)]; exact s14.1, by rw [FrP.c910 f (by omega)]; exact s14.2⟩, by rw [FrP.c910 f (by omega)]; exact s15, gD⟩ (by omega) hz (by omega) eP
  · exact gw g 3 _ f a1 (by decide) a2 (by unfold pHou; rw [if_pos nS, if_pos pl]) _
  · exact gw g 1 _ f a1 (by decide) a2 (by unfold pHou; rw [if_neg nS]) _
