/-! ===== a whole statement, the reference ===== -/
theorem pPoF_ok {b : Nat → Nat} {n T G : Nat} (hT : T < 65536) (hG : G < 67108864) : ∀ (f e e' T' G' : Nat) (D D' : Nat → Int), e ≤ n → V D → pPoF b n T G f e D = .inr (e', D', T', G') → OKS n e' D' T' G' ∧ e ≤ e'
  | 0, e, e', T', G', D, D', he, hV, h => by simp only [pPoF] at h; cases h
  | f + 1, e, e', T', G', D, D', he, hV, h => by
    have S := (tS_spec b n e).1
    have E := tE_spec b n e he
    have v6 := hV.1.2.2.2.2.2.2.1
    simp only [pPoF] at h
    split at h
    · cases h
      exact ⟨⟨S.2 he, hV, hT, hG⟩, S.1⟩
    · split at h
      · rename_i c2
        split at h
        · cases h
        · split at h
          · cases h
          · rename_i c4
            have := pPoF_ok hT hG f _ _ _ _ _ _ E.2.1 (npW_V hV (tV_ok he c2).1 (by omega)) h
            exact ⟨this.1, by omega⟩
      · cases h
theorem pPoo_ok {b : Nat → Nat} {n e e' T G T' G' : Nat} {D D' : Nat → Int} (he : e ≤ n) (hV : V D) (hT : T < 65536) (hG : G < 67108864) (h : pPoo b n e D T G = .inr (e', D', T', G')) : OKS n e' D' T' G' ∧ tE b n e ≤ e' := by
  unfold pPoo at h
  split at h
  · exact pPoF_ok hT hG 13 _ _ _ _ _ _ (tE_le he) hV h
  · cases h
def pKey (b : Nat → Nat) (n e : Nat) (D : Nat → Int) (T G : Nat) (o : Int) : PO :=
  if o = 0 then pSet b n 0 e D T G else if o = 1 then pSet b n 1 e D T G else if o = 2 then pSet b n 2 e D T G else if o = 3 then pMute b n e D T G else if o = 4 then pSam b n e D T G else if o = 5 then pPai b n e D T G else if o = 6 then pStr b n e D T G else if o = 7 then pHou b n e D T G else if o = 10 then pAli b n e D T G else if o = 12 then pPoo b n e D T G else .inl (1, tS b n e)
def pMk (b : Nat → Nat) (n : Nat) : PO → PO
  | .inl r => .inl r
  | .inr (e, D, T, G) => if kS b n e = 3 then .inr (tE b n e, D, T, G) else .inl (1, tS b n e)
def pStm (b : Nat → Nat) (n e : Nat) (D : Nat → Int) (T G : Nat) : PO := pMk b n (pKey b n e D T G (oS b n e))
def Dz (D : Nat → Int) : Prop := (∀ j, j < 30 → D (980 + j) = 0) ∧ D 8 ≤ 12
theorem pKey_ok {b : Nat → Nat} {n e e' T G T' G' : Nat} {D D' : Nat → Int} {o : Int} (he : e ≤ n) (hV : V D) (hz : Dz D) (hT : T < 65536) (hG : G < 67108864) (h : pKey b n e D T G o = .inr (e', D', T', G')) : OKS n e' D' T' G' ∧ tE b n e ≤ e' := by
  unfold pKey at h
  split at h
  · exact pSet_ok (by omega) he hV hT hG h
  · split at h
    · exact pSet_ok (by omega) he hV hT hG h
    · split at h
      · exact pSet_ok (by omega) he hV hT hG h
      · split at h
        · exact pMute_ok he hV hT hG h
        · split at h
          · exact pSam_ok he hV hT hG h
          · split at h
            · exact pPai_ok he hV hT hG h
            · split at h
              · exact pStr_ok he hV hT hG h
              · split at h
                · exact pHou_ok he hV hT hG h
                · split at h
                  · exact pAli_ok he hV hz.1 hz.2 hT hG h
                  · split at h
                    · exact pPoo_ok he hV hT hG h
                    · cases h
theorem sp_rstm {h : Hp} {m : Nat} {b : Nat → Nat} {n : Nat} (c : MB h m b n) {e : Nat} (he : e ≤ n) {D : Nat → Int} (hV : V D) (hz : Dz D) {T G : Nat} (hT : T < 65536) (hG : G < 67108864) (mg : MG h m e D T G) {d mc ms : Nat} {R : PR} (hd : 6 ≤ d) {o1 : Option AV} (H : ∀ h', FrP (Smr m) h h' → OUT h' m (pStm b n e D T G) → R none h') : Wp m_M_readsStatement 0 [some (xR m), o1] [] h d mc ms R := by
  obtain ⟨s9, s11, s14, s15, sD⟩ := mg
  unfold pStm at H
  have fin : ∀ (g : Hp) (q : PO), pKey b n e D T G (oS b n e) = q → FrP (Smr m) h g → OUT g m q → (1 ≤ d ∧ (hpT g m).1 = 12) ∧ Wp m_M_mark 0 [some (xR m)] [] g (d - 1) 0 0 (fun rv h30 => rv = none → R none h30) := fun g q eq fr ou => by
    have cg := c.fr fr
    rw [eq] at H
    refine ⟨⟨by omega, cg.tag⟩, ?_⟩
    rcases q with ⟨f, p⟩ | ⟨e', D', T', G'⟩
    · obtain ⟨a1, hf, a2⟩ := ou
      exact sp_mmarkN cg a1 hf (by omega) (fun _ => H g fr ⟨a1, hf, a2⟩)
    · obtain ⟨ok, _⟩ := pKey_ok he hV hz hT hG eq
      obtain ⟨k9, k11, k14, k15, kD⟩ := ou
      refine sp_mmark cg k11 k9 ok.1 (by omega) (fun k3 g2 f2 a9 _ => ?_) (fun k3 g2 f2 a1 a2 _ => ?_)
      · have no : ∀ q p, ¬ (q = m ∧ p = 9) → hpC g2 q p = hpC g q p := f2.2.2
        refine H g2 (fr.tr (f2.wk (fun q p z => Or.inl ⟨z.1, Or.inl z.2⟩))) ?_
        simp only [pMk]
        rw [if_pos k3]
        exact ⟨a9, by rw [no _ _ (by omega)]; exact k11, ⟨by rw [no _ _ (by omega)]; exact k14.1, by rw [no _ _ (by omega)]; exact k14.2⟩, by rw [no _ _ (by omega)]; exact k15, fun p hp => by rw [no _ _ (by omega)]; exact kD p hp⟩
      · refine H g2 (fr.tr f2) ?_
        simp only [pMk]
        rw [if_neg k3]
        exact ⟨a1, by decide, a2⟩
  apply f_M_readsStatement_0
  refine ⟨⟨by omega, c.tag⟩, sp_mown c s11 s9 he (by omega) (fun k1 g f a9 a10 v ee => ?_) (fun k1 g f a1 a2 v ee => ?_)⟩
  · have ev := xI_inj ee
    clear ee
    have F := F910_mr f
    have cg := c.fr F
    have g11 : hpC g m 11 = 0 := by rw [FrP.c910 f (by omega)]; exact s11
    have g14 : hpC g m 14 = (T : Int) ∧ hpC g m 12 = -1 := ⟨by rw [FrP.c910 f (by omega)]; exact s14.1, by rw [FrP.c910 f (by omega)]; exact s14.2⟩
    have g15 : hpC g m 15 = (G : Int) := by rw [FrP.c910 f (by omega)]; exact s15
    have gD := sD.fr f F910_row
    rw [← ev] at fin
    refine ⟨⟨by omega, cg.tag⟩, sp_goesWell cg g11 (fun v2 ee => ?_)⟩
    have ev2 := xI_inj ee
    clear ee
    rw [if_pos rfl] at ev2
    rw [if_neg (by omega)]
    have bad : pKey b n e D T G v = .inl (1, tS b n e) → (hpT g m).1 = 12 ∧ ((1 ≤ d ∧ (hpT g m).1 = 12) ∧ Wp m_M_faults 0 [some (xR m), some (xI (1 : Int)), some (xI (hpC g m 10))] [] g (d - 1) 0 0 (fun rv h13 => rv = none → ((1 ≤ d ∧ (hpT h13 m).1 = 12) ∧ Wp m_M_mark 0 [some (xR m)] [] h13 (d - 1) 0 0 (fun rv h14 => rv = none → R none h14)))) := fun eq =>
      ⟨cg.tag, ⟨by omega, cg.tag⟩, sp_faultsG cg g11 (fun g2 f2 b1 b2 _ _ => fin g2 _ eq (F.tr f2) ⟨b1, by decide, by rw [b2]; exact a10⟩)⟩
    by_cases c0 : v = 0
    · subst c0
      rw [if_pos (show (0 : Int) = ((0 : Nat) : Int) from rfl)]
      exact ⟨⟨by omega, cg.tag⟩, sp_rset (i := 0) cg he (by omega) hT a9 a10 g11 g14 g15 gD (by omega) (fun g2 f2 ou _ => fin g2 _ rfl (F.tr f2) ou)⟩
    rw [if_neg (show ¬ v = ((0 : Nat) : Int) from c0)]
    by_cases c1 : v = 1
    · subst c1
      rw [if_pos (show (1 : Int) = ((1 : Nat) : Int) from rfl)]
      exact ⟨⟨by omega, cg.tag⟩, sp_rset (i := 1) cg he (by omega) hT a9 a10 g11 g14 g15 gD (by omega) (fun g2 f2 ou _ => fin g2 _ rfl (F.tr f2) ou)⟩
    rw [if_neg (show ¬ v = ((1 : Nat) : Int) from c1)]
    by_cases c2 : v = 2
    · subst c2
      rw [if_pos (show (2 : Int) = ((2 : Nat) : Int) from rfl)]
      exact ⟨⟨by omega, cg.tag⟩, sp_rset (i := 2) cg he (by omega) hT a9 a10 g11 g14 g15 gD (by omega) (fun g2 f2 ou _ => fin g2 _ rfl (F.tr f2) ou)⟩
    rw [if_neg (show ¬ v = ((2 : Nat) : Int) from c2)]
    by_cases c3 : v = 3
    · subst c3
      rw [if_pos (show (3 : Int) = ((3 : Nat) : Int) from rfl)]
      exact ⟨⟨by omega, cg.tag⟩, sp_rmute cg he hV hT a9 a10 g11 g14 g15 gD (by omega) (fun g2 f2 ou _ => fin g2 _ rfl (F.tr f2) ou)⟩
    rw [if_neg (show ¬ v = ((3 : Nat) : Int) from c3)]
    by_cases c4 : v = 4
    · subst c4
      rw [if_pos (show (4 : Int) = ((4 : Nat) : Int) from rfl)]
      exact ⟨⟨by omega, cg.tag⟩, sp_rsam cg he hV hT a9 a10 g11 g14 g15 gD hG (by omega) (fun g2 f2 ou _ => fin g2 _ rfl (F.tr f2) ou)⟩
    rw [if_neg (show ¬ v = ((4 : Nat) : Int) from c4)]
    by_cases c5 : v = 5
    · subst c5
      rw [if_pos (show (5 : Int) = ((5 : Nat) : Int) from rfl)]
      exact ⟨⟨by omega, cg.tag⟩, sp_rpai cg he hV hT a9 a10 g11 g14 g15 gD (by omega) (fun g2 f2 ou _ => fin g2 _ rfl (F.tr f2) ou)⟩
    rw [if_neg (show ¬ v = ((5 : Nat) : Int) from c5)]
    by_cases c6 : v = 6
    · subst c6
      rw [if_pos (show (6 : Int) = ((6 : Nat) : Int) from rfl)]
      exact ⟨⟨by omega, cg.tag⟩, sp_rstr cg he hV hT a9 a10 g11 g14 g15 gD (by omega) (fun g2 f2 ou _ => fin g2 _ rfl (F.tr f2) ou)⟩
    rw [if_neg (show ¬ v = ((6 : Nat) : Int) from c6)]
    by_cases c7 : v = 7
    · subst c7
      rw [if_pos (show (7 : Int) = ((7 : Nat) : Int) from rfl)]
      exact ⟨⟨by omega, cg.tag⟩, sp_rhou cg he hV hT a9 a10 g11 g14 g15 gD (by omega) (fun g2 f2 ou _ => fin g2 _ rfl (F.tr f2) ou)⟩
    rw [if_neg (show ¬ v = ((7 : Nat) : Int) from c7)]
    by_cases c8 : v = 8
    · subst c8
      rw [if_pos (show (8 : Int) = ((8 : Nat) : Int) from rfl)]; exact bad rfl
    rw [if_neg (show ¬ v = ((8 : Nat) : Int) from c8)]
    by_cases c9 : v = 9
    · subst c9
      rw [if_pos (show (9 : Int) = ((9 : Nat) : Int) from rfl)]; exact bad rfl
    rw [if_neg (show ¬ v = ((9 : Nat) : Int) from c9)]
    by_cases c10 : v = 10
    · subst c10
      rw [if_pos (show (10 : Int) = ((10 : Nat) : Int) from rfl)]
      exact ⟨⟨by omega, cg.tag⟩, sp_rali cg he hV hT a9 a10 g11 g14 g15 gD hz.2 (by omega) (fun g2 f2 ou _ => fin g2 _ rfl (F.tr f2) ou)⟩
    rw [if_neg (show ¬ v = ((10 : Nat) : Int) from c10)]
    by_cases c11 : v = 11
    · subst c11
      rw [if_pos (show (11 : Int) = ((11 : Nat) : Int) from rfl)]; exact bad rfl
    rw [if_neg (show ¬ v = ((11 : Nat) : Int) from c11)]
    by_cases c12 : v = 12
    · subst c12
      rw [if_pos (show (12 : Int) = ((12 : Nat) : Int) from rfl)]
      exact ⟨⟨by omega, cg.tag⟩, sp_rpoo cg he hV hT a9 a10 g11 g14 g15 gD (by omega) (fun g2 f2 ou _ => fin g2 _ rfl (F.tr f2) ou)⟩
    rw [if_neg (show ¬ v = ((12 : Nat) : Int) from c12)]
    exact bad (by unfold pKey; rw [if_neg c0, if_neg c1, if_neg c2, if_neg c3, if_neg c4, if_neg c5, if_neg c6, if_neg c7, if_neg c10, if_neg c12])
  · have cg := c.fr f
    refine ⟨⟨by omega, cg.tag⟩, sp_goesWell cg a1 (fun v2 ee2 => ?_)⟩
    have ev2 := xI_inj ee2
    rw [if_neg (by decide)] at ev2
    rw [if_pos ev2]
    refine H g f ?_
    rw [oS_0 k1]
    exact ⟨a1, by decide, a2⟩
