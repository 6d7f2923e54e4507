/-! ===== statements: mute, street, pool ===== -/
def pMute (b : Nat → Nat) (n e : Nat) (D : Nat → Int) (T G : Nat) : PO :=
  if T.testBit 3 = true then .inl (1, tS b n e)
  else if leS b n (tE b n e) 1 26 then (if ldS b n (tE b n e) = true then .inr (tE b n (tE b n e), upD D 3 (lbS b n (tE b n e)), T ||| 2 ^ 3, G) else .inl (3, tS b n (tE b n e)))
  else .inl (1, tS b n (tE b n e))
theorem pMute_ok {b : Nat → Nat} {n e e' T G T' G' : Nat} {D D' : Nat → Int} (he : e ≤ n) (hV : V D) (hT : T < 65536) (hG : G < 67108864) (h : pMute b n e D T G = .inr (e', D', T', G')) : OKS n e' D' T' G' ∧ tE b n e ≤ e' := by
  unfold pMute at h
  split at h
  · cases h
  · split at h
    · rename_i c2
      split at h
      · cases h
        obtain ⟨⟨v0, v1, v2, v3, v4⟩, _⟩ := id hV
        have E := tE_spec b n (tE b n e) (tE_le he)
        have S := (tS_spec b n (tE b n e)).1.1
        have lb := lbS_bd c2.1
        refine ⟨⟨E.2.1, hV.lo (fun p hp => upD_o (by omega)) (by rw [upD_o (by omega)]; exact v0) (by rw [upD_o (by omega)]; exact v1) (by rw [upD_o (by omega)]; exact v2) (by rw [upD_s]; omega), or_16 hT (by omega), hG⟩, by omega⟩
      · cases h
    · cases h
theorem sp_rmute {h : Hp} {m : Nat} {b : Nat → Nat} {n : Nat} (c : MB h m b n) {e : Nat} (he : e ≤ n) {D : Nat → Int} (hV : V D) {T G : Nat} (hT : T < 65536) (s9 : hpC h m 9 = (tE b n e : Int)) (s10 : hpC h m 10 = (tS b n e : Int)) (s11 : hpC h m 11 = 0) (s14 : hpC h m 14 = (T : Int) ∧ hpC h m 12 = -1) (s15 : hpC h m 15 = (G : Int)) (sD : DR h m D) {d mc ms : Nat} {R : PR} (hd : 4 ≤ d) {o1 : Option AV} (H : ∀ h', FrP (Smr m) h h' → OUT h' m (pMute b n e D T G) → R none h') : Wp m_M_readsMute 0 [some (xR m), o1] [] h d mc ms R := by
  have E1 := tE_le (b := b) he
  have up : ∀ {g g2 : Hp} {v : Int}, g2 = hpU g (m + 1) 1013 v → FrP (Smr m) g g2 := fun e => by subst e; exact FrP.up (Or.inr ⟨rfl, by omega, by omega⟩)
  have wr : ∀ (g : Hp) (v : Int), MB g m b n → (∀ g2, g2 = hpU g (m + 1) 1013 v → R none g2) → (hpT g m).1 = 12 ∧ (((hpT g (Int.toNat (hpC g m 0))).1 = 20 ∧ 0 ≤ (1013 : Int) ∧ (1013 : Int) < ((hpT g (Int.toNat (hpC g m 0))).2 : Int)) ∧ (∀ g1 : Hp, g1 = hpU g (Int.toNat (hpC g m 0)) (Int.toNat (1013 : Int)) v → R none g1)) := fun g v cg Hw => by
    rw [cg.1.row_n, cg.1.row_t]
    exact ⟨cg.tag, ⟨rfl, by decide, by decide⟩, Hw⟩
  have sec : ∀ {g2 : Hp} {v : Int} {f p : Int}, hpC g2 m 11 = f → hpC g2 m 12 = p → hpC (hpU g2 (m + 1) 1013 v) m 11 = f ∧ hpC (hpU g2 (m + 1) 1013 v) m 12 = p := fun a1 a2 => ⟨by rw [hpC_o1 (by omega)]; exact a1, by rw [hpC_o1 (by omega)]; exact a2⟩
  apply f_M_readsMute_0
  refine ⟨⟨by omega, c.tag⟩, sp_monce (i := 3) c s11 s14.1 hT (by omega) (by omega) (fun tb g f q14 _ => ?_) (fun tb g f q11 q12 _ => ?_)⟩
  · have no : ∀ q p, ¬ (q = m ∧ p = 14) → hpC g q p = hpC h q p := f.2.2
    have F : FrP (Smr m) h g := f.wk (fun q p z => Or.inl ⟨z.1, by omega⟩)
    have cg := c.fr F
    have g11 : hpC g m 11 = 0 := by rw [no _ _ (by omega)]; exact s11
    refine ⟨⟨by omega, cg.tag⟩, sp_mlet (lo := 1) (hi := 26) (dup := 0) cg g11 (by rw [no _ _ (by omega)]; exact s9) E1 (by omega) (fun lS ld g1 f1 a9 a10 v ee => ?_) (fun lS ld g1 v f1 a1 a2 v2 ee => ?_) (fun lS g1 f1 a1 a2 v ee => ?_)⟩
    · have ev := xI_inj ee
      rw [ev]
      have F1 := F.tr (F910_mr f1)
      refine wr g1 _ (c.fr F1) (fun g2 e2 => H g2 (F1.tr (up e2)) ?_)
      unfold pMute
      rw [if_neg tb, if_pos lS, if_pos (by rcases ld with z | z; exact absurd rfl z; exact z)]
      subst e2
      refine ⟨by rw [hpC_o1 (by omega)]; exact a9, by rw [hpC_o1 (by omega), FrP.c910 f1 (by omega)]; exact g11, ⟨by rw [hpC_o1 (by omega), FrP.c910 f1 (by omega)]; exact q14, by rw [hpC_o1 (by omega), FrP.c910 f1 (by omega), no _ _ (by omega)]; exact s14.2⟩, by rw [hpC_o1 (by omega), FrP.c910 f1 (by omega), no _ _ (by omega)]; exact s15, fun p hp => ?_⟩
      by_cases e : p = 3
      · rw [e, hpC_same, upD_s]
      · rw [hpC_o2 (by omega), upD_o e, FrP.c910 f1 (by omega), no _ _ (by omega)]; exact sD p hp
    · refine wr g1 _ (c.fr (F.tr f1)) (fun g2 e2 => H g2 ((F.tr f1).tr (up e2)) ?_)
      unfold pMute
      rw [if_neg tb, if_pos lS, if_neg (fun z => ld (Or.inr z))]
      subst e2
      exact ⟨(sec a1 a2).1, by decide, (sec a1 a2).2⟩
    · refine wr g1 _ (c.fr (F.tr f1)) (fun g2 e2 => H g2 ((F.tr f1).tr (up e2)) ?_)
      unfold pMute
      rw [if_neg tb, if_neg lS]
      subst e2
      exact ⟨(sec a1 a2).1, by decide, (sec a1 a2).2⟩
  · have cg := c.fr f
    refine ⟨⟨by omega, cg.tag⟩, sp_mletN cg q11 (by decide) (by omega) (fun v _ => wr g v cg (fun g2 e2 => H g2 (f.tr (up e2)) ?_))⟩
    unfold pMute
    rw [if_pos tb]
    subst e2
    exact ⟨(sec q11 q12).1, by decide, by rw [(sec q11 q12).2]; exact s10⟩
/-! a street -/
theorem ptW_o {D v : Nat → Int} {o p : Nat} (h : p < o ∨ o + 10 ≤ p) : ptW D o v p = D p := by unfold ptW; rw [if_neg (by omega)]
theorem ptW_n {D v : Nat → Int} {o i : Nat} (h : i < 10) : ptW D o v (o + i) = v i := by unfold ptW; rw [if_pos (by omega)]; congr 1; omega
/-- one more name at the end of a table -/
theorem V.st {D : Nat → Int} (hV : V D) {v : Nat → Int} (hv : okName v 0) (h7 : D 7 < 10) : V (upD (ptW D (180 + 10 * (D 7).toNat) v) 7 (D 7 + 1)) := by
  obtain ⟨⟨v0, v1, v2, v3, v4, v5, v6, v7, v8, v9⟩, w1, w2, w3, w4, w5, w6, w7⟩ := hV
  have L : ∀ p, p ≠ 7 → (p < 180 + 10 * (D 7).toNat ∨ 190 + 10 * (D 7).toNat ≤ p) → upD (ptW D (180 + 10 * (D 7).toNat) v) 7 (D 7 + 1) p = D p := fun p h1 h2 => by rw [upD_o h1, ptW_o (by omega)]
  have e7 : upD (ptW D (180 + 10 * (D 7).toNat) v) 7 (D 7 + 1) 7 = D 7 + 1 := upD_s _ _ _
  have N : ∀ i, i < 10 → upD (ptW D (180 + 10 * (D 7).toNat) v) 7 (D 7 + 1) (180 + 10 * (D 7).toNat + i) = v i := fun i hi => by rw [upD_o (by omega), ptW_n hi]
  generalize upD (ptW D (180 + 10 * (D 7).toNat) v) 7 (D 7 + 1) = u at *
  refine ⟨⟨by rw [L 0 (by omega) (by omega)]; exact v0, by rw [L 1 (by omega) (by omega)]; exact v1, by rw [L 2 (by omega) (by omega)]; exact v2, by rw [L 3 (by omega) (by omega)]; exact v3, by rw [L 4 (by omega) (by omega)]; exact v4, by rw [L 5 (by omega) (by omega)]; exact v5, by rw [L 6 (by omega) (by omega)]; exact v6, by rw [e7]; omega, by rw [L 8 (by omega) (by omega)]; exact v8, by rw [L 9 (by omega) (by omega)]; exact v9⟩, fun k hk => by rw [L _ (by omega) (by omega)]; exact w1 k hk, fun k hk i hi => ?_, fun k hk => ?_, fun k hk => ?_, fun k hk => ?_, fun s hs => ?_, fun k hk => ?_⟩
  · rw [L 5 (by omega) (by omega)] at hk
    rw [L _ (by omega) (by omega)]; exact w2 k hk i hi
  · rw [L 6 (by omega) (by omega)] at hk
    exact okN_ext (fun i hi => (L _ (by omega) (by omega)).symm) (w3 k hk)
  · rw [e7] at hk
    by_cases c : (k : Int) < D 7
    · exact okN_ext (fun i hi => (L _ (by omega) (by omega)).symm) (w4 k c)
    · rw [show k = (D 7).toNat by omega]
      exact okN_ext (fun i hi => by rw [Nat.zero_add, N i hi]) hv
  · rw [L 8 (by omega) (by omega)] at hk
    exact okN_ext (fun i hi => (L _ (by omega) (by omega)).symm) (w5 k hk)
  · obtain ⟨z1, z2, z3, z4⟩ := w6 s hs
    rw [L (280 + s) (by omega) (by omega), e7]
    refine ⟨z1, fun z => z2 (by omega), fun i hi => ?_, fun i j hi hj => ?_⟩
    · rw [L _ (by omega) (by omega), L _ (by omega) (by omega), L _ (by omega) (by omega)]; exact z3 i hi
    · rw [L _ (by omega) (by omega), L _ (by omega) (by omega), L _ (by omega) (by omega), L _ (by omega) (by omega)]; exact z4 i j hi hj
  · rw [L 8 (by omega) (by omega)] at hk
    have := w7 k hk
    rw [L (950 + k) (by omega) (by omega), L (980 + k) (by omega) (by omega), e7]
    omega
def pStr (b : Nat → Nat) (n e : Nat) (D : Nat → Int) (T G : Nat) : PO :=
  if D 7 = 10 then .inl (4, tS b n e)
  else if nmS b n (tE b n e) then (if toS D (wS b n (tE b n e)) then .inl (3, tS b n (tE b n e)) else .inr (tE b n (tE b n e), upD (ptW D (180 + 10 * (D 7).toNat) (tV b n (tE b n e))) 7 (D 7 + 1), T, G))
  else .inl (1, tS b n (tE b n e))
theorem pStr_ok {b : Nat → Nat} {n e e' T G T' G' : Nat} {D D' : Nat → Int} (he : e ≤ n) (hV : V D) (hT : T < 65536) (hG : G < 67108864) (h : pStr b n e D T G = .inr (e', D', T', G')) : OKS n e' D' T' G' ∧ tE b n e ≤ e' := by
  unfold pStr at h
  split at h
  · cases h
  · rename_i c1
    split at h
    · rename_i c2
      split at h
      · cases h
      · cases h
        have v7 := hV.1.2.2.2.2.2.2.2.1
        have E := tE_spec b n (tE b n e) (tE_le he)
        have S := (tS_spec b n (tE b n e)).1.1
        exact ⟨⟨E.2.1, hV.st (tV_ok (tE_le he) c2).1 (by omega), hT, hG⟩, by omega⟩
    · cases h
theorem sp_rstr {h : Hp} {m : Nat} {b : Nat → Nat} {n : Nat} (c : MB h m b n) {e : Nat} (he : e ≤ n) {D : Nat → Int} (hV : V D) {T G : Nat} (hT : T < 65536) (s9 : hpC h m 9 = (tE b n e : Int)) (s10 : hpC h m 10 = (tS b n e : Int)) (s11 : hpC h m 11 = 0) (s14 : hpC h m 14 = (T : Int) ∧ hpC h m 12 = -1) (s15 : hpC h m 15 = (G : Int)) (sD : DR h m D) {d mc ms : Nat} {R : PR} (hd : 5 ≤ d) {o1 : Option AV} (H : ∀ h', FrP (Smr m) h h' → OUT h' m (pStr b n e D T G) → R none h') : Wp m_M_readsStreet 0 [some (xR m), o1] [] h d mc ms R := by
  have E1 := tE_le (b := b) he
  have v7 := hV.1.2.2.2.2.2.2.2.1
  have t17 : Int.toNat (1017 : Int) = 1010 + 7 := rfl
  apply f_M_readsStreet_0
  rw [c.1.row_n, c.1.row_t, t17, sD 7 (by omega)]
  refine ⟨c.tag, ⟨rfl, by decide, by decide⟩, ?_⟩
  have no : ∀ (g : Hp) (f : Int) (p : Nat), MB g m b n → FrP (Smr m) h g → hpC g m 11 = f → f ≠ 0 → hpC g m 12 = (p : Int) → pStr b n e D T G = .inl (f, p) → Wp m_M_readsStreet 24 [some (xR m), some (xI (D 7))] [] g d mc ms R := fun g f p cg fr a1 hf a2 eP => by
    apply f_M_readsStreet_24
    refine ⟨⟨by omega, cg.tag⟩, sp_mfreshN cg a1 hf (by omega) (fun _ => ?_)⟩
    refine ⟨⟨by omega, cg.tag⟩, sp_goesWell cg a1 (fun v ee => ?_)⟩
    have ev := xI_inj ee
    rw [if_neg hf] at ev
    rw [if_pos ev]
    exact H g fr (by rw [eP]; exact ⟨a1, hf, a2⟩)
  by_cases c0 : D 7 = 10
  · rw [if_pos c0]
    exact ⟨c.tag, ⟨by omega, c.tag⟩, sp_faultsG c s11 (fun g f a1 a2 _ _ => no g 4 (tS b n e) (c.fr f) f a1 (by decide) (by rw [a2]; exact s10) (by unfold pStr; rw [if_pos c0]))⟩
  · rw [if_neg c0]
    obtain ⟨k, hk⟩ : ∃ k : Nat, D 7 = (k : Int) := ⟨(D 7).toNat, by omega⟩
    have nk : (D 7).toNat = k := by omega
    have fl : ∀ (g : Hp) (f : Int) (p : Nat), FrP (Smr m) h g → hpC g m 11 = f → f ≠ 0 → hpC g m 12 = (p : Int) → pStr b n e D T G = .inl (f, p) → (1 ≤ d ∧ (hpT g m).1 = 12) ∧ Wp m_M_goesWell 0 [some (xR m)] [] g (d - 1) 0 0 (fun rv h2 => ∀ v2 : Int, rv = some (xI v2) → (if v2 = (0 : Int) then R none h2 else ((1 ≤ d ∧ (hpT h2 m).1 = 12) ∧ Wp m_M_puts 0 [some (xR m), some (xI (ai_add (1190 : Int) (ai_mul (10 : Int) (D 7)))), none] [] h2 (d - 1) 0 0 (fun rv h3 => rv = none → ((hpT h3 m).1 = 12 ∧ (((hpT h3 (Int.toNat (hpC h3 m 0))).1 = 20 ∧ 0 ≤ (1017 : Int) ∧ (1017 : Int) < ((hpT h3 (Int.toNat (hpC h3 m 0))).2 : Int)) ∧ (((hpT h3 (Int.toNat (hpC h3 m 0))).1 = 20 ∧ 0 ≤ (1017 : Int) ∧ (1017 : Int) < ((hpT h3 (Int.toNat (hpC h3 m 0))).2 : Int)) ∧ (∀ g1 : Hp, g1 = hpU h3 (Int.toNat (hpC h3 m 0)) (Int.toNat (1017 : Int)) (ai_add (hpC h3 (Int.toNat (hpC h3 m 0)) (Int.toNat (1017 : Int))) (1 : Int)) → R none g1))))))))  := fun g f p fr a1 hf a2 eP => by
      have cg := c.fr fr
      refine ⟨⟨by omega, cg.tag⟩, sp_goesWell cg a1 (fun v ee => ?_)⟩
      have ev := xI_inj ee
      rw [if_neg hf] at ev
      rw [if_pos ev]
      exact H g fr (by rw [eP]; exact ⟨a1, hf, a2⟩)
    apply f_M_readsStreet_24
    refine ⟨⟨by omega, c.tag⟩, sp_mfresh c s11 s9 E1 sD hV (by omega) (fun nS nt g f a9 a10 _ => ?_) (fun nS nt g f a1 a2 _ => ?_) (fun nS g f a1 a2 _ => ?_)⟩
    · have F := F910_mr f
      have cg := c.fr F
      have g11 : hpC g m 11 = 0 := by rw [FrP.c910 f (by omega)]; exact s11
      refine ⟨⟨by omega, cg.tag⟩, sp_goesWell cg g11 (fun v ee => ?_)⟩
      have ev := xI_inj ee
      clear ee
      rw [if_pos rfl] at ev
      rw [if_neg (by omega), hk, am_10 (by omega), show ai_add (1190 : Int) ((10 * k : Nat) : Int) = ((1010 + (180 + 10 * k) : Nat) : Int) from by rw [ai_add_eq (by omega) (by omega)]; omega]
      refine ⟨⟨by omega, cg.tag⟩, sp_mputs cg E1 nS a9 a10 (sD.fr f F910_row) (by omega) (fun g2 f2 d2 _ => ?_)⟩
      have F2 : FrP (Smr m) h g2 := F.tr (f2.wk (fun q p z => Or.inr z))
      have cg2 := c.fr F2
      have x7 : hpC g2 (m + 1) 1017 = (k : Int) := by
        have := d2 7 (by omega)
        rw [ptW_o (by omega), hk] at this
        exact this
      rw [cg2.1.row_n, cg2.1.row_t, show Int.toNat (1017 : Int) = 1017 from rfl, x7, ab_1 (by omega)]
      refine ⟨cg2.tag, ⟨rfl, by decide, by decide⟩, ⟨rfl, by decide, by decide⟩, fun g3 e3 => ?_⟩
      have f3 : FrP (Smr m) g2 g3 := by subst e3; exact FrP.up (Or.inr ⟨rfl, by omega, by omega⟩)
      refine H g3 (F2.tr f3) ?_
      unfold pStr
      rw [if_neg c0, if_pos nS, if_neg nt, nk]
      subst e3
      have keep : ∀ q, q ≠ 9 → q ≠ 10 → hpC (hpU g2 (m + 1) 1017 ((k + 1 : Nat) : Int)) m q = hpC h m q := fun q h1 h2 => by rw [hpC_o1 (by omega), f2.2.2 _ _ (by omega), FrP.c910 f (by omega)]
      refine ⟨by rw [hpC_o1 (by omega), f2.2.2 _ _ (by omega)]; exact a9, by rw [keep _ (by omega) (by omega)]; exact s11, ⟨by rw [keep _ (by omega) (by omega)]; exact s14.1, by rw [keep _ (by omega) (by omega)]; exact s14.2⟩, by rw [keep _ (by omega) (by omega)]; exact s15, fun p hp => ?_⟩
      by_cases q : p = 7
      · rw [q, hpC_same, upD_s, hk]; omega
      · rw [hpC_o2 (by omega), upD_o q]; exact d2 p hp
    · exact fl g 3 _ f a1 (by decide) a2 (by unfold pStr; rw [if_neg c0, if_pos nS, if_pos nt])
    · exact fl g 1 _ f a1 (by decide) a2 (by unfold pStr; rw [if_neg c0, if_neg nS])
