/-! ===== statements: what they say, and how the reference reads them ===== -/
abbrev PO := Sum (Int × Nat) (Nat × (Nat → Int) × Nat × Nat)
def MG (h : Hp) (m e : Nat) (D : Nat → Int) (T G : Nat) : Prop := hpC h m 9 = (e : Int) ∧ hpC h m 11 = 0 ∧ (hpC h m 14 = (T : Int) ∧ hpC h m 12 = -1) ∧ hpC h m 15 = (G : Int) ∧ DR h m D
def OUT (h : Hp) (m : Nat) : PO → Prop
  | .inl (f, p) => hpC h m 11 = f ∧ f ≠ 0 ∧ hpC h m 12 = (p : Int)
  | .inr (e, D, T, G) => MG h m e D T G
def OKS (n e : Nat) (D : Nat → Int) (T G : Nat) : Prop := e ≤ n ∧ V D ∧ T < 65536 ∧ G < 67108864
theorem V.lo {D D' : Nat → Int} (hV : V D) (h : ∀ p, 4 ≤ p → D' p = D p) (r0 : 0 ≤ D' 0 ∧ D' 0 ≤ 3) (r1 : 0 ≤ D' 1 ∧ D' 1 ≤ 99) (r2 : 1 ≤ D' 2 ∧ D' 2 ≤ 99) (r3 : 0 ≤ D' 3 ∧ D' 3 < 67108864) : V D' := by
  obtain ⟨⟨v0, v1, v2, v3, v4, v5, v6, v7, v8, v9⟩, w1, w2, w3, w4, w5, w6, w7⟩ := hV
  refine ⟨⟨r0, r1, r2, r3, by rw [h 4 (by omega)]; exact v4, by rw [h 5 (by omega)]; exact v5, by rw [h 6 (by omega)]; exact v6, by rw [h 7 (by omega)]; exact v7, by rw [h 8 (by omega)]; exact v8, by rw [h 9 (by omega)]; exact v9⟩, fun k hk => by rw [h _ (by omega)]; exact w1 k hk, fun k hk i hi => ?_, fun k hk => ?_, fun k hk => ?_, fun k hk => ?_, fun s hs => ?_, fun k hk => ?_⟩
  · rw [h 5 (by omega)] at hk
    rw [h _ (by omega)]; exact w2 k hk i hi
  · rw [h 6 (by omega)] at hk
    exact okN_ext (fun i hi => (h _ (by omega)).symm) (w3 k hk)
  · rw [h 7 (by omega)] at hk
    exact okN_ext (fun i hi => (h _ (by omega)).symm) (w4 k hk)
  · rw [h 8 (by omega)] at hk
    exact okN_ext (fun i hi => (h _ (by omega)).symm) (w5 k hk)
  · obtain ⟨z1, z2, z3, z4⟩ := w6 s hs
    rw [h (280 + s) (by omega), h 7 (by omega)]
    refine ⟨z1, z2, fun i hi => ?_, fun i j hi hj => ?_⟩
    · rw [h _ (by omega), h _ (by omega), h _ (by omega)]; exact z3 i hi
    · rw [h _ (by omega), h _ (by omega), h _ (by omega), h _ (by omega)]; exact z4 i j hi hj
  · rw [h 8 (by omega)] at hk
    rw [h (950 + k) (by omega), h (980 + k) (by omega), h 7 (by omega)]; exact w7 k hk
def upD (D : Nat → Int) (i : Nat) (v : Int) : Nat → Int := fun p => if p = i then v else D p
theorem upD_s (D : Nat → Int) (i : Nat) (v : Int) : upD D i v i = v := by unfold upD; rw [if_pos rfl]
theorem upD_o {D : Nat → Int} {i p : Nat} {v : Int} (h : p ≠ i) : upD D i v p = D p := by unfold upD; rw [if_neg h]
theorem tE_le {b : Nat → Nat} {n e : Nat} (he : e ≤ n) : tE b n e ≤ n := (tE_spec b n e he).2.1
/-! settings -/
def stLo (i : Nat) : Int := if i = 2 then 1 else 0
def stHi (i : Nat) : Int := if i = 0 then 3 else 99
def pSet (b : Nat → Nat) (n i e : Nat) (D : Nat → Int) (T G : Nat) : PO :=
  if T.testBit i = true then .inl (1, tS b n e)
  else if nuS b n (tE b n e) then (if stLo i ≤ nuV b n (tE b n e) ∧ nuV b n (tE b n e) ≤ stHi i then .inr (tE b n (tE b n e), upD D i (nuV b n (tE b n e)), T ||| 2 ^ i, G) else .inl (2, tS b n (tE b n e)))
  else .inl (1, tS b n (tE b n e))
theorem or_16 {T i : Nat} (hT : T < 65536) (hi : i < 16) : T ||| 2 ^ i < 65536 := Nat.or_lt_two_pow (n := 16) hT (Nat.pow_lt_pow_right (by decide) hi)
theorem pSet_ok {b : Nat → Nat} {n i e e' T G T' G' : Nat} {D D' : Nat → Int} (hi : i < 3) (he : e ≤ n) (hV : V D) (hT : T < 65536) (hG : G < 67108864) (h : pSet b n i e D T G = .inr (e', D', T', G')) : OKS n e' D' T' G' ∧ tE b n e ≤ e' := by
  unfold pSet at h
  split at h
  · cases h
  · split at h
    · split at h
      · rename_i c3
        cases h
        obtain ⟨⟨v0, v1, v2, v3, v4⟩, _⟩ := id hV
        have E := tE_spec b n (tE b n e) (tE_le he)
        have S := (tS_spec b n (tE b n e)).1.1
        refine ⟨⟨E.2.1, hV.lo (fun p hp => upD_o (by omega)) ?_ ?_ ?_ ?_, or_16 hT (by omega), hG⟩, by omega⟩
        all_goals
          unfold stLo stHi at c3
          unfold upD
          rcases (by omega : i = 0 ∨ i = 1 ∨ i = 2) with rfl | rfl | rfl
          all_goals simp at c3 ⊢; omega
      · cases h
    · cases h
theorem sp_rset {h : Hp} {m : Nat} {b : Nat → Nat} {n : Nat} (c : MB h m b n) {e : Nat} (he : e ≤ n) {D : Nat → Int} {T G i : Nat} (hi : i < 3) (hT : T < 65536) (s9 : hpC h m 9 = (tE b n e : Int)) (s10 : hpC h m 10 = (tS b n e : Int)) (s11 : hpC h m 11 = 0) (s14 : hpC h m 14 = (T : Int) ∧ hpC h m 12 = -1) (s15 : hpC h m 15 = (G : Int)) (sD : DR h m D) {d mc ms : Nat} {R : PR} (hd : 3 ≤ d) {o2 : Option AV} (H : ∀ h', FrP (Smr m) h h' → OUT h' m (pSet b n i e D T G) → R none h') : Wp m_M_readsNumber 0 [some (xR m), some (xI (i : Int)), o2] [] h d mc ms R := by
  have E1 := tE_le (b := b) he
  -- the row's write
  have wr : ∀ (g : Hp) (v : Int), MB g m b n → (∀ g2, g2 = hpU g (m + 1) (1010 + i) v → R none g2) → (hpT g m).1 = 12 ∧ (if (i : Int) = 0 then (((hpT g (Int.toNat (hpC g m 0))).1 = 20 ∧ 0 ≤ (ai_add (1010 : Int) (0 : Int)) ∧ (ai_add (1010 : Int) (0 : Int)) < ((hpT g (Int.toNat (hpC g m 0))).2 : Int)) ∧ (∀ g3 : Hp, g3 = hpU g (Int.toNat (hpC g m 0)) (Int.toNat (ai_add (1010 : Int) (0 : Int))) v → R none g3)) else (if (i : Int) = 1 then (((hpT g (Int.toNat (hpC g m 0))).1 = 20 ∧ 0 ≤ (ai_add (1010 : Int) (1 : Int)) ∧ (ai_add (1010 : Int) (1 : Int)) < ((hpT g (Int.toNat (hpC g m 0))).2 : Int)) ∧ (∀ g2 : Hp, g2 = hpU g (Int.toNat (hpC g m 0)) (Int.toNat (ai_add (1010 : Int) (1 : Int))) v → R none g2)) else (((hpT g (Int.toNat (hpC g m 0))).1 = 20 ∧ 0 ≤ (ai_add (1010 : Int) (2 : Int)) ∧ (ai_add (1010 : Int) (2 : Int)) < ((hpT g (Int.toNat (hpC g m 0))).2 : Int)) ∧ (∀ g1 : Hp, g1 = hpU g (Int.toNat (hpC g m 0)) (Int.toNat (ai_add (1010 : Int) (2 : Int))) v → R none g1)))) := fun g v cg Hw => by
    have e0 : ai_add (1010 : Int) (0 : Int) = 1010 := by decide
    have e1 : ai_add (1010 : Int) (1 : Int) = 1011 := by decide
    have e2 : ai_add (1010 : Int) (2 : Int) = 1012 := by decide
    rw [cg.1.row_n, cg.1.row_t, e0, e1, e2]
    refine ⟨cg.tag, ?_⟩
    rcases (by omega : i = 0 ∨ i = 1 ∨ i = 2) with rfl | rfl | rfl
    · rw [if_pos (by decide)]; exact ⟨⟨rfl, by decide, by decide⟩, Hw⟩
    · rw [if_neg (by decide), if_pos (by decide)]; exact ⟨⟨rfl, by decide, by decide⟩, Hw⟩
    · rw [if_neg (by decide), if_neg (by decide)]; exact ⟨⟨rfl, by decide, by decide⟩, Hw⟩
  have up : ∀ {g g2 : Hp} {v : Int}, g2 = hpU g (m + 1) (1010 + i) v → FrP (Smr m) g g2 := fun e => by subst e; exact FrP.up (Or.inr ⟨rfl, by omega, by omega⟩)
  -- after once
  have two : ∀ (g : Hp) (RR : Prop), ((∃ f : Int, ∃ p : Nat, f ≠ 0 ∧ hpC g m 11 = f ∧ hpC g m 12 = (p : Int) ∧ pSet b n i e D T G = .inl (f, p)) ∨ (T.testBit i ≠ true ∧ MG g m (tE b n e) D (T ||| 2 ^ i) G)) → FrP (Smr m) h g → Wp m_M_readsNumber 26 [some (xR m), some (xI (i : Int)), o2] [xI (stHi i), xI (stLo i), xR m] g d mc ms R := by
    intro g _ st f
    have cg := c.fr f
    have sec : ∀ {g2 : Hp} {v : Int} {f p : Int}, hpC g2 m 11 = f → hpC g2 m 12 = p → hpC (hpU g2 (m + 1) (1010 + i) v) m 11 = f ∧ hpC (hpU g2 (m + 1) (1010 + i) v) m 12 = p := fun a1 a2 => ⟨by rw [hpC_o1 (by omega)]; exact a1, by rw [hpC_o1 (by omega)]; exact a2⟩
    apply f_M_readsNumber_26
    rcases st with ⟨f1, p, hf, q11, q12, eP⟩ | ⟨tb, g9, g11, g14, g15, gD⟩
    · refine ⟨⟨by omega, cg.tag⟩, sp_mnumN cg q11 hf (by omega) (fun v _ => wr g v cg (fun g2 e2 => H g2 (f.tr (up e2)) ?_))⟩
      rw [eP]
      subst e2
      exact ⟨(sec q11 q12).1, hf, (sec q11 q12).2⟩
    · refine ⟨⟨by omega, cg.tag⟩, sp_mnum cg g11 g9 E1 (by omega) (fun nS r g1 f1 a9 a10 v ee => ?_) (fun nS r g1 f1 a1 a2 v ee => ?_) (fun nS g1 f1 a1 a2 v ee => ?_)⟩
      · have ev := xI_inj ee
        rw [ev]
        have F1 := f.tr (F910_mr f1)
        refine wr g1 _ (c.fr F1) (fun g2 e2 => H g2 (F1.tr (up e2)) ?_)
        unfold pSet
        rw [if_neg tb, if_pos nS, if_pos r]
        subst e2
        refine ⟨by rw [hpC_o1 (by omega)]; exact a9, by rw [hpC_o1 (by omega), FrP.c910 f1 (by omega)]; exact g11, ⟨by rw [hpC_o1 (by omega), FrP.c910 f1 (by omega)]; exact g14.1, by rw [hpC_o1 (by omega), FrP.c910 f1 (by omega)]; exact g14.2⟩, by rw [hpC_o1 (by omega), FrP.c910 f1 (by omega)]; exact g15, fun p hp => ?_⟩
        by_cases e : p = i
        · rw [e, hpC_same, upD_s]
        · rw [hpC_o2 (by omega), upD_o e, FrP.c910 f1 (by omega)]; exact gD p hp
      · refine wr g1 _ (c.fr (f.tr f1)) (fun g2 e2 => H g2 ((f.tr f1).tr (up e2)) ?_)
        unfold pSet
        rw [if_neg tb, if_pos nS, if_neg r]
        subst e2
        exact ⟨(sec a1 a2).1, by decide, (sec a1 a2).2⟩
      · refine wr g1 _ (c.fr (f.tr f1)) (fun g2 e2 => H g2 ((f.tr f1).tr (up e2)) ?_)
        unfold pSet
        rw [if_neg tb, if_neg nS]
        subst e2
        exact ⟨(sec a1 a2).1, by decide, (sec a1 a2).2⟩
  have go : ∀ (g : Hp), ((∃ f : Int, ∃ p : Nat, f ≠ 0 ∧ hpC g m 11 = f ∧ hpC g m 12 = (p : Int) ∧ pSet b n i e D T G = .inl (f, p)) ∨ (T.testBit i ≠ true ∧ MG g m (tE b n e) D (T ||| 2 ^ i) G)) → FrP (Smr m) h g → (if (i : Int) = 2 then (if (i : Int) = 0 then Wp m_M_readsNumber 26 [some (xR m), some (xI (i : Int)), o2] [xI (3 : Int), xI (1 : Int), xR m] g d mc ms R else Wp m_M_readsNumber 26 [some (xR m), some (xI (i : Int)), o2] [xI (99 : Int), xI (1 : Int), xR m] g d mc ms R) else (if (i : Int) = 0 then Wp m_M_readsNumber 26 [some (xR m), some (xI (i : Int)), o2] [xI (3 : Int), xI (0 : Int), xR m] g d mc ms R else Wp m_M_readsNumber 26 [some (xR m), some (xI (i : Int)), o2] [xI (99 : Int), xI (0 : Int), xR m] g d mc ms R)) := fun g st f => by
    have t := two g True st f
    unfold stHi stLo at t
    rcases (by omega : i = 0 ∨ i = 1 ∨ i = 2) with rfl | rfl | rfl
    · exact t
    · exact t
    · exact t
  apply f_M_readsNumber_0
  refine ⟨⟨by omega, c.tag⟩, sp_monce c s11 s14.1 hT (by omega) (by omega) (fun tb g f q14 _ => ?_) (fun tb g f q11 q12 _ => ?_)⟩
  · have no : ∀ q p, ¬ (q = m ∧ p = 14) → hpC g q p = hpC h q p := f.2.2
    exact go g (Or.inr ⟨tb, by rw [no _ _ (by omega)]; exact s9, by rw [no _ _ (by omega)]; exact s11, ⟨q14, by rw [no _ _ (by omega)]; exact s14.2⟩, by rw [no _ _ (by omega)]; exact s15, fun p hp => by rw [no _ _ (by omega)]; exact sD p hp⟩) (f.wk (fun q p z => Or.inl ⟨z.1, by omega⟩))
  · exact go g (Or.inl ⟨1, tS b n e, by decide, q11, by rw [q12]; exact s10, by unfold pSet; rw [if_pos tb]⟩) f
