/-! ===== the fewest changes: the reference ===== -/
theorem nkS_pcn (x : Nat) : ∀ n i, nkS x.testBit n i = (pcn n (x / 2 ^ i) : Int)
  | 0, i => rfl
  | n + 1, i => by
    simp only [nkS, pcn]
    rw [nkS_pcn x n (i + 1), Nat.div_div_eq_div_mul, show 2 ^ i * 2 = 2 ^ (i + 1) from rfl]
    have e : (x.testBit i = true) ↔ x / 2 ^ i % 2 = 1 := by rw [Nat.testBit_eq_decide_div_mod_eq]; simp
    by_cases c : x.testBit i = true
    · rw [if_pos c, e.mp c]; omega
    · rw [if_neg c]
      have : ¬ x / 2 ^ i % 2 = 1 := fun z => c (e.mpr z)
      omega
theorem popc_nk {x n : Nat} (hn : n ≤ 32) (hx : x < 2 ^ n) : (popc x : Int) = nkS x.testBit n 0 := by
  rw [nkS_pcn, Nat.pow_zero, Nat.div_one]
  unfold popc
  have := pcn_more n x (32 - n) hx
  rw [show n + (32 - n) = 32 by omega] at this
  rw [this]
def Snu (m : Nat) : Nat → Nat → Prop := fun r _ => r = m + 17
theorem Snu_SM {m : Nat} {h h' : Hp} (f : FrP (Snu m) h h') : FrP (SM m) h h' := f.wk (fun r p z => by have z : r = m + 17 := z; exact Or.inr (Or.inr (by omega)))
/-- a side is laid in order -/
def orM (h : Hp) (m : Nat) (w : Nat → Int) (s : Nat) (sd : Int) (z : Nat) : Prop := szG (hW w s) (w (280 + s)).toNat sd = (z : Int) ∧ hpC h m 30 = (z : Int) ∧ ∀ i, i < z → hpC h (m + 16) i = (orG (hW w s) (w (280 + s)).toNat sd i : Int)
theorem orM.fr {h h' : Hp} {m : Nat} {w : Nat → Int} {s : Nat} {sd : Int} {z : Nat} {S : Nat → Nat → Prop} (a : orM h m w s sd z) (f : FrP S h h') (hS : ∀ q p, S q p → m + 17 ≤ q) : orM h' m w s sd z := by
  refine ⟨a.1, ?_, fun i hi => ?_⟩
  · rw [f.2.2 _ _ (fun z => by have := hS _ _ z; omega)]; exact a.2.1
  · rw [f.2.2 _ _ (fun z => by have := hS _ _ z; omega)]; exact a.2.2 i hi
theorem sp_numbersWith {h : Hp} {m : Nat} {w : Nat → Int} (a : RD h m w) (hV : V w) {s : Nat} (hs : s < 10) {sd : Int} (hsd : 0 ≤ sd ∧ sd ≤ 1) {z : Nat} (om : orM h m w s sd z) {kp : Nat} (hk : kp < 4096) {d mc ms : Nat} {R : PR} (hd : 3 ≤ d) {o4 o5 o6 o7 o8 : Option AV}
    (H1 : ∀ h', FrP (Snu m) h h' → okS (loX (hW w s) (w (280 + s)).toNat (w 2) sd) (owX (hW w s) (w (280 + s)).toNat (w 2) sd) ((999 - 1 - sd) / 2) kp.testBit z 0 (-1) → (∀ t, t < z → hpC h' (m + 17) t = 1 + sd + 2 * (lsS (loX (hW w s) (w (280 + s)).toNat (w 2) sd) (owX (hW w s) (w (280 + s)).toNat (w 2) sd) kp.testBit z 0 (-1)).getD t 0) → R (some (xI 1)) h')
    (H2 : ∀ h', FrP (Snu m) h h' → ¬ okS (loX (hW w s) (w (280 + s)).toNat (w 2) sd) (owX (hW w s) (w (280 + s)).toNat (w 2) sd) ((999 - 1 - sd) / 2) kp.testBit z 0 (-1) → R (some (xI 0)) h') :
    Wp m_M_numbersWith 0 [some (xR m), some (xI (s : Int)), some (xI sd), some (xI (kp : Int)), o4, o5, o6, o7, o8] [] h d mc ms R := by
  have hn := hV.hs hs
  have hG := hV.gv hs
  have v2 := hV.1.2.2.1
  have bz := szG_bd (hW w s) (w (280 + s)).toNat sd
  have hz := om.1
  have hL := loX_bd hG (st := w 2) (sd := sd) (by omega)
  have ho := owX_bd hG (st := w 2) hsd
  have os : ∀ i, i < z → orG (hW w s) (w (280 + s)).toNat sd i < (w (280 + s)).toNat ∧ hW w s 0 (orG (hW w s) (w (280 + s)).toNat sd i) = sd ∧ rkG (hW w s) (w (280 + s)).toNat sd (hW w s 1 (orG (hW w s) (w (280 + s)).toNat sd i)) = (i : Int) := fun i hi => orG_spec hG (by omega)
  have lov : ∀ i, i < z → lowW (w 2) sd (hW w s 1 (orG (hW w s) (w (280 + s)).toNat sd i)) = 1 + sd + 2 * loX (hW w s) (w (280 + s)).toNat (w 2) sd i := fun i hi => by
    unfold loX loS lowW; rw [if_pos (by omega)]; omega
  have owv : ∀ i, i < z → owX (hW w s) (w (280 + s)).toNat (w 2) sd i = owV (w 2) sd (hW w s 1 (orG (hW w s) (w (280 + s)).toNat sd i)) (hW w s 2 (orG (hW w s) (w (280 + s)).toNat sd i)) := fun i hi => by
    unfold owX owS; rw [if_pos (by omega)]
  generalize hgL : loX (hW w s) (w (280 + s)).toNat (w 2) sd = L at *
  generalize hgO : owX (hW w s) (w (280 + s)).toNat (w 2) sd = own at *
  generalize hgT : ((999 : Int) - 1 - sd) / 2 = T at *
  apply f_M_numbersWith_0
  have lp : ∀ (j i : Nat) (p l : Int) (g : Hp) (o6 o7 o8 : Option AV), i + j = z → FrP (Snu m) h g → ((p = -1 ∧ l = -1) ∨ (0 ≤ p ∧ p ≤ 10000 ∧ l = 1 + sd + 2 * p)) →
      (∀ h', FrP (Snu m) h h' → okS L own T kp.testBit j i p → (∀ t, t < j → hpC h' (m + 17) (i + t) = 1 + sd + 2 * (lsS L own kp.testBit j i p).getD t 0) → (∀ t, t < i → hpC h' (m + 17) t = hpC g (m + 17) t) → R (some (xI 1)) h') →
      (∀ h', FrP (Snu m) h h' → ¬ okS L own T kp.testBit j i p → R (some (xI 0)) h') →
      Wp m_M_numbersWith 6 [some (xR m), some (xI (s : Int)), some (xI sd), some (xI (kp : Int)), some (xI l), some (xI (i : Int)), o6, o7, o8] [] g d mc ms R := by
    intro j
    induction j with
    | zero =>
      intro i p l g o6 o7 o8 hi f hp Y N
      have a := a.fr (Snu_SM f)
      have om := om.fr f (fun q p z => by have z : q = m + 17 := z; omega)
      apply f_M_numbersWith_6
      rw [om.2.1, if_neg (by omega)]
      exact ⟨a.1.tag, by simp, Y g f trivial (fun t ht => by omega) (fun t ht => rfl)⟩
    | succ j ih =>
      intro i p l g o6 o7 o8 hi f hp Y N
      have a := a.fr (Snu_SM f)
      have om := om.fr f (fun q p z => by have z : q = m + 17 := z; omega)
      obtain ⟨q1, q2, q3⟩ := os i (by omega)
      have hb := hV.hn hs (i := orG (hW w s) (w (280 + s)).toNat sd i) (by omega)
      have hb2 : 1 ≤ hW w s 2 (orG (hW w s) (w (280 + s)).toNat sd i) ∧ hW w s 2 (orG (hW w s) (w (280 + s)).toNat sd i) ≤ 999 := hb.2.2
      have hLi := hL i
      have hoi := ho i
      have ev := lov i (by omega)
      have eo := owv i (by omega)
      unfold owV at eo
      rw [ev] at eo
      have hg : gS L p i = max (L i) (p + 1) := rfl
      have wr : ∀ (y pv : Int) (g2 : Hp) (o6 o7 o8 : Option AV), g2 = hpU g (m + 17) i y → y = 1 + sd + 2 * pv → (0 ≤ pv ∧ pv ≤ 10000) →
          (∀ h', FrP (Snu m) h h' → okS L own T kp.testBit j (i + 1) pv → (hpC h' (m + 17) i = y ∧ ∀ t, t < j → hpC h' (m + 17) (i + 1 + t) = 1 + sd + 2 * (lsS L own kp.testBit j (i + 1) pv).getD t 0) → (∀ t, t < i → hpC h' (m + 17) t = hpC g (m + 17) t) → R (some (xI 1)) h') →
          (∀ h', FrP (Snu m) h h' → ¬ okS L own T kp.testBit j (i + 1) pv → R (some (xI 0)) h') →
          ((hpT g2 m).1 = 12 ∧ (((hpT g2 (Int.toNat (hpC g2 m 31))).1 = 20 ∧ 0 ≤ (i : Int) ∧ (i : Int) < ((hpT g2 (Int.toNat (hpC g2 m 31))).2 : Int)) ∧ Wp m_M_numbersWith 6 [some (xR m), some (xI (s : Int)), some (xI sd), some (xI (kp : Int)), some (xI (hpC g2 (Int.toNat (hpC g2 m 31)) (Int.toNat (i : Int)))), some (xI (ai_add (i : Int) 1)), o6, o7, o8] [] g2 d mc ms R)) := by
        intro y pv g2 o6 o7 o8 e3 ey hpv Y N
        have f2 : FrP (Snu m) g g2 := by subst e3; exact FrP.up rfl
        have z1 : hpC g2 (m + 17) i = y := by subst e3; rw [hpC_same]
        have z2 : ∀ t, t ≠ i → hpC g2 (m + 17) t = hpC g (m + 17) t := fun t ht => by subst e3; rw [hpC_ne (Or.inr ht)]
        clear e3
        have a2 := a.fr (Snu_SM f2)
        rw [a2.1.numbers_n, a2.1.numbers_t, Int.toNat_natCast, z1, ab_1 (by omega)]
        refine ⟨a2.1.tag, ⟨rfl, by omega, by show (i : Int) < 12; omega⟩, ?_⟩
        refine ih (i + 1) pv y g2 _ _ _ (by omega) (f.tr f2) (Or.inr ⟨hpv.1, hpv.2, ey⟩) (fun h' f3 ok x1 x2 => ?_) N
        refine Y h' f3 ok ⟨?_, x1⟩ (fun t ht => ?_)
        · rw [x2 i (by omega)]; exact z1
        · rw [x2 t (by omega)]; exact z2 t (by omega)
      apply f_M_numbersWith_6
      rw [om.2.1, if_pos (by omega)]
      refine ⟨a.1.tag, ⟨by omega, a.1.tag⟩, sp_lowHere a hV hs (om.2.2 i (by omega)) (by omega) (by omega) (by omega) (fun v e => ?_)⟩
      rw [q2, ev] at e
      cases e
      -- the least here
      have go : ∀ q : Int, max (1 + sd + 2 * L i) q = 1 + sd + 2 * gS L p i → Wp m_M_numbersWith 36 [some (xR m), some (xI (s : Int)), some (xI sd), some (xI (kp : Int)), some (xI l), some (xI (i : Int)), o6, o7, o8] [xI q, xI (1 + sd + 2 * L i)] g d mc ms R := by
        intro q hq
        apply f_M_numbersWith_36
        refine ⟨by omega, sp_greater (fun v e => ?_)⟩
        rw [hq] at e
        cases e
        refine ⟨⟨by omega, a.1.tag⟩, sp_numberNow a hV hs (om.2.2 i (by omega)) (by omega) (by omega) (by omega) (fun v e => ?_)⟩
        cases e
        generalize hW w s 2 (orG (hW w s) (w (280 + s)).toNat sd i) = v at *
        rw [ai_bit (by omega) (by omega)]
        simp only [okS, lsS] at Y N
        by_cases c : kp.testBit i = true
        · rw [if_pos c, if_pos rfl]
          rw [if_pos c] at Y
          rw [if_pos c] at N
          apply f_M_numbersWith_65
          rw [if_neg (by decide), ai_rem_eq (by omega) (by omega) (by omega) (by omega)]
          refine ⟨by decide, ?_⟩
          by_cases d1 : v % 2 = sd
          · rw [if_pos d1]
            rw [if_neg (fun z => z.1 d1)] at eo
            exact ⟨by simp, N g f (fun z => by have := z.1; omega)⟩
          · rw [if_neg d1]
            by_cases d2 : v < 1 + sd + 2 * gS L p i
            · rw [if_pos d2]
              refine ⟨by simp, N g f (fun z => ?_)⟩
              have := z.1
              by_cases d3 : 1 + sd + 2 * L i ≤ v
              · rw [if_pos ⟨d1, d3⟩] at eo; omega
              · rw [if_neg (fun z => d3 z.2)] at eo; omega
            · rw [if_neg d2, if_neg (by decide)]
              rw [if_pos ⟨d1, by omega⟩] at eo
              apply f_M_numbersWith_102
              rw [if_neg (by decide), a.1.numbers_n, a.1.numbers_t]
              refine ⟨a.1.tag, ⟨rfl, by omega, by show (i : Int) < 12; omega⟩, fun g2 e3 => ?_⟩
              rw [Int.toNat_natCast] at e3
              refine wr v (own i) g2 _ _ _ e3 (by omega) (by omega) (fun h' f3 ok x1 x2 => ?_) (fun h' f3 nok => N h' f3 (fun z => nok z.2))
              refine Y h' f3 ⟨by omega, ok⟩ (fun t ht => ?_) x2
              rw [if_pos c]
              cases t with
              | zero => rw [List.getD_cons_zero]; show hpC h' (m + 17) i = _; rw [x1.1]; omega
              | succ t => rw [List.getD_cons_succ, show i + (t + 1) = i + 1 + t by omega]; exact x1.2 t (by omega)
        · rw [if_neg c, if_neg (by decide)]
          rw [if_neg c] at Y
          rw [if_neg c] at N
          apply f_M_numbersWith_65
          rw [if_pos rfl, if_pos rfl]
          by_cases d1 : (999 : Int) < 1 + sd + 2 * gS L p i
          · rw [if_pos d1]
            exact ⟨by simp, N g f (fun z => by have := z.1; omega)⟩
          · rw [if_neg d1]
            apply f_M_numbersWith_102
            rw [if_pos rfl, a.1.numbers_n, a.1.numbers_t]
            refine ⟨a.1.tag, ⟨rfl, by omega, by show (i : Int) < 12; omega⟩, fun g2 e3 => ?_⟩
            rw [Int.toNat_natCast] at e3
            refine wr (1 + sd + 2 * gS L p i) (gS L p i) g2 _ _ _ e3 rfl (by omega) (fun h' f3 ok x1 x2 => ?_) (fun h' f3 nok => N h' f3 (fun z => nok z.2))
            refine Y h' f3 ⟨by omega, ok⟩ (fun t ht => ?_) x2
            rw [if_neg c]
            cases t with
            | zero => rw [List.getD_cons_zero]; show hpC h' (m + 17) i = _; rw [x1.1]
            | succ t => rw [List.getD_cons_succ, show i + (t + 1) = i + 1 + t by omega]; exact x1.2 t (by omega)
      by_cases c0 : l = -1
      · rw [if_pos c0]
        exact go 0 (by omega)
      · rw [if_neg c0, ai_add_eq (by omega) (by omega)]
        exact go (l + 2) (by omega)
  exact lp z 0 (-1) (-1) h _ _ _ (by omega) FrP.rf (Or.inl ⟨rfl, rfl⟩) (fun h' f ok x1 _ => H1 h' f ok (fun t ht => by have := x1 t ht; rw [Nat.zero_add] at this; exact this)) H2
theorem sp_isLess {h : Hp} {m : Nat} (a : modelAt h m) {sd : Int} {z : Nat} (hz : z ≤ 12) (h30 : hpC h m 30 = (z : Int)) {X Y : List Int} (hX : X.length = z) (hY : Y.length = z) (eX : ∀ t, t < z → hpC h (m + 17) t = 1 + sd + 2 * X.getD t 0) (eY : ∀ t, t < z → hpC h (m + 18) t = 1 + sd + 2 * Y.getD t 0) {d mc ms : Nat} {R : PR} {o1 : Option AV}
    (H : R (some (xI (if ltL X Y = true then 1 else 0))) h) : Wp m_M_isLess 0 [some (xR m), o1] [] h d mc ms R := by
  apply f_M_isLess_0
  have lp : ∀ (A B : List Int) (i : Nat), A.length = B.length → i + A.length = z → (∀ t, t < A.length → hpC h (m + 17) (i + t) = 1 + sd + 2 * A.getD t 0) → (∀ t, t < A.length → hpC h (m + 18) (i + t) = 1 + sd + 2 * B.getD t 0) → R (some (xI (if ltL A B = true then 1 else 0))) h → Wp m_M_isLess 2 [some (xR m), some (xI (i : Int))] [] h d mc ms R := by
    intro A
    induction A with
    | nil =>
      intro B i hl hi _ _ H
      apply f_M_isLess_2
      rw [h30, if_neg (by simp at hi; omega)]
      exact ⟨a.tag, by simp, by simpa [ltL] using H⟩
    | cons x A ih =>
      intro B i hl hi eA eB H
      cases B with
      | nil => simp at hl
      | cons y B =>
        simp only [List.length_cons] at hl hi eA eB
        have e1 : hpC h (m + 17) i = 1 + sd + 2 * x := eA 0 (by omega)
        have e2 : hpC h (m + 18) i = 1 + sd + 2 * y := eB 0 (by omega)
        apply f_M_isLess_2
        rw [h30, if_pos (by omega), a.numbers_n, a.numbers_t, a.bestNumbers_n, a.bestNumbers_t, Int.toNat_natCast, e1, e2]
        refine ⟨a.tag, a.tag, ⟨rfl, by omega, by show (i : Int) < 12; omega⟩, a.tag, ⟨rfl, by omega, by show (i : Int) < 12; omega⟩, ?_⟩
        by_cases c : x = y
        · rw [if_pos (by omega), ab_1 (by omega)]
          rw [show ltL (x :: A) (y :: B) = ltL A B by simp [ltL, c]] at H
          refine ih B (i + 1) (by omega) (by omega) (fun t ht => ?_) (fun t ht => ?_) H
          · have := eA (t + 1) (by omega); rw [List.getD_cons_succ] at this; rw [← this]; congr 1; omega
          · have := eB (t + 1) (by omega); rw [List.getD_cons_succ] at this; rw [← this]; congr 1; omega
        · rw [if_neg (by omega)]
          rw [show ltL (x :: A) (y :: B) = decide (x < y) by simp [ltL, c]] at H
          refine ⟨a.tag, ⟨rfl, by omega, by show (i : Int) < 12; omega⟩, a.tag, ⟨rfl, by omega, by show (i : Int) < 12; omega⟩, ?_⟩
          by_cases c2 : x < y
          · rw [if_pos (by omega)]; rw [if_pos (decide_eq_true c2)] at H; exact ⟨by simp, H⟩
          · rw [if_neg (by omega)]; rw [if_neg (by simpa using c2)] at H; exact ⟨by simp, H⟩
  exact lp X Y 0 (by omega) (by omega) (fun t ht => by rw [Nat.zero_add]; exact eX t (by omega)) (fun t ht => by rw [Nat.zero_add]; exact eY t (by omega)) H
def Sfo (m : Nat) : Nat → Nat → Prop := fun r p => (r = m ∧ p = 30) ∨ (m + 16 ≤ r ∧ r ≤ m + 18)
theorem Sfo_SM {m : Nat} {h h' : Hp} (f : FrP (Sfo m) h h') : FrP (SM m) h h' := f.wk (fun r p z => by
  rcases z with ⟨z1, z2⟩ | z
  · exact Or.inl ⟨z1, Or.inr (Or.inr z2)⟩
  · exact Or.inr (Or.inr (by omega)))
theorem sp_fewestOn {h : Hp} {m : Nat} {w : Nat → Int} (a : RD h m w) (hV : V w) {s : Nat} (hs : s < 10) {sd : Int} (hsd : 0 ≤ sd ∧ sd ≤ 1) {d mc ms : Nat} {R : PR} (hd : 4 ≤ d) {o3 o4 o5 o6 : Option AV}
    (H : ∀ h', FrP (Sfo m) h h' → (∃ z, orM h' m w s sd z ∧ (fwA (hW w s) (w (280 + s)).toNat (w 2) sd < 1000 → ∀ t, t < z → hpC h' (m + 18) t = 1 + sd + 2 * (fwB (hW w s) (w (280 + s)).toNat (w 2) sd).getD t 0)) → R (some (xI (if fwA (hW w s) (w (280 + s)).toNat (w 2) sd < 1000 then fwA (hW w s) (w (280 + s)).toNat (w 2) sd else -1))) h') :
    Wp m_M_fewestOn 0 [some (xR m), some (xI (s : Int)), some (xI sd), o3, o4, o5, o6] [] h d mc ms R := by
  have hn := hV.hs hs
  have hG := hV.gv hs
  have v2 := hV.1.2.2.1
  have bz := szG_bd (hW w s) (w (280 + s)).toNat sd
  have ho := owX_bd hG (st := w 2) hsd
  have bF := fwA_bd (hW w s) (w (280 + s)).toNat (w 2) sd
  obtain ⟨z, ez⟩ : ∃ z : Nat, szG (hW w s) (w (280 + s)).toNat sd = (z : Int) := ⟨(szG (hW w s) (w (280 + s)).toNat sd).toNat, by omega⟩
  have hF0 : fwA (hW w s) (w (280 + s)).toNat (w 2) sd = FS (loX (hW w s) (w (280 + s)).toNat (w 2) sd) (owX (hW w s) (w (280 + s)).toNat (w 2) sd) ((999 - 1 - sd) / 2) z 0 (-1) := by unfold fwA; rw [ez, Int.toNat_natCast]
  have hB0 : fwB (hW w s) (w (280 + s)).toNat (w 2) sd = BS (loX (hW w s) (w (280 + s)).toNat (w 2) sd) (owX (hW w s) (w (280 + s)).toNat (w 2) sd) ((999 - 1 - sd) / 2) z 0 (-1) := by unfold fwB; rw [ez, Int.toNat_natCast]
  have hp12 : 2 ^ z ≤ 4096 := Nat.pow_le_pow_right (n := 2) (by decide) (show z ≤ 12 by omega)
  have hp0 : 0 < 2 ^ z := Nat.pow_pos (by decide)
  apply f_M_fewestOn_0
  refine ⟨⟨by omega, a.1.tag⟩, sp_laysSide a hV hs (by omega) (fun g1 f1 c1 c2 _ => ?_)⟩
  have a1 := a.fr (Sls_SM f1)
  have om1 : orM g1 m w s sd z := ⟨ez, by rw [c1, ez], fun i hi => c2 i (by omega)⟩
  have fs1 : FrP (Sfo m) h g1 := f1.wk (fun r p z => by
    rcases z with z | z
    · exact Or.inl z
    · exact Or.inr (by omega))
  have lp : ∀ (k : Nat) (most : Int) (best : List Int) (g : Hp) (o5 o6 : Option AV), k ≤ 2 ^ z → FrP (fun r _ => r = m + 17 ∨ r = m + 18) g1 g → stB (loX (hW w s) (w (280 + s)).toNat (w 2) sd) (owX (hW w s) (w (280 + s)).toNat (w 2) sd) ((999 - 1 - sd) / 2) z k most best → (-1 ≤ most ∧ most ≤ 12) → best.length = z → (most ≠ -1 → ∀ t, t < z → hpC g (m + 18) t = 1 + sd + 2 * best.getD t 0) → Wp m_M_fewestOn 18 [some (xR m), some (xI (s : Int)), some (xI sd), some (xI most), some (xI ((k : Int) - 1)), o5, o6] [] g d mc ms R := by
    intro k
    induction k with
    | zero =>
      intro most best g o5 o6 hk f st hm hl hb
      have a := a1.fr (f.wk (fun r p z => Or.inr (Or.inr (by omega))))
      have om := om1.fr f (fun q p z => by omega)
      have fin := H g (fs1.tr (f.wk (fun r p z => Or.inr (by omega))))
      apply f_M_fewestOn_18
      rw [if_pos (by omega)]
      rcases stB_end (fun i => (ho i).2) (by omega) st with ⟨e1, e2⟩ | ⟨e1, e2, e3⟩
      · rw [if_pos e2]
        rw [← hF0] at e1
        have := fin ⟨z, om, fun z => by omega⟩
        rw [if_neg (by omega)] at this
        exact this
      · rw [← hF0] at e1 e2
        have := fin ⟨z, om, fun _ t ht => by rw [hb (by omega) t ht, e3, hB0]⟩
        rw [if_pos (by omega)] at this
        rw [if_neg (by omega), om.2.1, ai_sub_eq (by omega) (by omega), show (z : Int) - most = fwA (hW w s) (w (280 + s)).toNat (w 2) sd by omega]
        exact ⟨a.1.tag, this⟩
    | succ k ih =>
      intro most best g o5 o6 hk f st hm hl hb
      have a := a1.fr (f.wk (fun r p z => Or.inr (Or.inr (by omega))))
      have om := om1.fr f (fun q p z => by omega)
      have bk := nkS_bd k.testBit z 0
      apply f_M_fewestOn_18
      rw [show ((k + 1 : Nat) : Int) - 1 = (k : Int) by omega, if_neg (by omega)]
      refine ⟨by omega, sp_mbits (by omega) (fun v e => ?_)⟩
      rw [popc_nk (n := z) (by omega) (by omega)] at e
      cases e
      have nx : ∀ (most : Int) (best : List Int) (g : Hp) (o5 o6 : Option AV), FrP (fun r _ => r = m + 17 ∨ r = m + 18) g1 g → stB (loX (hW w s) (w (280 + s)).toNat (w 2) sd) (owX (hW w s) (w (280 + s)).toNat (w 2) sd) ((999 - 1 - sd) / 2) z k most best → (-1 ≤ most ∧ most ≤ 12) → best.length = z → (most ≠ -1 → ∀ t, t < z → hpC g (m + 18) t = 1 + sd + 2 * best.getD t 0) → Wp m_M_fewestOn 18 [some (xR m), some (xI (s : Int)), some (xI sd), some (xI most), some (xI (ai_add (k : Int) (-1))), o5, o6] [] g d mc ms R := by
        intro most best g o5 o6 f st hm hl hb
        rw [ai_add_eq (by omega) (by omega)]
        exact ih most best g o5 o6 (by omega) f st hm hl hb
      by_cases d1 : nkS k.testBit z 0 < most
      · rw [if_pos d1]
        exact nx most best g _ _ f (stB_skip st (Or.inl d1)) hm hl hb
      · rw [if_neg d1]
        refine ⟨⟨by omega, a.1.tag⟩, sp_numbersWith a hV hs hsd om (kp := k) (by omega) (by omega) (fun g2 f2 ok x1 v e => ?_) (fun g2 f2 nok v e => ?_)⟩
        · cases e
          rw [if_neg (by decide)]
          have fg2 : FrP (fun r _ => r = m + 17 ∨ r = m + 18) g1 g2 := f.tr (f2.wk (fun r p z => Or.inl z))
          have a2 := a.fr (Snu_SM f2)
          have om2 := om.fr f2 (fun q p z => by have z : q = m + 17 := z; omega)
          have hb2 : most ≠ -1 → ∀ t, t < z → hpC g2 (m + 18) t = 1 + sd + 2 * best.getD t 0 := fun hm t ht => by
            rw [f2.2.2 _ _ (fun z => by have z : m + 18 = m + 17 := z; omega)]; exact hb hm t ht
          have take : stB (loX (hW w s) (w (280 + s)).toNat (w 2) sd) (owX (hW w s) (w (280 + s)).toNat (w 2) sd) ((999 - 1 - sd) / 2) z k (nkS k.testBit z 0) (lsS (loX (hW w s) (w (280 + s)).toNat (w 2) sd) (owX (hW w s) (w (280 + s)).toNat (w 2) sd) k.testBit z 0 (-1)) → ∀ (g2 : Hp) (o5 : Option AV), FrP (fun r _ => r = m + 17 ∨ r = m + 18) g1 g2 → (∀ t, t < z → hpC g2 (m + 17) t = 1 + sd + 2 * (lsS (loX (hW w s) (w (280 + s)).toNat (w 2) sd) (owX (hW w s) (w (280 + s)).toNat (w 2) sd) k.testBit z 0 (-1)).getD t 0) → Wp m_M_fewestOn 69 [some (xR m), some (xI (s : Int)), some (xI sd), some (xI (nkS k.testBit z 0)), some (xI (k : Int)), o5, some (xI (0 : Int))] [] g2 d mc ms R := by
            intro st2
            have cl : ∀ (j i : Nat) (g3 : Hp) (o5 : Option AV), i + j = z → FrP (fun r _ => r = m + 17 ∨ r = m + 18) g1 g3 → (∀ t, t < z → hpC g3 (m + 17) t = 1 + sd + 2 * (lsS (loX (hW w s) (w (280 + s)).toNat (w 2) sd) (owX (hW w s) (w (280 + s)).toNat (w 2) sd) k.testBit z 0 (-1)).getD t 0) → (∀ t, t < i → hpC g3 (m + 18) t = 1 + sd + 2 * (lsS (loX (hW w s) (w (280 + s)).toNat (w 2) sd) (owX (hW w s) (w (280 + s)).toNat (w 2) sd) k.testBit z 0 (-1)).getD t 0) → Wp m_M_fewestOn 69 [some (xR m), some (xI (s : Int)), some (xI sd), some (xI (nkS k.testBit z 0)), some (xI (k : Int)), o5, some (xI (i : Int))] [] g3 d mc ms R := by
              intro j
              induction j with
              | zero =>
                intro i g3 o5 hi f3 y1 y2
                have a3 := a1.fr (f3.wk (fun r p z => Or.inr (Or.inr (by omega))))
                have om3 := om1.fr f3 (fun q p z => by omega)
                apply f_M_fewestOn_69
                rw [om3.2.1, if_neg (by omega)]
                exact ⟨a3.1.tag, nx _ _ g3 _ _ f3 st2 (by omega) (lsS_len _ _ _ _ _ _) (fun _ t ht => y2 t (by omega))⟩
              | succ j ih2 =>
                intro i g3 o5 hi f3 y1 y2
                have a3 := a1.fr (f3.wk (fun r p z => Or.inr (Or.inr (by omega))))
                have om3 := om1.fr f3 (fun q p z => by omega)
                apply f_M_fewestOn_69
                rw [om3.2.1, if_pos (by omega), a3.1.numbers_n, a3.1.numbers_t, a3.1.bestNumbers_n, a3.1.bestNumbers_t, Int.toNat_natCast, y1 i (by omega), ab_1 (by omega)]
                refine ⟨a3.1.tag, a3.1.tag, a3.1.tag, ⟨rfl, by omega, by show (i : Int) < 12; omega⟩, ⟨rfl, by omega, by show (i : Int) < 12; omega⟩, fun g4 e4 => ?_⟩
                subst e4
                refine ih2 (i + 1) _ _ (by omega) (f3.tr (FrP.up (Or.inr rfl))) (fun t ht => ?_) (fun t ht => ?_)
                · rw [hpC_ne (Or.inl (by omega))]; exact y1 t ht
                · by_cases et : t = i
                  · subst et; rw [hpC_same]
                  · rw [hpC_ne (Or.inr et)]; exact y2 t (by omega)
            intro g2 o5 f2 y1
            exact cl z 0 g2 _ (by omega) f2 y1 (fun t ht => by omega)
          by_cases d2 : nkS k.testBit z 0 = most
          · rw [if_pos d2]
            refine ⟨⟨by omega, a2.1.tag⟩, sp_isLess a2.1 (by omega) om2.2.1 (lsS_len _ _ _ _ _ _) hl x1 (hb2 (by omega)) (fun v e => ?_)⟩
            cases e
            by_cases d3 : ltL (lsS (loX (hW w s) (w (280 + s)).toNat (w 2) sd) (owX (hW w s) (w (280 + s)).toNat (w 2) sd) k.testBit z 0 (-1)) best = true
            · rw [if_pos d3, if_neg (by decide)]
              exact take (stB_take st (by omega) d1 ok (fun _ => d3)) g2 _ fg2 x1
            · rw [if_neg d3, if_pos rfl]
              exact nx most best g2 _ _ fg2 (stB_skip st (Or.inr (Or.inr ⟨d2, by simpa using d3⟩))) hm hl hb2
          · rw [if_neg d2]
            exact take (stB_take st (by omega) d1 ok (fun z => absurd z d2)) g2 _ fg2 x1
        · cases e
          rw [if_pos rfl]
          have hb2 : most ≠ -1 → ∀ t, t < z → hpC g2 (m + 18) t = 1 + sd + 2 * best.getD t 0 := fun hm t ht => by
            rw [f2.2.2 _ _ (fun z => by have z : m + 18 = m + 17 := z; omega)]; exact hb hm t ht
          exact nx most best g2 _ _ (f.tr (f2.wk (fun r p z => Or.inl z))) (stB_skip st (Or.inr (Or.inl nok))) hm hl hb2
  rw [om1.2.1, ai_shl_one z (by omega), ai_sub_eq (by omega) (by omega)]
  exact ⟨a1.1.tag, lp (2 ^ z) (-1) (List.replicate z 0) g1 _ _ (Nat.le_refl _) FrP.rf (stB_start _ _ _ _ _) (by omega) (by simp) (fun z => absurd rfl z)⟩
theorem sp_laysThen {h : Hp} {m : Nat} {w : Nat → Int} (a : RD h m w) (hV : V w) {s : Nat} (hs : s < 10) {d mc ms : Nat} {R : PR} (hd : 5 ≤ d) {o2 o3 o4 o5 : Option AV}
    (H : ∀ h', FrP (SM m) h h' → (fewA (hW w s) (w (280 + s)).toNat (w 2) ≠ -1 → ∀ q, q < (w (280 + s)).toNat → hpC h' (m + 19) q = thenA (hW w s) (w (280 + s)).toNat (w 2) q) → R (some (xI (fewA (hW w s) (w (280 + s)).toNat (w 2)))) h') :
    Wp m_M_laysThen 0 [some (xR m), some (xI (s : Int)), o2, o3, o4, o5] [] h d mc ms R := by
  have hn := hV.hs hs
  have hG := hV.gv hs
  have side : ∀ (sd many : Int) (g : Hp) (o4 o5 : Option AV), (0 ≤ sd ∧ sd ≤ 1) → (0 ≤ many ∧ many ≤ 12) → FrP (SM m) h g →
      (∀ (g' : Hp) (o4 o5 : Option AV), FrP (SM m) h g' → fwA (hW w s) (w (280 + s)).toNat (w 2) sd < 1000 → (∀ q, q < (w (280 + s)).toNat → hW w s 0 q = sd → hpC g' (m + 19) q = thenA (hW w s) (w (280 + s)).toNat (w 2) q) → (∀ q, q < (w (280 + s)).toNat → hW w s 0 q ≠ sd → hpC g' (m + 19) q = hpC g (m + 19) q) → Wp m_M_laysThen 4 [some (xR m), some (xI (s : Int)), some (xI (many + fwA (hW w s) (w (280 + s)).toNat (w 2) sd)), some (xI (sd + 1)), o4, o5] [] g' d mc ms R) →
      (∀ g' : Hp, FrP (SM m) h g' → ¬ fwA (hW w s) (w (280 + s)).toNat (w 2) sd < 1000 → R (some (xI (-1))) g') →
      Wp m_M_laysThen 4 [some (xR m), some (xI (s : Int)), some (xI many), some (xI sd), o4, o5] [] g d mc ms R := by
    intro sd many g o4 o5 hsd hmany f Y N
    have a := a.fr f
    have bz := szG_bd (hW w s) (w (280 + s)).toNat sd
    have bF := fwA_bd (hW w s) (w (280 + s)).toNat (w 2) sd
    apply f_M_laysThen_4
    rw [if_pos (by omega)]
    refine ⟨⟨by omega, a.1.tag⟩, sp_fewestOn a hV hs hsd (by omega) (fun g1 f1 zz v e => ?_)⟩
    cases e
    obtain ⟨z, om, hb⟩ := zz
    have ez := om.1
    have f2 := f.tr (Sfo_SM f1)
    have a1 := a.fr (Sfo_SM f1)
    by_cases c : fwA (hW w s) (w (280 + s)).toNat (w 2) sd < 1000
    · rw [if_pos c, if_neg (by omega), ai_add_eq (by omega) (by omega)]
      have hb := hb c
      have os : ∀ i, i < z → orG (hW w s) (w (280 + s)).toNat sd i < (w (280 + s)).toNat ∧ hW w s 0 (orG (hW w s) (w (280 + s)).toNat sd i) = sd ∧ rkG (hW w s) (w (280 + s)).toNat sd (hW w s 1 (orG (hW w s) (w (280 + s)).toNat sd i)) = (i : Int) := fun i hi => orG_spec hG (by omega)
      have rz : ∀ q, q < (w (280 + s)).toNat → hW w s 0 q = sd → ∃ i, i < z ∧ orG (hW w s) (w (280 + s)).toNat sd i = q ∧ (rkG (hW w s) (w (280 + s)).toNat sd (hW w s 1 q)).toNat = i := by
        intro q hq hs'
        have e1 := orG_rk hG hq hs'
        have e2 := rkG_sz hG hq hs'
        have e3 := rkG_bd (hW w s) (w (280 + s)).toNat sd (hW w s 1 q)
        exact ⟨_, by omega, e1, rfl⟩
      have lp : ∀ (j i : Nat) (g3 : Hp) (o4 : Option AV), i + j = z → FrP (fun r _ => r = m + 19) g1 g3 → (∀ t, t < i → hpC g3 (m + 19) (orG (hW w s) (w (280 + s)).toNat sd t) = 1 + sd + 2 * (fwB (hW w s) (w (280 + s)).toNat (w 2) sd).getD t 0) → (∀ k, (∀ i, i < z → orG (hW w s) (w (280 + s)).toNat sd i ≠ k) → hpC g3 (m + 19) k = hpC g1 (m + 19) k) → Wp m_M_laysThen 33 [some (xR m), some (xI (s : Int)), some (xI (many + fwA (hW w s) (w (280 + s)).toNat (w 2) sd)), some (xI sd), o4, some (xI (i : Int))] [] g3 d mc ms R := by
        intro j
        induction j with
        | zero =>
          intro i g3 o4 hi f3 y1 y2
          have a3 := a1.fr (f3.wk (fun r p z => Or.inr (Or.inr (by omega))))
          have om3 := om.fr f3 (fun q p z => by omega)
          apply f_M_laysThen_33
          rw [om3.2.1, if_neg (by omega), ai_add_eq (by omega) (by omega)]
          refine ⟨a3.1.tag, Y g3 _ _ (f2.tr (f3.wk (fun r p z => Or.inr (Or.inr (by omega))))) c (fun q hq hs' => ?_) (fun q hq hs' => ?_)⟩
          · obtain ⟨i, h1, h2, h3⟩ := rz q hq hs'
            have := y1 i (by omega)
            rw [h2] at this
            rw [this]
            unfold thenA
            rw [hs', h3]; omega
          · rw [y2 q (fun i hi z => hs' (by have := (os i hi).2.1; rw [z] at this; exact this)), f1.2.2 _ _ (fun z => by rcases z with ⟨z, _⟩ | z <;> omega)]
        | succ j ih =>
          intro i g3 o4 hi f3 y1 y2
          have a3 := a1.fr (f3.wk (fun r p z => Or.inr (Or.inr (by omega))))
          have om3 := om.fr f3 (fun q p z => by omega)
          have q4 := (os i (by omega)).1
          have q5 : hpC g3 (m + 18) i = 1 + sd + 2 * (fwB (hW w s) (w (280 + s)).toNat (w 2) sd).getD i 0 := by rw [f3.2.2 _ _ (by omega)]; exact hb i (by omega)
          apply f_M_laysThen_33
          rw [om3.2.1, if_pos (by omega), a3.1.order_n, a3.1.order_t, a3.1.bestNumbers_n, a3.1.bestNumbers_t, a3.1.thenOf_n, a3.1.thenOf_t, Int.toNat_natCast, om3.2.2 i (by omega), Int.toNat_natCast, q5, ab_1 (by omega)]
          refine ⟨a3.1.tag, a3.1.tag, a3.1.tag, ⟨rfl, by omega, by show (i : Int) < 12; omega⟩, a3.1.tag, ⟨rfl, by omega, by show (i : Int) < 12; omega⟩, ⟨rfl, by omega, by show (orG (hW w s) (w (280 + s)).toNat sd i : Int) < 12; omega⟩, fun g4 e4 => ?_⟩
          subst e4
          refine ih (i + 1) _ _ (by omega) (f3.tr (FrP.up rfl)) (fun t ht => ?_) (fun k hk => ?_)
          · by_cases et : t = i
            · subst et; rw [hpC_same]
            · rw [hpC_ne (Or.inr (fun z => et ?_))]
              · exact y1 t (by omega)
              · have e1 := (os t (by omega)).2.2
                have e2 := (os i (by omega)).2.2
                rw [z] at e1; omega
          · rw [hpC_ne (Or.inr (fun z => hk i (by omega) z.symm))]; exact y2 k hk
      exact lp z 0 g1 _ (by omega) FrP.rf (fun t ht => by omega) (fun k hk => rfl)
    · rw [if_neg c, if_pos rfl]
      exact N g1 f2 c
  have b0 := fwA_bd (hW w s) (w (280 + s)).toNat (w 2) 0
  have b1 := fwA_bd (hW w s) (w (280 + s)).toNat (w 2) 1
  apply f_M_laysThen_0
  refine side 0 0 h _ _ (by omega) (by omega) FrP.rf (fun g o4 o5 f e1 k1 _ => ?_) (fun g f e1 => ?_)
  · refine side 1 _ g _ _ (by omega) (by omega) f (fun g2 o4 o5 f2 e2 k2 k3 => ?_) (fun g2 f2 e2 => ?_)
    · apply f_M_laysThen_4
      rw [if_neg (by omega)]
      have := H g2 f2 (fun _ q hq => by
        rcases Int.lt_or_le (hW w s 0 q) 1 with z | z
        · rw [k3 q hq (by omega)]; exact k1 q hq (by have := (hG.2.1 q hq).1; omega)
        · exact k2 q hq (by have := (hG.2.1 q hq).1; omega))
      unfold fewA at this
      rw [if_pos e1, if_pos e2] at this
      rw [show (0 : Int) + fwA (hW w s) (w (280 + s)).toNat (w 2) 0 + fwA (hW w s) (w (280 + s)).toNat (w 2) 1 = fwA (hW w s) (w (280 + s)).toNat (w 2) 0 + fwA (hW w s) (w (280 + s)).toNat (w 2) 1 by omega]
      exact this
    · have e3 : fewA (hW w s) (w (280 + s)).toNat (w 2) = -1 := by unfold fewA; rw [if_pos e1, if_neg e2]
      have := H g2 f2 (fun z => absurd e3 z)
      rw [e3] at this; exact this
  · have e3 : fewA (hW w s) (w (280 + s)).toNat (w 2) = -1 := by unfold fewA; rw [if_neg e1]
    have := H g f (fun z => absurd e3 z)
    rw [e3] at this; exact this
theorem sp_mfewest {h : Hp} {m : Nat} {w : Nat → Int} (a : RD h m w) (hV : V w) {k : Int} {d mc ms : Nat} {R : PR} (hd : 6 ≤ d) (H1 : (0 ≤ k ∧ k < w 7) → ∀ h', FrP (SM m) h h' → R (some (xI (fewA (hW w k.toNat) (w (280 + k.toNat)).toNat (w 2)))) h') (H2 : ¬ (0 ≤ k ∧ k < w 7) → R (some (xI (-1))) h) : Wp m_M_fewest 0 [some (xR m), some (xI k)] [] h d mc ms R := by
  have v0 := hV.1.1
  have v1 := hV.1.2.1
  have v2 := hV.1.2.2.1
  have v3 := hV.1.2.2.2.1
  have v4 := hV.1.2.2.2.2.1
  have v5 := hV.1.2.2.2.2.2.1
  have v6 := hV.1.2.2.2.2.2.2.1
  have v7 := hV.1.2.2.2.2.2.2.2.1
  have v8 := hV.1.2.2.2.2.2.2.2.2.1
  have v9 := hV.1.2.2.2.2.2.2.2.2.2
  apply f_M_fewest_0
  refine ⟨⟨by omega, a.1.tag⟩, sp_isStreet a hV (by omega) (fun v e => ?_)⟩
  cases e
  by_cases c : 0 ≤ k ∧ k < w 7
  · rw [if_pos c, if_neg (by decide)]
    have H := H1 c
    obtain ⟨s, rfl⟩ : ∃ q : Nat, k = (q : Int) := ⟨k.toNat, by omega⟩
    rw [Int.toNat_natCast] at H
    refine ⟨⟨by omega, a.1.tag⟩, sp_laysThen a hV (by omega) (by omega) (fun h' f _ v e => ?_)⟩
    cases e
    exact H h' f
  · rw [if_neg c, if_pos rfl]; exact H2 c
theorem sp_mthen {h : Hp} {m : Nat} {w : Nat → Int} (a : RD h m w) (hV : V w) {k i : Int} {d mc ms : Nat} {R : PR} (hd : 6 ≤ d) (H1 : isH w k i → ∀ h', FrP (SM m) h h' → R (some (xI (if fewA (hW w k.toNat) (w (280 + k.toNat)).toNat (w 2) = -1 then -1 else thenA (hW w k.toNat) (w (280 + k.toNat)).toNat (w 2) i.toNat))) h') (H2 : ¬ isH w k i → R (some (xI (-1))) h) : Wp m_M_then 0 [some (xR m), some (xI k), some (xI i)] [] h d mc ms R := by
  have v0 := hV.1.1
  have v1 := hV.1.2.1
  have v2 := hV.1.2.2.1
  have v3 := hV.1.2.2.2.1
  have v4 := hV.1.2.2.2.2.1
  have v5 := hV.1.2.2.2.2.2.1
  have v6 := hV.1.2.2.2.2.2.2.1
  have v7 := hV.1.2.2.2.2.2.2.2.1
  have v8 := hV.1.2.2.2.2.2.2.2.2.1
  have v9 := hV.1.2.2.2.2.2.2.2.2.2
  apply f_M_then_0
  refine ⟨⟨by omega, a.1.tag⟩, sp_misHouse a hV (by omega) (fun z v e => ?_) (fun z v e => ?_)⟩
  · cases e
    rw [if_neg (by decide)]
    have H := H1 z
    obtain ⟨c, c1, c2⟩ := z
    obtain ⟨s, rfl⟩ : ∃ q : Nat, k = (q : Int) := ⟨k.toNat, by omega⟩
    obtain ⟨q, rfl⟩ : ∃ q : Nat, i = (q : Int) := ⟨i.toNat, by omega⟩
    rw [Int.toNat_natCast] at *
    have hn := hV.hs (s := s) (by omega)
    refine ⟨⟨by omega, a.1.tag⟩, sp_laysThen a hV (by omega) (by omega) (fun h' f x v e => ?_)⟩
    cases e
    have H := H h' f
    have a := a.fr f
    by_cases c3 : fewA (hW w s) (w (280 + s)).toNat (w 2) = -1
    · rw [if_pos c3]; rw [if_pos c3] at H; exact H
    · rw [if_neg c3, a.1.thenOf_n, a.1.thenOf_t, x c3 q (by omega)]
      rw [if_neg c3, Int.toNat_natCast] at H
      exact ⟨a.1.tag, ⟨rfl, by omega, by show (q : Int) < 12; omega⟩, H⟩
  · cases e
    rw [if_pos rfl]; exact H2 z
