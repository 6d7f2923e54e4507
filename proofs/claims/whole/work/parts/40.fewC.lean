/-! ===== the fewest changes: the class ===== -/
def Slb (r i : Nat) : Nat → Nat → Prop := fun q p => (q = r + 5 ∨ q = r + 6) ∧ p = i
theorem Slb_SN {r i : Nat} {h h' : Hp} (f : FrP (Slb r i) h h') : FrP (SN r) h h' := f.wk (fun q p z => Or.inr (by rcases z with ⟨z, _⟩; omega))
/-- a side is lined up -/
def lnS (h : Hp) (r z : Nat) (L own : Nat → Int) : Prop := numAt h r ∧ hpC h r 1 = (z : Int) ∧ ∀ i, i < z → hpC h (r + 3) i = L i ∧ hpC h (r + 4) i = own i
theorem lnS.fr {h h' : Hp} {r z : Nat} {L own : Nat → Int} {S : Nat → Nat → Prop} (a : lnS h r z L own) (f : FrP S h h') (hS : ∀ q p, S q p → q = r + 1 ∨ q = r + 5 ∨ q = r + 6) : lnS h' r z L own := by
  refine ⟨a.1.fr (f.wk (fun q p z => Or.inr (by have := hS q p z; omega))), ?_, fun i hi => ?_⟩
  · rw [f.2.2 _ _ (fun z => by have := hS _ _ z; omega)]; exact a.2.1
  · rw [f.2.2 _ _ (fun z => by have := hS _ _ z; omega), f.2.2 _ _ (fun z => by have := hS _ _ z; omega)]; exact a.2.2 i hi
theorem sp_lookBehind {h : Hp} {r z : Nat} {L own : Nat → Int} (ln : lnS h r z L own) (hz : z ≤ 12) {T : Int} (hT : T < 1000) (hL : ∀ i, 0 ≤ L i ∧ L i ≤ 9999) (ho : ∀ i, -1 ≤ own i ∧ own i ≤ T) {i : Nat} (hi : i ≤ z) (hF : ∀ t, i ≤ t → t < z → 0 ≤ own t → hpC h (r + 5) (t + 1) = FS L own T (z - (t + 1)) (t + 1) (own t)) {d mc ms : Nat} {R : PR} (hd : 1 ≤ d) {o3 o4 o5 o6 : Option AV}
    (H : ∀ h', FrP (Slb r i) h h' → hpC h' (r + 5) i = FS L own T (z - i) i (if i = 0 then -1 else own (i - 1)) → (FS L own T (z - i) i (if i = 0 then -1 else own (i - 1)) < 1000 → ∃ N : Nat, hpC h' (r + 6) i = (N : Int) ∧ i ≤ N ∧ N ≤ z ∧ pathS L own T (z - i) i (if i = 0 then -1 else own (i - 1)) N) → R none h') :
    Wp m_Numbering_lookBehind 0 [some (xR r), some (xI (i : Int)), some (xI T), o3, o4, o5, o6] [] h d mc ms R := by
  have nu := ln.1
  have lp : ∀ (j n : Nat) (p ch : Int) (g : Hp) (f nx : Int) (o : Option AV), n + j = z → i ≤ n → FrP (Slb r i) h g → hpC g (r + 5) i = f → hpC g (r + 6) i = nx → (-1 ≤ p ∧ p ≤ 1000) → (0 ≤ ch ∧ ch ≤ n) → (0 ≤ f ∧ f ≤ 1000) →
      (∀ g', FrP (Slb r i) h g' → hpC g' (r + 5) i = (scanS L own T z (fun t => hpC h (r + 5) t) j n p ch f nx).1 → hpC g' (r + 6) i = (scanS L own T z (fun t => hpC h (r + 5) t) j n p ch f nx).2 → R none g') →
      Wp m_Numbering_lookBehind 42 [some (xR r), some (xI (i : Int)), some (xI T), some (xI p), some (xI ch), some (xI (n : Int)), o] [] g d mc ms R := by
    intro j
    induction j with
    | zero =>
      intro n p ch g f nx o hn hin fr e1 e2 hp hc hf K
      have ln := ln.fr fr (fun q p z => by rcases z with ⟨z, _⟩; omega)
      have nu := ln.1
      simp only [scanS] at K
      apply f_Numbering_lookBehind_42
      rw [ln.2.1, if_neg (by omega), nu.few_n, nu.few_t, Int.toNat_natCast, e1]
      refine ⟨nu.tag, nu.tag, ⟨rfl, by omega, by show (i : Int) < 13; omega⟩, ?_⟩
      by_cases c : f < ch
      · rw [if_pos c]
        rw [if_neg (by omega)] at K
        exact K g fr e1 e2
      · rw [if_neg c]
        rw [if_pos (by omega)] at K
        refine ⟨nu.tag, ⟨rfl, by omega, by show (i : Int) < 13; omega⟩, fun g1 e3 => ?_⟩
        have f1 : FrP (Slb r i) g g1 := by subst e3; exact FrP.up ⟨Or.inl rfl, rfl⟩
        have z1 : hpC g1 (r + 5) i = ch := by subst e3; rw [hpC_same]
        clear e3
        have ln1 := ln.fr f1 (fun q p z => by rcases z with ⟨z, _⟩; omega)
        have nu1 := ln1.1
        rw [nu1.next_n, nu1.next_t, ln1.2.1]
        refine ⟨nu1.tag, nu1.tag, ⟨rfl, by omega, by show (i : Int) < 13; omega⟩, fun g2 e3 => ?_⟩
        subst e3
        refine K _ (fr.tr (f1.tr (FrP.up ⟨Or.inr rfl, rfl⟩))) ?_ ?_
        · rw [hpC_ne (Or.inl (by omega))]; exact z1
        · rw [hpC_same]
    | succ j ih =>
      intro n p ch g f nx o hn hin fr e1 e2 hp hc hf K
      have ln := ln.fr fr (fun q p z => by rcases z with ⟨z, _⟩; omega)
      have nu := ln.1
      have hLn := hL n
      have hon := ho n
      obtain ⟨q1, q2⟩ := ln.2.2 n (by omega)
      have q3 : hpC g (r + 5) (n + 1) = hpC h (r + 5) (n + 1) := fr.2.2 _ _ (fun z => by rcases z with ⟨_, z⟩; omega)
      have hg : gS L p n = max (L n) (p + 1) := rfl
      simp only [scanS] at K
      have go : ∀ (g2 : Hp) (f2 nx2 : Int) (o : Option AV), FrP (Slb r i) g g2 → hpC g2 (r + 5) i = f2 → hpC g2 (r + 6) i = nx2 → (0 ≤ f2 ∧ f2 ≤ 1000) → gS L p n ≤ T → (∀ g', FrP (Slb r i) h g' → hpC g' (r + 5) i = (scanS L own T z (fun t => hpC h (r + 5) t) j (n + 1) (gS L p n) (ch + if own n = gS L p n then 0 else 1) f2 nx2).1 → hpC g' (r + 6) i = (scanS L own T z (fun t => hpC h (r + 5) t) j (n + 1) (gS L p n) (ch + if own n = gS L p n then 0 else 1) f2 nx2).2 → R none g') → (if own n = gS L p n then Wp m_Numbering_lookBehind 42 [some (xR r), some (xI (i : Int)), some (xI T), some (xI (gS L p n)), some (xI (ai_add ch 0)), some (xI (ai_add (n : Int) 1)), o] [] g2 d mc ms R else Wp m_Numbering_lookBehind 42 [some (xR r), some (xI (i : Int)), some (xI T), some (xI (gS L p n)), some (xI (ai_add ch 1)), some (xI (ai_add (n : Int) 1)), o] [] g2 d mc ms R) := by
        intro g2 f2 nx2 o fg x1 x2 hf2 hgT K
        rw [ab_1 (by omega), ai_add_eq (a := ch) (b := 0) (by omega) (by omega), ai_add_eq (a := ch) (b := 1) (by omega) (by omega)]
        by_cases c : own n = gS L p n
        · rw [if_pos c]
          rw [if_pos c] at K
          exact ih (n + 1) (gS L p n) (ch + 0) g2 f2 nx2 _ (by omega) (by omega) (fr.tr fg) x1 x2 (by omega) (by omega) hf2 K
        · rw [if_neg c]
          rw [if_neg c] at K
          exact ih (n + 1) (gS L p n) (ch + 1) g2 f2 nx2 _ (by omega) (by omega) (fr.tr fg) x1 x2 (by omega) (by omega) hf2 K
      apply f_Numbering_lookBehind_42
      rw [ln.2.1, if_pos (by omega), nu.low_n, nu.low_t, nu.own_n, nu.own_t, nu.few_n, nu.few_t, Int.toNat_natCast, Int.toNat_natCast, q1, q2, e1, ai_add_eq (a := p) (b := 1) (by omega) (by omega), mxI, ← hg]
      refine ⟨nu.tag, nu.tag, ⟨rfl, by omega, by show (n : Int) < 12; omega⟩, hd, ?_⟩
      by_cases c1 : T < gS L p n
      · rw [if_pos c1]
        rw [if_pos c1] at K
        exact K g fr e1 e2
      · rw [if_neg c1]
        rw [if_neg c1] at K
        refine ⟨nu.tag, ⟨rfl, by omega, by show (n : Int) < 12; omega⟩, ?_⟩
        by_cases c2 : own n < gS L p n
        · rw [if_pos c2]
          rw [if_neg (show ¬ (gS L p n ≤ own n ∧ ch + hpC h (r + 5) (n + 1) ≤ f) from fun z => by omega)] at K
          exact ⟨nu.tag, ⟨rfl, by omega, by show (n : Int) < 12; omega⟩, go g f nx _ FrP.rf e1 e2 hf (by omega) K⟩
        · rw [if_neg c2]
          have hFn := hF n hin (by omega) (by omega)
          have bF := FS_bd L own T (z - (n + 1)) (n + 1) (own n)
          rw [ab_1 (by omega), Int.toNat_natCast, q3, ai_add_eq (a := ch) (b := hpC h (r + 5) (n + 1)) (by omega) (by omega)]
          refine ⟨nu.tag, ⟨rfl, by omega, by show ((n + 1 : Nat) : Int) < 13; omega⟩, nu.tag, ⟨rfl, by omega, by show (i : Int) < 13; omega⟩, ?_⟩
          have go' := go
          rw [ab_1 (by omega)] at go'
          by_cases c3 : f < ch + hpC h (r + 5) (n + 1)
          · rw [if_pos c3]
            rw [if_neg (show ¬ (gS L p n ≤ own n ∧ ch + hpC h (r + 5) (n + 1) ≤ f) from fun z => by omega)] at K
            exact ⟨nu.tag, ⟨rfl, by omega, by show (n : Int) < 12; omega⟩, go' g f nx _ FrP.rf e1 e2 hf (by omega) K⟩
          · rw [if_neg c3]
            rw [if_pos (show gS L p n ≤ own n ∧ ch + hpC h (r + 5) (n + 1) ≤ f from ⟨by omega, by omega⟩)] at K
            refine ⟨nu.tag, nu.tag, ⟨rfl, by omega, by show ((n + 1 : Nat) : Int) < 13; omega⟩, ⟨rfl, by omega, by show (i : Int) < 13; omega⟩, fun g3 e3 => ?_⟩
            have f1 : FrP (Slb r i) g g3 := by subst e3; exact FrP.up ⟨Or.inl rfl, rfl⟩
            have z1 : hpC g3 (r + 5) i = ch + hpC h (r + 5) (n + 1) := by subst e3; rw [hpC_same]
            clear e3
            have ln1 := ln.fr f1 (fun q p z => by rcases z with ⟨z, _⟩; omega)
            have nu1 := ln1.1
            rw [nu1.next_n, nu1.next_t]
            refine ⟨nu1.tag, ⟨rfl, by omega, by show (i : Int) < 13; omega⟩, fun g4 e3 => ?_⟩
            have f2 : FrP (Slb r i) g3 g4 := by subst e3; exact FrP.up ⟨Or.inr rfl, rfl⟩
            have z2 : hpC g4 (r + 5) i = ch + hpC h (r + 5) (n + 1) := by subst e3; rw [hpC_ne (Or.inl (by omega))]; exact z1
            have z3 : hpC g4 (r + 6) i = (n : Int) := by subst e3; rw [hpC_same]
            clear e3
            have ln2 := ln1.fr f2 (fun q p z => by rcases z with ⟨z, _⟩; omega)
            have nu2 := ln2.1
            rw [nu2.own_n, nu2.own_t, (ln2.2.2 n (by omega)).2]
            exact ⟨nu2.tag, ⟨rfl, by omega, by show (n : Int) < 12; omega⟩, go' g4 (ch + hpC h (r + 5) (n + 1)) (n : Int) _ (f1.tr f2) z2 z3 (by omega) (by omega) K⟩
  have st : ∀ (p : Int), p = (if i = 0 then -1 else own (i - 1)) → ∀ g1 : Hp, g1 = hpU h (r + 5) i 1000 → ((hpT g1 r).1 = 4 ∧ ((hpT g1 r).1 = 4 ∧ (((hpT g1 (Int.toNat (hpC g1 r 6))).1 = 20 ∧ 0 ≤ (i : Int) ∧ (i : Int) < ((hpT g1 (Int.toNat (hpC g1 r 6))).2 : Int)) ∧ (∀ g2 : Hp, g2 = hpU g1 (Int.toNat (hpC g1 r 6)) i (hpC g1 r 1) → Wp m_Numbering_lookBehind 42 [some (xR r), some (xI (i : Int)), some (xI T), some (xI p), some (xI (0 : Int)), some (xI (i : Int)), o6] [] g2 d mc ms R)))) := by
    intro p hp g1 e3
    have f1 : FrP (Slb r i) h g1 := by subst e3; exact FrP.up ⟨Or.inl rfl, rfl⟩
    have z1 : hpC g1 (r + 5) i = 1000 := by subst e3; rw [hpC_same]
    clear e3
    have ln1 := ln.fr f1 (fun q p z => by rcases z with ⟨z, _⟩; omega)
    have nu1 := ln1.1
    rw [nu1.next_n, nu1.next_t]
    refine ⟨nu1.tag, nu1.tag, ⟨rfl, by omega, by show (i : Int) < 13; omega⟩, fun g2 e3 => ?_⟩
    have f2 : FrP (Slb r i) g1 g2 := by subst e3; exact FrP.up ⟨Or.inr rfl, rfl⟩
    have z2 : hpC g2 (r + 5) i = 1000 := by subst e3; rw [hpC_ne (Or.inl (by omega))]; exact z1
    have hpb : -1 ≤ p ∧ p ≤ 1000 := by
      rw [hp]; split
      · omega
      · have := ho (i - 1); omega
    refine lp (z - i) i p 0 g2 1000 (hpC g2 (r + 6) i) _ (by omega) (Nat.le_refl _) (f1.tr f2) z2 rfl hpb (by omega) (by omega) (fun g' fg x1 x2 => ?_)
    have sp := scanS_spec (FB := fun t => hpC h (r + 5) t) (sz := z) (fun i => (ho i).2) (fun i => (hL i).1) (z - i) i p 0 1000 (hpC g2 (r + 6) i) (by omega) (by omega) (by omega) hF
    have bF := FS_bd L own T (z - i) i p
    have s1 := sp.1
    have s2 := sp.2
    clear sp
    rw [← hp] at H
    have y0 : min 1000 (0 + FS L own T (z - i) i p) = FS L own T (z - i) i p := by clear s2; omega
    rw [y0] at s1
    refine H g' fg (by rw [x1, s1]) (fun hlt => ?_)
    replace s2 := s2 (by rw [s1]; exact hlt)
    rcases s2 with ⟨y1, y2⟩ | ⟨N, y1, y2, y3, y4, y5⟩
    · omega
    · exact ⟨N, by rw [x2]; exact y1, y2, y3, y5⟩
  apply f_Numbering_lookBehind_0
  by_cases c0 : i = 0
  · rw [if_pos (by omega), nu.few_n, nu.few_t, Int.toNat_natCast]
    exact ⟨nu.tag, ⟨rfl, by omega, by show (i : Int) < 13; omega⟩, st (-1) (by rw [if_pos c0])⟩
  · rw [if_neg (by omega), nu.few_n, nu.few_t, nu.own_n, nu.own_t, as_1 (by omega) (by omega), Int.toNat_natCast, Int.toNat_natCast, (ln.2.2 (i - 1) (by omega)).2]
    exact ⟨nu.tag, ⟨rfl, by omega, by show ((i - 1 : Nat) : Int) < 12; omega⟩, nu.tag, ⟨rfl, by omega, by show (i : Int) < 13; omega⟩, st (own (i - 1)) (by rw [if_neg c0])⟩
theorem sp_number {h : Hp} {r z : Nat} {L own : Nat → Int} (ln : lnS h r z L own) (hz : z ≤ 12) {T : Int} (hT : T < 1000) (hL : ∀ i, 0 ≤ L i ∧ L i ≤ 9999) (ho : ∀ i, -1 ≤ own i ∧ own i ≤ T) {q : Nat → Nat} (hq : ∀ i, i < z → hpC h (r + 2) i = (q i : Int) ∧ q i < 12) (hj : ∀ i j, i < z → j < z → q i = q j → i = j)
    (hN : ∀ i, i ≤ z → FS L own T (z - i) i (if i = 0 then -1 else own (i - 1)) < 1000 → ∃ N : Nat, hpC h (r + 6) i = (N : Int) ∧ i ≤ N ∧ N ≤ z ∧ pathS L own T (z - i) i (if i = 0 then -1 else own (i - 1)) N)
    (h0 : FS L own T z 0 (-1) < 1000) {side : Int} (hsd : 0 ≤ side ∧ side ≤ 1) {d mc ms : Nat} {R : PR} (hd : 1 ≤ d) {o2 o3 o4 : Option AV}
    (H : ∀ h', FrP (fun q _ => q = r + 1) h h' → (∀ i, i < z → hpC h' (r + 1) (q i) = 2 * (BS L own T z 0 (-1)).getD i 0 + 1 + side) → (∀ k, (∀ i, i < z → q i ≠ k) → hpC h' (r + 1) k = hpC h (r + 1) k) → R none h') :
    Wp m_Numbering_number 0 [some (xR r), some (xI side), o2, o3, o4] [] h d mc ms R := by
  have nu := ln.1
  obtain ⟨N0, n1, n2, n3, n4⟩ := hN 0 (by omega) (by simpa using h0)
  rw [if_pos rfl, Nat.sub_zero] at n4
  have lp : ∀ (j i : Nat) (p : Int) (N : Nat) (g : Hp), i + j = z → FrP (fun q _ => q = r + 1) h g → (-1 ≤ p ∧ p ≤ 1000) → i ≤ N → N ≤ z → pathS L own T j i p N → (∀ t, t < j → (BS L own T j i p).getD t 0 = (BS L own T z 0 (-1)).getD (i + t) 0) → (∀ t, t < i → hpC g (r + 1) (q t) = 2 * (BS L own T z 0 (-1)).getD t 0 + 1 + side) → (∀ k, (∀ i, i < z → q i ≠ k) → hpC g (r + 1) k = hpC h (r + 1) k) →
      Wp m_Numbering_number 12 [some (xR r), some (xI side), some (xI p), some (xI (N : Int)), some (xI (i : Int))] [] g d mc ms R := by
    intro j
    induction j with
    | zero =>
      intro i p N g hi fr hp h1 h2 h3 h4 h5 h6
      have ln := ln.fr fr (fun q p z => Or.inl z)
      apply f_Numbering_number_12
      rw [ln.2.1, if_neg (by omega)]
      exact ⟨ln.1.tag, H g fr (fun t ht => h5 t (by omega)) h6⟩
    | succ j ih =>
      intro i p N g hi fr hp h1 h2 h3 h4 h5 h6
      have ln := ln.fr fr (fun q p z => Or.inl z)
      have nu := ln.1
      have hLn := hL i
      have hon := ho i
      obtain ⟨q1, q2⟩ := ln.2.2 i (by omega)
      have q3 : hpC g (r + 2) i = (q i : Int) := by rw [fr.2.2 _ _ (by omega)]; exact (hq i (by omega)).1
      have q4 := (hq i (by omega)).2
      have hg : gS L p i = max (L i) (p + 1) := rfl
      have bt := h4 0 (by omega)
      have go : ∀ (y : Int) (N2 : Nat) (g2 : Hp), g2 = hpU g (r + 1) (q i) (2 * y + 1 + side) → (-1 ≤ y ∧ y ≤ 1000) → i + 1 ≤ N2 → N2 ≤ z → pathS L own T j (i + 1) y N2 → BS L own T (j + 1) i p = y :: BS L own T j (i + 1) y → Wp m_Numbering_number 12 [some (xR r), some (xI side), some (xI y), some (xI (N2 : Int)), some (xI ((i + 1 : Nat) : Int))] [] g2 d mc ms R := by
        intro y N2 g2 e3 hy l1 l2 pth eb
        rw [eb] at bt
        simp only [List.getD_cons_zero, Nat.add_zero] at bt
        refine ih (i + 1) y N2 g2 (by omega) (fr.tr (by subst e3; exact FrP.up rfl)) hy l1 l2 pth (fun t ht => ?_) (fun t ht => ?_) (fun k hk => ?_)
        · have := h4 (t + 1) (by omega)
          rw [eb, List.getD_cons_succ] at this
          rw [this, show i + (t + 1) = i + 1 + t by omega]
        · subst e3
          by_cases et : t = i
          · subst et; rw [hpC_same, ← bt]
          · rw [hpC_ne (Or.inr (fun z => et (hj t i (by omega) (by omega) z)))]; exact h5 t (by omega)
        · subst e3
          rw [hpC_ne (Or.inr (fun z => hk i (by omega) z.symm))]; exact h6 k hk
      simp only [pathS] at h3
      apply f_Numbering_number_12
      rw [ln.2.1, if_pos (by omega)]
      by_cases c : N = i
      · rcases h3 with ⟨_, y1, y2, y3⟩ | ⟨y1, _⟩
        · rw [if_pos (show (i : Int) = (N : Int) by omega)]
          rw [nu.own_n, nu.own_t, nu.row_n, nu.row_t, nu.due_n, nu.due_t, Int.toNat_natCast, q2, q3, Int.toNat_natCast, ai_mul_eq (by omega) (by omega), ai_add_eq (a := 2 * own i) (by omega) (by omega), ai_add_eq (a := 2 * own i + 1) (by omega) (by omega)]
          refine ⟨nu.tag, nu.tag, ⟨rfl, by omega, by show (i : Int) < 12; omega⟩, nu.tag, nu.tag, ⟨rfl, by omega, by show (i : Int) < 12; omega⟩, ⟨rfl, by omega, by show (q i : Int) < 12; omega⟩, fun g2 e3 => ?_⟩
          rw [if_pos (show (i : Int) = (N : Int) by omega)]
          have fr2 : FrP (fun q _ => q = r + 1) g g2 := by subst e3; exact FrP.up rfl
          have ln2 := ln.fr fr2 (fun q p z => Or.inl z)
          have nu2 := ln2.1
          obtain ⟨N2, m1, m2, m3, m4⟩ := hN (i + 1) (by omega) (by rw [if_neg (by omega), show z - (i + 1) = j by omega]; exact y2)
          rw [if_neg (by omega), show z - (i + 1) = j by omega] at m4
          have m5 : hpC g2 (r + 6) (i + 1) = (N2 : Int) := by rw [fr2.2.2 _ _ (by omega), fr.2.2 _ _ (by omega)]; exact m1
          rw [nu2.next_n, nu2.next_t, ab_1 (by omega), Int.toNat_natCast, m5]
          have hgi : 0 ≤ own i := by omega
          exact ⟨nu2.tag, ⟨rfl, by omega, by show ((i + 1 : Nat) : Int) < 13; omega⟩, go (own i) N2 g2 e3 (by omega) m2 m3 m4 y3⟩
        · omega
      · rcases h3 with ⟨y1, _⟩ | ⟨y1, y2, y3, y4⟩
        · omega
        · rw [if_neg (show ¬ (i : Int) = (N : Int) by omega)]
          rw [nu.low_n, nu.low_t, nu.row_n, nu.row_t, nu.due_n, nu.due_t, Int.toNat_natCast, q1, q3, Int.toNat_natCast, ai_add_eq (a := p) (b := 1) (by omega) (by omega), mxI, ← hg, ai_mul_eq (by omega) (by omega), ai_add_eq (a := 2 * gS L p i) (by omega) (by omega), ai_add_eq (a := 2 * gS L p i + 1) (by omega) (by omega), ab_1 (by omega)]
          refine ⟨nu.tag, nu.tag, ⟨rfl, by omega, by show (i : Int) < 12; omega⟩, hd, nu.tag, nu.tag, ⟨rfl, by omega, by show (i : Int) < 12; omega⟩, ⟨rfl, by omega, by show (q i : Int) < 12; omega⟩, fun g2 e3 => ?_⟩
          rw [if_neg (show ¬ (i : Int) = (N : Int) by omega)]
          exact go (gS L p i) N g2 e3 (by omega) (by omega) h2 y4 y2
  apply f_Numbering_number_0
  rw [nu.next_n, nu.next_t, tn_0, n1]
  exact ⟨nu.tag, ⟨rfl, by omega, by decide⟩, lp z 0 (-1) N0 h (by omega) FrP.rf (by omega) n2 n3 n4 (fun t ht => by rw [Nat.zero_add]) (fun t ht => by omega) (fun k hk => rfl)⟩
/-! the sides of a street, as steps -/
def loX (g : Nat → Nat → Int) (n : Nat) (st sd : Int) (i : Nat) : Int := if (i : Int) < szG g n sd then loS g n st sd i else 0
def owX (g : Nat → Nat → Int) (n : Nat) (st sd : Int) (i : Nat) : Int := if (i : Int) < szG g n sd then owS g n st sd i else -1
theorem loX_bd {g : Nat → Nat → Int} {n : Nat} (hG : GV g n) {st sd : Int} (hst : 1 ≤ st) (i : Nat) : 0 ≤ loX g n st sd i ∧ loX g n st sd i ≤ 9999 := by
  unfold loX
  split
  · rename_i hi
    have := hG.2.1 _ (orG_spec hG hi).1
    unfold loS
    have q1 : 0 ≤ g 1 (orG g n sd i) / st := Int.ediv_nonneg (by omega) (by omega)
    have q2 : g 1 (orG g n sd i) / st ≤ g 1 (orG g n sd i) := Int.ediv_le_self _ (by omega)
    omega
  · omega
theorem owX_bd {g : Nat → Nat → Int} {n : Nat} (hG : GV g n) {st sd : Int} (hsd : 0 ≤ sd ∧ sd ≤ 1) (i : Nat) : -1 ≤ owX g n st sd i ∧ owX g n st sd i ≤ (999 - 1 - sd) / 2 := by
  unfold owX
  split
  · rename_i hi
    have := hG.2.1 _ (orG_spec hG hi).1
    exact owV_le hsd this.2.2
  · omega
def fwA (g : Nat → Nat → Int) (n : Nat) (st sd : Int) : Int := FS (loX g n st sd) (owX g n st sd) ((999 - 1 - sd) / 2) (szG g n sd).toNat 0 (-1)
def fwB (g : Nat → Nat → Int) (n : Nat) (st sd : Int) : List Int := BS (loX g n st sd) (owX g n st sd) ((999 - 1 - sd) / 2) (szG g n sd).toNat 0 (-1)
theorem fwA_bd (g : Nat → Nat → Int) (n : Nat) (st sd : Int) : 0 ≤ fwA g n st sd ∧ fwA g n st sd ≤ 1000 ∧ (fwA g n st sd < 1000 → fwA g n st sd ≤ n) := by
  have := FS_bd (loX g n st sd) (owX g n st sd) ((999 - 1 - sd) / 2) (szG g n sd).toNat 0 (-1)
  have := szG_bd g n sd
  unfold fwA; omega
/-- FEWEST; none -/
def fewA (g : Nat → Nat → Int) (n : Nat) (st : Int) : Int := if fwA g n st 0 < 1000 then (if fwA g n st 1 < 1000 then fwA g n st 0 + fwA g n st 1 else -1) else -1
/-- the number THEN of a house -/
def thenA (g : Nat → Nat → Int) (n : Nat) (st : Int) (q : Nat) : Int := 2 * (fwB g n st (g 0 q)).getD (rkG g n (g 0 q) (g 1 q)).toNat 0 + 1 + g 0 q
theorem sp_settle {h : Hp} {r r1 : Nat} {w : Nat → Int} (nu : numAt h r) (a : homesAt h r1) (hw : HW h r1 w) (hV : V w) (hx : r + 7 ≤ r1) {s : Nat} (hs : s < 10) {st : Int} (hst : 1 ≤ st ∧ st ≤ 99) {d mc ms : Nat} {R : PR} (hd : 3 ≤ d) {o4 o5 o6 o7 : Option AV}
    (H : ∀ h', FrP (SN r) h h' → (fewA (hW w s) (w (280 + s)).toNat st ≠ -1 → ∀ q, q < (w (280 + s)).toNat → hpC h' (r + 1) q = thenA (hW w s) (w (280 + s)).toNat st q) → R (some (xI (fewA (hW w s) (w (280 + s)).toNat st))) h') :
    Wp m_Numbering_settle 0 [some (xR r), some (xR r1), some (xI (s : Int)), some (xI st), o4, o5, o6, o7] [] h d mc ms R := by
  have hn := hV.hs hs
  have hG := hV.gv hs
  have hS : ∀ q p, r1 ≤ q → q ≤ r1 + 4 → ¬ SN r q p := fun q p h1 h2 z => by rcases z with ⟨z, _⟩ | z <;> omega
  have side : ∀ (sd many : Int) (g : Hp) (o6 o7 : Option AV), (0 ≤ sd ∧ sd ≤ 1) → (0 ≤ many ∧ many ≤ 12) → FrP (SN r) h g →
      (∀ (g' : Hp) (o6 o7 : Option AV), FrP (SN r) h g' → fwA (hW w s) (w (280 + s)).toNat st sd < 1000 → (∀ q, q < (w (280 + s)).toNat → hW w s 0 q = sd → hpC g' (r + 1) q = thenA (hW w s) (w (280 + s)).toNat st q) → (∀ q, q < (w (280 + s)).toNat → hW w s 0 q ≠ sd → hpC g' (r + 1) q = hpC g (r + 1) q) → Wp m_Numbering_settle 6 [some (xR r), some (xR r1), some (xI (s : Int)), some (xI st), some (xI (many + fwA (hW w s) (w (280 + s)).toNat st sd)), some (xI (sd + 1)), o6, o7] [] g' d mc ms R) →
      (∀ g' : Hp, FrP (SN r) h g' → ¬ fwA (hW w s) (w (280 + s)).toNat st sd < 1000 → R (some (xI (-1))) g') →
      Wp m_Numbering_settle 6 [some (xR r), some (xR r1), some (xI (s : Int)), some (xI st), some (xI many), some (xI sd), o6, o7] [] g d mc ms R := by
    intro sd many g o6 o7 hsd hmany f Y N
    have nu := nu.fr f
    obtain ⟨a, hw⟩ := homes_fr a hw f hS
    have bz := szG_bd (hW w s) (w (280 + s)).toNat sd
    obtain ⟨z, ez⟩ : ∃ z : Nat, szG (hW w s) (w (280 + s)).toNat sd = (z : Int) := ⟨(szG (hW w s) (w (280 + s)).toNat sd).toNat, by omega⟩
    have hT : ((999 : Int) - 1 - sd) / 2 < 1000 := by omega
    have hL := loX_bd hG (st := st) (sd := sd) (by omega)
    have ho := owX_bd hG (st := st) hsd
    have bF := fwA_bd (hW w s) (w (280 + s)).toNat st sd
    apply f_Numbering_settle_6
    rw [if_pos (by omega)]
    refine ⟨⟨by omega, nu.tag⟩, sp_lineUp nu a hw hV hx hs hst hsd (by omega) (fun g1 f1 c1 c2 _ => ?_)⟩
    have nu1 := nu.fr (Slu_SN f1)
    have f2 := f.tr (Slu_SN f1)
    rw [ez] at c1 c2
    have ln1 : lnS g1 r z (loX (hW w s) (w (280 + s)).toNat st sd) (owX (hW w s) (w (280 + s)).toNat st sd) := by
      refine ⟨nu1, c1, fun i hi => ?_⟩
      have := c2 i (by omega)
      rw [this.2.1, this.2.2]
      unfold loX owX
      rw [if_pos (by omega), if_pos (by omega)]
      exact ⟨rfl, rfl⟩
    have hF0 : fwA (hW w s) (w (280 + s)).toNat st sd = FS (loX (hW w s) (w (280 + s)).toNat st sd) (owX (hW w s) (w (280 + s)).toNat st sd) ((999 - 1 - sd) / 2) z 0 (-1) := by unfold fwA; rw [ez, Int.toNat_natCast]
    have hB0 : fwB (hW w s) (w (280 + s)).toNat st sd = BS (loX (hW w s) (w (280 + s)).toNat st sd) (owX (hW w s) (w (280 + s)).toNat st sd) ((999 - 1 - sd) / 2) z 0 (-1) := by unfold fwB; rw [ez, Int.toNat_natCast]
    refine ⟨by omega, sp_stepOf hsd (by omega) (by omega) (fun v e => ?_)⟩
    cases e
    rw [ln1.2.1]
    refine ⟨nu1.tag, ?_⟩
    have hzn : z ≤ 12 := by omega
    have os : ∀ i, i < z → orG (hW w s) (w (280 + s)).toNat sd i < (w (280 + s)).toNat ∧ hW w s 0 (orG (hW w s) (w (280 + s)).toNat sd i) = sd ∧ rkG (hW w s) (w (280 + s)).toNat sd (hW w s 1 (orG (hW w s) (w (280 + s)).toNat sd i)) = (i : Int) := fun i hi => orG_spec hG (by omega)
    have rz : ∀ q, q < (w (280 + s)).toNat → hW w s 0 q = sd → ∃ i, i < z ∧ orG (hW w s) (w (280 + s)).toNat sd i = q ∧ (rkG (hW w s) (w (280 + s)).toNat sd (hW w s 1 q)).toNat = i := by
      intro q hq hs'
      have e1 := orG_rk hG hq hs'
      have e2 := rkG_sz hG hq hs'
      have e3 := rkG_bd (hW w s) (w (280 + s)).toNat sd (hW w s 1 q)
      exact ⟨_, by omega, e1, rfl⟩
    generalize hgL : loX (hW w s) (w (280 + s)).toNat st sd = L at *
    generalize hgO : owX (hW w s) (w (280 + s)).toNat st sd = own at *
    generalize hgT : ((999 : Int) - 1 - sd) / 2 = T at *
    have lp : ∀ (i : Nat) (g3 : Hp) , i ≤ z + 1 → FrP (fun q _ => q = r + 5 ∨ q = r + 6) g1 g3 → (∀ t, i ≤ t → t ≤ z → hpC g3 (r + 5) t = FS L own T (z - t) t (if t = 0 then -1 else own (t - 1)) ∧ (FS L own T (z - t) t (if t = 0 then -1 else own (t - 1)) < 1000 → ∃ N : Nat, hpC g3 (r + 6) t = (N : Int) ∧ t ≤ N ∧ N ≤ z ∧ pathS L own T (z - t) t (if t = 0 then -1 else own (t - 1)) N)) →
        Wp m_Numbering_settle 37 [some (xR r), some (xR r1), some (xI (s : Int)), some (xI st), some (xI many), some (xI sd), some (xI T), some (xI ((i : Int) - 1))] [] g3 d mc ms R := by
      intro i
      induction i with
      | zero =>
        intro g3 hi fg hv
        have ln3 := ln1.fr fg (fun q p z => by omega)
        have nu3 := ln3.1
        have v0 := (hv 0 (by omega) (by omega)).1
        rw [if_pos rfl, Nat.sub_zero, ← hF0] at v0
        apply f_Numbering_settle_37
        rw [if_pos (by omega), nu3.few_n, nu3.few_t, tn_0, v0]
        refine ⟨nu3.tag, ⟨rfl, by omega, by decide⟩, ?_⟩
        have f3 : FrP (SN r) g1 g3 := fg.wk (fun q p z => Or.inr (by omega))
        by_cases c : fwA (hW w s) (w (280 + s)).toNat st sd < 1000
        · rw [if_pos c]
          refine ⟨nu3.tag, ⟨rfl, by omega, by decide⟩, ⟨by omega, nu3.tag⟩, sp_number ln3 hzn hT hL ho (q := orG (hW w s) (w (280 + s)).toNat sd) (fun t ht => ?_) (fun t t' ht ht' e => ?_) (fun t ht => (hv t (by omega) ht).2) (by rw [← hF0]; exact c) hsd (by omega) (fun g4 f4 x1 x2 _ => ?_)⟩
          · rw [fg.2.2 _ _ (by omega)]
            exact ⟨(c2 t (by omega)).1, by have := (os t ht).1; omega⟩
          · have e1 := (os t ht).2.2
            have e2 := (os t' ht').2.2
            rw [e] at e1; omega
          · rw [ai_add_eq (a := many) (by omega) (by omega), ai_add_eq (a := sd) (by omega) (by omega)]
            refine Y g4 _ _ (f2.tr (f3.tr (f4.wk (fun q p z => Or.inr (by omega))))) c (fun q hq hs' => ?_) (fun q hq hs' => ?_)
            · obtain ⟨i, h1, h2, h3⟩ := rz q hq hs'
              have := x1 i h1
              rw [h2] at this
              rw [this]
              unfold thenA
              rw [hs', h3, hB0]
            · rw [x2 q (fun i hi z => hs' (by have := (os i hi).2.1; rw [z] at this; exact this)), fg.2.2 _ _ (by omega), f1.2.2 _ _ (fun z => by rcases z with ⟨z, _⟩ | z <;> omega)]
        · rw [if_neg c]
          exact N g3 (f2.tr f3) c
      | succ i ih =>
        intro g3 hi fg hv
        have ln3 := ln1.fr fg (fun q p z => by omega)
        have nu3 := ln3.1
        apply f_Numbering_settle_37
        rw [show ((i + 1 : Nat) : Int) - 1 = (i : Int) by omega, if_neg (by omega)]
        refine ⟨⟨by omega, nu3.tag⟩, sp_lookBehind ln3 hzn hT hL ho (i := i) (by omega) (fun t h1 h2 h3 => ?_) (by omega) (fun g4 f4 x1 x2 _ => ?_)⟩
        · have := (hv (t + 1) (by omega) (by omega)).1
          rw [if_neg (by omega)] at this
          exact this
        · rw [ai_add_eq (by omega) (by omega)]
          refine ih g4 (by omega) (fg.tr (f4.wk (fun q p z => by rcases z with ⟨z, _⟩; omega))) (fun t h1 h2 => ?_)
          by_cases et : t = i
          · subst et; exact ⟨x1, x2⟩
          · have := hv t (by omega) h2
            rw [f4.2.2 (r + 5) t (fun z => et z.2), f4.2.2 (r + 6) t (fun z => et z.2)]
            exact this
    have := lp (z + 1) g1 (by omega) FrP.rf (fun t h1 h2 => by omega)
    rw [show ((z + 1 : Nat) : Int) - 1 = (z : Int) by omega] at this
    exact this
  have b0 := fwA_bd (hW w s) (w (280 + s)).toNat st 0
  have b1 := fwA_bd (hW w s) (w (280 + s)).toNat st 1
  apply f_Numbering_settle_0
  refine side 0 0 h _ _ (by omega) (by omega) FrP.rf (fun g o6 o7 f e1 k1 _ => ?_) (fun g f e1 => ?_)
  · refine side 1 _ g _ _ (by omega) (by omega) f (fun g2 o6 o7 f2 e2 k2 k3 => ?_) (fun g2 f2 e2 => ?_)
    · apply f_Numbering_settle_6
      rw [if_neg (by omega)]
      have := H g2 f2 (fun _ q hq => by
        rcases Int.lt_or_le (hW w s 0 q) 1 with z | z
        · rw [k3 q hq (by omega)]; exact k1 q hq (by have := (hG.2.1 q hq).1; omega)
        · exact k2 q hq (by have := (hG.2.1 q hq).1; omega))
      unfold fewA at this
      rw [if_pos e1, if_pos e2] at this
      rw [show (0 : Int) + fwA (hW w s) (w (280 + s)).toNat st 0 + fwA (hW w s) (w (280 + s)).toNat st 1 = fwA (hW w s) (w (280 + s)).toNat st 0 + fwA (hW w s) (w (280 + s)).toNat st 1 by omega]
      exact this
    · have e3 : fewA (hW w s) (w (280 + s)).toNat st = -1 := by unfold fewA; rw [if_pos e1, if_neg e2]
      have := H g2 f2 (fun z => absurd e3 z)
      rw [e3] at this; exact this
  · have e3 : fewA (hW w s) (w (280 + s)).toNat st = -1 := by unfold fewA; rw [if_neg e1]
    have := H g f (fun z => absurd e3 z)
    rw [e3] at this; exact this
