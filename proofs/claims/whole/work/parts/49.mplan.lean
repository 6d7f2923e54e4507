/-! ===== the reference's plan ===== -/
def Snm (m : Nat) : Nat → Nat → Prop := fun r _ => r = m + 14
theorem Snm_SM {m : Nat} {h h' : Hp} (f : FrP (Snm m) h h') : FrP (SM m) h h' := f.wk (fun r p z => Or.inr (Or.inr (by have : r = m + 14 := z; omega)))
theorem myM.fr {h h' : Hp} {m : Nat} {w : Nat → Int} (a : myM h m w) (hf : ∀ r p, (r = m + 12 ∨ r = m + 13) → hpC h' r p = hpC h r p) : myM h' m w := ⟨fun s k h1 h2 => by rw [hf _ _ (Or.inl rfl)]; exact a.1 s k h1 h2, fun k n h1 h2 => by rw [hf _ _ (Or.inr rfl)]; exact a.2 k n h1 h2⟩
theorem clM.fr {h h' : Hp} {m : Nat} {w : Nat → Int} (a : clM h m w) (hf : ∀ p, hpC h' (m + 11) p = hpC h (m + 11) p) : clM h' m w := fun s hs => by rw [hf]; exact a s hs
theorem Snm.my {h h' : Hp} {m : Nat} {w : Nat → Int} (f : FrP (Snm m) h h') (a : myM h m w) : myM h' m w := a.fr (fun r p hr => f.2.2 _ _ (fun z => by have : r = m + 14 := z; omega))
theorem sp_fitsChoice {h : Hp} {m : Nat} {w : Nat → Int} (a : RD h m w) (hV : V w) (my : myM h m w) {s k : Nat} (hs : (s : Int) < w 7) (hk : (k : Int) < w 6) {B : Nat → Bool} (hc : ∀ t, t < s → hpC h (m + 14) t = -1 ∨ (0 ≤ hpC h (m + 14) t ∧ hpC h (m + 14) t < w 6)) (hB : B k = true ↔ ∃ t, t < s ∧ hpC h (m + 14) t ≠ -1 ∧ rvW w (hpC h (m + 14) t).toNat k = true) {d mc ms : Nat} {R : PR} {o3 : Option AV} (H : R (some (xI (if (mayW w s k && !B k) = true then 1 else 0))) h) : Wp m_M_fitsChoice 0 [some (xR m), some (xI (s : Int)), some (xI (k : Int)), o3] [] h d mc ms R := by
  have v0 := hV.1.1
  have v1 := hV.1.2.1
  have v2 := hV.1.2.2.1
  have v3 := hV.1.2.2.2.1
  have v4 := hV.1.2.2.2.2.1
  have v5 := hV.1.2.2.2.2.2.1
  have v6 := hV.1.2.2.2.2.2.2.1
  have v7 := hV.1.2.2.2.2.2.2.2.1
  have v8 := hV.1.2.2.2.2.2.2.2.2.1
  have v9 := hV.1.2.2.2.2.2.2.2.2.2
  apply f_M_fitsChoice_0
  rw [am_12 (by omega), ai_add_nn (by omega), a.1.may_n, a.1.may_t, Int.toNat_natCast, my.1 s k hs hk]
  refine ⟨a.1.tag, ⟨rfl, by omega, by show ((12 * s + k : Nat) : Int) < 120; omega⟩, ?_⟩
  by_cases c : mayW w s k = true
  · rw [if_pos c, if_neg (by decide)]
    rw [c, Bool.true_and] at H
    have L : ∀ j t : Nat, t + j = s → (∀ u, u < t → ¬ (hpC h (m + 14) u ≠ -1 ∧ rvW w (hpC h (m + 14) u).toNat k = true)) → Wp m_M_fitsChoice 18 [some (xR m), some (xI (s : Int)), some (xI (k : Int)), some (xI (t : Int))] [] h d mc ms R := by
      intro j
      induction j with
      | zero =>
        intro t ht q
        apply f_M_fitsChoice_18
        rw [if_neg (by omega)]
        have : B k = false := by
          cases e : B k with
          | false => rfl
          | true => obtain ⟨u, h1, h2⟩ := hB.mp e; exact absurd h2 (q u (by omega))
        rw [this] at H
        exact ⟨by simp, H⟩
      | succ j ih =>
        intro t ht q
        have nx : ¬ (hpC h (m + 14) t ≠ -1 ∧ rvW w (hpC h (m + 14) t).toNat k = true) → Wp m_M_fitsChoice 18 [some (xR m), some (xI (s : Int)), some (xI (k : Int)), some (xI ((t + 1 : Nat) : Int))] [] h d mc ms R := fun z => ih (t + 1) (by omega) (fun u hu => by
          by_cases e : u = t
          · subst e; exact z
          · exact q u (by omega))
        apply f_M_fitsChoice_18
        rw [if_pos (by omega), a.1.choice_n, a.1.choice_t, Int.toNat_natCast, ab_1 (by omega)]
        refine ⟨a.1.tag, ⟨rfl, by omega, by show (t : Int) < 10; omega⟩, ?_⟩
        by_cases c1 : hpC h (m + 14) t = -1
        · rw [if_pos c1]; exact nx (fun z => z.1 c1)
        · rw [if_neg c1]
          have hb := hc t (by omega)
          obtain ⟨y, hy⟩ : ∃ y : Nat, hpC h (m + 14) t = (y : Int) := ⟨(hpC h (m + 14) t).toNat, by omega⟩
          rw [hy] at nx hb
          rw [hy, am_12 (by omega), ai_add_nn (by omega), a.1.poolAlike_n, a.1.poolAlike_t, Int.toNat_natCast, my.2 k y hk (by omega)]
          refine ⟨a.1.tag, a.1.tag, ⟨rfl, by omega, by show (t : Int) < 10; omega⟩, ⟨rfl, by omega, by show ((12 * k + y : Nat) : Int) < 144; omega⟩, ?_⟩
          rw [Int.toNat_natCast] at nx
          by_cases c2 : rvW w k y = true
          · rw [if_pos c2, if_neg (by decide)]
            have : B k = true := hB.mpr ⟨t, by omega, c1, by rw [hy, Int.toNat_natCast, rvW_sym]; exact c2⟩
            rw [this] at H
            exact ⟨by simp, H⟩
          · rw [if_neg c2, if_pos rfl]
            exact nx (fun z => c2 (by rw [rvW_sym]; exact z.2))
    exact L s 0 (by omega) (fun u hu => by omega)
  · rw [if_neg c, if_pos rfl]
    rw [show mayW w s k = false by simpa using c, Bool.false_and] at H
    exact ⟨by simp, H⟩
theorem nm_step {p : Nat} (hp : p = 30 ∨ p = 119) {h : Hp} {m : Nat} {S s n : Int} {d mc ms : Nat} {R : PR} {o4 : Option AV} (H : if s < n then (if (ai_and (ai_shr S s) (1 : Int)) = (0 : Int) then Wp m_M_names p [some (xR m), some (xI S), some (xI n), some (xI (ai_add s 1)), o4] [] h d mc ms R else Wp m_M_names 49 [some (xR m), some (xI S), some (xI n), some (xI s), o4] [] h d mc ms R) else Wp m_M_names 49 [some (xR m), some (xI S), some (xI n), some (xI s), o4] [] h d mc ms R) : Wp m_M_names p [some (xR m), some (xI S), some (xI n), some (xI s), o4] [] h d mc ms R := by
  rcases hp with rfl | rfl
  · apply f_M_names_30; exact H
  · apply f_M_names_119; exact H
theorem nm_run {h0 : Hp} {m : Nat} {w : Nat → Int} (a : RD h0 m w) (hV : V w) (my : myM h0 m w) {S : Nat} (hS : S < 1024) {d mc ms : Nat} {R : PR} (hd : 1 ≤ d) :
    ∀ (j s p : Nat) (B : Nat → Bool) (g : Hp) (o4 : Option AV), (p = 30 ∨ p = 119) → s + j = (w 7).toNat → FrP (Snm m) h0 g → (∀ t, t < s → hpC g (m + 14) t = -1 ∨ (0 ≤ hpC g (m + 14) t ∧ hpC g (m + 14) t < w 6)) → (∀ t, s ≤ t → t < (w 7).toNat → hpC g (m + 14) t = -1) →
      (∀ k, (B k = true ↔ ∃ t, t < s ∧ hpC g (m + 14) t ≠ -1 ∧ rvW w (hpC g (m + 14) t).toNat k = true)) →
      (∀ (g' : Hp) (l : List Int) (o4 : Option AV), FrP (Snm m) h0 g' → nmP (mayW w) (rvW w) S (w 6).toNat j s B = some l → (∀ t, t < s → hpC g' (m + 14) t = hpC g (m + 14) t) → (∀ i, i < j → hpC g' (m + 14) (s + i) = l.getD i 0) → Wp m_M_names 49 [some (xR m), some (xI (S : Int)), some (xI (w 7)), some (xI (w 7)), o4] [] g' d mc ms R) →
      (∀ (g' : Hp) (o4 : Option AV), FrP (Snm m) h0 g' → nmP (mayW w) (rvW w) S (w 6).toNat j s B = none → (∀ t, t < s → hpC g' (m + 14) t = hpC g (m + 14) t) → (∀ t, s ≤ t → t < (w 7).toNat → hpC g' (m + 14) t = -1) → Wp m_M_names 148 [some (xR m), some (xI (S : Int)), some (xI (w 7)), some (xI ((s : Int) - 1)), o4] [] g' d mc ms R) →
      Wp m_M_names p [some (xR m), some (xI (S : Int)), some (xI (w 7)), some (xI (s : Int)), o4] [] g d mc ms R := by
  have v0 := hV.1.1
  have v1 := hV.1.2.1
  have v2 := hV.1.2.2.1
  have v3 := hV.1.2.2.2.1
  have v4 := hV.1.2.2.2.2.1
  have v5 := hV.1.2.2.2.2.2.1
  have v6 := hV.1.2.2.2.2.2.2.1
  have v7 := hV.1.2.2.2.2.2.2.2.1
  have v8 := hV.1.2.2.2.2.2.2.2.2.1
  have v9 := hV.1.2.2.2.2.2.2.2.2.2
  intro j
  induction j with
  | zero =>
    intro s p B g o4 hp hs f c1 c2 hB Y N
    apply nm_step hp
    rw [if_neg (by omega), show (s : Int) = w 7 by omega]
    exact Y g [] o4 f rfl (fun t _ => rfl) (fun i hi => by omega)
  | succ j ih =>
    intro s p B g o4 hp hs f c1 c2 hB Y N
    apply nm_step hp
    rw [if_pos (by omega), ai_bit (by omega) (by omega)]
    by_cases c : S.testBit s = true
    · rw [if_pos c, if_neg (by decide)]
      simp only [nmP, if_pos c] at Y N
      have I : ∀ (i k : Nat) (g1 : Hp), k + i = (w 6).toNat → FrP (Snm m) h0 g1 → (∀ t, t < s → hpC g1 (m + 14) t = hpC g (m + 14) t) → (∀ t, s < t → t < (w 7).toNat → hpC g1 (m + 14) t = -1) →
          (∀ (g' : Hp) (l : List Int) (o4 : Option AV), FrP (Snm m) h0 g' → tryK (fun k => nmP (mayW w) (rvW w) S (w 6).toNat j (s + 1) (fun x => B x || rvW w k x)) (fun k => mayW w s k && !B k) i k = some l → (∀ t, t < s → hpC g' (m + 14) t = hpC g (m + 14) t) → (∀ i, i < j + 1 → hpC g' (m + 14) (s + i) = l.getD i 0) → Wp m_M_names 49 [some (xR m), some (xI (S : Int)), some (xI (w 7)), some (xI (w 7)), o4] [] g' d mc ms R) →
          (∀ (g' : Hp) (o4 : Option AV), FrP (Snm m) h0 g' → tryK (fun k => nmP (mayW w) (rvW w) S (w 6).toNat j (s + 1) (fun x => B x || rvW w k x)) (fun k => mayW w s k && !B k) i k = none → (∀ t, t < s → hpC g' (m + 14) t = hpC g (m + 14) t) → (∀ t, s ≤ t → t < (w 7).toNat → hpC g' (m + 14) t = -1) → Wp m_M_names 148 [some (xR m), some (xI (S : Int)), some (xI (w 7)), some (xI ((s : Int) - 1)), o4] [] g' d mc ms R) →
          Wp m_M_names 68 [some (xR m), some (xI (S : Int)), some (xI (w 7)), some (xI (s : Int)), some (xI (k : Int))] [] g1 d mc ms R := by
        intro i
        induction i with
        | zero =>
          intro k g1 hk f1 d1 d2 Y N
          have a := a.fr (Snm_SM f1)
          apply f_M_names_68
          rw [a.1.row_n, a.1.row_t, tn_6, a.2 6 (by omega), if_neg (by omega)]
          refine ⟨a.1.tag, ⟨rfl, by omega, by decide⟩, ?_⟩
          apply f_M_names_96
          rw [a.1.row_n, a.1.row_t, tn_6, a.2 6 (by omega), if_neg (by omega), a.1.choice_n, a.1.choice_t, Int.toNat_natCast, ai_add_eq (by omega) (by omega)]
          refine ⟨a.1.tag, ⟨rfl, by omega, by decide⟩, a.1.tag, ⟨rfl, by omega, by show (s : Int) < 10; omega⟩, fun g2 e2 => ?_⟩
          subst e2
          refine N _ _ (f1.tr (FrP.up rfl)) rfl (fun t ht => ?_) (fun t h1 h2 => ?_)
          · rw [hpC_ne (Or.inr (by omega))]; exact d1 t ht
          · by_cases e : t = s
            · subst e; rw [hpC_same]
            · rw [hpC_ne (Or.inr e)]; exact d2 t (by omega) h2
        | succ i ih2 =>
          intro k g1 hk f1 d1 d2 Y N
          have a1 := a.fr (Snm_SM f1)
          have my1 := Snm.my f1 my
          apply f_M_names_68
          rw [a1.1.row_n, a1.1.row_t, tn_6, a1.2 6 (by omega), if_pos (by omega), ab_1 (by omega)]
          refine ⟨a1.1.tag, ⟨rfl, by omega, by decide⟩, ⟨by omega, a1.1.tag⟩, sp_fitsChoice (B := B) a1 hV my1 (by omega) (by omega) (fun t ht => by rw [d1 t ht]; exact c1 t ht) ?_ (fun v e => ?_)⟩
          · rw [hB k]
            constructor
            · rintro ⟨t, h1, h2⟩; exact ⟨t, h1, by rw [d1 t h1]; exact h2⟩
            · rintro ⟨t, h1, h2⟩; exact ⟨t, h1, by rw [d1 t h1] at h2; exact h2⟩
          cases e
          simp only [tryK] at Y N
          by_cases ok : (mayW w s k && !B k) = true
          · rw [if_pos ok, if_neg (by decide)]
            rw [if_pos ok] at Y N
            apply f_M_names_96
            rw [a1.1.row_n, a1.1.row_t, tn_6, a1.2 6 (by omega), if_pos (by omega), a1.1.choice_n, a1.1.choice_t, Int.toNat_natCast, ab_1 (by omega)]
            refine ⟨a1.1.tag, ⟨rfl, by omega, by decide⟩, a1.1.tag, ⟨rfl, by omega, by show (s : Int) < 10; omega⟩, fun g2 e2 => ?_⟩
            have f2 : FrP (Snm m) h0 g2 := by subst e2; exact f1.tr (FrP.up rfl)
            have x1 : hpC g2 (m + 14) s = (k : Int) := by subst e2; rw [hpC_same]
            have x2 : ∀ t, t ≠ s → hpC g2 (m + 14) t = hpC g1 (m + 14) t := fun t ht => by subst e2; rw [hpC_ne (Or.inr ht)]
            clear e2
            refine ih (s + 1) 119 (fun x => B x || rvW w k x) g2 _ (Or.inr rfl) (by omega) f2 (fun t ht => ?_) (fun t h1 h2 => ?_) (fun x => ?_) (fun g' l o4 f' e' q1 q2 => ?_) (fun g' o4 f' e' q1 q2 => ?_)
            · by_cases e : t = s
              · subst e; rw [x1]; exact Or.inr ⟨by omega, by omega⟩
              · rw [x2 t e, d1 t (by omega)]; exact c1 t (by omega)
            · rw [x2 t (by omega)]; exact d2 t (by omega) h2
            · show (B x || rvW w k x) = true ↔ _
              rw [Bool.or_eq_true, hB x]
              constructor
              · rintro (⟨t, h1, h2⟩ | z)
                · exact ⟨t, by omega, by rw [x2 t (by omega), d1 t h1]; exact h2⟩
                · exact ⟨s, by omega, by rw [x1]; exact ⟨by omega, z⟩⟩
              · rintro ⟨t, h1, h2⟩
                by_cases e : t = s
                · subst e; rw [x1] at h2; exact Or.inr h2.2
                · rw [x2 t e, d1 t (by omega)] at h2; exact Or.inl ⟨t, by omega, h2⟩
            · simp only [e'] at Y
              refine Y g' ((k : Int) :: l) o4 f' rfl (fun t ht => ?_) (fun i hi => ?_)
              · rw [q1 t (by omega), x2 t (by omega)]; exact d1 t ht
              · cases i with
                | zero => show hpC g' (m + 14) s = (k : Int); rw [q1 s (by omega), x1]
                | succ i => rw [show s + (i + 1) = s + 1 + i by omega, q2 i (by omega)]; rfl
            · simp only [e'] at Y N
              have a' := a.fr (Snm_SM f')
              rw [show ((s + 1 : Nat) : Int) - 1 = (s : Int) by omega]
              apply f_M_names_148
              rw [if_neg (by omega), ai_bit (by omega) (by omega), if_pos c, if_neg (by decide)]
              apply f_M_names_49
              rw [if_neg (by omega), if_pos (by omega), a'.1.choice_n, a'.1.choice_t, Int.toNat_natCast, q1 s (by omega), x1, ab_1 (by omega)]
              refine ⟨a'.1.tag, ⟨rfl, by omega, by show (s : Int) < 10; omega⟩, ?_⟩
              exact ih2 (k + 1) g' (by omega) f' (fun t ht => by rw [q1 t (by omega), x2 t (by omega)]; exact d1 t ht) (fun t h1 h2 => q2 t (by omega) h2) Y N
          · rw [if_neg ok, if_pos rfl]
            rw [if_neg ok] at Y N
            exact ih2 (k + 1) g1 (by omega) f1 d1 d2 Y N
      have a1 := a.fr (Snm_SM f)
      apply f_M_names_49
      rw [if_neg (by omega), if_pos (by omega), a1.1.choice_n, a1.1.choice_t, Int.toNat_natCast, c2 s (by omega) (by omega), ai_add_eq (by omega) (by omega)]
      refine ⟨a1.1.tag, ⟨rfl, by omega, by show (s : Int) < 10; omega⟩, ?_⟩
      exact I (w 6).toNat 0 g (by omega) f (fun t _ => rfl) (fun t h1 h2 => c2 t (by omega) h2) Y N
    · rw [if_neg c, if_pos rfl, ab_1 (by omega)]
      simp only [nmP, if_neg c] at Y N
      have cs := c2 s (by omega) (by omega)
      refine ih (s + 1) p B g o4 hp (by omega) f (fun t ht => ?_) (fun t h1 h2 => c2 t (by omega) h2) (fun x => ?_) (fun g' l o4 f' e' q1 q2 => ?_) (fun g' o4 f' e' q1 q2 => ?_)
      · by_cases e : t = s
        · subst e; exact Or.inl cs
        · exact c1 t (by omega)
      · rw [hB x]
        constructor
        · rintro ⟨t, h1, h2⟩; exact ⟨t, by omega, h2⟩
        · rintro ⟨t, h1, h2⟩
          by_cases e : t = s
          · subst e; exact absurd cs h2.1
          · exact ⟨t, by omega, h2⟩
      · simp only [e'] at Y
        refine Y g' ((-1) :: l) o4 f' rfl (fun t ht => q1 t (by omega)) (fun i hi => ?_)
        cases i with
        | zero => show hpC g' (m + 14) s = -1; rw [q1 s (by omega), cs]
        | succ i => rw [show s + (i + 1) = s + 1 + i by omega, q2 i (by omega)]; rfl
      · simp only [e'] at N
        rw [show ((s + 1 : Nat) : Int) - 1 = (s : Int) by omega]
        apply f_M_names_148
        rw [if_neg (by omega), ai_bit (by omega) (by omega), if_neg c, if_pos rfl, ai_add_eq (by omega) (by omega)]
        refine N g' o4 f' trivial (fun t ht => q1 t (by omega)) (fun t h1 h2 => ?_)
        by_cases e : t = s
        · subst e; rw [q1 t (by omega)]; exact cs
        · exact q2 t (by omega) h2
def nmW (w : Nat → Int) (S : Nat) : Option (List Int) := nmP (mayW w) (rvW w) S (w 6).toNat (w 7).toNat 0 (fun _ => false)
theorem sp_names {h : Hp} {m : Nat} {w : Nat → Int} (a : RD h m w) (hV : V w) (my : myM h m w) {S : Nat} (hS : S < 1024) {d mc ms : Nat} {R : PR} (hd : 1 ≤ d) {o2 o3 o4 : Option AV}
    (Y : ∀ (h' : Hp) (l : List Int), FrP (Snm m) h h' → nmW w S = some l → (∀ i, i < (w 7).toNat → hpC h' (m + 14) i = l.getD i 0) → R (some (xI 1)) h')
    (N : ∀ (h' : Hp), FrP (Snm m) h h' → nmW w S = none → R (some (xI 0)) h') : Wp m_M_names 0 [some (xR m), some (xI (S : Int)), o2, o3, o4] [] h d mc ms R := by
  have v0 := hV.1.1
  have v1 := hV.1.2.1
  have v2 := hV.1.2.2.1
  have v3 := hV.1.2.2.2.1
  have v4 := hV.1.2.2.2.2.1
  have v5 := hV.1.2.2.2.2.2.1
  have v6 := hV.1.2.2.2.2.2.2.1
  have v7 := hV.1.2.2.2.2.2.2.2.1
  have v8 := hV.1.2.2.2.2.2.2.2.2.1
  have v9 := hV.1.2.2.2.2.2.2.2.2.2
  apply f_M_names_0
  rw [a.1.row_n, a.1.row_t, tn_7, a.2 7 (by omega)]
  refine ⟨a.1.tag, ⟨rfl, by omega, by decide⟩, ?_⟩
  have L : ∀ (j s : Nat) (g : Hp), s + j = (w 7).toNat → FrP (Snm m) h g → (∀ t, t < s → hpC g (m + 14) t = -1) → Wp m_M_names 10 [some (xR m), some (xI (S : Int)), some (xI (w 7)), some (xI (s : Int)), o4] [] g d mc ms R := by
    intro j
    induction j with
    | zero =>
      intro s g hs f c
      apply f_M_names_10
      rw [if_neg (by omega)]
      refine nm_run a hV my hS hd (w 7).toNat 0 30 (fun _ => false) g _ (Or.inl rfl) (by omega) f (fun t ht => by omega) (fun t _ ht => c t (by omega)) (fun k => ⟨fun z => (by cases z), fun ⟨t, h1, _⟩ => (by omega)⟩) (fun g' l o4 f' e' _ q2 => ?_) (fun g' o4 f' e' _ q2 => ?_)
      · apply f_M_names_49
        rw [if_neg (by omega), if_neg (by omega)]
        have q3 : ∀ i, i < (w 7).toNat → hpC g' (m + 14) i = l.getD i 0 := fun i hi => by have := q2 i hi; rw [Nat.zero_add] at this; exact this
        rw [if_neg (by omega)]
        exact ⟨by simp, Y g' l f' e' q3⟩
      · apply f_M_names_148
        rw [if_pos (by omega)]
        apply f_M_names_49
        rw [if_pos (by omega), if_pos (by omega)]
        exact ⟨by simp, N g' f' e'⟩
    | succ j ih =>
      intro s g hs f c
      have a := a.fr (Snm_SM f)
      apply f_M_names_10
      rw [if_pos (by omega), a.1.choice_n, a.1.choice_t, Int.toNat_natCast, ab_1 (by omega)]
      refine ⟨a.1.tag, ⟨rfl, by omega, by show (s : Int) < 10; omega⟩, fun g1 e1 => ?_⟩
      subst e1
      refine ih (s + 1) _ (by omega) (f.tr (FrP.up rfl)) (fun t ht => ?_)
      by_cases e : t = s
      · subst e; rw [hpC_same]
      · rw [hpC_ne (Or.inr e)]; exact c t (by omega)
  exact L (w 7).toNat 0 h (by omega) FrP.rf (fun t ht => by omega)
/-- the plan: its set, -1 for none -/
def ppW (w : Nat → Int) (S : Nat) : Prop := apP (clW w) (w 7).toNat S ∧ nmW w S ≠ none
def plP (w : Nat → Int) (c : Int) : Prop := seP (fun S => (popc S : Int)) (hsW w) (ppW w) (2 ^ (w 7).toNat) c
def bsM (h : Hp) (r : Nat) (w : Nat → Int) (c : Int) : Prop := ∀ q : Nat, c = (q : Int) → ∃ l, nmW w q = some l ∧ ∀ t, t < (w 7).toNat → hpC h r t = l.getD t 0
def Spn (m : Nat) : Nat → Nat → Prop := fun r p => (r = m ∧ p = 28) ∨ r = m + 14 ∨ r = m + 15
theorem Spn_SM {m : Nat} {h h' : Hp} (f : FrP (Spn m) h h') : FrP (SM m) h h' := f.wk (fun r p z => by
  rcases z with ⟨z1, z2⟩ | z | z
  · exact Or.inl ⟨z1, Or.inr (Or.inl z2)⟩
  · exact Or.inr (Or.inr (by omega))
  · exact Or.inr (Or.inr (by omega)))
theorem Snm_Spn {m : Nat} {h h' : Hp} (f : FrP (Snm m) h h') : FrP (Spn m) h h' := f.wk (fun r p z => Or.inr (Or.inl z))
theorem Spn.my {h h' : Hp} {m : Nat} {w : Nat → Int} (f : FrP (Spn m) h h') (a : myM h m w) : myM h' m w := a.fr (fun r p hr => f.2.2 _ _ (fun z => by rcases z with ⟨z, _⟩ | z | z <;> omega))
theorem Spn.cl {h h' : Hp} {m : Nat} {w : Nat → Int} (f : FrP (Spn m) h h') (a : clM h m w) : clM h' m w := a.fr (fun p => f.2.2 _ _ (fun z => by rcases z with ⟨z, _⟩ | z | z <;> omega))
