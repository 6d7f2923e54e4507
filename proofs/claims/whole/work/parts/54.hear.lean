/-! ===== heard, heardAt, find, fades ===== -/
theorem RD.fx {h h' : Hp} {m : Nat} {w : Nat → Int} {S : Nat → Nat → Prop} (a : RD h m w) (f : FrP S h h') (hS : offM m S) (h1 : ∀ p, ¬ S (m + 1) p) : RD h' m w := ⟨a.1.fo f hS, fun p hp => by rw [f.2.2 _ _ (h1 p)]; exact a.2 p hp⟩
def bvT (b : Nat → Nat) (n : Nat) (i : Int) : Int := if 0 ≤ i ∧ i < (n : Int) then (b i.toNat : Int) else -1
theorem bvT_nat {b : Nat → Nat} {n i : Nat} (hi : i < n) : bvT b n (i : Int) = (b i : Int) := by unfold bvT; rw [if_pos (by omega), Int.toNat_natCast]
theorem bvT_out {b : Nat → Nat} {n : Nat} {i : Int} (hi : i < 0 ∨ (n : Int) ≤ i) : bvT b n i = -1 := by unfold bvT; rw [if_neg (by omega)]
def szM (h : Hp) (m : Nat) (b : Nat → Nat) (n : Nat) : Prop := hpC h m 8 = (n : Int) ∧ n ≤ 2000 ∧ ∀ i, i < n → hpC h (m + 4) i = (b i : Int) ∧ b i < 256
theorem sp_byteAt {h : Hp} {m : Nat} {b : Nat → Nat} {n : Nat} (a : modelAt h m) (t : szM h m b n) {i : Int} {d mc ms : Nat} {R : PR} (H : R (some (xI (bvT b n i))) h) : Wp m_M_byteAt 0 [some (xR m), some (xI i)] [] h d mc ms R := by
  obtain ⟨t1, t2, t3⟩ := t
  apply f_M_byteAt_0
  by_cases c : i < 0
  · rw [if_pos c]; rw [bvT_out (Or.inl c)] at H; exact H
  · rw [if_neg c, t1]
    refine ⟨a.tag, ?_⟩
    by_cases c2 : i < (n : Int)
    · obtain ⟨q, rfl⟩ : ∃ q : Nat, i = (q : Int) := ⟨i.toNat, by omega⟩
      rw [bvT_nat (by omega)] at H
      rw [if_pos c2, a.tape_n, a.tape_t, Int.toNat_natCast, (t3 q (by omega)).1]
      exact ⟨a.tag, ⟨rfl, by omega, by show (q : Int) < 2000; omega⟩, H⟩
    · rw [if_neg c2]; rw [bvT_out (Or.inr (by omega))] at H; exact H
def smT (b : Nat → Nat) (n : Nat) (i : Int) : Prop := 97 ≤ bvT b n i ∧ bvT b n i ≤ 122
theorem sp_isSmall {h : Hp} {m : Nat} {b : Nat → Nat} {n : Nat} (a : modelAt h m) (t : szM h m b n) {i : Int} {d mc ms : Nat} {R : PR} (hd : 1 ≤ d) (H1 : smT b n i → R (some (xI 1)) h) (H0 : ¬ smT b n i → R (some (xI 0)) h) : Wp m_M_isSmall 0 [some (xR m), some (xI i)] [] h d mc ms R := by
  unfold smT at H1 H0
  apply f_M_isSmall_0
  refine ⟨⟨hd, a.tag⟩, sp_byteAt a t (fun v e => ?_)⟩
  have e1 := xI_inj e
  clear e
  by_cases c : v < 97
  · rw [if_pos c]; exact ⟨by simp, H0 (fun z => by omega)⟩
  · rw [if_neg c]
    refine ⟨⟨hd, a.tag⟩, sp_byteAt a t (fun v2 e => ?_)⟩
    have e2 := xI_inj e
    clear e
    by_cases c2 : 122 < v2
    · rw [if_pos c2]; exact ⟨by simp, H0 (fun z => by omega)⟩
    · rw [if_neg c2]; exact ⟨by simp, H1 (by omega)⟩
/-- the tape as a name -/
def tvW (b : Nat → Nat) (o n : Nat) : Nat → Int := fun i => if i < n then (b (o + i) : Int) - 96 else 0
def nmT (b : Nat → Nat) (n : Nat) : Prop := 1 ≤ n ∧ n ≤ 10 ∧ alB b n 0 n ∧ ownI (ltL' b 0 n) = -1
theorem tvW_ok {b : Nat → Nat} {N o n : Nat} (h1 : 1 ≤ n) (h2 : n ≤ 10) (h3 : alB b N o n) : okName (tvW b o n) 0 := ⟨n, h1, h2, fun i hi => by
  have := h3 i hi
  rw [Nat.zero_add]; unfold tvW; rw [if_pos hi]; omega, fun i h _ => by rw [Nat.zero_add]; unfold tvW; rw [if_neg (by omega)]⟩
theorem tvW_n {b : Nat → Nat} {N o n : Nat} (h2 : n ≤ 10) (h3 : alB b N o n) : nW (tvW b o n) 0 = n := nlF_eq (f := fun i => tvW b o n (0 + i)) (n := n) (fun i hi => by
  have := h3 i hi
  show tvW b o n (0 + i) ≠ 0
  rw [Nat.zero_add]; unfold tvW; rw [if_pos hi]; omega) (fun hn => by show tvW b o n (0 + n) = 0; rw [Nat.zero_add]; unfold tvW; rw [if_neg (by omega)]) 10 0 (by omega) (by omega) rfl
theorem tvW_word {b : Nat → Nat} {N o n : Nat} (h2 : n ≤ 10) (h3 : alB b N o n) : wordW (tvW b o n) 0 = pkL (ltL' b o n) := by
  unfold wordW ltL'
  rw [tvW_n h2 h3]
  congr 1
  apply List.map_congr_left
  intro i hi
  have := h3 i (List.mem_range.mp hi)
  unfold fW tvW
  rw [Nat.zero_add, if_pos (List.mem_range.mp hi)]
  omega
def Shr (m : Nat) : Nat → Nat → Prop := fun r p => (r = m ∧ (p = 5 ∨ p = 8 ∨ p = 17)) ∨ r = m + 6
theorem Shr_off (m : Nat) : offM m (Shr m) := by
  intro p hp z
  rcases z with ⟨-, rfl | rfl | rfl⟩ | z
  · revert hp; decide
  · revert hp; decide
  · revert hp; decide
  · omega
theorem RD.hr {h h' : Hp} {m : Nat} {w : Nat → Int} (a : RD h m w) (f : FrP (Shr m) h h') : RD h' m w := a.fx f (Shr_off m) (fun p z => by rcases z with ⟨z, _⟩ | z <;> omega)
theorem sp_hears {h : Hp} {m : Nat} {w : Nat → Int} (a : RD h m w) (hV : V w) (ow : owM h m) {b : Nat → Nat} {n : Nat} (t : TPm h m b n) {d mc ms : Nat} {R : PR} (hd : 3 ≤ d) {o1 : Option AV}
    (H1 : nmT b n → ∀ h', FrP (Shr m) h h' → hpC h' m 5 = 0 → atHand h' m (tvW b 0 n) 0 → R (some (xI 1)) h')
    (H2 : ¬ nmT b n → ∀ h', FrP (Shr m) h h' → hpC h' m 5 = 0 → R (some (xI 0)) h') : Wp m_M_hears 0 [some (xR m), o1] [] h d mc ms R := by
  obtain ⟨t1, t2, t3⟩ := t
  apply f_M_hears_0
  refine ⟨⟨by omega, a.1.tag⟩, ?_⟩
  apply f_M_taken_0
  refine ⟨a.1.tag, a.1.tag, fun g1 e1 v e => ?_⟩
  cases e
  have f1 : FrP (Shr m) h g1 := by subst e1; exact FrP.up (Or.inl ⟨rfl, Or.inl rfl⟩)
  have x5 : hpC g1 m 5 = 0 := by subst e1; rw [hpC_same]
  have y1 : ∀ i, hpC g1 (m + 4) i = hpC h (m + 4) i := fun i => by subst e1; rw [hpC_ne (Or.inl (by omega))]
  have z1 : ∀ i, hpC g1 (m + 5) i = hpC h (m + 5) i := fun i => by subst e1; rw [hpC_ne (Or.inl (by omega))]
  clear e1
  rw [t1]
  refine ⟨(a.hr f1).1.tag, fun g2 e2 => ?_⟩
  have f2 : FrP (Shr m) h g2 := by subst e2; exact f1.tr (FrP.up (Or.inl ⟨rfl, Or.inr (Or.inl rfl)⟩))
  have x52 : hpC g2 m 5 = 0 := by subst e2; rw [hpC_ne (Or.inr (by decide))]; exact x5
  have x8 : hpC g2 m 8 = (n : Int) := by subst e2; rw [hpC_same]
  have y2 : ∀ i, hpC g2 (m + 4) i = hpC h (m + 4) i := fun i => by subst e2; rw [hpC_ne (Or.inl (by omega))]; exact y1 i
  have z2 : ∀ i, hpC g2 (m + 5) i = hpC h (m + 5) i := fun i => by subst e2; rw [hpC_ne (Or.inl (by omega))]; exact z1 i
  clear e2
  have a2 := (a.hr f2).1
  have t' : szM g2 m b n := ⟨x8, t2, fun i hi => by rw [y2]; exact t3 i hi⟩
  have ow2 : owM g2 m := fun i hi => by rw [z2]; exact ow i hi
  rw [x8]
  refine ⟨a2.tag, by omega, sp_isIn (fun v e => ?_)⟩
  cases e
  by_cases c : 1 ≤ n ∧ n ≤ 10
  · rw [if_pos (show (1 : Int) ≤ (n : Int) ∧ (n : Int) ≤ 10 by omega), if_neg (by decide)]
    have L : ∀ j i : Nat, i + j = n → alB b n 0 i → Wp m_M_hears 25 [some (xR m), some (xI (i : Int))] [] g2 d mc ms R := by
      intro j
      induction j with
      | zero =>
        intro i hi ha
        obtain rfl : i = n := by omega
        apply f_M_hears_25
        rw [x8, if_neg (by omega)]
        refine ⟨a2.tag, a2.tag, ⟨by omega, a2.tag⟩, ?_⟩
        have ob := sp_ownBetween (d := d - 1) (mc := 0) (ms := 0) (o3 := none) (o4 := none) (o5 := none) (R := fun rv h1 => ∀ v1 : Int, rv = some (xI v1) → (if v1 = (-1 : Int) then ((hpT h1 m).1 = 12 ∧ ((hpT h1 m).1 = 12 ∧ (∀ g1 : Hp, g1 = hpU h1 m 17 (hpC h1 m 8) → Wp m_M_hears 74 [some (xR m), some (xI (0 : Int))] [] g1 d mc ms R))) else (((0 : Int) = 0 ∨ (0 : Int) = 1) ∧ R (some (xI (0 : Int))) h1))) a2 ow2 (b := b) (o := 0) (k := i) (by omega) (fun q hq => by
          have := ha q hq
          rw [Nat.zero_add] at this ⊢
          exact ⟨(t'.2.2 q hq).1, this.2.1, this.2.2⟩)
        rw [show ((0 : Nat) : Int) = 0 from rfl, show ((0 + i : Nat) : Int) = (i : Int) by omega] at ob
        refine ob (fun v e => ?_)
        have e1 := xI_inj e
        clear e
        by_cases c2 : v = -1
        · rw [if_pos c2]
          refine ⟨a2.tag, a2.tag, fun g3 e3 => ?_⟩
          have f3 : FrP (Shr m) h g3 := by subst e3; exact f2.tr (FrP.up (Or.inl ⟨rfl, Or.inr (Or.inr rfl)⟩))
          have x53 : hpC g3 m 5 = 0 := by subst e3; rw [hpC_ne (Or.inr (by decide))]; exact x52
          have x83 : hpC g3 m 8 = (i : Int) := by subst e3; rw [hpC_ne (Or.inr (by decide))]; exact x8
          have x17 : hpC g3 m 17 = (i : Int) := by subst e3; rw [hpC_same]; exact x8
          have y3 : ∀ i, hpC g3 (m + 4) i = hpC h (m + 4) i := fun i => by subst e3; rw [hpC_ne (Or.inl (by omega))]; exact y2 i
          clear e3
          have nm : nmT b i := ⟨c.1, c.2, ha, by rw [← e1]; exact c2⟩
          have tn := tvW_n c.2 ha
          have K : ∀ (e q : Nat) (g : Hp), q + e = i → FrP (Shr m) h g → hpC g m 5 = 0 → hpC g m 8 = (i : Int) → hpC g m 17 = (i : Int) → (∀ u, hpC g (m + 4) u = hpC h (m + 4) u) → (∀ u, u < q → hpC g (m + 6) u = tvW b 0 i u) → Wp m_M_hears 74 [some (xR m), some (xI (q : Int))] [] g d mc ms R := by
            intro e
            induction e with
            | zero =>
              intro q g hq f k5 k8 k17 k4 kw
              obtain rfl : q = i := by omega
              have a3 := (a.hr f).1
              apply f_M_hears_74
              rw [k8, if_neg (by omega)]
              refine ⟨a3.tag, by simp, H1 nm g f k5 ⟨by rw [tn]; exact k17, fun u hu => ?_⟩⟩
              rw [tn] at hu
              rw [Nat.zero_add]; exact kw u hu
            | succ e ih =>
              intro q g hq f k5 k8 k17 k4 kw
              have a3 := (a.hr f).1
              have hb := ha q (by omega)
              rw [Nat.zero_add] at hb
              apply f_M_hears_74
              rw [k8, if_pos (by omega), a3.tape_n, a3.tape_t, a3.word_n, a3.word_t, Int.toNat_natCast, k4, (t3 q (by omega)).1, ai_sub_eq (by omega) (by omega), ab_1 (by omega)]
              refine ⟨a3.tag, a3.tag, a3.tag, ⟨rfl, by omega, by show (q : Int) < 2000; omega⟩, ⟨rfl, by omega, by show (q : Int) < 10; omega⟩, fun g4 e4 => ?_⟩
              subst e4
              refine ih (q + 1) _ (by omega) (f.tr (FrP.up (Or.inr rfl))) (by rw [hpC_ne (Or.inl (by omega))]; exact k5) (by rw [hpC_ne (Or.inl (by omega))]; exact k8) (by rw [hpC_ne (Or.inl (by omega))]; exact k17) (fun u => by rw [hpC_ne (Or.inl (by omega))]; exact k4 u) (fun u hu => ?_)
              by_cases e : u = q
              · subst e
                rw [hpC_same]
                unfold tvW
                rw [if_pos (by omega), Nat.zero_add]
              · rw [hpC_ne (Or.inr e)]; exact kw u (by omega)
          exact K i 0 g3 (by omega) f3 x53 x83 x17 y3 (fun u hu => by omega)
        · rw [if_neg c2]
          exact ⟨by simp, H2 (fun z => c2 (by rw [e1]; exact z.2.2.2)) g2 f2 x52⟩
      | succ j ih =>
        intro i hi ha
        apply f_M_hears_25
        rw [x8, if_pos (by omega), ab_1 (by omega)]
        refine ⟨a2.tag, ⟨by omega, a2.tag⟩, sp_isSmall a2 t' (by omega) (fun z v e => ?_) (fun z v e => ?_)⟩
        · cases e
          rw [if_neg (by decide)]
          refine ih (i + 1) (by omega) (fun q hq => ?_)
          by_cases e : q = i
          · subst e
            unfold smT at z
            rw [bvT_nat (by omega)] at z
            rw [Nat.zero_add]; omega
          · exact ha q (by omega)
        · cases e
          rw [if_pos rfl]
          refine ⟨by simp, H2 (fun y => z ?_) g2 f2 x52⟩
          have := y.2.2.1 i (by omega)
          rw [Nat.zero_add] at this
          unfold smT
          rw [bvT_nat (by omega)]; omega
    exact L n 0 (by omega) (fun i hi => by omega)
  · rw [if_neg (show ¬ ((1 : Int) ≤ (n : Int) ∧ (n : Int) ≤ 10) by omega), if_pos rfl]
    exact ⟨by simp, H2 (fun z => c ⟨z.1, z.2.1⟩) g2 f2 x52⟩
theorem pkL_pos {l : List Nat} (h : ∀ c ∈ l, 1 ≤ c ∧ c ≤ 26) (hl : 1 ≤ l.length) : 0 < pkL l := by
  cases l with
  | nil => simp at hl
  | cons c cs => have := h c List.mem_cons_self; simp only [pkL]; omega
theorem sp_wordOnTape {h : Hp} {x : Nat} (s : sAt h x) {b : Nat → Nat} {n : Nat} (t : TPc h x b n) {d mc ms : Nat} {R : PR} (hd : 3 ≤ d) {o1 o2 : Option AV}
    (H1 : nmT b n → 0 < wordW (tvW b 0 n) 0 → R (some (xL (wordW (tvW b 0 n) 0 : Int))) (hpU h (x + 1) 1 0))
    (H2 : ¬ nmT b n → R (some (xL ((0 : Nat) : Int))) (hpU h (x + 1) 1 0)) : Wp m_S_wordOnTape 0 [some (xR x), o1, o2] [] h d mc ms R := by
  have t2 := t.2.2.1
  have s' : sAt (hpU h (x + 1) 1 0) x := s.fr (S := fun r p => r = x + 1 ∧ p = 1) (FrP.up ⟨rfl, rfl⟩) (fun p _ z => by omega)
  have t' : tapeAt (hpU h (x + 1) 1 0) x := t.1.fr rfl (fun r p hr => hpC_ne (by omega))
  apply f_S_wordOnTape_0
  rw [s.tape_n, t.2.1]
  have wa := sp_wordAt (d := d - 1) (mc := 0) (ms := 0) (o3 := none) (o4 := none) (o5 := none) (o6 := none) (R := fun rv h1 => ∀ v1 : Int, rv = some (xL v1) → ((hpT h1 x).1 = 11 ∧ ((hpT h1 (Int.toNat (hpC h1 x 0))).1 = 9 ∧ (∀ g1 : Hp, g1 = hpU h1 (Int.toNat (hpC h1 x 0)) 1 (0 : Int) → ((hpT g1 x).1 = 11 ∧ ((1 ≤ d ∧ (hpT g1 (Int.toNat (hpC g1 x 0))).1 = 9) ∧ Wp m_Tape_ownWord 0 [some (xR (Int.toNat (hpC g1 x 0))), some (xL v1), none, none] [] g1 (d - 1) 0 0 (fun rv h2 => ∀ v2 : Int, rv = some (xI v2) → (if v2 = (-1 : Int) then R (some (xL v1)) h2 else R (some (xL ((0 : Nat) : Int))) h2))))))) ) t (o := 0) (k := n) (by omega) (by omega)
  refine ⟨s.tag, s.tag, t.1.tag, ⟨by omega, t.1.tag⟩, ?_⟩
  refine wa (fun k1 k2 k3 v e => ?_) (fun k v e => ?_)
  · cases e
    rw [s.tape_n]
    refine ⟨s.tag, t.1.tag, fun g1 e1 => ?_⟩
    subst e1
    rw [s'.tape_n]
    refine ⟨s'.tag, ⟨by omega, t'.tag⟩, sp_ownWord t' (fun v e => ?_)⟩
    have e1 := xI_inj e
    clear e
    rw [own_pk (ltL'_mem k3)] at e1
    have tw := tvW_word k2 k3
    have pp := pkL_pos (ltL'_mem k3) (by rw [ltL'_len]; exact k1)
    by_cases c : v = -1
    · rw [if_pos c, ← tw]
      exact H1 ⟨k1, k2, k3, by rw [← e1]; exact c⟩ (by rw [tw]; exact pp)
    · rw [if_neg c]
      exact H2 (fun z => c (by rw [e1]; exact z.2.2.2))
  · cases e
    rw [s.tape_n]
    refine ⟨s.tag, t.1.tag, fun g1 e1 => ?_⟩
    subst e1
    rw [s'.tape_n]
    refine ⟨s'.tag, ⟨by omega, t'.tag⟩, sp_ownWord (W := 0) t' (fun v e => ?_)⟩
    rw [own_zero] at e
    cases e
    rw [if_pos rfl]
    exact H2 (fun z => k ⟨z.1, z.2.1, z.2.2.1⟩)
/-! heard -/
def keyV (w v : Nat → Int) : List Nat := keyL (prW w) (muW w) (hdW w) (fW v 0) (nW v 0)
theorem keyV_mem {w v : Nat → Int} (hV : V w) (hn : okName v 0) : ∀ c ∈ keyV w v, 1 ≤ c ∧ c ≤ 26 := by
  have h5 := hV.1.2.2.2.2.2.1
  refine kd_mem (fun x h1 h2 => ?_) _ _ _ (kp_mem (fun i hi => (hn.f hi).2) (fun x y => pW_le hV x y _ 0 (by omega)) _ _)
  have := hV.2.1 (x - 1) (by omega)
  unfold hdW
  rw [show 10 + x - 1 = 10 + (x - 1) by omega]; omega
theorem keyV_len {w v : Nat → Int} (hn : okName v 0) : (keyV w v).length ≤ 10 := Nat.le_trans keyL_len hn.spec.2.1
theorem keyV_word {w v : Nat → Int} (hn : okName v 0) : keyL (prW w) (muW w) (hdW w) (wl (wordW v 0)) (nW v 0) = keyV w v := by
  unfold keyV keyL
  rw [kp_ext (fun i hi => by rw [wl_wordW hn, if_pos hi])]
theorem keyV_of {w v : Nat → Int} {o : Nat} (h1 : okName w o) (h2 : okName v 0) (e : wordW w o = wordW v 0) : keyW w o = keyV w v := by
  have s1 := wordW_isL h1
  have s2 := wordW_isL h2
  rw [e] at s1
  have en : nW w o = nW v 0 := by
    rcases Nat.lt_trichotomy (nW w o) (nW v 0) with z | z | z
    · exact absurd (s1.2.2 _ (Nat.le_refl _)) (s2.2.1 _ z)
    · exact z
    · exact absurd (s2.2.2 _ (Nat.le_refl _)) (s1.2.1 _ z)
  rw [← keyW_wordW h1, ← keyV_word h2, e, en]
theorem isLen_pk {K : List Nat} (h : ∀ c ∈ K, 1 ≤ c ∧ c ≤ 26) (hl : K.length ≤ 10) : isLen (pkL K) K.length ∧ pkL K < 32 ^ 10 := by
  have h32 : ∀ c ∈ K, c < 32 := fun c hc => by have := h c hc; omega
  refine ⟨⟨hl, fun i hi => ?_, fun hi => ?_⟩, Nat.lt_of_lt_of_le (pkL_lt K h32) (Nat.pow_le_pow_right (by decide) hl)⟩
  · rw [wl_pkL K h32, gdE hi]
    have := h K[i] (List.getElem_mem _)
    omega
  · rw [wl_pkL K h32]; simp [List.getD]
def heC (h : Hp) (x : Nat) (K : List Nat) : Prop := hpC h x 11 = (pkL K : Int)
def heM (h : Hp) (m : Nat) (K : List Nat) : Prop := hpC h m 22 = (K.length : Int) ∧ ∀ i, i < 10 → hpC h (m + 10) i = (K.getD i 0 : Int)
def heK (K : List Nat) : Prop := (∀ c ∈ K, 1 ≤ c ∧ c ≤ 26) ∧ K.length ≤ 10
def heardAtA (K : List Nat) (i : Int) : Int := if 0 ≤ i ∧ i < (K.length : Int) then (K.getD i.toNat 0 : Int) else -1
theorem sp_cheardAt {h : Hp} {x : Nat} (s : sAt h x) {K : List Nat} (k : heC h x K) (hK : heK K) {i : Int} {d mc ms : Nat} {R : PR} (hd : 2 ≤ d) (H : R (some (xI (heardAtA K i))) h) : Wp m_S_heardAt 0 [some (xR x), some (xI i)] [] h d mc ms R := by
  have il := isLen_pk hK.1 hK.2
  have hl := hK.2
  unfold heardAtA at H
  apply f_S_heardAt_0
  by_cases c : i < 0
  · rw [if_pos c]; rw [if_neg (by omega)] at H; exact H
  · rw [if_neg c, show hpC h x 11 = (pkL K : Int) from k]
    refine ⟨s.tag, by omega, sp_lengthOf (lt50 il.2) il.1 (by omega) (fun v e => ?_)⟩
    cases e
    by_cases c2 : i < (K.length : Int)
    · rw [if_pos c2, show hpC h x 11 = (pkL K : Int) from k]
      rw [if_pos (by omega)] at H
      refine ⟨s.tag, by omega, sp_letterAt (lt50 il.2) (fun v e => ?_)⟩
      cases e
      obtain ⟨q, rfl⟩ : ∃ q : Nat, i = (q : Int) := ⟨i.toNat, by omega⟩
      rw [lA_nat (by omega), wl_pkL K (fun c hc => by have := hK.1 c hc; omega)]
      rw [Int.toNat_natCast] at H
      exact H
    · rw [if_neg c2]; rw [if_neg (by omega)] at H; exact H
theorem sp_mheardAt {h : Hp} {m : Nat} (a : modelAt h m) {K : List Nat} (k : heM h m K) (hK : heK K) {i : Int} {d mc ms : Nat} {R : PR} (hd : 1 ≤ d) (H : R (some (xI (heardAtA K i))) h) : Wp m_M_heardAt 0 [some (xR m), some (xI i)] [] h d mc ms R := by
  have hl := hK.2
  unfold heardAtA at H
  apply f_M_heardAt_0
  rw [k.1, ai_sub_eq (by omega) (by omega)]
  refine ⟨a.tag, hd, sp_isIn (fun v e => ?_)⟩
  cases e
  by_cases c : 0 ≤ i ∧ i < (K.length : Int)
  · rw [if_pos (show 0 ≤ i ∧ i ≤ (K.length : Int) - 1 by omega), if_neg (by decide)]
    rw [if_pos c] at H
    obtain ⟨q, rfl⟩ : ∃ q : Nat, i = (q : Int) := ⟨i.toNat, by omega⟩
    rw [Int.toNat_natCast] at H
    rw [a.heard_n, a.heard_t, Int.toNat_natCast, k.2 q (by omega)]
    exact ⟨a.tag, ⟨rfl, by omega, by show (q : Int) < 10; omega⟩, H⟩
  · rw [if_neg (show ¬ (0 ≤ i ∧ i ≤ (K.length : Int) - 1) by omega), if_pos rfl]
    rw [if_neg c] at H; exact H
theorem TPz.TR {h : Hp} {x : Nat} {w : Nat → Int} {v : Int} (a : TR h (x + 43) w) : TR (hpU h (x + 1) 1 v) (x + 43) w := a.eq ((FrP.up (S := fun r p => r = x + 1 ∧ p = 1) ⟨rfl, rfl⟩).eqC (fun q p h1 h2 z => by omega))
theorem TPz.s {h : Hp} {x : Nat} {v : Int} (s : sAt h x) : sAt (hpU h (x + 1) 1 v) x := s.fr (S := fun r p => r = x + 1 ∧ p = 1) (FrP.up ⟨rfl, rfl⟩) (fun p _ z => by omega)
theorem sp_cheard {h : Hp} {x : Nat} {w : Nat → Int} (s : sAt h x) (a : TR h (x + 43) w) (hV : V w) {b : Nat → Nat} {n : Nat} (t : TPc h x b n) {d mc ms : Nat} {R : PR} (hd : 4 ≤ d) {o1 o2 : Option AV}
    (H1 : nmT b n → R (some (xI ((keyV w (tvW b 0 n)).length : Int))) (hpU (hpU h (x + 1) 1 0) x 11 (pkL (keyV w (tvW b 0 n)) : Int)))
    (H2 : ¬ nmT b n → R (some (xI (-1))) (hpU h (x + 1) 1 0)) : Wp m_S_heard 0 [some (xR x), o1, o2] [] h d mc ms R := by
  have s' := TPz.s (v := 0) s
  have a' := TPz.TR (v := 0) a
  have hT := a'.1.1
  have hR : RW (hpU h (x + 1) 1 0) (x + 43 + 1) w := a'.1.2.1
  apply f_S_heard_0
  refine ⟨⟨by omega, s.tag⟩, sp_wordOnTape s t (by omega) (fun nm pos v e => ?_) (fun nm v e => ?_)⟩
  · cases e
    have ok := tvW_ok nm.1 nm.2.1 nm.2.2.1
    rw [if_neg (fun z => by have := al_cmp_eq.mp z; omega), s'.now_n, hT.rules_n]
    refine ⟨s'.tag, hT.tag, ⟨by omega, hT.rules_a.tag⟩, sp_soundOf hT.rules_a (hR.are hV) (wordW_lt ok) (wordW_isL ok) (wordW_26 ok) (by omega) (fun v e => ?_)⟩
    cases e
    rw [keyV_word ok]
    refine ⟨s'.tag, fun g1 e1 => ?_⟩
    have x1 : hpC g1 x 11 = (pkL (keyV w (tvW b 0 n)) : Int) := by subst e1; rw [hpC_same]
    have tg : (hpT g1 x).1 = 11 := by subst e1; exact s'.tag
    have il := isLen_pk (keyV_mem hV ok) (keyV_len ok)
    rw [x1]
    refine ⟨tg, by omega, sp_lengthOf (lt50 il.2) il.1 (by omega) (fun v e => ?_)⟩
    cases e
    subst e1
    exact H1 nm
  · cases e
    rw [if_pos (by decide)]
    exact H2 nm
def SHd (m : Nat) : Nat → Nat → Prop := fun r p => Shr m r p ∨ (r = m ∧ p = 22) ∨ r = m + 10
theorem sp_mheard {h : Hp} {m : Nat} {w : Nat → Int} (a : RD h m w) (hV : V w) (ow : owM h m) {b : Nat → Nat} {n : Nat} (t : TPm h m b n) {d mc ms : Nat} {R : PR} (hd : 4 ≤ d)
    (H1 : nmT b n → ∀ h', FrP (SHd m) h h' → hpC h' m 5 = 0 → heM h' m (keyV w (tvW b 0 n)) → R (some (xI ((keyV w (tvW b 0 n)).length : Int))) h')
    (H2 : ¬ nmT b n → ∀ h', FrP (SHd m) h h' → hpC h' m 5 = 0 → hpC h' m 22 = hpC h m 22 → (∀ p, hpC h' (m + 10) p = hpC h (m + 10) p) → R (some (xI (-1))) h') : Wp m_M_heard 0 [some (xR m)] [] h d mc ms R := by
  apply f_M_heard_0
  refine ⟨⟨by omega, a.1.tag⟩, sp_hears a hV ow t (by omega) (fun nm g f x5 ah v e => ?_) (fun nm g f x5 v e => ?_)⟩
  · cases e
    have a1 := a.hr f
    have ok := tvW_ok nm.1 nm.2.1 nm.2.2.1
    rw [if_neg (by decide), a1.1.heard_n]
    refine ⟨a1.1.tag, ⟨by omega, a1.1.tag⟩, sp_sounds (f := fW (tvW b 0 n) 0) a1.1 a1.1.heard_t (by omega) (by omega) (by omega) ah.1 ok.spec.2.1 (fun i hi => by rw [ah.2 i hi]; exact (ok.f hi).1) (fun i hi => (ok.f hi).2) (a1.rules hV) (by omega) (fun g2 f2 c2 v e => ?_)⟩
    cases e
    have a2 : modelAt g2 m := a1.1.fo (f2.P (S' := fun q _ => q = m + 10) (fun r p z => z)) (fun p _ z => by omega)
    refine ⟨a2.tag, fun g3 e3 => ?_⟩
    have tg : (hpT g3 m).1 = 12 := by subst e3; exact a2.tag
    have x22 : hpC g3 m 22 = ((keyV w (tvW b 0 n)).length : Int) := by subst e3; rw [hpC_same]; rfl
    rw [x22]
    refine ⟨tg, ?_⟩
    subst e3
    refine H1 nm _ ((f.wk (fun r p z => Or.inl z)).tr ((f2.P (fun r p z => Or.inr (Or.inr z))).tr (FrP.up (Or.inr (Or.inl ⟨rfl, rfl⟩))))) ?_ ⟨x22, fun i hi => ?_⟩
    · rw [hpC_ne (Or.inr (by decide)), f2.2.2 _ (by omega)]; exact x5
    · rw [hpC_ne (Or.inl (by omega))]; exact c2 i hi
  · cases e
    rw [if_pos rfl]
    exact H2 nm g (f.wk (fun r p z => Or.inl z)) x5 (f.2.2 _ _ (fun z => by rcases z with ⟨_, z⟩ | z <;> omega)) (fun p => f.2.2 _ _ (fun z => by rcases z with ⟨z, _⟩ | z <;> omega))
