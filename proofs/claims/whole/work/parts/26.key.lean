/-! ===== the KEY: pairs, mute letters, heads, no letter twice in a row; Rules.soundOf ===== -/
def kp (pr : Nat → Nat → Nat) (f : Nat → Nat) (n : Nat) : Nat → Nat → List Nat
  | 0, _ => []
  | k + 1, i => if i < n then (if i + 1 < n ∧ pr (f i) (f (i + 1)) ≠ 0 then pr (f i) (f (i + 1)) :: kp pr f n k (i + 2) else f i :: kp pr f n k (i + 1)) else []
def kd (mu : Nat → Bool) (hd : Nat → Nat) : Bool → Nat → List Nat → List Nat
  | _, _, [] => []
  | fst, la, c :: cs => if fst = false ∧ mu c = true then kd mu hd false la cs else if hd c = la then kd mu hd false la cs else hd c :: kd mu hd false (hd c) cs
def keyL (pr : Nat → Nat → Nat) (mu : Nat → Bool) (hd : Nat → Nat) (f : Nat → Nat) (n : Nat) : List Nat := kd mu hd true 0 (kp pr f n n 0)
theorem kp_fuel (pr : Nat → Nat → Nat) (f : Nat → Nat) (n : Nat) : ∀ j i, n ≤ i + j → ∀ j', n ≤ i + j' → kp pr f n j i = kp pr f n j' i := by
  intro j
  induction j with
  | zero =>
    intro i h j' _
    rcases j' with _ | j'
    · rfl
    · simp only [kp]; rw [if_neg (by omega)]
  | succ j ih =>
    intro i h j' h'
    rcases j' with _ | j'
    · simp only [kp]; rw [if_neg (by omega)]
    · simp only [kp]
      rw [ih (i + 2) (by omega) j' (by omega), ih (i + 1) (by omega) j' (by omega)]
def pkL : List Nat → Nat
  | [] => 0
  | c :: cs => c + 32 * pkL cs
theorem pkL_lt : ∀ (K : List Nat), (∀ c ∈ K, c < 32) → pkL K < 32 ^ K.length
  | [], _ => by simp [pkL]
  | c :: cs, h => by
    have h1 := pkL_lt cs (fun c hc => h c (List.mem_cons_of_mem _ hc))
    have h2 := h c List.mem_cons_self
    simp only [pkL, List.length_cons, Nat.pow_succ]
    omega
theorem pkL_snoc : ∀ (K : List Nat) (c : Nat), pkL (K ++ [c]) = pkL K + c * 32 ^ K.length
  | [], c => by simp [pkL]
  | k :: ks, c => by
    simp only [List.cons_append, pkL, pkL_snoc ks c, List.length_cons, Nat.pow_succ]
    rw [Nat.mul_add, ← Nat.add_assoc]
    congr 1
    rw [Nat.mul_comm (32 ^ ks.length) 32, Nat.mul_left_comm]
theorem wl_pkL : ∀ (K : List Nat), (∀ c ∈ K, c < 32) → ∀ i, wl (pkL K) i = K.getD i 0
  | [], _, i => by simp [pkL, wl]
  | c :: cs, h, 0 => by
    have := h c List.mem_cons_self
    rw [wl_zero, pkL]; simp; omega
  | c :: cs, h, i + 1 => by
    have := h c List.mem_cons_self
    rw [wl_succ, pkL, show (c + 32 * pkL cs) / 32 = pkL cs by omega, wl_pkL cs (fun c hc => h c (List.mem_cons_of_mem _ hc)) i]
    simp
theorem al_shl_nat {x k : Nat} (hk : k < 64) (hx : x * 2 ^ k < 9223372036854775808) : al_shl (x : Int) (k : Int) = ((x * 2 ^ k : Nat) : Int) := by
  unfold al_shl
  have e : Int64.ofInt (x : Int) <<< ((Int32.ofInt (k : Int)).toInt64 &&& 63) = Int64.ofInt ((x * 2 ^ k : Nat) : Int) := by
    rw [← Int64.toBitVec_inj, Int64.toBitVec_shiftLeft, Int64.toBitVec_ofInt, Int64.toBitVec_ofInt]
    apply BitVec.eq_of_toNat_eq
    rw [BitVec.shiftLeft_eq', al_sh_ok k hk, BitVec.toNat_shiftLeft]
    simp only [BitVec.ofInt_natCast, BitVec.toNat_ofNat, Nat.shiftLeft_eq]
    rw [Nat.mul_mod, Nat.mod_mod, ← Nat.mul_mod]
  rw [e]
  exact aTo64 (by omega) (by omega)
theorem sp_letterPut {c s : Nat} (hc : c < 32) (hs : s < 10) {h : Hp} {d mc ms : Nat} {R : PR} (H : R (some (xL ((c * 32 ^ s : Nat) : Int))) h) : Wp m_Word_letterPut 0 [some (xI (c : Int)), some (xI (s : Int))] [] h d mc ms R := by
  apply f_Word_letterPut_0
  rw [ai_mul_eq (by omega) (by omega), show (5 : Int) * (s : Int) = ((5 * s : Nat) : Int) by simp]
  have hp : (2 : Nat) ^ (5 * s) = 32 ^ s := by rw [Nat.pow_mul]
  have hb : (32 : Nat) ^ s ≤ 32 ^ 9 := Nat.pow_le_pow_right (by decide) (by omega)
  have hb2 : c * 32 ^ s ≤ 31 * 32 ^ 9 := Nat.mul_le_mul (by omega) hb
  have hb3 : c * 2 ^ (5 * s) < 9223372036854775808 := by
    rw [hp]; exact Nat.lt_of_le_of_lt hb2 (by decide)
  rw [al_shl_nat (by omega) hb3, hp]
  exact H
/-! the class's pairs and heads -/
def cPair (h : Hp) (r : Nat) (a b : Int) : Nat → Nat → Int
  | 0, _ => 0
  | k + 1, p => if hpC h (r + 3) p = a ∧ hpC h (r + 4) p = b then hpC h (r + 5) p else cPair h r a b k (p + 1)
def cHead (h : Hp) (r : Nat) (l : Int) : Nat → Nat → Int
  | 0, _ => l
  | k + 1, g => if ai_and (ai_shr (hpC h (r + 2) g) l) 1 = 1 then hpC h (r + 1) g else cHead h r l k (g + 1)
theorem sp_cPair {h : Hp} {r np : Nat} (hR : rulesAt h r) (hp : hpC h r 5 = (np : Int)) (h8 : np ≤ 8) {a b : Int} {d mc ms : Nat} {R : PR} (H : R (some (xI (cPair h r a b np 0))) h) : Wp m_Rules_pairOf 0 [some (xR r), some (xI a), some (xI b), none] [] h d mc ms R := by
  apply f_Rules_pairOf_0
  have L : ∀ j k : Nat, k + j = np → R (some (xI (cPair h r a b j k))) h → Wp m_Rules_pairOf 2 [some (xR r), some (xI a), some (xI b), some (xI (k : Int))] [] h d mc ms R := by
    intro j
    induction j with
    | zero =>
      intro k hk H
      apply f_Rules_pairOf_2
      simp only [hR.tag, hp, true_and]
      rw [if_neg (by omega)]
      exact H
    | succ j ih =>
      intro k hk H
      apply f_Rules_pairOf_2
      simp (disch := omega) only [hR.tag, hp, hR.pairFirst_n, hR.pairFirst_t, hR.pairSecond_n, hR.pairSecond_t, hR.pairOne_n, hR.pairOne_t, true_and, Int.toNat_natCast, ai_add_eq]
      rw [if_pos (by omega)]
      simp only [cPair] at H
      refine ⟨⟨by omega, by omega⟩, ?_⟩
      by_cases c1 : hpC h (r + 3) k = a
      · rw [if_pos c1]
        refine ⟨⟨by omega, by omega⟩, ?_⟩
        by_cases c2 : hpC h (r + 4) k = b
        · rw [if_pos c2]
          rw [if_pos ⟨c1, c2⟩] at H
          exact ⟨⟨by omega, by omega⟩, H⟩
        · rw [if_neg c2]
          rw [if_neg (fun z => c2 z.2)] at H
          exact ih (k + 1) (by omega) H
      · rw [if_neg c1]
        rw [if_neg (fun z => c1 z.1)] at H
        exact ih (k + 1) (by omega) H
  exact L np 0 (by omega) H
theorem sp_cHead {h : Hp} {r ng : Nat} (hR : rulesAt h r) (hp : hpC h r 4 = (ng : Int)) (h8 : ng ≤ 8) {l : Int} {d mc ms : Nat} {R : PR} (H : R (some (xI (cHead h r l ng 0))) h) : Wp m_Rules_headOf 0 [some (xR r), some (xI l), none] [] h d mc ms R := by
  apply f_Rules_headOf_0
  have L : ∀ j k : Nat, k + j = ng → R (some (xI (cHead h r l j k))) h → Wp m_Rules_headOf 2 [some (xR r), some (xI l), some (xI (k : Int))] [] h d mc ms R := by
    intro j
    induction j with
    | zero =>
      intro k hk H
      apply f_Rules_headOf_2
      simp only [hR.tag, hp, true_and]
      rw [if_neg (by omega)]
      exact H
    | succ j ih =>
      intro k hk H
      apply f_Rules_headOf_2
      simp (disch := omega) only [hR.tag, hp, hR.groupHead_n, hR.groupHead_t, hR.groupBits_n, hR.groupBits_t, true_and, Int.toNat_natCast, ai_add_eq]
      rw [if_pos (by omega)]
      simp only [cHead] at H
      refine ⟨⟨by omega, by omega⟩, ?_⟩
      by_cases c1 : ai_and (ai_shr (hpC h (r + 2) k) l) 1 = 1
      · rw [if_pos c1]
        rw [if_pos c1] at H
        exact ⟨⟨by omega, by omega⟩, H⟩
      · rw [if_neg c1]
        rw [if_neg c1] at H
        exact ih (k + 1) (by omega) H
  exact L ng 0 (by omega) H
/-- the rules of a Rules object, as functions on letters 1 .. 26 -/
def rulesAre (h : Hp) (r : Nat) (pr : Nat → Nat → Nat) (mu : Nat → Bool) (hd : Nat → Nat) : Prop :=
  ∃ np ng : Nat, hpC h r 5 = (np : Int) ∧ np ≤ 8 ∧ hpC h r 4 = (ng : Int) ∧ ng ≤ 8 ∧ (∀ a b : Nat, 1 ≤ a → a ≤ 26 → b ≤ 26 → cPair h r (a : Int) (b : Int) np 0 = (pr a b : Int)) ∧ (∀ a : Nat, 1 ≤ a → a ≤ 26 → cHead h r (a : Int) ng 0 = (hd a : Int)) ∧ (∀ a : Nat, 1 ≤ a → a ≤ 26 → (ai_and (ai_shr (hpC h r 3) (a : Int)) 1 = 1 ↔ mu a = true)) ∧
  (∀ a b : Nat, pr a b ≤ 26) ∧ (∀ a : Nat, pr a 0 = 0) ∧ (∀ a : Nat, 1 ≤ a → a ≤ 26 → 1 ≤ hd a ∧ hd a ≤ 26)
theorem sp_soundOf {h : Hp} {r w n : Nat} (hR : rulesAt h r) {pr : Nat → Nat → Nat} {mu : Nat → Bool} {hd : Nat → Nat} (hA : rulesAre h r pr mu hd) (hw : w < 32 ^ 10) (hL : isL w n) (h26 : ∀ i, i < n → wl w i ≤ 26) {d mc ms : Nat} (hdd : 2 ≤ d) {R : PR} (H : R (some (xL (pkL (keyL pr mu hd (wl w) n) : Int))) h) :
    Wp m_Rules_soundOf 0 [some (xR r), some (xL (w : Int)), none, none, none, none, none, none, none, none, none, none] [] h d mc ms R := by
  obtain ⟨np, ng, hp, hp8, hg, hg8, a1, a2, a3, a4, a5, a6⟩ := hA
  have hn10 := hL.1
  have hw63 := lt50 hw
  apply f_Rules_soundOf_0
  refine ⟨by omega, sp_lengthOf hw63 hL.len (by omega) (fun v e => ?_)⟩
  cases e
  have L : ∀ (j i : Nat) (K : List Nat) (la : Nat) (o9 o10 o11 : Option AV), n ≤ i + j → K.length ≤ i → (∀ c ∈ K, c < 32) → (i = 0 → la = 0) → R (some (xL (pkL (K ++ kd mu hd (decide (i = 0)) la (kp pr (wl w) n j i)) : Int))) h →
      Wp m_Rules_soundOf 17 [some (xR r), some (xL (w : Int)), none, some (xL (pkL K : Int)), none, some (xI (K.length : Int)), some (xI (la : Int)), some (xI (n : Int)), some (xI (i : Int)), o9, o10, o11] [] h d mc ms R := by
    intro j
    induction j with
    | zero =>
      intro i K la o9 o10 o11 hi hK hK32 hla H
      apply f_Rules_soundOf_17
      rw [if_neg (by omega)]
      simp only [kp, kd, List.append_nil] at H
      exact H
    | succ j ih =>
      intro i K la o9 o10 o11 hi hK hK32 hla H
      apply f_Rules_soundOf_17
      by_cases hin : i < n
      · rw [if_pos (by omega)]
        -- behind the mute test
        have B : ∀ (c i' : Nat) (o9 o11 : Option AV), 1 ≤ c → c ≤ 26 → i ≤ i' → i' < n → n ≤ i' + 1 + j → R (some (xL (pkL (K ++ (if hd c = la then kd mu hd false la (kp pr (wl w) n j (i' + 1)) else hd c :: kd mu hd false (hd c) (kp pr (wl w) n j (i' + 1)))) : Int))) h →
            Wp m_Rules_soundOf 93 [some (xR r), some (xL (w : Int)), none, some (xL (pkL K : Int)), none, some (xI (K.length : Int)), some (xI (la : Int)), some (xI (n : Int)), some (xI (i' : Int)), o9, some (xI (c : Int)), o11] [] h d mc ms R := by
          intro c i' o9 o11 hc1 hc2 hii hi'n hfu H
          have hh := a6 c hc1 hc2
          apply f_Rules_soundOf_93
          refine ⟨⟨by omega, hR.tag⟩, sp_cHead hR hg hg8 (fun v e => ?_)⟩
          cases e
          rw [a2 c hc1 hc2]
          by_cases cl : hd c = la
          · rw [if_pos (by omega), ai_add_eq (by omega) (by omega)]
            rw [if_pos cl] at H
            rw [cl]
            refine ih (i' + 1) K la _ _ _ (by omega) (by omega) hK32 (by omega) ?_
            rw [show decide (i' + 1 = 0) = false by simp]
            exact H
          · rw [if_neg (by omega)]
            rw [if_neg cl] at H
            have hKl : K.length < 10 := by omega
            refine ⟨by omega, sp_letterPut (by omega) hKl (fun v e => ?_)⟩
            cases e
            have hk := pkL_lt K hK32
            have hk2 : pkL K < 32 ^ 10 := Nat.lt_of_lt_of_le hk (Nat.pow_le_pow_right (by decide) (by omega))
            have hb : hd c * 32 ^ K.length < 9223372036854775808 := by
              have : (32 : Nat) ^ K.length ≤ 32 ^ 9 := Nat.pow_le_pow_right (by decide) (by omega)
              exact Nat.lt_of_le_of_lt (Nat.mul_le_mul (show hd c ≤ 26 by omega) this) (by decide)
            rw [al_or_nat (lt50 hk2) hb, wl_or hk, ← pkL_snoc, ai_add_eq (by omega) (by omega), ai_add_eq (by omega) (by omega)]
            have hlen : ((K.length : Int) + 1) = ((K ++ [hd c]).length : Int) := by simp
            rw [hlen]
            refine ih (i' + 1) (K ++ [hd c]) (hd c) _ _ _ (by omega) (by simp; omega) (fun x hx => ?_) (by omega) ?_
            · rcases List.mem_append.mp hx with q | q
              · exact hK32 x q
              · rw [List.mem_singleton.mp q]; omega
            · rw [show decide (i' + 1 = 0) = false by simp, List.append_assoc]
              exact H
        have hc1 : 1 ≤ wl w i := by have := hL.2.1 i hin; omega
        have hc2 := h26 i hin
        have C : ∀ p0 : Int, (p0 = if i = 0 then 1 else 0) → Wp m_Rules_soundOf 34 [some (xR r), some (xL (w : Int)), none, some (xL (pkL K : Int)), none, some (xI (K.length : Int)), some (xI (la : Int)), some (xI (n : Int)), some (xI (i : Int)), o9, o10, o11] [xI p0] h d mc ms R := by
          intro p0 hp0
          apply f_Rules_soundOf_34
          refine ⟨by omega, sp_letterAt hw63 (fun v e => ?_)⟩
          cases e
          refine ⟨by omega, sp_letterAt hw63 (fun v e => ?_)⟩
          cases e
          rw [lA_nat (by omega), ai_add_eq (by omega) (by omega)]
          have hnx : lA w ((i : Int) + 1) = (wl w (i + 1) : Int) := by
            by_cases q : i + 1 < 10
            · exact lA_nat (k := i + 1) q
            · rw [lA_out (by omega), hL.2.2 (i + 1) (by omega)]; rfl
          rw [hnx]
          have hb26 : wl w (i + 1) ≤ 26 := by
            by_cases q : i + 1 < n
            · exact h26 _ q
            · rw [hL.2.2 _ (by omega)]; omega
          refine ⟨⟨by omega, hR.tag⟩, sp_cPair hR hp hp8 (fun v e => ?_)⟩
          cases e
          rw [a1 _ _ hc1 hc2 hb26]
          have hpr26 := a4 (wl w i) (wl w (i + 1))
          simp only [kp] at H
          rw [if_pos hin] at H
          by_cases cz : pr (wl w i) (wl w (i + 1)) = 0
          · rw [if_pos (by omega)]
            rw [if_neg (fun z => z.2 cz)] at H
            simp only [kd] at H
            by_cases c0 : i = 0
            · rw [if_pos c0] at hp0
              rw [if_neg (by omega)]
              rw [if_neg (by simp [c0])] at H
              exact B (wl w i) i _ _ hc1 hc2 (Nat.le_refl _) hin (by omega) H
            · rw [if_neg c0] at hp0
              rw [if_pos hp0]
              refine ⟨hR.tag, ?_⟩
              by_cases cm : mu (wl w i) = true
              · rw [if_pos ((a3 _ hc1 hc2).mpr cm)]
                rw [if_pos ⟨by simp [c0], cm⟩] at H
                refine ih (i + 1) K la _ _ _ (by omega) (by omega) hK32 (by omega) ?_
                rw [show decide (i + 1 = 0) = false by simp]
                exact H
              · rw [if_neg (fun z => cm ((a3 _ hc1 hc2).mp z))]
                rw [if_neg (fun z => cm z.2)] at H
                exact B (wl w i) i _ _ hc1 hc2 (Nat.le_refl _) hin (by omega) H
          · rw [if_neg (by omega)]
            have hi1 : i + 1 < n := by
              rcases Nat.lt_or_ge (i + 1) n with q | q
              · exact q
              · rw [hL.2.2 _ q] at cz; exact absurd (a5 _) cz
            rw [if_pos ⟨hi1, cz⟩] at H
            simp only [kd] at H
            have hpc1 : 1 ≤ pr (wl w i) (wl w (i + 1)) := by omega
            have eK : kp pr (wl w) n j (i + 2) = kp pr (wl w) n j (i + 1 + 1) := rfl
            by_cases c0 : i = 0
            · rw [if_pos c0] at hp0
              rw [if_neg (by omega)]
              rw [if_neg (by simp [c0])] at H
              exact B _ (i + 1) _ _ hpc1 hpr26 (by omega) hi1 (by omega) H
            · rw [if_neg c0] at hp0
              rw [if_pos hp0]
              refine ⟨hR.tag, ?_⟩
              by_cases cm : mu (pr (wl w i) (wl w (i + 1))) = true
              · rw [if_pos ((a3 _ hpc1 hpr26).mpr cm)]
                rw [if_pos ⟨by simp [c0], cm⟩] at H
                rw [ai_add_eq (by omega) (by omega)]
                refine ih (i + 2) K la _ _ _ (by omega) (by omega) hK32 (by omega) ?_
                rw [show decide (i + 2 = 0) = false by simp]
                exact H
              · rw [if_neg (fun z => cm ((a3 _ hpc1 hpr26).mp z))]
                rw [if_neg (fun z => cm z.2)] at H
                exact B _ (i + 1) _ _ hpc1 hpr26 (by omega) hi1 (by omega) H
        by_cases c0 : (i : Int) = 0
        · rw [if_pos c0]; exact C 1 (by rw [if_pos (by omega)])
        · rw [if_neg c0]; exact C 0 (by rw [if_neg (by omega)])
      · rw [if_neg (by omega)]
        simp only [kp] at H
        rw [if_neg hin] at H
        simp only [kd, List.append_nil] at H
        exact H
  exact L n 0 [] 0 _ _ _ (by omega) (by simp) (by simp) (fun _ => rfl) (by simpa [keyL] using H)
