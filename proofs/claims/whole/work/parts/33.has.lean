/-! ===== deciding by omega inside simp; counts of bits ===== -/
theorem q_lt {a b : Int} (h : a < b) : (a < b) = True := eq_true h
theorem n_lt {a b : Int} (h : b ≤ a) : (a < b) = False := eq_false (by omega)
theorem q_le {a b : Int} (h : a ≤ b) : (a ≤ b) = True := eq_true h
theorem n_le {a b : Int} (h : b < a) : (a ≤ b) = False := eq_false (by omega)
theorem q_eq {a b : Int} (h : a = b) : (a = b) = True := eq_true h
theorem n_eq {a b : Int} (h : a ≠ b) : (a = b) = False := eq_false h
theorem q_nle {a b : Nat} (h : a ≤ b) : (a ≤ b) = True := eq_true h
theorem ai_add_nn {a b : Nat} (h : a + b < 2147483648) : ai_add (a : Int) (b : Int) = ((a + b : Nat) : Int) := by
  rw [ai_add_eq (by omega) (by omega)]; omega
theorem ai_mul_nn {a b : Nat} (h : a * b < 2147483648) : ai_mul (a : Int) (b : Int) = ((a * b : Nat) : Int) := by
  rw [ai_mul_eq (by rw [← Int.natCast_mul]; omega) (by rw [← Int.natCast_mul]; omega)]; simp
theorem aa_1 {b : Nat} (h : 1 + b < 2147483648) : ai_add (1 : Int) (b : Int) = ((1 + b : Nat) : Int) := ai_add_nn (a := 1) h
theorem aa_2 {b : Nat} (h : 2 + b < 2147483648) : ai_add (2 : Int) (b : Int) = ((2 + b : Nat) : Int) := ai_add_nn (a := 2) h
theorem aa_3 {b : Nat} (h : 3 + b < 2147483648) : ai_add (3 : Int) (b : Int) = ((3 + b : Nat) : Int) := ai_add_nn (a := 3) h
theorem aa_10 {b : Nat} (h : 10 + b < 2147483648) : ai_add (10 : Int) (b : Int) = ((10 + b : Nat) : Int) := ai_add_nn (a := 10) h
theorem aa_36 {b : Nat} (h : 36 + b < 2147483648) : ai_add (36 : Int) (b : Int) = ((36 + b : Nat) : Int) := ai_add_nn (a := 36) h
theorem aa_60 {b : Nat} (h : 60 + b < 2147483648) : ai_add (60 : Int) (b : Int) = ((60 + b : Nat) : Int) := ai_add_nn (a := 60) h
theorem aa_180 {b : Nat} (h : 180 + b < 2147483648) : ai_add (180 : Int) (b : Int) = ((180 + b : Nat) : Int) := ai_add_nn (a := 180) h
theorem aa_280 {b : Nat} (h : 280 + b < 2147483648) : ai_add (280 : Int) (b : Int) = ((280 + b : Nat) : Int) := ai_add_nn (a := 280) h
theorem aa_290 {b : Nat} (h : 290 + b < 2147483648) : ai_add (290 : Int) (b : Int) = ((290 + b : Nat) : Int) := ai_add_nn (a := 290) h
theorem aa_650 {b : Nat} (h : 650 + b < 2147483648) : ai_add (650 : Int) (b : Int) = ((650 + b : Nat) : Int) := ai_add_nn (a := 650) h
theorem aa_950 {b : Nat} (h : 950 + b < 2147483648) : ai_add (950 : Int) (b : Int) = ((950 + b : Nat) : Int) := ai_add_nn (a := 950) h
theorem aa_980 {b : Nat} (h : 980 + b < 2147483648) : ai_add (980 : Int) (b : Int) = ((980 + b : Nat) : Int) := ai_add_nn (a := 980) h
theorem aa_1010 {b : Nat} (h : 1010 + b < 2147483648) : ai_add (1010 : Int) (b : Int) = ((1010 + b : Nat) : Int) := ai_add_nn (a := 1010) h
theorem aa_2020 {b : Nat} (h : 2020 + b < 2147483648) : ai_add (2020 : Int) (b : Int) = ((2020 + b : Nat) : Int) := ai_add_nn (a := 2020) h
theorem aa_4040 {b : Nat} (h : 4040 + b < 2147483648) : ai_add (4040 : Int) (b : Int) = ((4040 + b : Nat) : Int) := ai_add_nn (a := 4040) h
theorem aa_100 {b : Nat} (h : 100 + b < 2147483648) : ai_add (100 : Int) (b : Int) = ((100 + b : Nat) : Int) := ai_add_nn (a := 100) h
theorem aa_200 {b : Nat} (h : 200 + b < 2147483648) : ai_add (200 : Int) (b : Int) = ((200 + b : Nat) : Int) := ai_add_nn (a := 200) h
theorem aa_300 {b : Nat} (h : 300 + b < 2147483648) : ai_add (300 : Int) (b : Int) = ((300 + b : Nat) : Int) := ai_add_nn (a := 300) h
theorem aa_400 {b : Nat} (h : 400 + b < 2147483648) : ai_add (400 : Int) (b : Int) = ((400 + b : Nat) : Int) := ai_add_nn (a := 400) h
theorem ab_1 {b : Nat} (h : b + 1 < 2147483648) : ai_add (b : Int) (1 : Int) = ((b + 1 : Nat) : Int) := ai_add_nn (b := 1) h
theorem ab_2 {b : Nat} (h : b + 2 < 2147483648) : ai_add (b : Int) (2 : Int) = ((b + 2 : Nat) : Int) := ai_add_nn (b := 2) h
theorem ab_3 {b : Nat} (h : b + 3 < 2147483648) : ai_add (b : Int) (3 : Int) = ((b + 3 : Nat) : Int) := ai_add_nn (b := 3) h
theorem ab_4 {b : Nat} (h : b + 4 < 2147483648) : ai_add (b : Int) (4 : Int) = ((b + 4 : Nat) : Int) := ai_add_nn (b := 4) h
theorem ab_20 {b : Nat} (h : b + 20 < 2147483648) : ai_add (b : Int) (20 : Int) = ((b + 20 : Nat) : Int) := ai_add_nn (b := 20) h
theorem ab_10 {b : Nat} (h : b + 10 < 2147483648) : ai_add (b : Int) (10 : Int) = ((b + 10 : Nat) : Int) := ai_add_nn (b := 10) h
theorem am_2 {b : Nat} (h : 2 * b < 2147483648) : ai_mul (2 : Int) (b : Int) = ((2 * b : Nat) : Int) := ai_mul_nn (a := 2) h
theorem am_3 {b : Nat} (h : 3 * b < 2147483648) : ai_mul (3 : Int) (b : Int) = ((3 * b : Nat) : Int) := ai_mul_nn (a := 3) h
theorem am_5 {b : Nat} (h : 5 * b < 2147483648) : ai_mul (5 : Int) (b : Int) = ((5 * b : Nat) : Int) := ai_mul_nn (a := 5) h
theorem am_10 {b : Nat} (h : 10 * b < 2147483648) : ai_mul (10 : Int) (b : Int) = ((10 * b : Nat) : Int) := ai_mul_nn (a := 10) h
theorem am_12 {b : Nat} (h : 12 * b < 2147483648) : ai_mul (12 : Int) (b : Int) = ((12 * b : Nat) : Int) := ai_mul_nn (a := 12) h
theorem am_36 {b : Nat} (h : 36 * b < 2147483648) : ai_mul (36 : Int) (b : Int) = ((36 * b : Nat) : Int) := ai_mul_nn (a := 36) h
theorem am_100 {b : Nat} (h : 100 * b < 2147483648) : ai_mul (100 : Int) (b : Int) = ((100 * b : Nat) : Int) := ai_mul_nn (a := 100) h
theorem am_1010 {b : Nat} (h : 1010 * b < 2147483648) : ai_mul (1010 : Int) (b : Int) = ((1010 * b : Nat) : Int) := ai_mul_nn (a := 1010) h
theorem an_2 {b : Nat} (h : b * 2 < 2147483648) : ai_mul (b : Int) (2 : Int) = ((b * 2 : Nat) : Int) := ai_mul_nn (b := 2) h
theorem an_3 {b : Nat} (h : b * 3 < 2147483648) : ai_mul (b : Int) (3 : Int) = ((b * 3 : Nat) : Int) := ai_mul_nn (b := 3) h
theorem an_10 {b : Nat} (h : b * 10 < 2147483648) : ai_mul (b : Int) (10 : Int) = ((b * 10 : Nat) : Int) := ai_mul_nn (b := 10) h
theorem an_12 {b : Nat} (h : b * 12 < 2147483648) : ai_mul (b : Int) (12 : Int) = ((b * 12 : Nat) : Int) := ai_mul_nn (b := 12) h
theorem as_1 {b : Nat} (h : 1 ≤ b) (h2 : b < 2147483648) : ai_sub (b : Int) (1 : Int) = ((b - 1 : Nat) : Int) := by
  rw [ai_sub_eq (by omega) (by omega)]; omega
theorem as_2 {b : Nat} (h : 2 ≤ b) (h2 : b < 2147483648) : ai_sub (b : Int) (2 : Int) = ((b - 2 : Nat) : Int) := by
  rw [ai_sub_eq (by omega) (by omega)]; omega
theorem as_3 {b : Nat} (h : 3 ≤ b) (h2 : b < 2147483648) : ai_sub (b : Int) (3 : Int) = ((b - 3 : Nat) : Int) := by
  rw [ai_sub_eq (by omega) (by omega)]; omega
theorem tn_0 : Int.toNat (0 : Int) = 0 := rfl
theorem tn_1 : Int.toNat (1 : Int) = 1 := rfl
theorem tn_2 : Int.toNat (2 : Int) = 2 := rfl
theorem tn_3 : Int.toNat (3 : Int) = 3 := rfl
theorem tn_4 : Int.toNat (4 : Int) = 4 := rfl
theorem tn_5 : Int.toNat (5 : Int) = 5 := rfl
theorem tn_6 : Int.toNat (6 : Int) = 6 := rfl
theorem tn_7 : Int.toNat (7 : Int) = 7 := rfl
theorem tn_8 : Int.toNat (8 : Int) = 8 := rfl
theorem tn_9 : Int.toNat (9 : Int) = 9 := rfl
theorem tn_10 : Int.toNat (10 : Int) = 10 := rfl
theorem tn_11 : Int.toNat (11 : Int) = 11 := rfl
theorem tn_12 : Int.toNat (12 : Int) = 12 := rfl
/-- sums, counts of bits -/
def sumN (f : Nat → Int) : Nat → Int
  | 0 => 0
  | n + 1 => sumN f n + f n
theorem sumN_bd {f : Nat → Int} {c : Int} (hf : ∀ i, 0 ≤ f i ∧ f i ≤ c) : ∀ n : Nat, 0 ≤ sumN f n ∧ sumN f n ≤ c * n
  | 0 => by simp [sumN]
  | n + 1 => by
    have := sumN_bd hf n
    have := hf n
    simp only [sumN, Int.natCast_add, Int.mul_add]
    omega
theorem sumN_ext {f g : Nat → Int} : ∀ n : Nat, (∀ i, i < n → f i = g i) → sumN f n = sumN g n
  | 0, _ => rfl
  | n + 1, h => by simp only [sumN]; rw [sumN_ext n (fun i hi => h i (by omega)), h n (by omega)]
theorem sumN_tail {f : Nat → Int} : ∀ (j n : Nat), (∀ i, n ≤ i → i < n + j → f i = 0) → sumN f (n + j) = sumN f n
  | 0, _, _ => rfl
  | j + 1, n, h => by
    rw [← Nat.add_assoc]; simp only [sumN]
    rw [sumN_tail j n (fun i h1 h2 => h i h1 (by omega)), h (n + j) (by omega) (by omega)]; omega
def pcn : Nat → Nat → Nat
  | 0, _ => 0
  | n + 1, x => x % 2 + pcn n (x / 2)
def popc (x : Nat) : Nat := pcn 32 x
theorem pcn_le : ∀ n x, pcn n x ≤ n
  | 0, _ => Nat.le_refl _
  | n + 1, x => by have := pcn_le n (x / 2); simp only [pcn]; omega
theorem pcn_zero : ∀ n, pcn n 0 = 0
  | 0 => rfl
  | n + 1 => by simp only [pcn]; rw [show 0 / 2 = 0 from rfl, pcn_zero n]
theorem pcn_more : ∀ n x j, x < 2 ^ n → pcn (n + j) x = pcn n x
  | 0, x, j, h => by rw [show x = 0 by simpa using h, Nat.zero_add, pcn_zero, pcn_zero]
  | n + 1, x, j, h => by
    rw [show n + 1 + j = (n + j) + 1 by omega]; simp only [pcn]
    rw [pcn_more n (x / 2) j (by rw [Nat.pow_succ] at h; omega)]
theorem and_div2 (a b : Nat) : (a &&& b) / 2 = (a / 2) &&& (b / 2) := by
  apply Nat.eq_of_testBit_eq; intro i
  simp [Nat.testBit_div_two]
theorem and_odd (a b : Nat) : (a &&& b) % 2 = (a % 2) * (b % 2) := by
  have h := Nat.testBit_and a b 0
  rw [Nat.testBit_zero, Nat.testBit_zero, Nat.testBit_zero] at h
  rcases Nat.mod_two_eq_zero_or_one a with h1 | h1 <;> rcases Nat.mod_two_eq_zero_or_one b with h2 | h2 <;> rcases Nat.mod_two_eq_zero_or_one (a &&& b) with h3 | h3 <;> simp [h1, h2, h3] at h ⊢
/-- the lowest bit goes -/
theorem pcn_low : ∀ n x, 0 < x → x < 2 ^ n → pcn n (x &&& (x - 1)) + 1 = pcn n x
  | 0, x, h1, h2 => by simp at h2; omega
  | n + 1, x, h1, h2 => by
    simp only [pcn]
    rw [and_div2, and_odd]
    rcases Nat.mod_two_eq_zero_or_one x with h | h
    · rw [h, show (x - 1) / 2 = x / 2 - 1 by omega]
      have := pcn_low n (x / 2) (by omega) (by rw [Nat.pow_succ] at h2; omega)
      omega
    · rw [h, show (x - 1) / 2 = x / 2 by omega, show (x - 1) % 2 = 0 by omega, Nat.and_self]
      omega
theorem and_le_sub {x : Nat} (h : 0 < x) : x &&& (x - 1) < x := by
  have := Nat.and_le_right (n := x) (m := x - 1); omega
theorem sp_bits {h : Hp} {d mc ms : Nat} {R : PR} : ∀ (j x n : Nat) (o0 : Option AV), x < j → x < 2147483648 → (n < 100) → (R (some (xI ((n + popc x : Nat) : Int))) h) → Wp m_M_bits 4 [o0, some (xI (n : Int)), some (xI (x : Int))] [] h d mc ms R := by
  have key : ∀ (k x n : Nat) (o0 : Option AV), popc x = k → x < 2147483648 → n + k < 200 → (R (some (xI ((n + popc x : Nat) : Int))) h) → Wp m_M_bits 4 [o0, some (xI (n : Int)), some (xI (x : Int))] [] h d mc ms R := by
    intro k
    induction k with
    | zero =>
      intro x n o0 hk hx hn H
      apply f_M_bits_4
      by_cases c : x = 0
      · rw [if_pos (by omega)]; rw [hk] at H; exact H
      · have := pcn_low 32 x (by omega) (by omega)
        unfold popc at hk; omega
    | succ k ih =>
      intro x n o0 hk hx hn H
      apply f_M_bits_4
      by_cases c : x = 0
      · rw [c] at hk; have := pcn_zero 32; unfold popc at hk; omega
      · have h1 := pcn_low 32 x (by omega) (by omega)
        have h2 := and_le_sub (x := x) (by omega)
        rw [if_neg (by omega), ai_sub_eq (by omega) (by omega), show (x : Int) - 1 = ((x - 1 : Nat) : Int) by omega, ai_and_nat hx (by omega), ai_add_eq (by omega) (by omega)]
        refine ih (x &&& (x - 1)) (n + 1) _ (by unfold popc at hk ⊢; omega) (by omega) (by omega) ?_
        rw [show n + 1 + popc (x &&& (x - 1)) = n + popc x by unfold popc; omega]
        exact H
  intro j x n o0 _ hx hn H
  have := pcn_le 32 x
  exact key (popc x) x n o0 rfl hx (by unfold popc; omega) H
theorem sp_mbits {x : Nat} (hx : x < 2147483648) {h : Hp} {d mc ms : Nat} {R : PR} {o1 o2 : Option AV} (H : R (some (xI (popc x : Int))) h) : Wp m_M_bits 0 [some (xI (x : Int)), o1, o2] [] h d mc ms R := by
  apply f_M_bits_0
  refine sp_bits (x + 1) x 0 _ (by omega) hx (by omega) ?_
  rw [Nat.zero_add]; exact H
/-! ===== Integer.bitCount ===== -/
theorem and_split (l a b : Nat) : a &&& b = ((a % 2 ^ l) &&& (b % 2 ^ l)) + 2 ^ l * ((a / 2 ^ l) &&& (b / 2 ^ l)) := by
  rw [← Nat.and_mod_two_pow, ← Nat.and_div_two_pow, Nat.mod_add_div]
theorem pcn_add : ∀ a b x, pcn (a + b) x = pcn a x + pcn b (x / 2 ^ a)
  | 0, b, x => by simp [pcn]
  | a + 1, b, x => by
    rw [show a + 1 + b = (a + b) + 1 by omega]; simp only [pcn]
    rw [pcn_add a b (x / 2), Nat.div_div_eq_div_mul, Nat.pow_succ, Nat.mul_comm (2 ^ a) 2]; omega
def mk4 : Nat → Nat
  | 0 => 0
  | n + 1 => 1 + 4 * mk4 n
def mk16 : Nat → Nat
  | 0 => 0
  | n + 1 => 3 + 16 * mk16 n
def mk256 : Nat → Nat
  | 0 => 0
  | n + 1 => 15 + 256 * mk256 n
def dg (k : Nat) : Nat → Nat → Nat
  | 0, _ => 0
  | n + 1, x => pcn k x + 2 ^ k * dg k n (x / 2 ^ k)
theorem bc1 : ∀ n x, x < 4 ^ n → (x / 2 &&& mk4 n) + dg 2 n x = x
  | 0, x, h => by simp only [mk4, dg, Nat.and_zero]; simp at h; omega
  | n + 1, x, h => by
    have ih := bc1 n (x / 4) (by rw [Nat.pow_succ] at h; omega)
    rw [and_split 2]
    simp only [mk4, dg, pcn]
    rw [show (1 + 4 * mk4 n) % 2 ^ 2 = 2 ^ 1 - 1 by omega, Nat.and_two_pow_sub_one_eq_mod, show (1 + 4 * mk4 n) / 2 ^ 2 = mk4 n by omega, show x / 2 / 2 ^ 2 = x / 4 / 2 by omega, show (2 : Nat) ^ 2 = 4 from rfl]
    omega
theorem bc2 : ∀ n x, (dg 2 (2 * n) x &&& mk16 n) + (dg 2 (2 * n) x / 4 &&& mk16 n) = dg 4 n x
  | 0, x => by simp [mk16, dg]
  | n + 1, x => by
    have ih := bc2 n (x / 16)
    have e : dg 2 (2 * (n + 1)) x = pcn 2 x + 4 * (pcn 2 (x / 4) + 4 * dg 2 (2 * n) (x / 16)) := by
      rw [show 2 * (n + 1) = 2 * n + 1 + 1 by omega]; simp only [dg]
      rw [Nat.div_div_eq_div_mul]
    have h1 := pcn_le 2 x
    have h2 := pcn_le 2 (x / 4)
    have e4 : pcn 4 x = pcn 2 x + pcn 2 (x / 4) := pcn_add 2 2 x
    generalize dg 2 (2 * (n + 1)) x = z at e ⊢
    rw [and_split 4 z, and_split 4 (z / 4)]
    simp only [mk16, dg]
    rw [show (3 + 16 * mk16 n) % 2 ^ 4 = 2 ^ 2 - 1 by omega, Nat.and_two_pow_sub_one_eq_mod, Nat.and_two_pow_sub_one_eq_mod, show (3 + 16 * mk16 n) / 2 ^ 4 = mk16 n by omega, e4, show (2 : Nat) ^ 4 = 16 from rfl, ← ih]
    rw [show z / 16 = dg 2 (2 * n) (x / 16) by omega, show z / 4 / 16 = dg 2 (2 * n) (x / 16) / 4 by omega]
    omega
theorem dg4_mod (n x : Nat) : dg 4 n x % 16 ≤ 4 := by
  cases n with
  | zero => simp [dg]
  | succ n => simp only [dg]; have := pcn_le 4 x; omega
theorem bc3 : ∀ n x, (dg 4 (2 * n) x + dg 4 (2 * n) x / 16) &&& mk256 n = dg 8 n x
  | 0, x => by simp [mk256, dg]
  | n + 1, x => by
    have ih := bc3 n (x / 256)
    have e : dg 4 (2 * (n + 1)) x = pcn 4 x + 16 * (pcn 4 (x / 16) + 16 * dg 4 (2 * n) (x / 256)) := by
      rw [show 2 * (n + 1) = 2 * n + 1 + 1 by omega]; simp only [dg]
      rw [Nat.div_div_eq_div_mul]
    have h1 := pcn_le 4 x
    have h2 := pcn_le 4 (x / 16)
    have e8 : pcn 8 x = pcn 4 x + pcn 4 (x / 16) := pcn_add 4 4 x
    have h3 := dg4_mod (2 * n) (x / 256)
    generalize dg 4 (2 * (n + 1)) x = z at e ⊢
    rw [and_split 8]
    simp only [mk256, dg]
    rw [show (15 + 256 * mk256 n) % 2 ^ 8 = 2 ^ 4 - 1 by omega, Nat.and_two_pow_sub_one_eq_mod, show (15 + 256 * mk256 n) / 2 ^ 8 = mk256 n by omega, e8, show (2 : Nat) ^ 8 = 256 from rfl, ← ih]
    rw [show (z + z / 16) / 256 = dg 4 (2 * n) (x / 256) + dg 4 (2 * n) (x / 256) / 16 by omega]
    omega
theorem dg_le8 : ∀ x, dg 8 4 x = pcn 8 x + 256 * pcn 8 (x / 256) + 65536 * pcn 8 (x / 65536) + 16777216 * pcn 8 (x / 16777216) := by
  intro x
  simp only [dg, Nat.div_div_eq_div_mul, Nat.reducePow, Nat.reduceMul]
  omega
theorem bc_last {a b c e z : Nat} (ha : a ≤ 8) (hb : b ≤ 8) (hc : c ≤ 8) (he : e ≤ 8) (hz : z = a + 256 * b + 65536 * c + 16777216 * e) : (z + z / 256 + (z + z / 256) / 65536) % 64 = a + b + c + e := by
  have h1 : z / 256 = b + 256 * c + 65536 * e := by omega
  have h2 : (z + z / 256) / 65536 = c + e + 256 * e := by omega
  rw [h2, h1]; omega
theorem popc8 (x : Nat) : popc x = pcn 8 x + pcn 8 (x / 256) + pcn 8 (x / 65536) + pcn 8 (x / 16777216) := by
  unfold popc
  rw [show 32 = 8 + 24 from rfl, pcn_add 8 24, show 24 = 8 + 16 from rfl, pcn_add 8 16, show 16 = 8 + 8 from rfl, pcn_add 8 8]
  simp only [Nat.div_div_eq_div_mul, Nat.reducePow, Nat.reduceMul]
  omega
theorem ai_ushr_nat {x : Nat} (hx : x < 2147483648) {k : Nat} (hk : k < 32) : ai_ushr (x : Int) (k : Int) = ((x / 2 ^ k : Nat) : Int) := by
  unfold ai_ushr
  have hk2 : ∀ k : Nat, k < 32 → ((Int32.ofInt (k : Int)).toUInt32 &&& Int32.toUInt32 31).toNat % 32 = k := by decide +kernel
  have e : ((Int32.ofInt (x : Int)).toUInt32 >>> ((Int32.ofInt (k : Int)).toUInt32 &&& Int32.toUInt32 31)).toInt32 = Int32.ofInt ((x / 2 ^ k : Nat) : Int) := by
    rw [← Int32.toBitVec_inj]
    apply BitVec.eq_of_toNat_eq
    rw [UInt32.toBitVec_toInt32, UInt32.toNat_toBitVec, UInt32.toNat_shiftRight, hk2 k hk, Nat.shiftRight_eq_div_pow]
    have h1 : (Int32.ofInt (x : Int)).toUInt32.toNat = x := by
      rw [← UInt32.toNat_toBitVec, Int32.toBitVec_toUInt32, Int32.toBitVec_ofInt, BitVec.ofInt_natCast, BitVec.toNat_ofNat]
      omega
    rw [h1, Int32.toBitVec_ofInt, BitVec.ofInt_natCast, BitVec.toNat_ofNat]
    have := Nat.div_le_self x (2 ^ k)
    generalize x / 2 ^ k = y at *
    omega
  rw [e]
  have := Nat.div_le_self x (2 ^ k)
  generalize x / 2 ^ k = y at *
  exact aTo (by omega) (by omega)
theorem sp_bitCount {x : Nat} (hx : x < 2147483648) {h : Hp} {d mc ms : Nat} {R : PR} (H : R (some (xI (popc x : Int))) h) : Wp m_Integer_bitCount 0 [some (xI (x : Int))] [] h d mc ms R := by
  apply f_Integer_bitCount_0
  have u1 : ai_ushr (x : Int) 1 = ((x / 2 : Nat) : Int) := ai_ushr_nat hx (k := 1) (by omega)
  have a1 : ai_and ((x / 2 : Nat) : Int) ((1431655765 : Nat) : Int) = ((x / 2 &&& 1431655765 : Nat) : Int) := ai_and_nat (by omega) (by omega)
  have b1 := bc1 16 x (by omega)
  rw [show mk4 16 = 1431655765 by decide] at b1
  have s1 : ai_sub (x : Int) ((x / 2 &&& 1431655765 : Nat) : Int) = ((dg 2 16 x : Nat) : Int) := by
    rw [ai_sub_eq (by omega) (by omega)]; omega
  rw [u1, a1, s1]
  have hz : dg 2 16 x < 2147483648 := by omega
  have b2 := bc2 8 x
  rw [show mk16 8 = 858993459 by decide, show 2 * 8 = 16 from rfl] at b2
  have a2 : ai_and ((dg 2 16 x : Nat) : Int) ((858993459 : Nat) : Int) = ((dg 2 16 x &&& 858993459 : Nat) : Int) := ai_and_nat hz (by omega)
  have u2 : ai_ushr ((dg 2 16 x : Nat) : Int) 2 = ((dg 2 16 x / 4 : Nat) : Int) := ai_ushr_nat hz (k := 2) (by omega)
  have a3 : ai_and ((dg 2 16 x / 4 : Nat) : Int) ((858993459 : Nat) : Int) = ((dg 2 16 x / 4 &&& 858993459 : Nat) : Int) := ai_and_nat (by omega) (by omega)
  have l1 := Nat.and_le_right (n := dg 2 16 x) (m := 858993459)
  have l2 := Nat.and_le_right (n := dg 2 16 x / 4) (m := 858993459)
  have s2 : ai_add ((dg 2 16 x &&& 858993459 : Nat) : Int) ((dg 2 16 x / 4 &&& 858993459 : Nat) : Int) = ((dg 4 8 x : Nat) : Int) := by
    rw [ai_add_eq (by omega) (by omega)]; omega
  rw [u2, a2, a3, s2]
  have hy : dg 4 8 x ≤ 1717986918 := by omega
  have u3 : ai_ushr ((dg 4 8 x : Nat) : Int) 4 = ((dg 4 8 x / 16 : Nat) : Int) := ai_ushr_nat (by omega) (k := 4) (by omega)
  have s3 : ai_add ((dg 4 8 x : Nat) : Int) ((dg 4 8 x / 16 : Nat) : Int) = ((dg 4 8 x + dg 4 8 x / 16 : Nat) : Int) := ai_add_nn (by omega)
  have b3 := bc3 4 x
  rw [show mk256 4 = 252645135 by decide, show 2 * 4 = 8 from rfl] at b3
  have a4 : ai_and ((dg 4 8 x + dg 4 8 x / 16 : Nat) : Int) ((252645135 : Nat) : Int) = ((dg 8 4 x : Nat) : Int) := by
    rw [ai_and_nat (by omega) (by omega), b3]
  rw [u3, s3, a4]
  have e := dg_le8 x
  have p := popc8 x
  have q1 := pcn_le 8 x
  have q2 := pcn_le 8 (x / 256)
  have q3 := pcn_le 8 (x / 65536)
  have q4 := pcn_le 8 (x / 16777216)
  generalize dg 8 4 x = z at e ⊢
  have u5 : ai_ushr (z : Int) 8 = ((z / 256 : Nat) : Int) := ai_ushr_nat (by omega) (k := 8) (by omega)
  have s5 : ai_add (z : Int) ((z / 256 : Nat) : Int) = ((z + z / 256 : Nat) : Int) := ai_add_nn (by omega)
  have u6 : ai_ushr ((z + z / 256 : Nat) : Int) 16 = (((z + z / 256) / 65536 : Nat) : Int) := ai_ushr_nat (by omega) (k := 16) (by omega)
  have s6 : ai_add ((z + z / 256 : Nat) : Int) (((z + z / 256) / 65536 : Nat) : Int) = ((z + z / 256 + (z + z / 256) / 65536 : Nat) : Int) := ai_add_nn (by omega)
  have a6 : ai_and ((z + z / 256 + (z + z / 256) / 65536 : Nat) : Int) (63 : Int) = ((popc x : Nat) : Int) := by
    have := ai_and_nat (x := z + z / 256 + (z + z / 256) / 65536) (y := 63) (by omega) (by omega)
    rw [show ((63 : Nat) : Int) = 63 from rfl] at this
    rw [this, show 63 = 2 ^ 6 - 1 from rfl, Nat.and_two_pow_sub_one_eq_mod, show 2 ^ 6 = 64 from rfl, bc_last q1 q2 q3 q4 e, p]
  rw [u5, s5, u6, s6, a6]
  exact H
/-! ===== has ===== -/
def hasA (w : Nat → Int) (u i : Int) : Int := if i = 0 then w 7 else if i = 1 then w 6 else if i = 2 then w 8 else if i = 3 then sumN (fun s => w (280 + s)) 10 else if i = 4 then w 9 else if i = 5 then w 0 else if i = 6 then w 1 else if i = 7 then w 2 else if i = 8 then w 4 else if i = 9 then w 5 else if i = 10 then (popc (w 3).toNat : Int) else if i = 11 then u else -1
theorem sp_housesOfAll {h : Hp} {m : Nat} {w : Nat → Int} (a : RD h m w) (hV : V w) {d mc ms : Nat} {R : PR} {o1 o2 : Option AV} (H : R (some (xI (sumN (fun s => w (280 + s)) 10))) h) : Wp m_M_housesOfAll 0 [some (xR m), o1, o2] [] h d mc ms R := by
  have v7 := hV.1.2.2.2.2.2.2.2.1
  have hh := hV.2.2.2.2.2.2.1
  apply f_M_housesOfAll_0
  have L : ∀ j k : Nat, ((k + j : Nat) : Int) = w 7 → (0 ≤ sumN (fun s => w (280 + s)) k ∧ sumN (fun s => w (280 + s)) k ≤ 12 * k) → Wp m_M_housesOfAll 4 [some (xR m), some (xI (sumN (fun s => w (280 + s)) k)), some (xI (k : Int))] [] h d mc ms R := by
    intro j
    induction j with
    | zero =>
      intro k hk hb
      apply f_M_housesOfAll_4
      simp (disch := omega) only [a.1.tag, a.1.row_n, a.1.row_t, show Int.toNat (7 : Int) = 7 from rfl, a.2, q_lt, n_lt, q_le, n_le, q_eq, n_eq, q_nle, true_and, and_true, true_or, or_true, and_self, ↓reduceIte]
      rw [← sumN_tail (10 - k) k (fun i h1 h2 => (hh i (by omega)).2.1 (by omega)), show k + (10 - k) = 10 by omega]
      exact H
    | succ j ih =>
      intro k hk hb
      have hq := (hh k (by omega)).1
      apply f_M_housesOfAll_4
      simp (disch := omega) only [a.1.tag, a.1.row_n, a.1.row_t, show Int.toNat (7 : Int) = 7 from rfl, a.2, ai_add_nn, ai_mul_nn, aa_1, aa_2, aa_3, aa_10, aa_36, aa_60, aa_180, aa_280, aa_290, aa_650, aa_950, aa_980, aa_1010, aa_2020, aa_4040, aa_100, aa_200, aa_300, aa_400, ab_1, ab_2, ab_3, ab_4, ab_20, ab_10, am_2, am_3, am_5, am_10, am_12, am_36, am_100, am_1010, an_2, an_3, an_10, an_12, as_1, as_2, as_3, Int.toNat_natCast, q_lt, n_lt, q_le, n_le, q_eq, n_eq, q_nle, true_and, and_true, true_or, or_true, and_self, ↓reduceIte]
      rw [ai_add_eq (by omega) (by omega)]
      exact ih (k + 1) (by omega) (by simp only [sumN]; omega)
  exact L (w 7).toNat 0 (by omega) (by simp [sumN])
theorem sp_ofAll {h : Hp} {r : Nat} {w : Nat → Int} (a : homesAt h r) (hw : HW h r w) (hV : V w) {d mc ms : Nat} {R : PR} {o1 o2 : Option AV} (H : R (some (xI (sumN (fun s => w (280 + s)) 10))) h) : Wp m_Homes_ofAll 0 [some (xR r), o1, o2] [] h d mc ms R := by
  have hh := hV.2.2.2.2.2.2.1
  apply f_Homes_ofAll_0
  have L : ∀ j k : Nat, k + j = 10 → (0 ≤ sumN (fun s => w (280 + s)) k ∧ sumN (fun s => w (280 + s)) k ≤ 12 * k) → Wp m_Homes_ofAll 4 [some (xR r), some (xI (sumN (fun s => w (280 + s)) k)), some (xI (k : Int))] [] h d mc ms R := by
    intro j
    induction j with
    | zero =>
      intro k hk hb
      apply f_Homes_ofAll_4
      obtain rfl : k = 10 := by omega
      exact H
    | succ j ih =>
      intro k hk hb
      have hq := (hh k (by omega)).1
      apply f_Homes_ofAll_4
      simp (disch := omega) only [a.tag, a.count_n, a.count_t, (hw k (by omega)).1, ai_add_nn, ai_mul_nn, aa_1, aa_2, aa_3, aa_10, aa_36, aa_60, aa_180, aa_280, aa_290, aa_650, aa_950, aa_980, aa_1010, aa_2020, aa_4040, aa_100, aa_200, aa_300, aa_400, ab_1, ab_2, ab_3, ab_4, ab_20, ab_10, am_2, am_3, am_5, am_10, am_12, am_36, am_100, am_1010, an_2, an_3, an_10, an_12, as_1, as_2, as_3, Int.toNat_natCast, q_lt, n_lt, q_le, n_le, q_eq, n_eq, q_nle, true_and, and_true, true_or, or_true, and_self, ↓reduceIte]
      rw [ai_add_eq (by omega) (by omega)]
      exact ih (k + 1) (by omega) (by simp only [sumN]; omega)
  exact L 10 0 (by omega) (by simp [sumN])
theorem sp_mhas {h : Hp} {m : Nat} {w : Nat → Int} (a : RD h m w) (hV : V w) {u : Int} (hu : hpC h m 2 = u) {i : Int} {d mc ms : Nat} (hd : 1 ≤ d) {R : PR} (H : R (some (xI (hasA w u i))) h) : Wp m_M_has 0 [some (xR m), some (xI i)] [] h d mc ms R := by
  have v3 := hV.1.2.2.2.1
  apply f_M_has_0
  unfold hasA at H
  by_cases c0 : i = 0
  · rw [if_pos (by omega)]
    rw [if_pos c0] at H
    simp (disch := omega) only [a.1.tag, a.1.row_n, a.1.row_t, a.2, hu, tn_0, tn_1, tn_2, tn_3, tn_4, tn_5, tn_6, tn_7, tn_8, tn_9, tn_10, tn_11, tn_12, q_lt, n_lt, q_le, n_le, q_eq, n_eq, q_nle, true_and, and_true, true_or, or_true, and_self, ↓reduceIte]
    exact H
  rw [if_neg (by omega)]
  rw [if_neg c0] at H
  by_cases c1 : i = 1
  · rw [if_pos (by omega)]
    rw [if_pos c1] at H
    simp (disch := omega) only [a.1.tag, a.1.row_n, a.1.row_t, a.2, hu, tn_0, tn_1, tn_2, tn_3, tn_4, tn_5, tn_6, tn_7, tn_8, tn_9, tn_10, tn_11, tn_12, q_lt, n_lt, q_le, n_le, q_eq, n_eq, q_nle, true_and, and_true, true_or, or_true, and_self, ↓reduceIte]
    exact H
  rw [if_neg (by omega)]
  rw [if_neg c1] at H
  by_cases c2 : i = 2
  · rw [if_pos (by omega)]
    rw [if_pos c2] at H
    simp (disch := omega) only [a.1.tag, a.1.row_n, a.1.row_t, a.2, hu, tn_0, tn_1, tn_2, tn_3, tn_4, tn_5, tn_6, tn_7, tn_8, tn_9, tn_10, tn_11, tn_12, q_lt, n_lt, q_le, n_le, q_eq, n_eq, q_nle, true_and, and_true, true_or, or_true, and_self, ↓reduceIte]
    exact H
  rw [if_neg (by omega)]
  rw [if_neg c2] at H
  by_cases c3 : i = 3
  · rw [if_pos (by omega)]
    rw [if_pos c3] at H
    exact ⟨⟨hd, a.1.tag⟩, sp_housesOfAll a hV (fun v e => by cases e; exact H)⟩
  rw [if_neg (by omega)]
  rw [if_neg c3] at H
  by_cases c4 : i = 4
  · rw [if_pos (by omega)]
    rw [if_pos c4] at H
    simp (disch := omega) only [a.1.tag, a.1.row_n, a.1.row_t, a.2, hu, tn_0, tn_1, tn_2, tn_3, tn_4, tn_5, tn_6, tn_7, tn_8, tn_9, tn_10, tn_11, tn_12, q_lt, n_lt, q_le, n_le, q_eq, n_eq, q_nle, true_and, and_true, true_or, or_true, and_self, ↓reduceIte]
    exact H
  rw [if_neg (by omega)]
  rw [if_neg c4] at H
  by_cases c5 : i = 5
  · rw [if_pos (by omega)]
    rw [if_pos c5] at H
    simp (disch := omega) only [a.1.tag, a.1.row_n, a.1.row_t, a.2, hu, tn_0, tn_1, tn_2, tn_3, tn_4, tn_5, tn_6, tn_7, tn_8, tn_9, tn_10, tn_11, tn_12, q_lt, n_lt, q_le, n_le, q_eq, n_eq, q_nle, true_and, and_true, true_or, or_true, and_self, ↓reduceIte]
    exact H
  rw [if_neg (by omega)]
  rw [if_neg c5] at H
  by_cases c6 : i = 6
  · rw [if_pos (by omega)]
    rw [if_pos c6] at H
    simp (disch := omega) only [a.1.tag, a.1.row_n, a.1.row_t, a.2, hu, tn_0, tn_1, tn_2, tn_3, tn_4, tn_5, tn_6, tn_7, tn_8, tn_9, tn_10, tn_11, tn_12, q_lt, n_lt, q_le, n_le, q_eq, n_eq, q_nle, true_and, and_true, true_or, or_true, and_self, ↓reduceIte]
    exact H
  rw [if_neg (by omega)]
  rw [if_neg c6] at H
  by_cases c7 : i = 7
  · rw [if_pos (by omega)]
    rw [if_pos c7] at H
    simp (disch := omega) only [a.1.tag, a.1.row_n, a.1.row_t, a.2, hu, tn_0, tn_1, tn_2, tn_3, tn_4, tn_5, tn_6, tn_7, tn_8, tn_9, tn_10, tn_11, tn_12, q_lt, n_lt, q_le, n_le, q_eq, n_eq, q_nle, true_and, and_true, true_or, or_true, and_self, ↓reduceIte]
    exact H
  rw [if_neg (by omega)]
  rw [if_neg c7] at H
  by_cases c8 : i = 8
  · rw [if_pos (by omega)]
    rw [if_pos c8] at H
    simp (disch := omega) only [a.1.tag, a.1.row_n, a.1.row_t, a.2, hu, tn_0, tn_1, tn_2, tn_3, tn_4, tn_5, tn_6, tn_7, tn_8, tn_9, tn_10, tn_11, tn_12, q_lt, n_lt, q_le, n_le, q_eq, n_eq, q_nle, true_and, and_true, true_or, or_true, and_self, ↓reduceIte]
    exact H
  rw [if_neg (by omega)]
  rw [if_neg c8] at H
  by_cases c9 : i = 9
  · rw [if_pos (by omega)]
    rw [if_pos c9] at H
    simp (disch := omega) only [a.1.tag, a.1.row_n, a.1.row_t, a.2, hu, tn_0, tn_1, tn_2, tn_3, tn_4, tn_5, tn_6, tn_7, tn_8, tn_9, tn_10, tn_11, tn_12, q_lt, n_lt, q_le, n_le, q_eq, n_eq, q_nle, true_and, and_true, true_or, or_true, and_self, ↓reduceIte]
    exact H
  rw [if_neg (by omega)]
  rw [if_neg c9] at H
  by_cases c10 : i = 10
  · rw [if_pos (by omega)]
    rw [if_pos c10] at H
    simp (disch := omega) only [a.1.tag, a.1.row_n, a.1.row_t, a.2, hu, tn_0, tn_1, tn_2, tn_3, tn_4, tn_5, tn_6, tn_7, tn_8, tn_9, tn_10, tn_11, tn_12, q_lt, n_lt, q_le, n_le, q_eq, n_eq, q_nle, true_and, and_true, true_or, or_true, and_self, ↓reduceIte]
    rw [show w 3 = (((w 3).toNat : Nat) : Int) by omega]
    exact sp_mbits (by omega) (fun v e => by cases e; exact H)
  rw [if_neg (by omega)]
  rw [if_neg c10] at H
  by_cases c11 : i = 11
  · rw [if_pos (by omega)]
    rw [if_pos c11] at H
    simp (disch := omega) only [a.1.tag, a.1.row_n, a.1.row_t, a.2, hu, tn_0, tn_1, tn_2, tn_3, tn_4, tn_5, tn_6, tn_7, tn_8, tn_9, tn_10, tn_11, tn_12, q_lt, n_lt, q_le, n_le, q_eq, n_eq, q_nle, true_and, and_true, true_or, or_true, and_self, ↓reduceIte]
    exact H
  rw [if_neg (by omega)]
  rw [if_neg c11] at H
  exact H
theorem popc_two (x : Nat) (hx : x < 2147483648) : popc (2 * x) = popc x := by
  have h1 := pcn_add 1 31 (2 * x)
  have h2 := pcn_more 31 x 1 (by omega)
  have h3 : pcn 1 (2 * x) = 0 := by show 2 * x % 2 + 0 = 0; omega
  unfold popc
  rw [h3, show 2 * x / 2 ^ 1 = x by omega, Nat.zero_add] at h1
  rw [h2]; exact h1
theorem sp_chas {h : Hp} {x : Nat} {w : Nat → Int} (s : sAt h x) (a : TR h (x + 43) w) (hV : V w) {u : Int} (hp : (hpT h (x + 66)).1 = 5) (hu : hpC h (x + 66) 2 = u) {i : Int} {d mc ms : Nat} (hd : 1 ≤ d) {R : PR} (H : R (some (xI (hasA w u i))) h) : Wp m_S_has 0 [some (xR x), some (xI i)] [] h d mc ms R := by
  have v3 := hV.1.2.2.2.1
  have hT := a.1.1
  have hR := a.1.2.1
  have b1 : NW h (x + 43 + 7) w (w 7) 180 := a.1.2.2.1
  have b2 : NW h (x + 43 + 10) w (w 6) 60 := a.1.2.2.2.1
  have b3 : NW h (x + 43 + 13) w (w 8) 650 := a.1.2.2.2.2.1
  have hw : HW h (x + 43 + 18) w := a.1.2.2.2.2.2.2.1
  have h7 : hpC h (x + 43) 7 = w 9 := a.1.2.2.2.2.2.2.2
  apply f_S_has_0
  unfold hasA at H
  by_cases c0 : i = 0
  · rw [if_pos (by omega)]
    rw [if_pos c0] at H
    simp (disch := omega) only [s.tag, s.now_n, s.past_n, hp, hT.tag, hT.streets_n, hT.pool_n, hT.aliases_n, hT.rules_n, hT.homes_n, hT.streets_a.tag, hT.pool_a.tag, hT.aliases_a.tag, hT.rules_a.tag, hT.homes_a.tag, b1.1, b2.1, b3.1, h7, hR.1, hR.2.1, hR.2.2.1, hR.2.2.2.1, hR.2.2.2.2.1, hR.2.2.2.2.2.1, hu, q_lt, n_lt, q_le, n_le, q_eq, n_eq, q_nle, true_and, and_true, true_or, or_true, and_self, ↓reduceIte]
    exact H
  rw [if_neg (by omega)]
  rw [if_neg c0] at H
  by_cases c1 : i = 1
  · rw [if_pos (by omega)]
    rw [if_pos c1] at H
    simp (disch := omega) only [s.tag, s.now_n, s.past_n, hp, hT.tag, hT.streets_n, hT.pool_n, hT.aliases_n, hT.rules_n, hT.homes_n, hT.streets_a.tag, hT.pool_a.tag, hT.aliases_a.tag, hT.rules_a.tag, hT.homes_a.tag, b1.1, b2.1, b3.1, h7, hR.1, hR.2.1, hR.2.2.1, hR.2.2.2.1, hR.2.2.2.2.1, hR.2.2.2.2.2.1, hu, q_lt, n_lt, q_le, n_le, q_eq, n_eq, q_nle, true_and, and_true, true_or, or_true, and_self, ↓reduceIte]
    exact H
  rw [if_neg (by omega)]
  rw [if_neg c1] at H
  by_cases c2 : i = 2
  · rw [if_pos (by omega)]
    rw [if_pos c2] at H
    simp (disch := omega) only [s.tag, s.now_n, s.past_n, hp, hT.tag, hT.streets_n, hT.pool_n, hT.aliases_n, hT.rules_n, hT.homes_n, hT.streets_a.tag, hT.pool_a.tag, hT.aliases_a.tag, hT.rules_a.tag, hT.homes_a.tag, b1.1, b2.1, b3.1, h7, hR.1, hR.2.1, hR.2.2.1, hR.2.2.2.1, hR.2.2.2.2.1, hR.2.2.2.2.2.1, hu, q_lt, n_lt, q_le, n_le, q_eq, n_eq, q_nle, true_and, and_true, true_or, or_true, and_self, ↓reduceIte]
    exact H
  rw [if_neg (by omega)]
  rw [if_neg c2] at H
  by_cases c3 : i = 3
  · rw [if_pos (by omega)]
    rw [if_pos c3] at H
    simp (disch := omega) only [s.tag, s.now_n, s.past_n, hp, hT.tag, hT.streets_n, hT.pool_n, hT.aliases_n, hT.rules_n, hT.homes_n, hT.streets_a.tag, hT.pool_a.tag, hT.aliases_a.tag, hT.rules_a.tag, hT.homes_a.tag, b1.1, b2.1, b3.1, h7, hR.1, hR.2.1, hR.2.2.1, hR.2.2.2.1, hR.2.2.2.2.1, hR.2.2.2.2.2.1, hu, q_lt, n_lt, q_le, n_le, q_eq, n_eq, q_nle, true_and, and_true, true_or, or_true, and_self, ↓reduceIte]
    exact sp_ofAll hT.homes_a hw hV (fun v e => by cases e; exact H)
  rw [if_neg (by omega)]
  rw [if_neg c3] at H
  by_cases c4 : i = 4
  · rw [if_pos (by omega)]
    rw [if_pos c4] at H
    simp (disch := omega) only [s.tag, s.now_n, s.past_n, hp, hT.tag, hT.streets_n, hT.pool_n, hT.aliases_n, hT.rules_n, hT.homes_n, hT.streets_a.tag, hT.pool_a.tag, hT.aliases_a.tag, hT.rules_a.tag, hT.homes_a.tag, b1.1, b2.1, b3.1, h7, hR.1, hR.2.1, hR.2.2.1, hR.2.2.2.1, hR.2.2.2.2.1, hR.2.2.2.2.2.1, hu, q_lt, n_lt, q_le, n_le, q_eq, n_eq, q_nle, true_and, and_true, true_or, or_true, and_self, ↓reduceIte]
    exact H
  rw [if_neg (by omega)]
  rw [if_neg c4] at H
  by_cases c5 : i = 5
  · rw [if_pos (by omega)]
    rw [if_pos c5] at H
    simp (disch := omega) only [s.tag, s.now_n, s.past_n, hp, hT.tag, hT.streets_n, hT.pool_n, hT.aliases_n, hT.rules_n, hT.homes_n, hT.streets_a.tag, hT.pool_a.tag, hT.aliases_a.tag, hT.rules_a.tag, hT.homes_a.tag, b1.1, b2.1, b3.1, h7, hR.1, hR.2.1, hR.2.2.1, hR.2.2.2.1, hR.2.2.2.2.1, hR.2.2.2.2.2.1, hu, q_lt, n_lt, q_le, n_le, q_eq, n_eq, q_nle, true_and, and_true, true_or, or_true, and_self, ↓reduceIte]
    exact H
  rw [if_neg (by omega)]
  rw [if_neg c5] at H
  by_cases c6 : i = 6
  · rw [if_pos (by omega)]
    rw [if_pos c6] at H
    simp (disch := omega) only [s.tag, s.now_n, s.past_n, hp, hT.tag, hT.streets_n, hT.pool_n, hT.aliases_n, hT.rules_n, hT.homes_n, hT.streets_a.tag, hT.pool_a.tag, hT.aliases_a.tag, hT.rules_a.tag, hT.homes_a.tag, b1.1, b2.1, b3.1, h7, hR.1, hR.2.1, hR.2.2.1, hR.2.2.2.1, hR.2.2.2.2.1, hR.2.2.2.2.2.1, hu, q_lt, n_lt, q_le, n_le, q_eq, n_eq, q_nle, true_and, and_true, true_or, or_true, and_self, ↓reduceIte]
    exact H
  rw [if_neg (by omega)]
  rw [if_neg c6] at H
  by_cases c7 : i = 7
  · rw [if_pos (by omega)]
    rw [if_pos c7] at H
    simp (disch := omega) only [s.tag, s.now_n, s.past_n, hp, hT.tag, hT.streets_n, hT.pool_n, hT.aliases_n, hT.rules_n, hT.homes_n, hT.streets_a.tag, hT.pool_a.tag, hT.aliases_a.tag, hT.rules_a.tag, hT.homes_a.tag, b1.1, b2.1, b3.1, h7, hR.1, hR.2.1, hR.2.2.1, hR.2.2.2.1, hR.2.2.2.2.1, hR.2.2.2.2.2.1, hu, q_lt, n_lt, q_le, n_le, q_eq, n_eq, q_nle, true_and, and_true, true_or, or_true, and_self, ↓reduceIte]
    exact H
  rw [if_neg (by omega)]
  rw [if_neg c7] at H
  by_cases c8 : i = 8
  · rw [if_pos (by omega)]
    rw [if_pos c8] at H
    simp (disch := omega) only [s.tag, s.now_n, s.past_n, hp, hT.tag, hT.streets_n, hT.pool_n, hT.aliases_n, hT.rules_n, hT.homes_n, hT.streets_a.tag, hT.pool_a.tag, hT.aliases_a.tag, hT.rules_a.tag, hT.homes_a.tag, b1.1, b2.1, b3.1, h7, hR.1, hR.2.1, hR.2.2.1, hR.2.2.2.1, hR.2.2.2.2.1, hR.2.2.2.2.2.1, hu, q_lt, n_lt, q_le, n_le, q_eq, n_eq, q_nle, true_and, and_true, true_or, or_true, and_self, ↓reduceIte]
    exact H
  rw [if_neg (by omega)]
  rw [if_neg c8] at H
  by_cases c9 : i = 9
  · rw [if_pos (by omega)]
    rw [if_pos c9] at H
    simp (disch := omega) only [s.tag, s.now_n, s.past_n, hp, hT.tag, hT.streets_n, hT.pool_n, hT.aliases_n, hT.rules_n, hT.homes_n, hT.streets_a.tag, hT.pool_a.tag, hT.aliases_a.tag, hT.rules_a.tag, hT.homes_a.tag, b1.1, b2.1, b3.1, h7, hR.1, hR.2.1, hR.2.2.1, hR.2.2.2.1, hR.2.2.2.2.1, hR.2.2.2.2.2.1, hu, q_lt, n_lt, q_le, n_le, q_eq, n_eq, q_nle, true_and, and_true, true_or, or_true, and_self, ↓reduceIte]
    exact H
  rw [if_neg (by omega)]
  rw [if_neg c9] at H
  by_cases c10 : i = 10
  · rw [if_pos (by omega)]
    rw [if_pos c10] at H
    simp (disch := omega) only [s.tag, s.now_n, s.past_n, hp, hT.tag, hT.streets_n, hT.pool_n, hT.aliases_n, hT.rules_n, hT.homes_n, hT.streets_a.tag, hT.pool_a.tag, hT.aliases_a.tag, hT.rules_a.tag, hT.homes_a.tag, b1.1, b2.1, b3.1, h7, hR.1, hR.2.1, hR.2.2.1, hR.2.2.2.1, hR.2.2.2.2.1, hR.2.2.2.2.2.1, hu, q_lt, n_lt, q_le, n_le, q_eq, n_eq, q_nle, true_and, and_true, true_or, or_true, and_self, ↓reduceIte]
    rw [show 2 * w 3 = ((2 * (w 3).toNat : Nat) : Int) by omega]
    refine sp_bitCount (by omega) (fun v e => ?_)
    cases e
    rw [popc_two _ (by omega)]; exact H
  rw [if_neg (by omega)]
  rw [if_neg c10] at H
  by_cases c11 : i = 11
  · rw [if_pos (by omega)]
    rw [if_pos c11] at H
    simp (disch := omega) only [s.tag, s.now_n, s.past_n, hp, hT.tag, hT.streets_n, hT.pool_n, hT.aliases_n, hT.rules_n, hT.homes_n, hT.streets_a.tag, hT.pool_a.tag, hT.aliases_a.tag, hT.rules_a.tag, hT.homes_a.tag, b1.1, b2.1, b3.1, h7, hR.1, hR.2.1, hR.2.2.1, hR.2.2.2.1, hR.2.2.2.2.1, hR.2.2.2.2.2.1, hu, q_lt, n_lt, q_le, n_le, q_eq, n_eq, q_nle, true_and, and_true, true_or, or_true, and_self, ↓reduceIte]
    exact H
  rw [if_neg (by omega)]
  rw [if_neg c11] at H
  exact H
