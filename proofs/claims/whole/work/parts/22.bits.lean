-- ===== bits as numbers =====
def bs (p : Nat → Bool) : Nat → Nat
  | 0 => 0
  | n + 1 => bs p n + (if p n then 2 ^ n else 0)
theorem bs_lt (p : Nat → Bool) : ∀ n, bs p n < 2 ^ n
  | 0 => by simp [bs]
  | n + 1 => by
    have h := bs_lt p n
    simp only [bs]
    rw [Nat.pow_succ]
    split <;> omega
theorem bs_tb (p : Nat → Bool) : ∀ n j, (bs p n).testBit j = (decide (j < n) && p j)
  | 0, j => by simp [bs]
  | n + 1, j => by
    have h := bs_lt p n
    have ih := bs_tb p n j
    simp only [bs]
    by_cases hp : p n = true
    · rw [if_pos hp, show bs p n + 2 ^ n = 2 ^ n * 1 + bs p n by omega, Nat.testBit_two_pow_mul_add 1 h]
      by_cases hj : j < n
      · rw [if_pos hj, ih]
        simp [hj, Nat.lt_succ_of_lt hj]
      · rw [if_neg hj]
        by_cases he : j = n
        · subst he
          simp [hp]
        · have : ¬ j < n + 1 := by omega
          have h2 : 1 ≤ j - n := by omega
          simp only [this, decide_false, Bool.false_and]
          rw [Nat.testBit_lt_two_pow]
          exact Nat.one_lt_two_pow (by omega)
    · rw [if_neg hp, Nat.add_zero, ih]
      by_cases hj : j < n
      · simp [hj, Nat.lt_succ_of_lt hj]
      · by_cases he : j = n
        · subst he
          simp at hp
          simp [hp]
        · have : ¬ j < n + 1 := by omega
          simp [hj, this]
theorem bs_cong {p q : Nat → Bool} {n : Nat} (h : ∀ j, j < n → p j = q j) : bs p n = bs q n := by
  apply Nat.eq_of_testBit_eq
  intro j
  rw [bs_tb, bs_tb]
  by_cases hj : j < n
  · simp [hj, h j hj]
  · simp [hj]
theorem bs_self {x n : Nat} (h : x < 2 ^ n) : bs (fun j => x.testBit j) n = x := by
  apply Nat.eq_of_testBit_eq
  intro j
  rw [bs_tb]
  by_cases hj : j < n
  · simp [hj]
  · rw [Nat.testBit_lt_two_pow (Nat.lt_of_lt_of_le h (Nat.pow_le_pow_right (by omega) (by omega)))]
    simp
theorem bs_and (p q : Nat → Bool) (n : Nat) : bs p n &&& bs q n = bs (fun j => p j && q j) n := by
  apply Nat.eq_of_testBit_eq
  intro j
  rw [Nat.testBit_and, bs_tb, bs_tb, bs_tb]
  by_cases hj : j < n <;> simp [hj]
theorem bs_or (p q : Nat → Bool) (n : Nat) : bs p n ||| bs q n = bs (fun j => p j || q j) n := by
  apply Nat.eq_of_testBit_eq
  intro j
  rw [Nat.testBit_or, bs_tb, bs_tb, bs_tb]
  by_cases hj : j < n <;> simp [hj]
theorem bs_xor (p q : Nat → Bool) (n : Nat) : bs p n ^^^ bs q n = bs (fun j => p j ^^ q j) n := by
  apply Nat.eq_of_testBit_eq
  intro j
  rw [Nat.testBit_xor, bs_tb, bs_tb, bs_tb]
  by_cases hj : j < n <;> simp [hj]
theorem bs_true (n : Nat) : bs (fun _ => true) n = 2 ^ n - 1 := by
  apply Nat.eq_of_testBit_eq
  intro j
  rw [bs_tb, Nat.testBit_two_pow_sub_one]
  simp
theorem bs_false (n : Nat) : bs (fun _ => false) n = 0 := by
  apply Nat.eq_of_testBit_eq
  intro j
  rw [bs_tb]
  simp
theorem bs_inj {p q : Nat → Bool} {n : Nat} : bs p n = bs q n ↔ ∀ j, j < n → p j = q j := by
  refine ⟨fun h j hj => ?_, bs_cong⟩
  have := congrArg (fun x => x.testBit j) h
  simp only [bs_tb] at this
  simpa [hj] using this
-- ===== the count of bits, as the machine counts them =====
def mk8 (m : Nat) : Nat → Nat
  | 0 => 0
  | k + 1 => 256 * mk8 m k + m
theorem mk8_and {s m : Nat} (hm : m < 2 ^ (8 - s)) (hs : s ≤ 8) (x mk : Nat) : (x / 2 ^ s) &&& (256 * mk + m) = 256 * ((x / 256 / 2 ^ s) &&& mk) + (((x % 256) / 2 ^ s) &&& m) := by
  have hm8 : m < 2 ^ 8 := Nat.lt_of_lt_of_le hm (Nat.pow_le_pow_right (by omega) (by omega))
  apply Nat.eq_of_testBit_eq
  intro j
  have hr : ((x % 256) / 2 ^ s) &&& m < 2 ^ 8 := Nat.lt_of_le_of_lt Nat.and_le_right hm8
  rw [show (256 : Nat) = 2 ^ 8 from rfl, Nat.testBit_and, Nat.testBit_two_pow_mul_add _ hm8, Nat.testBit_two_pow_mul_add _ hr, Nat.testBit_div_two_pow]
  by_cases hj : j < 8
  · have hmod : (x % 256).testBit (j + s) = (decide (j + s < 8) && x.testBit (j + s)) := Nat.testBit_mod_two_pow x 8 (j + s)
    rw [if_pos hj, if_pos hj, Nat.testBit_and, Nat.testBit_div_two_pow, hmod]
    by_cases h2 : s + j < 8
    · have h2' : j + s < 8 := by omega
      simp [h2, h2']
    · have : m.testBit j = false := Nat.testBit_lt_two_pow (Nat.lt_of_lt_of_le hm (Nat.pow_le_pow_right (by omega) (by omega)))
      simp [this]
  · rw [if_neg hj, if_neg hj, Nat.testBit_and, Nat.testBit_div_two_pow, Nat.testBit_div_two_pow]
    congr 2
    omega
def wA (k x : Nat) : Nat := x - ((x / 2 ^ 1) &&& mk8 0x55 k)
def wB (k x : Nat) : Nat := (x &&& mk8 0x33 k) + ((x / 2 ^ 2) &&& mk8 0x33 k)
def wC (k x : Nat) : Nat := (x + x / 2 ^ 4) &&& mk8 0x0f k
def c8 (b : Nat) : Nat := fb_ct (fun j => b.testBit j) 8
theorem w8 : ∀ b, b < 256 → ((b / 2) &&& 0x55) ≤ b ∧ (b - ((b / 2) &&& 0x55)) < 256 ∧ ((((b - ((b / 2) &&& 0x55)) &&& 0x33) + (((b - ((b / 2) &&& 0x55)) / 4) &&& 0x33)) % 16 ≤ 4 ∧ (((b - ((b / 2) &&& 0x55)) &&& 0x33) + (((b - ((b / 2) &&& 0x55)) / 4) &&& 0x33)) ≤ 0x44) ∧ ((((b - ((b / 2) &&& 0x55)) &&& 0x33) + (((b - ((b / 2) &&& 0x55)) / 4) &&& 0x33)) + (((b - ((b / 2) &&& 0x55)) &&& 0x33) + (((b - ((b / 2) &&& 0x55)) / 4) &&& 0x33)) / 16) % 16 = c8 b := by decide +kernel
def a8 (b : Nat) : Nat := b - ((b / 2) &&& 0x55)
def b8 (b : Nat) : Nat := (a8 b &&& 0x33) + ((a8 b / 4) &&& 0x33)
theorem w8a {b : Nat} (h : b < 256) : ((b / 2) &&& 0x55) ≤ b ∧ a8 b < 256 ∧ b8 b % 16 ≤ 4 ∧ b8 b ≤ 0x44 ∧ (b8 b + b8 b / 16) % 16 = c8 b := by
  obtain ⟨h1, h2, ⟨h3, h4⟩, h5⟩ := w8 b h
  exact ⟨h1, h2, h3, h4, h5⟩
theorem wA_le : ∀ k x, ((x / 2 ^ 1) &&& mk8 0x55 k) ≤ x
  | k, x => Nat.le_trans Nat.and_le_left (Nat.div_le_self _ _)
theorem wA_succ (k x : Nat) : wA (k + 1) x = 256 * wA k (x / 256) + a8 (x % 256) := by
  have hb : x % 256 < 256 := Nat.mod_lt _ (by decide)
  have h1 := (w8a hb).1
  have h2 := wA_le k (x / 256)
  unfold wA
  rw [mk8, mk8_and (s := 1) (by decide) (by decide)]
  unfold a8
  have e : 256 * (x / 256) + x % 256 = x := Nat.div_add_mod x 256
  simp only [Nat.pow_one] at h2 ⊢
  omega
theorem wB_succ (k y r : Nat) (hr : r < 256) : wB (k + 1) (256 * y + r) = 256 * wB k y + ((r &&& 0x33) + ((r / 4) &&& 0x33)) := by
  unfold wB
  have e1 := mk8_and (s := 0) (m := 0x33) (by decide) (by decide) (256 * y + r) (mk8 0x33 k)
  have e2 := mk8_and (s := 2) (m := 0x33) (by decide) (by decide) (256 * y + r) (mk8 0x33 k)
  rw [show (256 * y + r) / 256 = y by omega, show (256 * y + r) % 256 = r by omega] at e1 e2
  simp only [Nat.pow_zero, Nat.div_one] at e1
  rw [mk8, e1, e2, show (2 : Nat) ^ 2 = 4 from rfl]
  omega
theorem wC_succ (k y r : Nat) (hr : r ≤ 0x44) (hy : y % 16 ≤ 4) : wC (k + 1) (256 * y + r) = 256 * wC k y + (r + r / 16) % 16 := by
  unfold wC
  have e : (256 * y + r) + (256 * y + r) / 2 ^ 4 = 256 * (y + y / 2 ^ 4) + (r + r / 16 + 16 * (y % 16)) := by
    rw [show (2 : Nat) ^ 4 = 16 from rfl]
    omega
  have e1 := mk8_and (s := 0) (m := 0x0f) (by decide) (by decide) (256 * (y + y / 2 ^ 4) + (r + r / 16 + 16 * (y % 16))) (mk8 0x0f k)
  have hlt : r + r / 16 + 16 * (y % 16) < 256 := by omega
  rw [show (256 * (y + y / 2 ^ 4) + (r + r / 16 + 16 * (y % 16))) / 256 = y + y / 2 ^ 4 by omega, show (256 * (y + y / 2 ^ 4) + (r + r / 16 + 16 * (y % 16))) % 256 = r + r / 16 + 16 * (y % 16) by omega] at e1
  simp only [Nat.pow_zero, Nat.div_one] at e1
  rw [e, mk8, e1]
  have e3 : (r + r / 16 + 16 * (y % 16)) &&& 15 = (r + r / 16) % 16 := by
    rw [show (15 : Nat) = 2 ^ 4 - 1 from rfl, Nat.and_two_pow_sub_one_eq_mod, show (2 : Nat) ^ 4 = 16 from rfl]
    omega
  rw [e3]
/-- the bytes of the answer -/
def wS (f : Nat → Nat) : Nat → Nat → Nat
  | 0, _ => 0
  | k + 1, x => 256 * wS f k (x / 256) + f (x % 256)
theorem wA_all : ∀ k x, x < 256 ^ k → wA k x = wS a8 k x
  | 0, x, h => by
    have : x = 0 := by simpa using h
    subst this
    rfl
  | k + 1, x, h => by
    rw [wA_succ, wA_all k (x / 256) (by rw [Nat.pow_succ] at h; omega), wS]
theorem wB_all : ∀ k x, x < 256 ^ k → wB k (wS a8 k x) = wS b8 k x
  | 0, x, h => by simp [wS, wB, mk8]
  | k + 1, x, h => by
    have hb : x % 256 < 256 := Nat.mod_lt _ (by decide)
    rw [wS, wB_succ _ _ _ (w8a hb).2.1, wB_all k (x / 256) (by rw [Nat.pow_succ] at h; omega), wS]
    rfl
theorem wSb_mod : ∀ k x, wS b8 k x % 16 ≤ 4
  | 0, x => by simp [wS]
  | k + 1, x => by
    have hb : x % 256 < 256 := Nat.mod_lt _ (by decide)
    have := (w8a hb).2.2.1
    rw [wS]
    omega
theorem wC_all : ∀ k x, x < 256 ^ k → wC k (wS b8 k x) = wS c8 k x
  | 0, x, h => by simp [wS, wC, mk8]
  | k + 1, x, h => by
    have hb : x % 256 < 256 := Nat.mod_lt _ (by decide)
    rw [wS, wC_succ _ _ _ (w8a hb).2.2.2.1 (wSb_mod k _), wC_all k (x / 256) (by rw [Nat.pow_succ] at h; omega), wS, (w8a hb).2.2.2.2]
theorem c8_le (b : Nat) : c8 b ≤ 8 := fb_ct_le _ 8
theorem ct_byte (x : Nat) (k : Nat) : fb_ct (fun j => x.testBit j) (8 + k) = c8 (x % 256) + fb_ct (fun j => (x / 256).testBit j) k := by
  rw [fb_ct_split]
  congr 1
  · refine fb_ct_cong (fun j hj => ?_)
    rw [show (256 : Nat) = 2 ^ 8 from rfl, Nat.testBit_mod_two_pow]
    simp [hj]
  · refine fb_ct_cong (fun j hj => ?_)
    rw [show (256 : Nat) = 2 ^ 8 from rfl, Nat.testBit_div_two_pow, Nat.add_comm]
theorem bitCount_nI {x : Nat} (hx : x < 2 ^ 32) : f_J6_bitCount (nI x) = nI (fb_ct (fun j => x.testBit j) 32) := by
  have hx4 : x < 256 ^ 4 := hx
  have hC := wC_all 4 x hx4
  rw [← wB_all 4 x hx4, ← wA_all 4 x hx4] at hC
  have m5 : mk8 0x55 4 = 1431655765 := rfl
  have m3 : mk8 0x33 4 = 858993459 := rfl
  have mf : mk8 0x0f 4 = 252645135 := rfl
  have hA : wA 4 x < 2 ^ 32 := by unfold wA; omega
  have hB0 : wB 4 (wA 4 x) < 2 ^ 31 := by
    unfold wB
    rw [m3]
    have h1 : wA 4 x &&& 858993459 ≤ 858993459 := Nat.and_le_right
    have h2 : wA 4 x / 2 ^ 2 &&& 858993459 ≤ 858993459 := Nat.and_le_right
    omega
  have e1 : nI x - (((nI x).toUInt32 >>> ((1 : Int32).toUInt32 &&& Int32.toUInt32 31)).toInt32 &&& 1431655765) = nI (wA 4 x) := by
    rw [pk_ushrN hx 1 1 (by decide), show (1431655765 : Int32) = nI 1431655765 from rfl, fa_and, ← m5, pk_sub (wA_le 4 x)]
    rfl
  have e2 : (nI (wA 4 x) &&& 858993459) + (((nI (wA 4 x)).toUInt32 >>> ((2 : Int32).toUInt32 &&& Int32.toUInt32 31)).toInt32 &&& 858993459) = nI (wB 4 (wA 4 x)) := by
    rw [pk_ushrN hA 2 2 (by decide), show (858993459 : Int32) = nI 858993459 from rfl, fa_and, fa_and, nI_add, ← m3]
    rfl
  have e3 : ((nI (wB 4 (wA 4 x)) + ((nI (wB 4 (wA 4 x))).toUInt32 >>> ((4 : Int32).toUInt32 &&& Int32.toUInt32 31)).toInt32) &&& 252645135) = nI (wC 4 (wB 4 (wA 4 x))) := by
    rw [pk_ushrN (by omega) 4 4 (by decide), show (252645135 : Int32) = nI 252645135 from rfl, nI_add, fa_and, ← mf]
    rfl
  unfold f_J6_bitCount
  rw [e1, e2, e3, hC]
  have w4 : wS c8 4 x = 256 * (256 * (256 * c8 (x / 256 / 256 / 256 % 256) + c8 (x / 256 / 256 % 256)) + c8 (x / 256 % 256)) + c8 (x % 256) := by simp [wS]
  have l0 := c8_le (x % 256)
  have l1 := c8_le (x / 256 % 256)
  have l2 := c8_le (x / 256 / 256 % 256)
  have l3 := c8_le (x / 256 / 256 / 256 % 256)
  have hct : fb_ct (fun j => x.testBit j) 32 = c8 (x % 256) + (c8 (x / 256 % 256) + (c8 (x / 256 / 256 % 256) + c8 (x / 256 / 256 / 256 % 256))) := by
    rw [show (32 : Nat) = 8 + (8 + (8 + (8 + 0))) from rfl, ct_byte, ct_byte, ct_byte, ct_byte]
    simp [fb_ct]
  rw [hct, w4]
  generalize c8 (x % 256) = p0 at *
  generalize c8 (x / 256 % 256) = p1 at *
  generalize c8 (x / 256 / 256 % 256) = p2 at *
  generalize c8 (x / 256 / 256 / 256 % 256) = p3 at *
  rw [pk_ushrN (by omega) 8 8 (by decide), nI_add, pk_ushrN (by omega) 16 16 (by decide), nI_add, show (63 : Int32) = nI (2 ^ 6 - 1) from rfl, fa_mask]
  congr 1
  rw [show (2 : Nat) ^ 8 = 256 from rfl, show (2 : Nat) ^ 16 = 65536 from rfl, show (2 : Nat) ^ 6 = 64 from rfl]
  have h1 : (256 * (256 * (256 * p3 + p2) + p1) + p0) / 256 = 256 * (256 * p3 + p2) + p1 := by omega
  rw [h1]
  have h2 : (256 * (256 * (256 * p3 + p2) + p1) + p0 + (256 * (256 * p3 + p2) + p1)) / 65536 = 256 * p3 + (p2 + p3) := by omega
  rw [h2]
  omega
theorem ct_bs (p : Nat → Bool) {n m : Nat} (h : n ≤ m) : fb_ct (fun j => (bs p n).testBit j) m = fb_ct p n := by
  obtain ⟨d, rfl⟩ := Nat.exists_eq_add_of_le h
  rw [fb_ct_split]
  have h2 : fb_ct (fun k => (bs p n).testBit (n + k)) d = 0 := fb_ct_zero.mpr (fun k _ => by rw [bs_tb, decide_eq_false (by omega), Bool.false_and])
  rw [h2, Nat.add_zero]
  exact fb_ct_cong (fun k hk => by rw [bs_tb]; simp [hk])
theorem bitCount_bs (p : Nat → Bool) {n : Nat} (h : n ≤ 32) : f_J6_bitCount (nI (bs p n)) = nI (fb_ct p n) := by
  rw [bitCount_nI (Nat.lt_of_lt_of_le (bs_lt p n) (Nat.pow_le_pow_right (by omega) h)), ct_bs p h]
