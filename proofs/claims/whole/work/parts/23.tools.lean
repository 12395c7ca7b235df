-- ===== numbers with signs =====
abbrev sI (z : Int) : Int32 := Int32.ofInt z
theorem sI_nI (n : Nat) : sI (n : Int) = nI n := rfl
theorem sI_add (a b : Int) : sI a + sI b = sI (a + b) := (Int32.ofInt_add a b).symm
theorem sI_sub (a b : Int) : sI a - sI b = sI (a - b) := (Int32.ofInt_sub a b).symm
theorem sI_mul (a b : Int) : sI a * sI b = sI (a * b) := (Int32.ofInt_mul a b).symm
theorem sI_neg (a : Int) : -sI a = sI (-a) := (Int32.ofInt_neg a).symm
theorem sI_toInt {z : Int} (h1 : -2147483648 ≤ z) (h2 : z < 2147483648) : (sI z).toInt = z := fb_ofI h1 h2
theorem sI_eq {a b : Int} (ha : -2147483648 ≤ a ∧ a < 2147483648) (hb : -2147483648 ≤ b ∧ b < 2147483648) : sI a = sI b ↔ a = b := by
  rw [fa_eq, sI_toInt ha.1 ha.2, sI_toInt hb.1 hb.2]
theorem sI_le {a b : Int} (ha : -2147483648 ≤ a ∧ a < 2147483648) (hb : -2147483648 ≤ b ∧ b < 2147483648) : sI a ≤ sI b ↔ a ≤ b := by
  rw [fa_le, sI_toInt ha.1 ha.2, sI_toInt hb.1 hb.2]
theorem sI_lt {a b : Int} (ha : -2147483648 ≤ a ∧ a < 2147483648) (hb : -2147483648 ≤ b ∧ b < 2147483648) : sI a < sI b ↔ a < b := by
  rw [fa_lt, sI_toInt ha.1 ha.2, sI_toInt hb.1 hb.2]
theorem ix_nI {a n : Nat} (h : a < n) (hn : n < 2 ^ 31) : ix (nI a) n = true := by
  simp only [ix, Bool.and_eq_true, decide_eq_true_eq]
  exact ⟨nI_pos' (by omega), by rw [nI_clamp (by omega)]; exact h⟩
/-- a truth as the machine has it -/
def bI (b : Bool) : Int32 := if b then 1 else 0
theorem bI_t : bI true = 1 := rfl
theorem bI_f : bI false = 0 := rfl
theorem bI_0 {b : Bool} : bI b = 0 ↔ b = false := by cases b <;> decide
theorem bI_1 {b : Bool} : bI b = 1 ↔ b = true := by cases b <;> decide
-- ===== shifts and masks =====
theorem s_l : ∀ n, n < 32 → ((nI n &&& 31).toBitVec.smod 32).toNat = n := by decide +kernel
theorem shl_nI {x j : Nat} (hj : j < 32) (h : x * 2 ^ j < 2 ^ 32) : nI x <<< (nI j &&& 31) = nI (x * 2 ^ j) := pk_shlN _ j (s_l j hj) h
theorem shr_nI {x j : Nat} (hx : x < 2 ^ 31) (hj : j < 32) : nI x >>> (nI j &&& 31) = nI (x / 2 ^ j) := pk_shrN hx _ j (s_l j hj)
theorem bit_nI {x j : Nat} (hx : x < 2 ^ 31) (hj : j < 32) : (nI x >>> (nI j &&& 31)) &&& 1 = nI (if x.testBit j then 1 else 0) := by
  rw [shr_nI hx hj, show (1 : Int32) = nI (2 ^ 1 - 1) from rfl, fa_mask, Nat.testBit_eq_decide_div_mod_eq]
  congr 1
  have : x / 2 ^ j % 2 < 2 := Nat.mod_lt _ (by decide)
  rw [Nat.pow_one]
  by_cases h : x / 2 ^ j % 2 = 1
  · simp [h]
  · have : x / 2 ^ j % 2 = 0 := by omega
    simp [this]
theorem bit_bs {p : Nat → Bool} {n j : Nat} (hn : n ≤ 31) (hj : j < n) : (nI (bs p n) >>> (nI j &&& 31)) &&& 1 = nI (if p j then 1 else 0) := by
  rw [bit_nI (Nat.lt_of_lt_of_le (bs_lt p n) (Nat.pow_le_pow_right (by omega) hn)) (by omega), bs_tb]
  simp [hj]
theorem one_shl {j : Nat} (hj : j < 31) : (1 : Int32) <<< (nI j &&& 31) = nI (2 ^ j) := by
  have h2 : 2 ^ j < 2 ^ 31 := Nat.pow_lt_pow_right (by omega) hj
  have := shl_nI (x := 1) (j := j) (by omega) (by omega)
  rw [Nat.one_mul] at this
  exact this
theorem allBits_nI {n : Nat} (h : n < 31) : f_X3_allBits (nI n) = nI (2 ^ n - 1) := by
  unfold f_X3_allBits
  have h2 : 1 ≤ 2 ^ n := Nat.one_le_two_pow
  rw [one_shl h, show (1 : Int32) = nI 1 from rfl, pk_sub h2]
theorem xor_m1 (b : Nat) : nI b ^^^ (-1) = nI (b ^^^ (2 ^ 32 - 1)) := by
  rw [show (-1 : Int32) = nI (2 ^ 32 - 1) from by decide, fb_xorI]
theorem bs_single {n j : Nat} (h : j < n) : bs (fun i => decide (i = j)) n = 2 ^ j := by
  apply Nat.eq_of_testBit_eq
  intro i
  rw [bs_tb, Nat.testBit_two_pow]
  by_cases e : i = j
  · subst e; simp [h]
  · have : ¬ j = i := fun q => e q.symm
    simp [e, this]
theorem bs_set {p : Nat → Bool} {n j : Nat} (h : j < n) : bs p n ||| 2 ^ j = bs (fun i => p i || decide (i = j)) n := by
  rw [← bs_single h, bs_or]
theorem bs_clear {p : Nat → Bool} {n j : Nat} (hn : n ≤ 32) (h : j < n) : bs p n &&& (2 ^ j ^^^ (2 ^ 32 - 1)) = bs (fun i => p i && !decide (i = j)) n := by
  apply Nat.eq_of_testBit_eq
  intro i
  rw [Nat.testBit_and, Nat.testBit_xor, bs_tb, bs_tb, Nat.testBit_two_pow, Nat.testBit_two_pow_sub_one]
  by_cases hi : i < n
  · have h32 : i < 32 := by omega
    by_cases e : i = j
    · subst e; simp [hi, h32]
    · have : ¬ j = i := fun q => e q.symm
      simp [hi, h32, e, this]
  · simp [hi]
-- ===== loops =====
theorem up {σ R : Type} (F : Nat → Int32 → σ → Option R) (n : Nat) (S : Nat → σ) (res : Option R) (hex : ∀ f, F (f + 1) (nI n) (S n) = res) (hst : ∀ f k, k < n → F (f + 1) (nI k) (S k) = F f (nI (k + 1)) (S (k + 1))) : ∀ (d k fuel : Nat), k + d = n → d < fuel → F fuel (nI k) (S k) = res := by
  intro d
  induction d with
  | zero =>
    intro k fuel hk hf
    obtain ⟨f, rfl⟩ : ∃ f, fuel = f + 1 := ⟨fuel - 1, by omega⟩
    have e : k = n := by omega
    subst e
    exact hex f
  | succ d ih =>
    intro k fuel hk hf
    obtain ⟨f, rfl⟩ : ∃ f, fuel = f + 1 := ⟨fuel - 1, by omega⟩
    rw [hst f k (by omega)]
    exact ih (k + 1) f (by omega) (by omega)
theorem up0 {σ R : Type} (F : Nat → Int32 → σ → Option R) (n : Nat) (hn : n < fu) (S : Nat → σ) (res : Option R) (hex : ∀ f, F (f + 1) (nI n) (S n) = res) (hst : ∀ f k, k < n → F (f + 1) (nI k) (S k) = F f (nI (k + 1)) (S (k + 1))) : F fu (nI 0) (S 0) = res := up F n S res hex hst n 0 fu (by omega) hn
/-- a loop that ends early where p fails -/
theorem up_all {σ R : Type} (F : Nat → Int32 → σ → Option R) (n : Nat) (S : Nat → σ) (good bad : Option R) (p : Nat → Prop) (i0 : Nat) (hi : i0 ≤ n) (hn : n - i0 < fu) (hex : (∀ k, i0 ≤ k → k < n → p k) → ∀ f, F (f + 1) (nI n) (S n) = good) (hst : ∀ f k, i0 ≤ k → k < n → p k → F (f + 1) (nI k) (S k) = F f (nI (k + 1)) (S (k + 1))) (hbad : ∀ f k, i0 ≤ k → k < n → ¬ p k → F (f + 1) (nI k) (S k) = bad) : (F fu (nI i0) (S i0) = good ∧ ∀ k, i0 ≤ k → k < n → p k) ∨ (F fu (nI i0) (S i0) = bad ∧ ∃ k, i0 ≤ k ∧ k < n ∧ ¬ p k) := by
  have key : ∀ (d k fuel : Nat), k + d = n → d < fuel → i0 ≤ k → (∀ j, i0 ≤ j → j < k → p j) → (F fuel (nI k) (S k) = good ∧ ∀ j, i0 ≤ j → j < n → p j) ∨ (F fuel (nI k) (S k) = bad ∧ ∃ j, i0 ≤ j ∧ j < n ∧ ¬ p j) := by
    intro d
    induction d with
    | zero =>
      intro k fuel hk hf h0 hp
      obtain ⟨f, rfl⟩ : ∃ f, fuel = f + 1 := ⟨fuel - 1, by omega⟩
      have e : k = n := by omega
      subst e
      exact Or.inl ⟨hex hp f, hp⟩
    | succ d ih =>
      intro k fuel hk hf h0 hp
      obtain ⟨f, rfl⟩ : ∃ f, fuel = f + 1 := ⟨fuel - 1, by omega⟩
      by_cases hq : p k
      · rw [hst f k h0 (by omega) hq]
        exact ih (k + 1) f (by omega) (by omega) (by omega) (fun j h1 h2 => by
          by_cases e : j = k
          · subst e; exact hq
          · exact hp j h1 (by omega))
      · exact Or.inr ⟨hbad f k h0 (by omega) hq, k, h0, by omega, hq⟩
  exact key (n - i0) i0 fu (by omega) hn (by omega) (fun j h1 h2 => by omega)
theorem fu_val : fu = 5000 := rfl
-- ===== tables =====
def tri (A : Nat → Nat → Int) : Prop := ∀ i j, A i j = 1 ∨ A i j = 0 ∨ A i j = -1
def pl (A : Nat → Nat → Int) (i j : Nat) : Bool := decide (A i j = 1)
def mn (A : Nat → Nat → Int) (i j : Nat) : Bool := decide (A i j = -1)
def XT (I : zMi) (T n : Nat) (A : Nat → Nat → Int) : Prop := T < 12 ∧ n ≤ 12 ∧ I (22 + 3 * T) 2 = nI n ∧ ∀ i, i < n → I (23 + 3 * T) i = nI (bs (pl A i) n) ∧ I (24 + 3 * T) i = nI (bs (mn A i) n)
def MT (K : zMi) (t n : Nat) (A : Nat → Nat → Int) : Prop := t < 10 ∧ n ≤ 12 ∧ K 5 t = nI n ∧ ∀ i j, i < n → j < n → K 6 (144 * t + 12 * i + j) = sI (A i j)
def SG (A : Nat → Nat → Int) (n : Nat) : Prop := ∀ i j, i < n → j < n → A i j ≠ 0
def GR (A : Nat → Nat → Int) (n : Nat) : Prop := ∀ i j, i < n → j < n → (i = j → A i j = 0) ∧ (i ≠ j → A i j ≠ 0 ∧ A i j = A j i)
def RD (A : Nat → Nat → Int) (n : Nat) : Prop := ∀ i j, i + 1 < n → j < n → A (i + 1) j = A i ((j + n - 1) % n)
def nbN (A : Nat → Nat → Int) (n i : Nat) : Nat := fb_ct (mn A i) n
def icN (A : Nat → Nat → Int) (n i k : Nat) : Nat := fb_ct (fun j => mn A i j && mn A k j) n
def EQC (A : Nat → Nat → Int) (n : Nat) (v : Int) : Prop := ∀ i k i' k', k < i → i < n → k' < i' → i' < n → A i k = v → A i' k' = v → icN A n i k = icN A n i' k'
def EV (A : Nat → Nat → Int) (n : Nat) : Prop := (∀ i, i < n → nbN A n i = nbN A n 0) ∧ EQC A n (-1) ∧ EQC A n 1
def dotI (A : Nat → Nat → Int) (n i k : Nat) : Int := fb_si (fun j => A i j * A k j) n
def bpN (A : Nat → Nat → Int) (n : Nat) : Nat := fb_sm (fun i => fb_ct (fun k => decide (dotI A n i k = 0)) i) n
theorem MT_get {K : zMi} {t n : Nat} {A : Nat → Nat → Int} (h : MT K t n A) {i j : Nat} (hi : i < n) (hj : j < n) : f_X4_get (nI t) (nI i) (nI j) K = some (sI (A i j)) := by
  obtain ⟨h1, h2, h3, h4⟩ := h
  unfold f_X4_get
  have e : 144 * nI t + 12 * nI i + nI j = nI (144 * t + 12 * i + j) := by
    rw [show (144 : Int32) = nI 144 from rfl, show (12 : Int32) = nI 12 from rfl, pk_mul, pk_mul, nI_add, nI_add]
  rw [e, ix_nI (by omega) (by omega), if_pos rfl, nI_clamp (by omega), h4 i j hi hj]
theorem XT_number {I : zMi} {T n : Nat} {A : Nat → Nat → Int} (hA : tri A) (h : XT I T n A) {i j : Nat} (hi : i < n) (hj : j < n) : f_X2_number T (nI i) (nI j) I = some (sI (A i j)) := by
  obtain ⟨h1, h2, h3, h4⟩ := h
  unfold f_X2_number
  rw [ix_nI (by omega) (by omega), if_pos rfl, nI_clamp (by omega), (h4 i hi).1, (h4 i hi).2, bit_bs (by omega) hj, bit_bs (by omega) hj]
  rcases hA i j with e | e | e <;> simp [pl, mn, e] <;> decide
