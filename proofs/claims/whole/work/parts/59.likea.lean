-- ===== like: the orders =====
def od (a j : Nat) : Nat := a / 4 ^ j % 4
def orF (a : Nat) : Nat → Nat
  | 0 => 0
  | k + 1 => orF a k ||| 2 ^ od a k
def ordB (a n : Nat) : Bool := decide (orF a n = 2 ^ n - 1)
theorem od_lt (a j : Nat) : od a j < 4 := Nat.mod_lt _ (by omega)
theorem od_eq : ∀ a, a < 256 → ∀ j, j < 4 → (nI a >>> ((2 * nI j) &&& 31)) &&& 3 = nI (od a j) := by decide +kernel
theorem od_228 : ∀ j, j < 4 → od 228 j = j := by decide
theorem isOrd_eq : ∀ n, n < 5 → ∀ a, a < 4 ^ n → f_X4_isOrder (nI a) (nI n) = some (bI (ordB a n)) := by decide +kernel
theorem ord_lt : ∀ n, n < 5 → ∀ a, a < 4 ^ n → ordB a n = true → ∀ j, j < n → od a j < n := by decide +kernel
theorem ord_injB : ∀ n, n < 5 → ∀ a, a < 4 ^ n → (alB (fun j => decide (od a j < n)) n && alB (fun j => alB (fun i => !decide (od a i = od a j)) j) n) = true → ordB a n = true := by decide +kernel
theorem ord_inj {n a : Nat} (hn : n < 5) (ha : a < 4 ^ n) (h1 : ∀ j, j < n → od a j < n) (h2 : ∀ j, j < n → ∀ i, i < j → od a i ≠ od a j) : ordB a n = true := by
  refine ord_injB n hn a ha ?_
  rw [Bool.and_eq_true, alB_iff, alB_iff]
  refine ⟨fun j hj => decide_eq_true (h1 j hj), fun j hj => ?_⟩
  rw [alB_iff]
  intro i hi
  rw [decide_eq_false (h2 j hj i hi)]
  rfl
theorem ord_ct : ∀ n, n < 5 → ∀ a, a < 4 ^ n → ordB a n = true → ∀ x, x < 16 → fb_ct (fun j => x.testBit (od a j)) n = fb_ct (fun j => x.testBit j) n := by decide +kernel
theorem ord_cts {n a : Nat} (hn : n < 5) (ha : a < 4 ^ n) (h : ordB a n = true) (p : Nat → Bool) : fb_ct (fun j => p (od a j)) n = fb_ct p n := by
  have := ord_ct n hn a ha h (bs p 4) (bs_lt p 4)
  have e1 : fb_ct (fun j => (bs p 4).testBit (od a j)) n = fb_ct (fun j => p (od a j)) n := fb_ct_cong (fun j _ => by rw [bs_tb, decide_eq_true (od_lt a j), Bool.true_and])
  have e2 : fb_ct (fun j => (bs p 4).testBit j) n = fb_ct p n := fb_ct_cong (fun j hj => by rw [bs_tb, decide_eq_true (show j < 4 by omega), Bool.true_and])
  rw [← e1, this, e2]
theorem od_mk : ∀ a, a < 4 → ∀ b, b < 4 → ∀ c, c < 4 → ∀ d, d < 4 → od (a + 4 * b + 16 * c + 64 * d) 0 = a ∧ od (a + 4 * b + 16 * c + 64 * d) 1 = b ∧ od (a + 4 * b + 16 * c + 64 * d) 2 = c ∧ od (a + 4 * b + 16 * c + 64 * d) 3 = d := by decide +kernel
theorem od_code {n : Nat} (hn : n < 5) (g : Nat → Nat) (hg : ∀ j, j < n → g j < n) : ∃ a, a < 4 ^ n ∧ ∀ j, j < n → od a j = g j := by
  have c5 : n = 0 ∨ n = 1 ∨ n = 2 ∨ n = 3 ∨ n = 4 := by omega
  have hz : ∀ j, (if j < n then g j else 0) < 4 := fun j => by
    by_cases q : j < n
    · rw [if_pos q]; have := hg j q; omega
    · rw [if_neg q]; omega
  have m := od_mk _ (hz 0) _ (hz 1) _ (hz 2) _ (hz 3)
  refine ⟨(if 0 < n then g 0 else 0) + 4 * (if 1 < n then g 1 else 0) + 16 * (if 2 < n then g 2 else 0) + 64 * (if 3 < n then g 3 else 0), ?_, fun j hj => ?_⟩
  · have h0 := hz 0
    have h1 := hz 1
    have h2 := hz 2
    have h3 := hz 3
    rcases c5 with rfl | rfl | rfl | rfl | rfl
    · simp
    · simp at *; omega
    · simp at *; omega
    · simp at *; omega
    · simp at *; omega
  · have c4 : j = 0 ∨ j = 1 ∨ j = 2 ∨ j = 3 := by omega
    obtain ⟨m0, m1, m2, m3⟩ := m
    rcases c4 with rfl | rfl | rfl | rfl
    · rw [m0, if_pos hj]
    · rw [m1, if_pos hj]
    · rw [m2, if_pos hj]
    · rw [m3, if_pos hj]
/-- equal counts: one is the other in another order -/
theorem ct_perm : ∀ (n : Nat) (f g : Nat → Nat), (∀ c, fb_ct (fun j => decide (f j = c)) n = fb_ct (fun j => decide (g j = c)) n) → ∃ τ : Nat → Nat, (∀ j, j < n → τ j < n) ∧ (∀ j, j < n → ∀ i, i < j → τ i ≠ τ j) ∧ ∀ j, j < n → f (τ j) = g j := by
  intro n
  induction n with
  | zero => exact fun f g _ => ⟨fun _ => 0, fun j hj => by omega, fun j hj => by omega, fun j hj => by omega⟩
  | succ n ih =>
    intro f g h
    obtain ⟨k, hk, hfk⟩ : ∃ k, k < n + 1 ∧ f k = g n := by
      have h1 := h (g n)
      have pos : 0 < fb_ct (fun j => decide (g j = g n)) (n + 1) := by
        rw [fb_ct_succ, decide_eq_true rfl]
        simp
      rw [← h1] at pos
      have key : ∀ m, 0 < fb_ct (fun j => decide (f j = g n)) m → ∃ k, k < m ∧ f k = g n := by
        intro m
        induction m with
        | zero => intro q; exact absurd q (by simp [fb_ct])
        | succ m im =>
          intro q
          by_cases c : f m = g n
          · exact ⟨m, by omega, c⟩
          · rw [fb_ct_succ, decide_eq_false c] at q
            obtain ⟨k, hk, e⟩ := im (by simpa using q)
            exact ⟨k, by omega, e⟩
      exact key _ pos
    obtain ⟨τ, t1, t2, t3⟩ := ih (fun j => if j = k then f n else f j) g (by
      intro c
      have hc := h c
      rw [fb_ct_succ, fb_ct_succ] at hc
      by_cases hkn : k = n
      · subst hkn
        rw [hfk] at hc
        rw [fb_ct_cong (q := fun j => decide (f j = c)) (fun j hj => by rw [if_neg (by omega)])]
        omega
      · have u := fb_ct_upd (fun j => decide (f j = c)) (decide (f n = c)) (i := k) (n := n) (by omega)
        rw [fb_ct_cong (q := fun j => if j = k then decide (f n = c) else decide (f j = c)) (fun j hj => by by_cases q : j = k <;> simp [q])]
        rw [hfk] at u
        omega)
    refine ⟨fun j => if j = n then k else if τ j = k then n else τ j, fun j hj => ?_, fun j hj i hi => ?_, fun j hj => ?_⟩
    · by_cases e : j = n
      · simp only [if_pos e]; exact hk
      · have := t1 j (by omega)
        simp only [if_neg e]
        by_cases e2 : τ j = k
        · rw [if_pos e2]; omega
        · rw [if_neg e2]; omega
    · have ei : ¬ i = n := by omega
      have ti := t1 i (by omega)
      simp only [if_neg ei]
      by_cases e : j = n
      · simp only [if_pos e]
        by_cases e2 : τ i = k
        · rw [if_pos e2]; omega
        · rw [if_neg e2]; exact e2
      · have tj := t1 j (by omega)
        have tij := t2 j (by omega) i hi
        simp only [if_neg e]
        by_cases e2 : τ i = k
        · rw [if_pos e2]
          by_cases e3 : τ j = k
          · exact absurd (e2.trans e3.symm) tij
          · rw [if_neg e3]; omega
        · rw [if_neg e2]
          by_cases e3 : τ j = k
          · rw [if_pos e3]; omega
          · rw [if_neg e3]; exact tij
    · by_cases e : j = n
      · simp only [if_pos e]; rw [e]; exact hfk
      · have := t3 j (by omega)
        simp only [if_neg e]
        by_cases e2 : τ j = k
        · rw [if_pos e2]
          simp only [e2, if_true] at this
          exact this
        · rw [if_neg e2]
          simp only [if_neg e2] at this
          exact this
-- ===== like: the columns =====
def kcd (n c : Nat) : Nat := (if c % 2 = 1 then c ^^^ (2 ^ n - 1) else c) / 2
theorem kcd_lt : ∀ n, n < 5 → ∀ c, c < 2 ^ n → kcd n c < 8 := by decide +kernel
theorem kcd_iff : ∀ n, n < 5 → ∀ c, c < 2 ^ n → ∀ d, d < 2 ^ n → (kcd n c = kcd n d ↔ ∀ i, i < n → (c.testBit i ^^ c.testBit 0) = (d.testBit i ^^ d.testBit 0)) := by decide +kernel
theorem kd_odd : ∀ n, n < 5 → ∀ c, c < 2 ^ n → c % 2 = 1 → (nI c &&& 1) = 1 ∧ (1 : Int32) <<< ((3 * ((nI c ^^^ f_X3_allBits (nI n)) >>> ((1 : Int32) &&& 31))) &&& 31) = nI (8 ^ kcd n c) := by decide +kernel
theorem kd_even : ∀ n, n < 5 → ∀ c, c < 2 ^ n → ¬ c % 2 = 1 → ¬ (nI c &&& 1) = 1 ∧ (1 : Int32) <<< ((3 * (nI c >>> ((1 : Int32) &&& 31))) &&& 31) = nI (8 ^ kcd n c) := by decide +kernel
def tl8 (f : Nat → Nat) : Nat → Nat
  | 0 => 0
  | k + 1 => tl8 f k + 8 ^ f k
theorem tl8_ct (f : Nat → Nat) : ∀ n, (∀ j, j < n → f j < 8) → tl8 f n = fb_ct (fun j => decide (f j = 0)) n + 8 * fb_ct (fun j => decide (f j = 1)) n + 64 * fb_ct (fun j => decide (f j = 2)) n + 512 * fb_ct (fun j => decide (f j = 3)) n + 4096 * fb_ct (fun j => decide (f j = 4)) n + 32768 * fb_ct (fun j => decide (f j = 5)) n + 262144 * fb_ct (fun j => decide (f j = 6)) n + 2097152 * fb_ct (fun j => decide (f j = 7)) n := by
  intro n
  induction n with
  | zero => intro _; rfl
  | succ n ih =>
    intro h
    have := ih (fun j hj => h j (by omega))
    have hn := h n (by omega)
    simp only [tl8, fb_ct_succ, this]
    have c8 : f n = 0 ∨ f n = 1 ∨ f n = 2 ∨ f n = 3 ∨ f n = 4 ∨ f n = 5 ∨ f n = 6 ∨ f n = 7 := by omega
    rcases c8 with e | e | e | e | e | e | e | e <;> rw [e] <;> simp <;> omega
theorem tl8_iff {f g : Nat → Nat} {n : Nat} (hn : n < 5) (hf : ∀ j, j < n → f j < 8) (hg : ∀ j, j < n → g j < 8) : tl8 f n = tl8 g n ↔ ∀ c, fb_ct (fun j => decide (f j = c)) n = fb_ct (fun j => decide (g j = c)) n := by
  constructor
  · intro h c
    rw [tl8_ct f n hf, tl8_ct g n hg] at h
    have b := fun (f : Nat → Nat) c => fb_ct_le (fun j => decide (f j = c)) n
    have f0 := b f 0; have f1 := b f 1; have f2 := b f 2; have f3 := b f 3; have f4 := b f 4; have f5 := b f 5; have f6 := b f 6; have f7 := b f 7
    have g0 := b g 0; have g1 := b g 1; have g2 := b g 2; have g3 := b g 3; have g4 := b g 4; have g5 := b g 5; have g6 := b g 6; have g7 := b g 7
    clear b
    by_cases hc : c < 8
    · have c8 : c = 0 ∨ c = 1 ∨ c = 2 ∨ c = 3 ∨ c = 4 ∨ c = 5 ∨ c = 6 ∨ c = 7 := by omega
      rcases c8 with e | e | e | e | e | e | e | e <;> subst e <;> omega
    · exact fb_ct_cong (fun j hj => by
        have := hf j hj
        have := hg j hj
        rw [decide_eq_false (by omega), decide_eq_false (by omega)])
  · intro h
    rw [tl8_ct f n hf, tl8_ct g n hg]
    simp only [h]
theorem tl8_le (f : Nat → Nat) : ∀ n, (∀ j, j < n → f j < 8) → tl8 f n ≤ n * 8 ^ 7
  | 0, _ => by simp [tl8]
  | n + 1, h => by
    have := tl8_le f n (fun j hj => h j (by omega))
    have h2 : 8 ^ f n ≤ 8 ^ 7 := Nat.pow_le_pow_right (by omega) (by have := h n (by omega); omega)
    simp only [tl8]
    omega
