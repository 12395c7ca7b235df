-- ===== four rounds: the model =====
def K9 (K : zMi) (rr : Nat → Nat) : Prop := ∀ k, k < 4 → rr k < 6 ∧ K 9 k = nI (rr k)
def thB (K : zMi) (rr : Nat → Nat) : Nat → Bool := fun k => decide (¬ K 2 (rr k) < 0)
def lkB (K : zMi) (rr : Nat → Nat) : Nat → Bool := fun k => decide (K 2 (rr k) = K 2 (rr 0)) && decide (¬ f_X4_in (K 2 (rr 0)) 1 3 = 0)
theorem M_81 {K : zMi} {rr : Nat → Nat} (t a3 a4 a5 : Int32) (h : K9 K rr) : f_X4_four_81 fu t (nI (rr 0)) a3 a4 a5 1 1 1 0 K = if alB (thB K rr) 4 = true then (if alB (lkB K rr) 4 = true then f_X4_four_200 fu t (nI (rr 0)) a3 a4 a5 1 (K 2 (rr 0)) 0 K else (f_X4_meets 5 K).bind (fun x5 => some (x5.1, x5.2))) else (f_X4_meets 1 K).bind (fun x6 => some (x6.1, x6.2)) := by
  have h00 := h 0 (by omega)
  refine up0 (fun f i (s : Int32 × Int32) => f_X4_four_81 f t (nI (rr 0)) a3 a4 a5 s.1 s.2 1 i K) 4 (by rw [fu_val]; omega) (fun k => (bI (alB (thB K rr) k), bI (alB (lkB K rr) k))) _ ?_ ?_
  · intro f
    show f_X4_four_81 (f + 1) t (nI (rr 0)) a3 a4 a5 (bI _) (bI _) 1 (nI 4) K = _
    rw [f_X4_four_81, if_pos (by decide), ix_nI h00.1 (by omega), if_pos rfl, nI_clamp (by omega)]
    cases alB (thB K rr) 4
    · rfl
    · cases alB (lkB K rr) 4
      · rfl
      · rfl
  · intro f k hk
    show f_X4_four_81 (f + 1) t (nI (rr 0)) a3 a4 a5 (bI _) (bI _) 1 (nI k) K = f_X4_four_81 f t (nI (rr 0)) a3 a4 a5 (bI _) (bI _) 1 (nI (k + 1)) K
    have hk9 := h k hk
    have n4 : ¬ (4 : Int32) ≤ nI k := nI_ge (a := k) (b := 4) hk (by omega)
    have c112 : ∀ s0 : Int32, f_X4_four_112 (f_X4_four_81 f) t (nI (rr 0)) a3 a4 a5 (bI (alB (lkB K rr) k)) 1 (nI k) s0 K = f_X4_four_81 f t (nI (rr 0)) a3 a4 a5 s0 (bI (alB (lkB K rr) (k + 1))) 1 (nI (k + 1)) K := by
      intro s0
      unfold f_X4_four_112
      rw [ix_nI hk (by omega), nI_clamp (by omega), hk9.2, ix_nI hk9.1 (by omega), ix_nI h00.1 (by omega), nI_clamp (by omega), nI_clamp (by omega), nI_1]
      simp only [alB]
      cases alB (lkB K rr) k
      · rfl
      · rw [if_neg (show ¬ bI true = 0 by decide), if_pos trivial, if_pos trivial, if_pos trivial, Bool.true_and]
        unfold lkB
        by_cases g1 : K 2 (rr k) = K 2 (rr 0)
        · rw [if_pos g1, decide_eq_true g1]
          by_cases g2 : f_X4_in (K 2 (rr 0)) 1 3 = 0
          · rw [if_pos g2, decide_eq_false (fun q => q g2)]
            rfl
          · rw [if_neg g2, decide_eq_true g2]
            rfl
        · rw [if_neg g1, decide_eq_false g1]
          rfl
    rw [f_X4_four_81, if_neg n4, ix_nI hk (by omega), nI_clamp (by omega), hk9.2, ix_nI hk9.1 (by omega), nI_clamp (by omega)]
    rw [c112, c112]
    rw [show alB (thB K rr) (k + 1) = (alB (thB K rr) k && thB K rr k) from rfl]
    cases alB (thB K rr) k
    · rfl
    · rw [if_neg (show ¬ bI true = 0 by decide), if_pos rfl, if_pos rfl, Bool.true_and]
      unfold thB
      by_cases g : K 2 (rr k) < 0
      · rw [if_pos g, decide_eq_false (fun q => q g)]
        rfl
      · rw [if_neg g, decide_eq_true g]
        rfl
def syB (K : zMi) (r m : Nat) : Nat → Bool := fun i => decide (i = 0 ∨ K 3 (24 * r + i) = K 3 (24 * r + (m - i)))
def sgB (K : zMi) (r m : Nat) : Bool := alB (fun j => decide (K 3 (24 * r + j) = 1 ∨ K 3 (24 * r + j) = -1)) m
def gdB (K : zMi) (rr : Nat → Nat) (m : Nat) : Nat → Bool := fun k => sgB K (rr k) m && alB (syB K (rr k) m) m
theorem M_235 {K : zMi} {rr : Nat → Nat} {m k : Nat} (k200 : Int32 → Int32 → Int32 → Int32 → Int32 → Int32 → Int32 → Int32 → zMi → Option (Int32 × zMi)) (a1 a2 a3 a4 a5 : Int32) (h : K9 K rr) (hk : k < 4) (hm1 : 1 ≤ m) (hm3 : m ≤ 3) (b : Bool) : f_X4_four_235 k200 fu a1 a2 a3 a4 a5 (bI b) (nI m) (nI k) 1 K = k200 a1 a2 a3 a4 a5 (bI (b && alB (syB K (rr k) m) m)) (nI m) (nI (k + 1)) K := by
  have hk9 := h k hk
  have := upF (fun f i (s : Int32) => f_X4_four_235 k200 f a1 a2 a3 a4 a5 s (nI m) (nI k) i K) m 1 hm1 (by rw [fu_val]; omega) (fun i => bI (b && alB (syB K (rr k) m) i)) (k200 a1 a2 a3 a4 a5 (bI (b && alB (syB K (rr k) m) m)) (nI m) (nI (k + 1)) K) ?_ ?_
  · rw [show alB (syB K (rr k) m) 1 = true by simp [alB, syB], Bool.and_true] at this
    exact this
  · intro f
    show f_X4_four_235 k200 (f + 1) a1 a2 a3 a4 a5 _ (nI m) (nI k) (nI m) K = _
    rw [f_X4_four_235, if_pos (nI_le (Nat.le_refl _) (by omega)), nI_1]
  · intro f i hi1 hi
    show f_X4_four_235 k200 (f + 1) a1 a2 a3 a4 a5 (bI _) (nI m) (nI k) (nI i) K = f_X4_four_235 k200 f a1 a2 a3 a4 a5 (bI _) (nI m) (nI k) (nI (i + 1)) K
    have e2 : nI (24 * rr k + m) - nI i = nI (24 * rr k + (m - i)) := by
      rw [pk_sub (by omega)]
      congr 1
      omega
    rw [f_X4_four_235, if_neg (nI_ge hi (by omega)), ix_nI hk (by omega), nI_clamp (by omega), hk9.2, e24, e24, e2, ix_nI (by omega) (by omega), ix_nI (by omega) (by omega), nI_clamp (by omega), nI_clamp (by omega), nI_1]
    rw [show alB (syB K (rr k) m) (i + 1) = (alB (syB K (rr k) m) i && syB K (rr k) m i) from rfl, ← Bool.and_assoc]
    cases (b && alB (syB K (rr k) m) i)
    · rfl
    · rw [if_neg (show ¬ bI true = 0 by decide), if_pos rfl, if_pos rfl, if_pos rfl, Bool.true_and]
      unfold syB
      by_cases g : K 3 (24 * rr k + i) = K 3 (24 * rr k + (m - i))
      · rw [if_pos g, decide_eq_true (Or.inr g)]
        rfl
      · rw [if_neg g, decide_eq_false (fun w => w.elim (fun q => by omega) g)]
        rfl
theorem M_200 {K : zMi} {rr : Nat → Nat} {m : Nat} (a1 a2 a3 a4 a5 : Int32) (h : K9 K rr) (hs : ∀ k, k < 4 → K 2 (rr k) = nI m) (hm1 : 1 ≤ m) (hm3 : m ≤ 3) : f_X4_four_200 fu a1 a2 a3 a4 a5 1 (nI m) 0 K = if alB (gdB K rr m) 4 = true then f_X4_four_322 fu a1 a2 a3 a4 a5 (nI m) 1 K else (f_X4_meets 3 K).bind (fun x3 => some (x3.1, x3.2)) := by
  refine up0 (fun f i (s : Int32) => f_X4_four_200 f a1 a2 a3 a4 a5 s (nI m) i K) 4 (by rw [fu_val]; omega) (fun k => bI (alB (gdB K rr m) k)) _ ?_ ?_
  · intro f
    show f_X4_four_200 (f + 1) a1 a2 a3 a4 a5 (bI _) (nI m) (nI 4) K = _
    rw [f_X4_four_200, if_pos (by decide)]
    cases alB (gdB K rr m) 4
    · rfl
    · rfl
  · intro f k hk
    show f_X4_four_200 (f + 1) a1 a2 a3 a4 a5 (bI _) (nI m) (nI k) K = f_X4_four_200 f a1 a2 a3 a4 a5 (bI _) (nI m) (nI (k + 1)) K
    have hk9 := h k hk
    have n4 : ¬ (4 : Int32) ≤ nI k := nI_ge (a := k) (b := 4) hk (by omega)
    have z0 := M_235 (f_X4_four_200 f) a1 a2 a3 a4 a5 h hk hm1 hm3 false
    have z1 := M_235 (f_X4_four_200 f) a1 a2 a3 a4 a5 h hk hm1 hm3 true
    rw [bI_f, Bool.false_and] at z0
    rw [bI_t, Bool.true_and] at z1
    rw [f_X4_four_200, if_neg n4, ix_nI hk (by omega), nI_clamp (by omega), hk9.2, M_areSigns hk9.1 (by omega) (hs k hk), Option.bind_some, z0, z1]
    rw [show alB (gdB K rr m) (k + 1) = (alB (gdB K rr m) k && gdB K rr m k) from rfl]
    cases alB (gdB K rr m) k
    · rfl
    · rw [if_neg (show ¬ bI true = 0 by decide), if_pos rfl, Bool.true_and]
      unfold gdB sgB
      cases alB (fun j => decide (K 3 (24 * rr k + j) = 1 ∨ K 3 (24 * rr k + j) = -1)) m
      · rfl
      · rfl
/-- the model's table -/
theorem M_377 {K : zMi} {rr : Nat → Nat} {pp : Nat → Nat → Bool} {t m : Nat} (h : K9 K rr) (hm1 : 1 ≤ m) (hm3 : m ≤ 3) (hp : ∀ k, k < 4 → ∀ j, j < m → K 3 (24 * rr k + j) = sI (sv (pp k) j)) : ∃ K', f_X4_four_377 fu (nI t) (nI m) 0 K = (f_X4_take (nI t) (nI (4 * m)) K').bind (fun x2 => some (x2.1, x2.2)) ∧ (∀ a b, a < 4 * m → b < 4 * m → K' 8 (12 * a + b) = sI (frG pp m a b)) ∧ ∀ a b, a ≠ 8 → K' a b = K a b := by
  have e4 : 4 * nI m = nI (4 * m) := by rw [show (4 : Int32) = nI 4 from rfl, pk_mul]
  refine lp (fun f i K => f_X4_four_377 f (nI t) (nI m) i K) (4 * m) 0 (by omega) (by rw [fu_val]; omega) (fun i K' => (∀ a b, a < 4 * m → b < 4 * m → (a < i ∨ (a = i ∧ b < 0)) → K' 8 (12 * a + b) = sI (frG pp m a b)) ∧ ∀ a b, a ≠ 8 → K' a b = K a b) (fun res => ∃ K', res = (f_X4_take (nI t) (nI (4 * m)) K').bind (fun x2 => some (x2.1, x2.2)) ∧ (∀ a b, a < 4 * m → b < 4 * m → K' 8 (12 * a + b) = sI (frG pp m a b)) ∧ ∀ a b, a ≠ 8 → K' a b = K a b) ?_ ?_ _ ?_
  · intro f s ⟨s1, s2⟩
    refine ⟨s, ?_, fun a b ha hb => s1 a b ha hb (Or.inl ha), s2⟩
    show f_X4_four_377 (f + 1) (nI t) (nI m) (nI (4 * m)) s = _
    rw [f_X4_four_377, e4, if_pos (nI_le (Nat.le_refl _) (by omega))]
  · intro f i s _ hi ⟨s1, s2⟩
    left
    show ∃ s', f_X4_four_377 (f + 1) (nI t) (nI m) (nI i) s = f_X4_four_377 f (nI t) (nI m) (nI (i + 1)) s' ∧ _
    rw [f_X4_four_377, e4, if_neg (nI_ge hi (by omega))]
    refine lp (fun g j K => f_X4_four_389 (f_X4_four_377 f) g (nI t) (nI m) (nI i) j K) (4 * m) 0 (by omega) (by rw [fu_val]; omega) (fun k K' => (∀ a b, a < 4 * m → b < 4 * m → (a < i ∨ (a = i ∧ b < k)) → K' 8 (12 * a + b) = sI (frG pp m a b)) ∧ ∀ a b, a ≠ 8 → K' a b = K a b) (fun res => ∃ s', res = f_X4_four_377 f (nI t) (nI m) (nI (i + 1)) s' ∧ (∀ a b, a < 4 * m → b < 4 * m → (a < i + 1 ∨ (a = i + 1 ∧ b < 0)) → s' 8 (12 * a + b) = sI (frG pp m a b)) ∧ ∀ a b, a ≠ 8 → s' a b = K a b) ?_ ?_ _ ⟨s1, s2⟩
    · intro g s ⟨u1, u2⟩
      refine ⟨s, ?_, fun a b ha hb hab => u1 a b ha hb (by omega), u2⟩
      show f_X4_four_389 (f_X4_four_377 f) (g + 1) (nI t) (nI m) (nI i) (nI (4 * m)) s = _
      rw [f_X4_four_389, e4, if_pos (nI_le (Nat.le_refl _) (by omega)), nI_1]
    · intro g k s _ hk ⟨u1, u2⟩
      left
      refine ⟨wI s 8 (12 * i + k) (sI (frG pp m i k)), ?_, b12 (G := frG pp m) (by omega) u1 (by omega), fun a b ha => by rw [wI_off (by omega), u2 a b ha]⟩
      show f_X4_four_389 (f_X4_four_377 f) (g + 1) (nI t) (nI m) (nI i) (nI k) s = f_X4_four_389 (f_X4_four_377 f) g (nI t) (nI m) (nI i) (nI (k + 1)) _
      have bi : i / m < 4 := Nat.div_lt_of_lt_mul (by rw [Nat.mul_comm]; exact hi)
      have bk : k / m < 4 := Nat.div_lt_of_lt_mul (by rw [Nat.mul_comm]; exact hk)
      have mi : i % m < m := Nat.mod_lt _ (by omega)
      have mk : k % m < m := Nat.mod_lt _ (by omega)
      obtain ⟨q, hq, q1, q2, q3⟩ : ∃ q, q < 16 ∧ q / 4 = i / m ∧ q % 4 = k / m ∧ q = 4 * (i / m) + k / m := ⟨4 * (i / m) + k / m, by generalize i / m = x at *; generalize k / m = y at *; omega, by generalize i / m = x at *; generalize k / m = y at *; omega, by generalize i / m = x at *; generalize k / m = y at *; omega, rfl⟩
      obtain ⟨p1, p2⟩ := part_eq q hq
      have hf := h (fp q) (fp_lt q hq)
      have hfl := fp_lt q hq
      have mm : (k % m + m - i % m) % m < m := Nat.mod_lt _ (by omega)
      have c423 : ∀ s0 : Int32, s0 = sI (fs q) → f_X4_four_423 (f_X4_four_377 f) (f_X4_four_389 (f_X4_four_377 f) g) (nI t) (nI m) (nI i) (nI k) (f_X4_partAt (nI (q / 4)) (nI (q % 4))) s0 s = f_X4_four_389 (f_X4_four_377 f) g (nI t) (nI m) (nI i) (nI (k + 1)) (wI s 8 (12 * i + k) (sI (frG pp m i k))) := by
        intro s0 hs0
        have d1 : nI k - nI k / nI m * nI m = nI (k % m) := pk_rem (by omega) (by omega) (by omega)
        have d2 : nI i - nI i / nI m * nI m = nI (i % m) := pk_rem (by omega) (by omega) (by omega)
        have d3 : nI (k % m) - nI (i % m) + nI m = nI (k % m + m - i % m) := by
          rw [← sI_nI, ← sI_nI, ← sI_nI, ← sI_nI, sI_sub, sI_add]
          congr 1
          omega
        have d4 : nI (k % m + m - i % m) - nI (k % m + m - i % m) / nI m * nI m = nI ((k % m + m - i % m) % m) := pk_rem (by omega) (by omega) (by omega)
        unfold f_X4_four_423
        rw [p1, ix_nI (fp_lt q hq) (by omega), if_pos rfl, if_neg (nI_ne0 (by omega) (by omega)), nI_clamp (by omega), d1, d2, d3, d4, u2 9 _ (by omega), hf.2, e24, e12, ix_nI (by omega) (by omega), if_pos rfl, ix_nI (by omega) (by omega), if_pos rfl, nI_clamp (by omega), nI_clamp (by omega), u2 3 _ (by omega), hp _ (fp_lt q hq) _ mm, hs0, sI_mul, nI_1]
        unfold frG
        rw [← q3]
      rw [f_X4_four_389, e4, if_neg (nI_ge hk (by omega)), if_neg (nI_ne0 (by omega) (by omega)), pk_div (by omega) (by omega) (by omega), pk_div (by omega) (by omega) (by omega), ← q1, ← q2]
      by_cases g0 : (0 : Int32) ≤ f_X4_partAt (nI (q / 4)) (nI (q % 4))
      · rw [if_pos g0] at p2
        rw [if_pos g0, c423 _ p2]
      · rw [if_neg g0] at p2
        rw [if_neg g0, c423 _ p2]
  · exact ⟨fun a b _ _ hab => by omega, fun _ _ _ => rfl⟩
