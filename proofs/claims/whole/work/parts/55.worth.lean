-- ===== worth: clearing without fractions =====
def b1 (A : Nat → Nat → Int) : Prop := ∀ i j, -1 ≤ A i j ∧ A i j ≤ 1
theorem mm_b {A : Nat → Nat → Int} (hA : b1 A) {k : Nat} (hk : k < 12) (i j : Nat) : -479001600 ≤ mm k A i j ∧ mm k A i j ≤ 479001600 := by
  have h1 := dd_bound (k + 1) (bd A k i j) (fun a b => hA _ _)
  have h2 := fct_12 (n := k + 1) (by omega)
  unfold mm
  omega
theorem dd_b {A : Nat → Nat → Int} (hA : b1 A) {k : Nat} (hk : k ≤ 12) : -479001600 ≤ dd k A ∧ dd k A ≤ 479001600 := by
  have h1 := dd_bound k A hA
  have h2 := fct_12 hk
  omega
/-- the cleared table at step k tells minors of B -/
def CT (s : zMl) (n k : Nat) (B : Nat → Nat → Int) : Prop := ∀ i j, k ≤ i → i < n → k ≤ j → j < n → s 10 (12 * i + j) = lI (mm k B i j)
theorem mul_b {x y c : Int} (hx : -c ≤ x ∧ x ≤ c) (hy : -c ≤ y ∧ y ≤ c) : -(c * c) ≤ x * y ∧ x * y ≤ c * c := by
  have hc : 0 ≤ c := by omega
  have e : (x * y).natAbs = x.natAbs * y.natAbs := Int.natAbs_mul x y
  have h1 : x.natAbs ≤ c.natAbs := by omega
  have h2 : y.natAbs ≤ c.natAbs := by omega
  have h3 := Nat.mul_le_mul h1 h2
  have e2 : (c * c).natAbs = c.natAbs * c.natAbs := Int.natAbs_mul c c
  have e3 : 0 ≤ c * c := Int.mul_nonneg hc hc
  omega
theorem M_elim {n k : Nat} {B : Nat → Nat → Int} (hn : n ≤ 12) (hk : k + 1 < n) (hB : b1 B) (hd : ∀ s, 1 ≤ s → s ≤ k → dd s B ≠ 0) (k8 : Int32 → Int64 → Int32 → Int32 → zMl → Option (Int64 × zMl)) (sg : Int32) {s : zMl} (hs : CT s n k B) : ∃ s', f_X4_clear_159 k8 fu (nI n) (lI (dd k B)) sg (nI k) (nI (k + 1)) s = k8 (nI n) (lI (dd (k + 1) B)) sg (nI (k + 1)) s' ∧ CT s' n (k + 1) B ∧ ∀ a b, a ≠ 10 → s' a b = s a b := by
  have d0 : dd k B ≠ 0 := by
    by_cases g : k = 0
    · subst g
      show (1 : Int) ≠ 0
      decide
    · exact hd k (by omega) (Nat.le_refl _)
  have dbd := dd_b hB (k := k) (by omega)
  have l0 : ¬ lI (dd k B) = 0 := fun q => d0 ((lI_eq (b := 0) (by omega) (by omega)).mp q)
  -- rows k + 1 .. i - 1 are done, of row i the places k + 1 .. j - 1
  refine lp (fun f i (J : zMl) => f_X4_clear_159 k8 f (nI n) (lI (dd k B)) sg (nI k) i J) n (k + 1) (by omega) (by rw [fu_val]; omega) (fun i J' => (∀ a b, k + 1 ≤ a → a < i → k + 1 ≤ b → b < n → J' 10 (12 * a + b) = lI (mm (k + 1) B a b)) ∧ (∀ a b, (a ≠ 10 ∨ ∀ c d, k + 1 ≤ c → c < i → k + 1 ≤ d → d < n → b ≠ 12 * c + d) → J' a b = s a b)) (fun res => ∃ s', res = k8 (nI n) (lI (dd (k + 1) B)) sg (nI (k + 1)) s' ∧ CT s' n (k + 1) B ∧ ∀ a b, a ≠ 10 → s' a b = s a b) ?_ ?_ _ ⟨fun a b h1 h2 => by omega, fun _ _ _ => rfl⟩
  · intro f w ⟨w1, w2⟩
    refine ⟨w, ?_, fun i j h1 h2 h3 h4 => w1 i j h1 h2 h3 h4, fun a b ha => w2 a b (Or.inl ha)⟩
    show f_X4_clear_159 k8 (f + 1) (nI n) (lI (dd k B)) sg (nI k) (nI n) w = _
    rw [f_X4_clear_159, if_pos (nI_le (Nat.le_refl _) (by omega)), e12, ix_nI (by omega) (by omega), if_pos rfl, nI_clamp (by omega), w2 10 (12 * k + k) (Or.inr (fun c d _ _ _ _ => by omega)), hs k k (Nat.le_refl _) (by omega) (Nat.le_refl _) (by omega), mm_lead, nI_1]
  · intro f i w hi1 hi ⟨w1, w2⟩
    left
    show ∃ s', f_X4_clear_159 k8 (f + 1) (nI n) (lI (dd k B)) sg (nI k) (nI i) w = f_X4_clear_159 k8 f (nI n) (lI (dd k B)) sg (nI k) (nI (i + 1)) s' ∧ _
    rw [f_X4_clear_159, if_neg (nI_ge hi (by omega)), nI_1]
    refine lp (fun g j (J : zMl) => f_X4_clear_171 k8 (f_X4_clear_159 k8 f) g (nI n) (lI (dd k B)) sg (nI k) (nI i) j J) n (k + 1) (by omega) (by rw [fu_val]; omega) (fun j J' => (∀ a b, k + 1 ≤ a → k + 1 ≤ b → b < n → (a < i ∨ (a = i ∧ b < j)) → J' 10 (12 * a + b) = lI (mm (k + 1) B a b)) ∧ (∀ a b, (a ≠ 10 ∨ ∀ c d, k + 1 ≤ c → k + 1 ≤ d → d < n → (c < i ∨ (c = i ∧ d < j)) → b ≠ 12 * c + d) → J' a b = s a b)) (fun res => ∃ s', res = f_X4_clear_159 k8 f (nI n) (lI (dd k B)) sg (nI k) (nI (i + 1)) s' ∧ (∀ a b, k + 1 ≤ a → a < i + 1 → k + 1 ≤ b → b < n → s' 10 (12 * a + b) = lI (mm (k + 1) B a b)) ∧ (∀ a b, (a ≠ 10 ∨ ∀ c d, k + 1 ≤ c → c < i + 1 → k + 1 ≤ d → d < n → b ≠ 12 * c + d) → s' a b = s a b)) ?_ ?_ _ ⟨fun a b h1 h2 h3 h4 => w1 a b h1 (by omega) h2 h3, fun a b h1 => w2 a b (by
      rcases h1 with q | q
      · exact Or.inl q
      · exact Or.inr (fun c d q1 q2 q3 q4 => q c d q1 q3 q4 (Or.inl q2)))⟩
    · intro g z ⟨z1, z2⟩
      refine ⟨z, ?_, fun a b h1 h2 h3 h4 => z1 a b h1 h3 h4 (by omega), fun a b h1 => z2 a b (by
        rcases h1 with q | q
        · exact Or.inl q
        · exact Or.inr (fun c d q1 q2 q3 q4 => q c d q1 (by omega) q2 q3))⟩
      show f_X4_clear_171 k8 (f_X4_clear_159 k8 f) (g + 1) (nI n) (lI (dd k B)) sg (nI k) (nI i) (nI n) z = _
      rw [f_X4_clear_171, if_pos (nI_le (Nat.le_refl _) (by omega)), nI_1]
    · intro g j z hj1 hj ⟨z1, z2⟩
      left
      have r1 : z 10 (12 * i + j) = lI (mm k B i j) := by rw [z2 10 _ (Or.inr (fun c d _ _ _ _ => by omega)), hs i j (by omega) hi (by omega) hj]
      have r2 : z 10 (12 * k + k) = lI (mm k B k k) := by rw [z2 10 _ (Or.inr (fun c d _ _ _ _ => by omega)), hs k k (by omega) (by omega) (by omega) (by omega)]
      have r3 : z 10 (12 * i + k) = lI (mm k B i k) := by rw [z2 10 _ (Or.inr (fun c d _ _ _ _ => by omega)), hs i k (by omega) hi (by omega) (by omega)]
      have r4 : z 10 (12 * k + j) = lI (mm k B k j) := by rw [z2 10 _ (Or.inr (fun c d _ _ _ _ => by omega)), hs k j (by omega) (by omega) (by omega) hj]
      have sy := syl k B i j hd (by omega) (by omega)
      have c1 := mm_b hB (k := k + 1) (by omega) i j
      have pb := mul_b (c := 479001600) (x := dd k B) (y := mm (k + 1) B i j) (by omega) (by omega)
      have val : (lI (mm k B i j) * lI (mm k B k k) - lI (mm k B i k) * lI (mm k B k j)) / lI (dd k B) = lI (mm (k + 1) B i j) := by
        rw [lI_mul, lI_mul, lI_sub, ← sy]
        exact lI_div d0 (by omega) (by omega) (by omega) (by omega) (by omega) (by omega)
      refine ⟨wJ z 10 (12 * i + j) (lI (mm (k + 1) B i j)), ?_, fun a b h1 h2 h3 h4 => ?_, fun a b h1 => ?_⟩
      · show f_X4_clear_171 k8 (f_X4_clear_159 k8 f) (g + 1) (nI n) (lI (dd k B)) sg (nI k) (nI i) (nI j) z = f_X4_clear_171 k8 (f_X4_clear_159 k8 f) g (nI n) (lI (dd k B)) sg (nI k) (nI i) (nI (j + 1)) _
        rw [f_X4_clear_171, if_neg (nI_ge hj (by omega)), e12, ix_nI (by omega) (by omega), if_pos rfl, e12, ix_nI (by omega) (by omega), if_pos rfl, e12, ix_nI (by omega) (by omega), if_pos rfl, e12, ix_nI (by omega) (by omega), if_pos rfl, if_neg l0, nI_clamp (by omega), nI_clamp (by omega), nI_clamp (by omega), nI_clamp (by omega), r1, r2, r3, r4, val, nI_1]
      · by_cases g2 : a = i ∧ b = j
        · rw [wJ_here rfl (by rw [g2.1, g2.2]), g2.1, g2.2]
        · rw [wJ_off (by omega), z1 a b h1 h2 h3 (by omega)]
      · rw [wJ_off (fun q => by
          rcases h1 with w | w
          · exact absurd q w
          · exact w i j hi1 hj1 hj (by omega)), z2 a b (by
          rcases h1 with w | w
          · exact Or.inl w
          · exact Or.inr (fun c d q1 q2 q3 q4 => w c d q1 q2 q3 (by omega)))]
theorem sx_le {A : Nat → Nat → Int} {p k a : Nat} (h1 : a < k) (h2 : k ≤ p) : sx A p k a = A a := by
  unfold sx
  rw [if_neg (by omega), if_neg (by omega)]
theorem sx_dd {A : Nat → Nat → Int} {p k s : Nat} (h1 : s ≤ k) (h2 : k ≤ p) : dd s (sx A p k) = dd s A := dd_cong (fun i j hi _ => by rw [sx_le (by omega) h2])
theorem sx_mm {A : Nat → Nat → Int} {p k : Nat} (h2 : k ≤ p) (i j : Nat) : mm k (sx A p k) i j = mm k A (if i = p then k else if i = k then p else i) j := by
  unfold mm
  refine dd_cong (fun a b ha hb => ?_)
  unfold bd sel
  by_cases g : a < k
  · rw [if_pos g, if_pos g, sx_le g h2]
  · rw [if_neg g, if_neg g]
    unfold sx
    by_cases g1 : i = p
    · rw [if_pos g1, if_pos g1]
    · rw [if_neg g1, if_neg g1]
      by_cases g2 : i = k
      · rw [if_pos g2, if_pos g2]
      · rw [if_neg g2, if_neg g2]
theorem sx_b1 {A : Nat → Nat → Int} (h : b1 A) (p k : Nat) : b1 (sx A p k) := by
  intro i j
  unfold sx
  split
  · exact h _ _
  · split
    · exact h _ _
    · exact h _ _
def sgI (b : Bool) : Int := if b then -1 else 1
theorem sgI_not (b : Bool) : - sI (sgI b) = sI (sgI (!b)) := by cases b <;> decide
theorem M_swap {n k p : Nat} {B : Nat → Nat → Int} (hn : n ≤ 12) (hk : k < p) (hp : p < n) (bf : Int64) (sg : Bool) (k8 : Int32 → Int64 → Int32 → Int32 → zMl → Option (Int64 × zMl)) {s : zMl} (hs : CT s n k B) : ∃ s', f_X4_clear_61 k8 fu (nI n) bf (sI (sgI sg)) (nI k) (nI p) 0 s = f_X4_clear_159 k8 fu (nI n) bf (sI (sgI (!sg))) (nI k) (nI (k + 1)) s' ∧ CT s' n k (sx B p k) ∧ ∀ a b, a ≠ 10 → s' a b = s a b := by
  have npk : ¬ nI p = nI k := fun q => by have := (nI_eq (by omega) (by omega)).mp q; omega
  refine lp (fun f j (J : zMl) => f_X4_clear_61 k8 f (nI n) bf (sI (sgI sg)) (nI k) (nI p) j J) n 0 (by omega) (by rw [fu_val]; omega) (fun j J' => (∀ b, b < j → J' 10 (12 * p + b) = s 10 (12 * k + b) ∧ J' 10 (12 * k + b) = s 10 (12 * p + b)) ∧ (∀ b, j ≤ b → b < n → J' 10 (12 * p + b) = s 10 (12 * p + b) ∧ J' 10 (12 * k + b) = s 10 (12 * k + b)) ∧ ∀ a b, (a ≠ 10 ∨ ∀ d, d < n → b ≠ 12 * p + d ∧ b ≠ 12 * k + d) → J' a b = s a b) (fun res => ∃ s', res = f_X4_clear_159 k8 fu (nI n) bf (sI (sgI (!sg))) (nI k) (nI (k + 1)) s' ∧ CT s' n k (sx B p k) ∧ ∀ a b, a ≠ 10 → s' a b = s a b) ?_ ?_ _ ⟨fun b hb => by omega, fun _ _ _ => ⟨rfl, rfl⟩, fun _ _ _ => rfl⟩
  · intro f w ⟨w1, _, w3⟩
    refine ⟨w, ?_, fun i j h1 h2 h3 h4 => ?_, fun a b ha => w3 a b (Or.inl ha)⟩
    · show f_X4_clear_61 k8 (f + 1) (nI n) bf (sI (sgI sg)) (nI k) (nI p) (nI n) w = _
      rw [f_X4_clear_61, if_pos (nI_le (Nat.le_refl _) (by omega)), if_neg npk, sgI_not, nI_1]
    · rw [sx_mm (by omega)]
      by_cases g1 : i = p
      · subst g1
        rw [if_pos rfl, (w1 j h4).1, hs k j (Nat.le_refl _) (by omega) h3 h4]
      · rw [if_neg g1]
        by_cases g2 : i = k
        · subst g2
          rw [if_pos rfl, (w1 j h4).2, hs p j (by omega) hp h3 h4]
        · rw [if_neg g2, w3 10 _ (Or.inr (fun d hd => by omega)), hs i j h1 h2 h3 h4]
  · intro f j w _ hj ⟨w1, w2, w3⟩
    left
    refine ⟨wJ (wJ w 10 (12 * p + j) (w 10 (12 * k + j))) 10 (12 * k + j) (w 10 (12 * p + j)), ?_, fun b hb => ?_, fun b h1 h2 => ?_, fun a b h1 => ?_⟩
    · show f_X4_clear_61 k8 (f + 1) (nI n) bf (sI (sgI sg)) (nI k) (nI p) (nI j) w = f_X4_clear_61 k8 f (nI n) bf (sI (sgI sg)) (nI k) (nI p) (nI (j + 1)) _
      rw [f_X4_clear_61, if_neg (nI_ge hj (by omega)), if_neg npk, e12, ix_nI (by omega) (by omega), if_pos rfl, e12, ix_nI (by omega) (by omega), if_pos rfl, nI_clamp (by omega), nI_clamp (by omega), nI_1 j]
    · by_cases g : b = j
      · subst g
        rw [wJ_off (by omega), wJ_here rfl rfl, wJ_here rfl rfl]
        exact ⟨(w2 b (Nat.le_refl _) hj).2, (w2 b (Nat.le_refl _) hj).1⟩
      · rw [wJ_off (by omega), wJ_off (by omega), wJ_off (by omega), wJ_off (by omega)]
        exact w1 b (by omega)
    · rw [wJ_off (by omega), wJ_off (by omega), wJ_off (by omega), wJ_off (by omega)]
      exact w2 b (by omega) h2
    · rw [wJ_off (fun q => by
        rcases h1 with w | w
        · exact absurd q w
        · exact (w j hj).2), wJ_off (fun q => by
        rcases h1 with w | w
        · exact absurd q w
        · exact (w j hj).1), w3 a b h1]
theorem M_clear {n : Nat} {A : Nat → Nat → Int} (h0 : 0 < n) (hn : n ≤ 12) (hA : b1 A) {M : zMl} (hM : CT M n 0 A) : ∃ M', f_X4_clear (nI n) M = some (lI (dd n A), M') ∧ ∀ a b, a ≠ 10 → M' a b = M a b := by
  unfold f_X4_clear
  have hc : nI n - 1 = nI (n - 1) := pk_sub (b := 1) h0
  refine lp (fun f k (x : Int64 × Int32 × zMl) => f_X4_clear_8 f (nI n) x.1 x.2.1 k x.2.2) (n - 1) 0 (by omega) (by rw [fu_val]; omega) (fun k x => ∃ B sg, b1 B ∧ x.2.1 = sI (sgI sg) ∧ sgI sg * dd n B = dd n A ∧ x.1 = lI (dd k B) ∧ (∀ s, 1 ≤ s → s ≤ k → dd s B ≠ 0) ∧ CT x.2.2 n k B ∧ ∀ a b, a ≠ 10 → x.2.2 a b = M a b) (fun res => ∃ M', res = some (lI (dd n A), M') ∧ ∀ a b, a ≠ 10 → M' a b = M a b) ?_ ?_ (1, 1, M) ⟨A, false, hA, rfl, Int.one_mul _, rfl, fun s h1 h2 => by omega, hM, fun _ _ _ => rfl⟩
  · intro f x ⟨B, sg, hB, x1, x2, x3, x4, x5, x6⟩
    refine ⟨x.2.2, ?_, x6⟩
    show f_X4_clear_8 (f + 1) (nI n) x.1 x.2.1 (nI (n - 1)) x.2.2 = _
    have e : 12 * nI (n - 1) + nI n - 1 = nI (12 * (n - 1) + (n - 1)) := by
      rw [e12, show (1 : Int32) = nI 1 from rfl, pk_sub (by omega)]
      congr 1
      omega
    rw [f_X4_clear_8, hc, if_pos (nI_le (Nat.le_refl _) (by omega)), e, ix_nI (by omega) (by omega), if_pos rfl, nI_clamp (by omega), x5 (n - 1) (n - 1) (Nat.le_refl _) (by omega) (Nat.le_refl _) (by omega), mm_lead, show n - 1 + 1 = n by omega, x1, sI_l (by unfold sgI; split <;> omega) (by unfold sgI; split <;> omega), lI_mul, x2]
  · intro f k x _ hk ⟨B, sg, hB, x1, x2, x3, x4, x5, x6⟩
    show (∃ s' : Int64 × Int32 × zMl, f_X4_clear_8 (f + 1) (nI n) x.1 x.2.1 (nI k) x.2.2 = f_X4_clear_8 f (nI n) s'.1 s'.2.1 (nI (k + 1)) s'.2.2 ∧ _) ∨ (∃ M', f_X4_clear_8 (f + 1) (nI n) x.1 x.2.1 (nI k) x.2.2 = _ ∧ _)
    rw [f_X4_clear_8, hc, if_neg (nI_ge hk (by omega)), x1, x3]
    have zr : ∀ p, k ≤ p → p < n → (lg_cmp (x.2.2 10 (12 * p + k)) 0 = 0 ↔ mm k B p k = 0) := fun p h1 h2 => by
      have b := mm_b hB (k := k) (by omega) p k
      rw [lg_cmp_eq, x5 p k h1 h2 (Nat.le_refl _) (by omega), show (0 : Int64) = lI 0 from rfl, lI_eq (by omega) (by omega)]
    refine lp (fun g p (_ : Unit) => f_X4_clear_20 (f_X4_clear_8 f) g (nI n) (lI (dd k B)) (sI (sgI sg)) (nI k) p x.2.2) n k (by omega) (by rw [fu_val]; omega) (fun p _ => ∀ q, k ≤ q → q < p → mm k B q k = 0) (fun res => (∃ s' : Int64 × Int32 × zMl, res = f_X4_clear_8 f (nI n) s'.1 s'.2.1 (nI (k + 1)) s'.2.2 ∧ ∃ B sg, b1 B ∧ s'.2.1 = sI (sgI sg) ∧ sgI sg * dd n B = dd n A ∧ s'.1 = lI (dd (k + 1) B) ∧ (∀ s, 1 ≤ s → s ≤ k + 1 → dd s B ≠ 0) ∧ CT s'.2.2 n (k + 1) B ∧ ∀ a b, a ≠ 10 → s'.2.2 a b = M a b) ∨ (∃ M', res = some (lI (dd n A), M') ∧ ∀ a b, a ≠ 10 → M' a b = M a b)) ?_ ?_ () (fun q h1 h2 => by omega)
    · intro g _ hz
      right
      refine ⟨x.2.2, ?_, x6⟩
      show f_X4_clear_20 (f_X4_clear_8 f) (g + 1) (nI n) (lI (dd k B)) (sI (sgI sg)) (nI k) (nI n) x.2.2 = _
      rw [f_X4_clear_20, if_pos (nI_le (Nat.le_refl _) (by omega)), if_pos rfl, ← x2, dd_none k n B x4 (by omega) hz, Int.mul_zero]
      rfl
    · intro g p _ hp1 hp hz
      by_cases nz : mm k B p k = 0
      · left
        refine ⟨(), ?_, fun q h1 h2 => ?_⟩
        · show f_X4_clear_20 (f_X4_clear_8 f) (g + 1) (nI n) (lI (dd k B)) (sI (sgI sg)) (nI k) (nI p) x.2.2 = f_X4_clear_20 (f_X4_clear_8 f) g (nI n) (lI (dd k B)) (sI (sgI sg)) (nI k) (nI (p + 1)) x.2.2
          rw [f_X4_clear_20, if_neg (nI_ge hp (by omega)), e12, ix_nI (by omega) (by omega), if_pos rfl, nI_clamp (by omega), if_pos ((zr p hp1 hp).mpr nz), nI_1]
        · by_cases g2 : q = p
          · rw [g2]; exact nz
          · exact hz q h1 (by omega)
      · right
        left
        have npn : ¬ nI p = nI n := fun q => by have := (nI_eq (by omega) (by omega)).mp q; omega
        show ∃ s' : Int64 × Int32 × zMl, f_X4_clear_20 (f_X4_clear_8 f) (g + 1) (nI n) (lI (dd k B)) (sI (sgI sg)) (nI k) (nI p) x.2.2 = _ ∧ _
        rw [f_X4_clear_20, if_neg (nI_ge hp (by omega)), e12, ix_nI (by omega) (by omega), if_pos rfl, nI_clamp (by omega), if_neg (fun q => nz ((zr p hp1 hp).mp q)), if_neg npn]
        by_cases hpk : p = k
        · subst hpk
          have sk : f_X4_clear_61 (f_X4_clear_8 f) fu (nI n) (lI (dd p B)) (sI (sgI sg)) (nI p) (nI p) 0 x.2.2 = f_X4_clear_159 (f_X4_clear_8 f) fu (nI n) (lI (dd p B)) (sI (sgI sg)) (nI p) (nI (p + 1)) x.2.2 := by
            rw [show fu = 4999 + 1 from rfl, f_X4_clear_61, if_neg (show ¬ nI n ≤ 0 from nI_nle h0 (by omega)), if_pos rfl, if_pos rfl, nI_1]
            rfl
          obtain ⟨s', y1, y2, y3⟩ := M_elim hn (by omega) hB x4 (f_X4_clear_8 f) (sI (sgI sg)) x5
          rw [sk, y1]
          refine ⟨(_, _, s'), rfl, B, sg, hB, rfl, x2, rfl, fun q h1 h2 => ?_, y2, fun a b ha => (y3 a b ha).trans (x6 a b ha)⟩
          by_cases g2 : q = p + 1
          · rw [g2, ← mm_lead]; exact nz
          · exact x4 q h1 (by omega)
        · obtain ⟨s1, z1, z2, z3⟩ := M_swap hn (show k < p by omega) hp (lI (dd k B)) sg (f_X4_clear_8 f) x5
          have x4' : ∀ s, 1 ≤ s → s ≤ k → dd s (sx B p k) ≠ 0 := fun s h1 h2 => by rw [sx_dd h2 (by omega)]; exact x4 s h1 h2
          obtain ⟨s', y1, y2, y3⟩ := M_elim hn (by omega) (sx_b1 hB p k) x4' (f_X4_clear_8 f) (sI (sgI (!sg))) z2
          rw [sx_dd (Nat.le_refl _) (by omega)] at y1
          rw [z1, y1]
          refine ⟨(_, _, s'), rfl, sx B p k, !sg, sx_b1 hB p k, rfl, ?_, rfl, fun q h1 h2 => ?_, y2, fun a b ha => (y3 a b ha).trans ((z3 a b ha).trans (x6 a b ha))⟩
          · rw [dd_sx B hp (by omega) hpk, ← x2]
            cases sg <;> simp [sgI]
          · by_cases g2 : q = k + 1
            · rw [g2, ← mm_lead, sx_mm (by omega), if_neg (fun w => hpk w.symm), if_pos rfl]
              exact nz
            · exact x4' q h1 (by omega)
theorem s_worth : so_worth RR := by
  intro I J K M h a1
  rcases T_cases h a1 with ⟨e1, e2, e3⟩ | ⟨t, ht, rfl, e1, e2, e3, e4, e5, e6, e7⟩ | ⟨t, n, A, k, ht, rfl, e1, e2, e3, e4, e5, e6, e7, h0, hA, hX, hM, hK, k1, k2⟩
  · exact ⟨-1, I, J, K, M, by simp only [f_X3_worth, e1, if_true], by simp only [f_X4_worth, e3, Option.bind_some, if_neg v0m1], h⟩
  · obtain ⟨I', K', y1, y2, h'⟩ := RR_found h 1 (by simp)
    refine ⟨-3, I', J, K', M, ?_, ?_, h'⟩
    · simp only [f_X3_worth, e1, e3, e4, e5, y1, Option.bind_some, if_neg v10, if_true]
    · simp only [f_X4_worth, e7, y2, Option.bind_some, if_neg v0m3]
  · have hn := hX.2.1
    have w2 : K 5 t = nI n := hM.2.2.1
    obtain ⟨J', x1, x2, x3⟩ := X_tellOf hA hX h0 J
    have p0 : pol n A 0 = dd n A := by
      unfold pol sgn
      rw [Nat.sub_zero, qc_top]
      by_cases g : n % 2 = 0
      · rw [if_pos g]; omega
      · rw [if_neg g]; omega
    have mod : ∃ M', f_X4_worth_22 fu (nI t) (nI n) 0 K M = some (1, K, wJ M' 0 3 (lI (dd n A))) ∧ ∀ a b, a ≠ 10 → M' a b = M a b := by
      refine lp (fun f i (J : zMl) => f_X4_worth_22 f (nI t) (nI n) i K J) n 0 (by omega) (by rw [fu_val]; omega) (fun i J' => KT J' 10 n A i 0 ∧ ∀ a b, a ≠ 10 → J' a b = M a b) (fun res => ∃ M', res = some (1, K, wJ M' 0 3 (lI (dd n A))) ∧ ∀ a b, a ≠ 10 → M' a b = M a b) ?_ ?_ _ ⟨KT_0 M 10 n A, fun _ _ _ => rfl⟩
      · intro f s ⟨s1, s2⟩
        obtain ⟨M', c1, c2⟩ := M_clear h0 hn (fun i j => tri_b hA i j) (M := s) (fun i j _ hi _ hj => by rw [mm_0]; exact s1 i j hi hj (Or.inl hi))
        refine ⟨M', ?_, fun a b ha => by rw [c2 a b ha, s2 a b ha]⟩
        show f_X4_worth_22 (f + 1) (nI t) (nI n) (nI n) K s = _
        rw [f_X4_worth_22, if_pos (nI_le (Nat.le_refl _) (by omega)), c1, Option.bind_some]
      · intro f i s _ hi ⟨s1, s2⟩
        left
        show ∃ s', f_X4_worth_22 (f + 1) (nI t) (nI n) (nI i) K s = f_X4_worth_22 f (nI t) (nI n) (nI (i + 1)) K s' ∧ _
        rw [f_X4_worth_22, if_neg (nI_ge hi (by omega))]
        refine lp (fun g j (J : zMl) => f_X4_worth_31 (f_X4_worth_22 f) g (nI t) (nI n) (nI i) j K J) n 0 (by omega) (by rw [fu_val]; omega) (fun k J' => KT J' 10 n A i k ∧ ∀ a b, a ≠ 10 → J' a b = M a b) (fun res => ∃ s', res = f_X4_worth_22 f (nI t) (nI n) (nI (i + 1)) K s' ∧ KT s' 10 n A (i + 1) 0 ∧ ∀ a b, a ≠ 10 → s' a b = M a b) ?_ ?_ _ ⟨s1, s2⟩
        · intro g s ⟨u1, u2⟩
          refine ⟨s, ?_, KT_next u1, u2⟩
          show f_X4_worth_31 (f_X4_worth_22 f) (g + 1) (nI t) (nI n) (nI i) (nI n) K s = _
          rw [f_X4_worth_31, if_pos (nI_le (Nat.le_refl _) (by omega)), nI_1]
        · intro g k s _ hk ⟨u1, u2⟩
          left
          have tb := tri_b hA i k
          refine ⟨wJ s 10 (12 * i + k) (lI (A i k)), ?_, KT_put u1 hn hk rfl, fun a b ha => by rw [wJ_off (by omega), u2 a b ha]⟩
          show f_X4_worth_31 (f_X4_worth_22 f) (g + 1) (nI t) (nI n) (nI i) (nI k) K s = f_X4_worth_31 (f_X4_worth_22 f) g (nI t) (nI n) (nI i) (nI (k + 1)) K _
          rw [f_X4_worth_31, if_neg (nI_ge hk (by omega)), MT_get hM hi hk, Option.bind_some, e12, ix_nI (by omega) (by omega), if_pos rfl, nI_clamp (by omega), sI_l (by omega) (by omega), nI_1]
    obtain ⟨M', y1, y2⟩ := mod
    refine ⟨1, wI I 3 3 (nI n), wJ J' 0 10 (lI (dd n A)), K, wJ M' 0 3 (lI (dd n A)), ?_, ?_, ?_⟩
    · simp only [f_X3_worth, e1, e3, e4, e5, x1, Option.bind_some, if_neg v10, if_true]
      rw [show (0 : Int32).toNatClampNeg = 0 from rfl, x2 0 (by omega), p0]
    · simp only [f_X4_worth, e7, e3, e4, w2, Option.bind_some, if_pos v00, if_true]
      exact y1
    · refine RR_scr h (fun a b _ h3 _ => wI_off (by omega)) (fun _ _ _ _ => rfl) ⟨?_, ?_, ?_⟩
      · rw [wJ_here rfl rfl, wJ_here rfl rfl]
      · rw [wJ_off (by omega), wJ_off (by omega), x3 _ _ (by omega) (by omega) (by omega), y2 _ _ (by omega)]
        exact h.2.2.2.1.2.1
      · rw [wJ_off (by omega), wJ_off (by omega), x3 _ _ (by omega) (by omega) (by omega), y2 _ _ (by omega)]
        exact h.2.2.2.1.2.2
