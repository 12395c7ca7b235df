-- ===== exact division of longs =====
theorem lI_div {d q : Int} (hd : d ≠ 0) (h1 : -4611686018427387904 ≤ d * q) (h2 : d * q < 4611686018427387904) (h3 : -4611686018427387904 ≤ d) (h4 : d < 4611686018427387904) (h5 : -4611686018427387904 ≤ q) (h6 : q < 4611686018427387904) : lI (d * q) / lI d = lI q := by
  rw [fa_eq64, Int64.toInt_div, lI_toInt (by omega) (by omega), lI_toInt (by omega) (by omega), lI_toInt (by omega) (by omega), Int.mul_tdiv_cancel_left _ hd]
  exact fb_bmodL (by omega) (by omega)
-- ===== places in a table of n by n =====
theorem pl_lt {i j n : Nat} (hi : i < n) (hj : j < n) (hn : n ≤ 12) : i * n + j < 144 := by
  have h1 : (i + 1) * n ≤ n * n := Nat.mul_le_mul_right n hi
  have h2 : n * n ≤ 12 * 12 := Nat.mul_le_mul hn hn
  rw [Nat.succ_mul] at h1
  omega
theorem pl_inj {i j a b n : Nat} (hj : j < n) (hb : b < n) (h : i * n + j = a * n + b) : i = a ∧ j = b := by
  have e1 : (i * n + j) / n = i := by
    rw [Nat.mul_comm, Nat.mul_add_div (by omega), Nat.div_eq_of_lt hj, Nat.add_zero]
  have e2 : (a * n + b) / n = a := by
    rw [Nat.mul_comm, Nat.mul_add_div (by omega), Nat.div_eq_of_lt hb, Nat.add_zero]
  have : i = a := by rw [← e1, h, e2]
  subst this
  exact ⟨rfl, by omega⟩
theorem eIN (i n j : Nat) : nI i * nI n + nI j = nI (i * n + j) := by rw [pk_mul, nI_add]
/-- a table of longs in the cell c, row by row, so far -/
def JT (s : zMl) (c n : Nat) (G : Nat → Nat → Int) (i k : Nat) : Prop := ∀ a b, a < n → b < n → (a < i ∨ (a = i ∧ b < k)) → s c (a * n + b) = lI (G a b)
theorem JT_put {s : zMl} {c n i k : Nat} {G : Nat → Nat → Int} (h : JT s c n G i k) (hk : k < n) {v : Int64} (hv : v = lI (G i k)) : JT (wJ s c (i * n + k) v) c n G i (k + 1) := by
  intro a b ha hb hab
  by_cases g : a = i ∧ b = k
  · rw [wJ_here rfl (by rw [g.1, g.2]), hv, g.1, g.2]
  · rw [wJ_off (fun _ q => g (by have := pl_inj hb hk q; exact ⟨this.1, this.2⟩)), h a b ha hb (by omega)]
theorem JT_next {s : zMl} {c n i : Nat} {G : Nat → Nat → Int} (h : JT s c n G i n) : JT s c n G (i + 1) 0 := fun a b ha hb hab => h a b ha hb (by omega)
theorem JT_0 (s : zMl) (c n : Nat) (G : Nat → Nat → Int) : JT s c n G 0 0 := fun a b _ _ hab => by omega
section PX
variable {I : zMi} {T n : Nat} {A : Nat → Nat → Int}
theorem X_beginPart (J : zMl) (hn : n ≤ 12) (hd : I 3 3 = nI n) : ∃ J', f_X0_beginPart I J = some J' ∧ JT J' 5 n dl n 0 ∧ ∀ a b, a ≠ 5 → J' a b = J a b := by
  unfold f_X0_beginPart
  refine lp (fun f i J => f_X0_beginPart_2 I f i J) n 0 (by omega) (by rw [fu_val]; omega) (fun i J' => JT J' 5 n dl i 0 ∧ ∀ a b, a ≠ 5 → J' a b = J a b) (fun res => ∃ J', res = some J' ∧ JT J' 5 n dl n 0 ∧ ∀ a b, a ≠ 5 → J' a b = J a b) ?_ ?_ _ ⟨JT_0 J 5 n dl, fun _ _ _ => rfl⟩
  · intro f s ⟨s1, s2⟩
    refine ⟨s, ?_, s1, s2⟩
    show f_X0_beginPart_2 I (f + 1) (nI n) s = _
    rw [f_X0_beginPart_2, hd, if_pos (nI_le (Nat.le_refl _) (by omega))]
  · intro f i s _ hi ⟨s1, s2⟩
    left
    show ∃ s', f_X0_beginPart_2 I (f + 1) (nI i) s = f_X0_beginPart_2 I f (nI (i + 1)) s' ∧ _
    rw [f_X0_beginPart_2, hd, if_neg (nI_ge hi (by omega))]
    refine lp (fun g j J => f_X0_beginPart_12 I (f_X0_beginPart_2 I f) g (nI i) j J) n 0 (by omega) (by rw [fu_val]; omega) (fun k J' => JT J' 5 n dl i k ∧ ∀ a b, a ≠ 5 → J' a b = J a b) (fun res => ∃ s', res = f_X0_beginPart_2 I f (nI (i + 1)) s' ∧ JT s' 5 n dl (i + 1) 0 ∧ ∀ a b, a ≠ 5 → s' a b = J a b) ?_ ?_ _ ⟨s1, s2⟩
    · intro g s ⟨u1, u2⟩
      refine ⟨s, ?_, JT_next u1, u2⟩
      show f_X0_beginPart_12 I (f_X0_beginPart_2 I f) (g + 1) (nI i) (nI n) s = _
      rw [f_X0_beginPart_12, hd, if_pos (nI_le (Nat.le_refl _) (by omega)), nI_1]
    · intro g k s _ hk ⟨u1, u2⟩
      left
      have hl := pl_lt hi hk hn
      refine ⟨wJ s 5 (i * n + k) (lI (dl i k)), ?_, JT_put u1 hk rfl, fun a b ha => by rw [wJ_off (by omega), u2 a b ha]⟩
      show f_X0_beginPart_12 I (f_X0_beginPart_2 I f) (g + 1) (nI i) (nI k) s = f_X0_beginPart_12 I (f_X0_beginPart_2 I f) g (nI i) (nI (k + 1)) _
      rw [f_X0_beginPart_12, hd, if_neg (nI_ge hk (by omega)), eIN, ix_nI hl (by omega), if_pos rfl, nI_clamp (by omega), nI_1]
      unfold dl
      by_cases gg : i = k
      · rw [if_pos (by rw [gg]), if_pos gg]
        rfl
      · rw [if_neg (fun q => gg ((nI_eq (by omega) (by omega)).mp q)), if_neg gg, if_pos rfl]
        rfl
theorem X_multiply (hA : tri A) (hX : XT I T n A) {J : zMl} {P : Nat → Nat → Int} (hd : I 3 3 = nI n) (hP : JT J 5 n P n 0) : ∃ J', f_X0_multiply T I J = some J' ∧ JT J' 6 n (fun i j => fb_si (fun l => A i l * P l j) n) n 0 ∧ ∀ a b, a ≠ 6 → J' a b = J a b := by
  have hn := hX.2.1
  unfold f_X0_multiply
  refine lp (fun f i J => f_X0_multiply_2 I f T i J) n 0 (by omega) (by rw [fu_val]; omega) (fun i J' => JT J' 6 n (fun i j => fb_si (fun l => A i l * P l j) n) i 0 ∧ ∀ a b, a ≠ 6 → J' a b = J a b) (fun res => ∃ J', res = some J' ∧ JT J' 6 n (fun i j => fb_si (fun l => A i l * P l j) n) n 0 ∧ ∀ a b, a ≠ 6 → J' a b = J a b) ?_ ?_ _ ⟨JT_0 J 6 n _, fun _ _ _ => rfl⟩
  · intro f s ⟨s1, s2⟩
    refine ⟨s, ?_, s1, s2⟩
    show f_X0_multiply_2 I (f + 1) T (nI n) s = _
    rw [f_X0_multiply_2, hd, if_pos (nI_le (Nat.le_refl _) (by omega))]
  · intro f i s _ hi ⟨s1, s2⟩
    left
    show ∃ s', f_X0_multiply_2 I (f + 1) T (nI i) s = f_X0_multiply_2 I f T (nI (i + 1)) s' ∧ _
    rw [f_X0_multiply_2, hd, if_neg (nI_ge hi (by omega))]
    refine lp (fun g j J => f_X0_multiply_12 I (f_X0_multiply_2 I f) g T (nI i) j J) n 0 (by omega) (by rw [fu_val]; omega) (fun k J' => JT J' 6 n (fun i j => fb_si (fun l => A i l * P l j) n) i k ∧ ∀ a b, a ≠ 6 → J' a b = J a b) (fun res => ∃ s', res = f_X0_multiply_2 I f T (nI (i + 1)) s' ∧ JT s' 6 n (fun i j => fb_si (fun l => A i l * P l j) n) (i + 1) 0 ∧ ∀ a b, a ≠ 6 → s' a b = J a b) ?_ ?_ _ ⟨s1, s2⟩
    · intro g s ⟨u1, u2⟩
      refine ⟨s, ?_, JT_next u1, u2⟩
      show f_X0_multiply_12 I (f_X0_multiply_2 I f) (g + 1) T (nI i) (nI n) s = _
      rw [f_X0_multiply_12, hd, if_pos (nI_le (Nat.le_refl _) (by omega)), nI_1]
    · intro g k s _ hk ⟨u1, u2⟩
      left
      have hl := pl_lt hi hk hn
      refine ⟨wJ s 6 (i * n + k) (lI (fb_si (fun l => A i l * P l k) n)), ?_, JT_put u1 hk rfl, fun a b ha => by rw [wJ_off (by omega), u2 a b ha]⟩
      show f_X0_multiply_12 I (f_X0_multiply_2 I f) (g + 1) T (nI i) (nI k) s = f_X0_multiply_12 I (f_X0_multiply_2 I f) g T (nI i) (nI (k + 1)) _
      rw [f_X0_multiply_12, hd, if_neg (nI_ge hk (by omega))]
      refine up0 (fun w l (a : Int64) => f_X0_multiply_26 I (f_X0_multiply_2 I f) (f_X0_multiply_12 I (f_X0_multiply_2 I f) g) w T (nI i) (nI k) a l s) n (by rw [fu_val]; omega) (fun m => lI (fb_si (fun l => A i l * P l k) m)) _ ?_ ?_
      · intro w
        show f_X0_multiply_26 I (f_X0_multiply_2 I f) (f_X0_multiply_12 I (f_X0_multiply_2 I f) g) (w + 1) T (nI i) (nI k) _ (nI n) s = _
        rw [f_X0_multiply_26, hd, if_pos (nI_le (Nat.le_refl _) (by omega)), eIN, ix_nI hl (by omega), if_pos rfl, nI_clamp (by omega), nI_1]
      · intro w l hl'
        show f_X0_multiply_26 I (f_X0_multiply_2 I f) (f_X0_multiply_12 I (f_X0_multiply_2 I f) g) (w + 1) T (nI i) (nI k) _ (nI l) s = f_X0_multiply_26 I (f_X0_multiply_2 I f) (f_X0_multiply_12 I (f_X0_multiply_2 I f) g) w T (nI i) (nI k) _ (nI (l + 1)) s
        have hl2 := pl_lt hl' hk hn
        have tb := tri_b hA i l
        rw [f_X0_multiply_26, hd, if_neg (nI_ge hl' (by omega)), XT_number hA hX hi hl', Option.bind_some, eIN, ix_nI hl2 (by omega), if_pos rfl, nI_clamp (by omega), u2 _ _ (by omega), hP l k hl' hk (Or.inl hl'), sI_l (by omega) (by omega), lI_mul, lI_add, nI_1]
        rfl
theorem X_trace {J : zMl} {P : Nat → Nat → Int} (hn : n ≤ 12) (hd : I 3 3 = nI n) (hP : JT J 6 n P n 0) : f_X0_trace I J = some (lI (fb_si (fun i => P i i) n)) := by
  unfold f_X0_trace
  refine up0 (fun f i (a : Int64) => f_X0_trace_4 I J f a i) n (by rw [fu_val]; omega) (fun m => lI (fb_si (fun i => P i i) m)) _ ?_ ?_
  · intro f
    show f_X0_trace_4 I J (f + 1) _ (nI n) = _
    rw [f_X0_trace_4, hd, if_pos (nI_le (Nat.le_refl _) (by omega))]
  · intro f i hi
    show f_X0_trace_4 I J (f + 1) _ (nI i) = f_X0_trace_4 I J f _ (nI (i + 1))
    have hl := pl_lt hi hi hn
    rw [f_X0_trace_4, hd, if_neg (nI_ge hi (by omega)), eIN, ix_nI hl (by omega), if_pos rfl, nI_clamp (by omega), hP i i hi hi (Or.inl hi), lI_add, nI_1]
    rfl
theorem X_takeProduct {J : zMl} {P : Nat → Nat → Int} (q : Int) (hn : n ≤ 12) (hd : I 3 3 = nI n) (hP : JT J 6 n P n 0) : ∃ J', f_X0_takeProduct (lI q) I J = some J' ∧ JT J' 5 n (fun i j => P i j + (if i = j then q else 0)) n 0 ∧ ∀ a b, a ≠ 5 → J' a b = J a b := by
  unfold f_X0_takeProduct
  refine lp (fun f i J => f_X0_takeProduct_2 I f (lI q) i J) n 0 (by omega) (by rw [fu_val]; omega) (fun i J' => JT J' 5 n (fun i j => P i j + (if i = j then q else 0)) i 0 ∧ ∀ a b, a ≠ 5 → J' a b = J a b) (fun res => ∃ J', res = some J' ∧ JT J' 5 n (fun i j => P i j + (if i = j then q else 0)) n 0 ∧ ∀ a b, a ≠ 5 → J' a b = J a b) ?_ ?_ _ ⟨JT_0 J 5 n _, fun _ _ _ => rfl⟩
  · intro f s ⟨s1, s2⟩
    refine ⟨s, ?_, s1, s2⟩
    show f_X0_takeProduct_2 I (f + 1) (lI q) (nI n) s = _
    rw [f_X0_takeProduct_2, hd, if_pos (nI_le (Nat.le_refl _) (by omega))]
  · intro f i s _ hi ⟨s1, s2⟩
    left
    show ∃ s', f_X0_takeProduct_2 I (f + 1) (lI q) (nI i) s = f_X0_takeProduct_2 I f (lI q) (nI (i + 1)) s' ∧ _
    rw [f_X0_takeProduct_2, hd, if_neg (nI_ge hi (by omega))]
    refine lp (fun g j J => f_X0_takeProduct_13 I (f_X0_takeProduct_2 I f) g (lI q) (nI i) j J) n 0 (by omega) (by rw [fu_val]; omega) (fun k J' => JT J' 5 n (fun i j => P i j + (if i = j then q else 0)) i k ∧ ∀ a b, a ≠ 5 → J' a b = J a b) (fun res => ∃ s', res = f_X0_takeProduct_2 I f (lI q) (nI (i + 1)) s' ∧ JT s' 5 n (fun i j => P i j + (if i = j then q else 0)) (i + 1) 0 ∧ ∀ a b, a ≠ 5 → s' a b = J a b) ?_ ?_ _ ⟨s1, s2⟩
    · intro g s ⟨u1, u2⟩
      refine ⟨s, ?_, JT_next u1, u2⟩
      show f_X0_takeProduct_13 I (f_X0_takeProduct_2 I f) (g + 1) (lI q) (nI i) (nI n) s = _
      rw [f_X0_takeProduct_13, hd, if_pos (nI_le (Nat.le_refl _) (by omega)), nI_1]
    · intro g k s _ hk ⟨u1, u2⟩
      left
      have hl := pl_lt hi hk hn
      refine ⟨wJ s 5 (i * n + k) (lI (P i k + (if i = k then q else 0))), ?_, JT_put u1 hk rfl, fun a b ha => by rw [wJ_off (by omega), u2 a b ha]⟩
      show f_X0_takeProduct_13 I (f_X0_takeProduct_2 I f) (g + 1) (lI q) (nI i) (nI k) s = f_X0_takeProduct_13 I (f_X0_takeProduct_2 I f) g (lI q) (nI i) (nI (k + 1)) _
      rw [f_X0_takeProduct_13, hd, if_neg (nI_ge hk (by omega)), eIN, ix_nI hl (by omega), if_pos rfl, nI_clamp (by omega), u2 _ _ (by omega), hP i k hi hk (Or.inl hi), nI_1, show (0 : Int64) = lI 0 from rfl, lI_add, lI_add]
      by_cases gg : i = k
      · rw [if_pos (by rw [gg]), if_pos gg]
      · rw [if_neg (fun q => gg ((nI_eq (by omega) (by omega)).mp q)), if_neg gg]
end PX
def sgn (n : Nat) : Int := if n % 2 = 0 then 1 else -1
def pol (n : Nat) (A : Nat → Nat → Int) (k : Nat) : Int := sgn n * qc n A (n - k)
theorem qc_b {A : Nat → Nat → Int} (hA : tri A) {n : Nat} (hn : n ≤ 12) (k : Nat) : -1961990553600 ≤ qc n A k ∧ qc n A k ≤ 1961990553600 := by
  have h1 := dt_bound n dl (fun i j => - A i j) (fun i j => by unfold dl; split <;> omega) (fun i j => by have := tri_b hA i j; omega) k
  have h2 := f2_12 hn
  unfold qc
  omega
/-- the next coefficient -/
theorem q_div {A : Nat → Nat → Int} (hA : tri A) {n k : Nat} (hn : n ≤ 12) (hk : k < 12) : (- lI (fb_si (fun i => fb_si (fun c => A i c * Bc n A k c i) n) n)) / (nI (k + 1)).toInt64 = lI (qc n A (k + 1)) := by
  have h := q_step (n := n) A k
  have b := qc_b hA hn (k + 1)
  have e : (nI (k + 1)).toInt64 = lI ((k : Int) + 1) := by
    rw [← sI_nI, sI_l (by omega) (by omega)]
    congr 1
  rw [lI_neg, ← h, e]
  have bd : -(12 * 1961990553600) ≤ ((k : Int) + 1) * qc n A (k + 1) ∧ ((k : Int) + 1) * qc n A (k + 1) ≤ 12 * 1961990553600 := by
    rcases (show k = 0 ∨ k = 1 ∨ k = 2 ∨ k = 3 ∨ k = 4 ∨ k = 5 ∨ k = 6 ∨ k = 7 ∨ k = 8 ∨ k = 9 ∨ k = 10 ∨ k = 11 by omega) with rfl | rfl | rfl | rfl | rfl | rfl | rfl | rfl | rfl | rfl | rfl | rfl <;> omega
  exact lI_div (by omega) (by omega) (by omega) (by omega) (by omega) (by omega) (by omega)
theorem X_tellOf {I : zMi} {T n : Nat} {A : Nat → Nat → Int} (hA : tri A) (hX : XT I T n A) (h0 : 0 < n) (J : zMl) : ∃ J', f_X0_tellOf T I J = some (wI I 3 3 (nI n), J') ∧ (∀ k, k ≤ n → J' 4 k = lI (pol n A k)) ∧ ∀ a b, a ≠ 4 → a ≠ 5 → a ≠ 6 → J' a b = J a b := by
  have hn := hX.2.1
  have hd : (wI I 3 3 (nI n)) 3 3 = nI n := wI_here rfl rfl
  have hX' : XT (wI I 3 3 (nI n)) T n A := XT_cong (wI_off (by omega)) (fun b => wI_off (by omega)) (fun b => wI_off (by omega)) hX
  unfold f_X0_tellOf
  rw [hX.2.2.1]
  obtain ⟨Ja, a1, a2, a3⟩ := X_beginPart (I := wI I 3 3 (nI n)) (n := n) J hn hd
  rw [a1, Option.bind_some, hd, ix_nI (by omega) (by omega), if_pos rfl, nI_clamp (by omega)]
  -- the coefficients, as of x with the table taken from it
  refine lp (fun f k (J : zMl) => f_X0_tellOf_24 f T k (wI I 3 3 (nI n)) J) (n + 1) 1 (by omega) (by rw [fu_val]; omega) (fun k J' => JT J' 5 n (Bc n A (k - 1)) n 0 ∧ (∀ q, q < k → J' 4 (n - q) = lI (qc n A q)) ∧ ∀ a b, a ≠ 4 → a ≠ 5 → a ≠ 6 → J' a b = J a b) (fun res => ∃ J', res = some (wI I 3 3 (nI n), J') ∧ (∀ k, k ≤ n → J' 4 k = lI (pol n A k)) ∧ ∀ a b, a ≠ 4 → a ≠ 5 → a ≠ 6 → J' a b = J a b) ?_ ?_ _ ?_
  · intro f s ⟨s1, s2, s3⟩
    show ∃ J', f_X0_tellOf_24 (f + 1) T (nI (n + 1)) (wI I 3 3 (nI n)) s = some (_, J') ∧ _
    rw [f_X0_tellOf_24, hd, if_pos (nI_lt (by omega) (by omega))]
    have s2' : ∀ k, k ≤ n → s 4 k = lI (qc n A (n - k)) := fun k hk => by
      have := s2 (n - k) (by omega)
      rw [show n - (n - k) = k by omega] at this
      exact this
    by_cases hev : n % 2 = 1
    · -- all change their signs
      have par : nI n - nI n / 2 * 2 = 1 := by
        rw [show (2 : Int32) = nI 2 from rfl, pk_rem (by omega) (by omega) (by omega), hev]
        rfl
      rw [if_pos par]
      have tc : ∃ J', f_X0_turnCoefficients (wI I 3 3 (nI n)) s = some J' ∧ (∀ k, k ≤ n → J' 4 k = lI (pol n A k)) ∧ ∀ a b, a ≠ 4 → J' a b = s a b := by
        unfold f_X0_turnCoefficients
        refine lp (fun f k (J : zMl) => f_X0_turnCoefficients_2 (wI I 3 3 (nI n)) f k J) (n + 1) 0 (by omega) (by rw [fu_val]; omega) (fun k J' => (∀ q, q < k → J' 4 q = lI (pol n A q)) ∧ (∀ q, k ≤ q → q ≤ n → J' 4 q = lI (qc n A (n - q))) ∧ ∀ a b, a ≠ 4 → J' a b = s a b) (fun res => ∃ J', res = some J' ∧ (∀ k, k ≤ n → J' 4 k = lI (pol n A k)) ∧ ∀ a b, a ≠ 4 → J' a b = s a b) ?_ ?_ _ ?_
        · intro f w ⟨w1, w2, w3⟩
          refine ⟨w, ?_, fun k hk => w1 k (by omega), w3⟩
          show f_X0_turnCoefficients_2 (wI I 3 3 (nI n)) (f + 1) (nI (n + 1)) w = _
          rw [f_X0_turnCoefficients_2, hd, if_pos (nI_lt (by omega) (by omega))]
        · intro f k w _ hk ⟨w1, w2, w3⟩
          left
          refine ⟨wJ w 4 k (lI (pol n A k)), ?_, fun q hq => ?_, fun q h1 h2 => by rw [wJ_off (by omega), w2 q (by omega) h2], fun a b ha => by rw [wJ_off (by omega), w3 a b ha]⟩
          · show f_X0_turnCoefficients_2 (wI I 3 3 (nI n)) (f + 1) (nI k) w = f_X0_turnCoefficients_2 (wI I 3 3 (nI n)) f (nI (k + 1)) _
            rw [f_X0_turnCoefficients_2, hd, if_neg (nI_nlt (by omega) (by omega)), ix_nI (by omega) (by omega), if_pos rfl, nI_clamp (by omega), w2 k (Nat.le_refl _) (by omega), nI_1, lI_neg]
            congr 3
            unfold pol sgn
            rw [if_neg (by omega)]
            omega
          · by_cases g : q = k
            · rw [wJ_here rfl g, g]
            · rw [wJ_off (by omega), w1 q (by omega)]
        · exact ⟨fun q hq => by omega, fun q _ hq => s2' q hq, fun _ _ _ => rfl⟩
      obtain ⟨w, t1, t2, t3⟩ := tc
      refine ⟨w, ?_, t2, fun a b h4 h5 h6 => by rw [t3 a b h4, s3 a b h4 h5 h6]⟩
      rw [t1, Option.bind_some]
    · have par : ¬ nI n - nI n / 2 * 2 = 1 := by
        rw [show (2 : Int32) = nI 2 from rfl, pk_rem (by omega) (by omega) (by omega), show n % 2 = 0 by omega]
        decide
      refine ⟨s, ?_, fun k hk => ?_, s3⟩
      · rw [if_neg par]
      · rw [s2' k hk]
        unfold pol sgn
        rw [if_pos (by omega), Int.one_mul]
  · intro f k s hk1 hk ⟨s1, s2, s3⟩
    left
    obtain ⟨m, rfl⟩ : ∃ m, k = m + 1 := ⟨k - 1, by omega⟩
    rw [Nat.add_sub_cancel] at s1
    obtain ⟨Jb, b1, b2, b3⟩ := X_multiply hA hX' hd s1
    have tr := X_trace hn hd b2
    have dv := q_div hA hn (k := m) (by omega)
    have d0 : ¬ (nI (m + 1)).toInt64 = 0 := fun q => nI_ne0 (by omega) (by omega) ((fa_wide_eq (nI (m + 1)) 0).mp q)
    have b2' : JT (wJ Jb 4 (n - (m + 1)) (lI (qc n A (m + 1)))) 6 n (fun i j => fb_si (fun l => A i l * Bc n A m l j) n) n 0 := fun a b ha hb hab => by rw [wJ_off (by omega), b2 a b ha hb hab]
    obtain ⟨Jc, c1, c2, c3⟩ := X_takeProduct (qc n A (m + 1)) hn hd b2'
    refine ⟨Jc, ?_, fun a b ha hb hab => ?_, fun q hq => ?_, fun a b h4 h5 h6 => ?_⟩
    · show f_X0_tellOf_24 (f + 1) T (nI (m + 1)) (wI I 3 3 (nI n)) s = f_X0_tellOf_24 f T (nI (m + 1 + 1)) (wI I 3 3 (nI n)) Jc
      rw [f_X0_tellOf_24, hd, if_neg (nI_nlt (by omega) (by omega)), b1, Option.bind_some, tr, Option.bind_some, if_neg d0, pk_sub (by omega), ix_nI (by omega) (by omega), if_pos rfl, nI_clamp (by omega), dv, c1, Option.bind_some, nI_1]
    · rw [c2 a b ha hb hab, Nat.add_sub_cancel, B_step A m ha hb]
    · rw [c3 _ _ (by omega)]
      by_cases g : q = m + 1
      · rw [wJ_here rfl (by rw [g]), g]
      · rw [wJ_off (by omega), b3 _ _ (by omega), s2 q (by omega)]
    · rw [c3 a b h5, wJ_off (by omega), b3 a b h6, s3 a b h4 h5 h6]
  · refine ⟨fun a b ha hb hab => ?_, fun q hq => ?_, fun a b h4 h5 h6 => ?_⟩
    · rw [wJ_off (by omega), a2 a b ha hb hab, B_zero A ha hb]
    · have : q = 0 := by omega
      subst this
      rw [Nat.sub_zero, wJ_here rfl rfl]
      unfold qc
      rw [dt_one]
      rfl
    · rw [wJ_off (by omega), a3 a b h5]
