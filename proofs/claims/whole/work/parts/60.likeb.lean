-- ===== like: the class =====
def ccd (A : Nat → Nat → Int) (a v n j : Nat) : Nat := v ^^^ bs (fun i => mn A (od a i) j) n
theorem ccd_lt (A : Nat → Nat → Int) {a v n : Nat} (j : Nat) (hv : v < 2 ^ n) : ccd A a v n j < 2 ^ n := Nat.xor_lt_two_pow hv (bs_lt _ n)
theorem bs_step (p : Nat → Bool) (k : Nat) : bs p k ^^^ (if p k then 1 else 0) * 2 ^ k = bs p (k + 1) := by
  apply Nat.eq_of_testBit_eq
  intro j
  rw [Nat.testBit_xor, bs_tb, bs_tb]
  cases hp : p k
  · simp only [Bool.false_eq_true, if_false, Nat.zero_mul, Nat.zero_testBit, Bool.xor_false]
    by_cases g : j = k
    · subst g
      rw [hp, Bool.and_false, Bool.and_false]
    · rw [show decide (j < k + 1) = decide (j < k) from by by_cases q : j < k <;> simp [q] <;> omega]
  · simp only [if_true, Nat.one_mul]
    rw [Nat.testBit_two_pow]
    by_cases g : j = k
    · subst g
      rw [hp]
      simp
    · rw [show decide (j < k + 1) = decide (j < k) from by by_cases q : j < k <;> simp [q] <;> omega, decide_eq_false (show ¬ k = j by omega), Bool.xor_false]
theorem X_colTold {I : zMi} {T n a v : Nat} {A : Nat → Nat → Int} (hX : XT I T n A) (hn4 : n < 5) (ha : a < 256) (hod : ∀ j, j < n → od a j < n) (hv : v < 2 ^ n) : f_X2_columnsTold T (nI a) (nI v) I = some (nI (tl8 (fun j => kcd n (ccd A a v n j)) n)) := by
  obtain ⟨hT, -, hs, hr⟩ := hX
  have hp : 2 ^ n ≤ 2 ^ 4 := Nat.pow_le_pow_right (by omega) (by omega)
  unfold f_X2_columnsTold
  refine up0 (fun f i (s : Int32) => f_X2_columnsTold_5 I f T (nI a) (nI v) s i) n (by rw [fu_val]; omega) (fun k => nI (tl8 (fun j => kcd n (ccd A a v n j)) k)) _ ?_ ?_
  · intro f
    show f_X2_columnsTold_5 I (f + 1) T (nI a) (nI v) _ (nI n) = _
    rw [f_X2_columnsTold_5, hs, if_pos (nI_le (Nat.le_refl _) (by omega))]
  · intro f k hk
    show f_X2_columnsTold_5 I (f + 1) T (nI a) (nI v) _ (nI k) = f_X2_columnsTold_5 I f T (nI a) (nI v) _ (nI (k + 1))
    rw [f_X2_columnsTold_5, hs, if_neg (nI_ge hk (by omega))]
    have := up0 (fun g i (s : Int32) => f_X2_columnsTold_20 I (f_X2_columnsTold_5 I f) g T (nI a) (nI v) (nI (tl8 (fun j => kcd n (ccd A a v n j)) k)) (nI k) s i) n (by rw [fu_val]; omega) (fun i => nI (v ^^^ bs (fun i => mn A (od a i) k) i)) (f_X2_columnsTold_5 I f T (nI a) (nI v) (nI (tl8 (fun j => kcd n (ccd A a v n j)) (k + 1))) (nI (k + 1))) ?_ ?_
    · rw [show v ^^^ bs (fun i => mn A (od a i) k) 0 = v from by rw [bs, Nat.xor_zero]] at this
      exact this
    · intro g
      show f_X2_columnsTold_20 I (f_X2_columnsTold_5 I f) (g + 1) T (nI a) (nI v) _ (nI k) (nI (ccd A a v n k)) (nI n) = _
      have hc := ccd_lt A (a := a) k hv
      rw [f_X2_columnsTold_20, hs, if_pos (nI_le (Nat.le_refl _) (by omega))]
      by_cases c : ccd A a v n k % 2 = 1
      · obtain ⟨c1, c2⟩ := kd_odd n hn4 _ hc c
        rw [if_pos c1, c2, nI_add, nI_1]
        rfl
      · obtain ⟨c1, c2⟩ := kd_even n hn4 _ hc c
        rw [if_neg c1, c2, nI_add, nI_1]
        rfl
    · intro g i hi
      show f_X2_columnsTold_20 I (f_X2_columnsTold_5 I f) (g + 1) T (nI a) (nI v) _ (nI k) _ (nI i) = f_X2_columnsTold_20 I (f_X2_columnsTold_5 I f) g T (nI a) (nI v) _ (nI k) _ (nI (i + 1))
      have ho := hod i hi
      have hb := bs_lt (mn A (od a i)) n
      rw [f_X2_columnsTold_20, hs, if_neg (nI_ge hi (by omega)), od_eq a ha i (by omega), ix_nI (by omega) (by omega), if_pos rfl, nI_clamp (by omega), (hr _ ho).2, bit_nI (by omega) (by omega), shl_any (by omega), fb_xorI, nI_1, bs_tb, decide_eq_true hk, Bool.true_and]
      congr 2
      rw [Nat.xor_assoc, bs_step (fun i => mn A (od a i) k) i]
theorem X_isOrder {I : zMi} {T n a : Nat} (hs : I (22 + 3 * T) 2 = nI n) (hn : n < 5) (ha : a < 4 ^ n) : f_X2_isOrder T (nI a) I = some (bI (ordB a n)) := by
  rw [← isOrd_eq n hn a ha]
  unfold f_X2_isOrder f_X4_isOrder
  have key : ∀ (f : Nat) (s i : Int32), f_X2_isOrder_4 I f T (nI a) s i = f_X4_isOrder_4 f (nI a) (nI n) s i := by
    intro f
    induction f with
    | zero => intro s i; rfl
    | succ f ih =>
      intro s i
      have e : f_X3_allBits (nI n) = ((1 : Int32) <<< (nI n &&& 31)) - 1 := by
        rw [allBits_nI (by omega), one_shl (by omega)]
        exact (pk_sub (b := 1) Nat.one_le_two_pow).symm
      rw [f_X2_isOrder_4, f_X4_isOrder_4, hs, ih, e]
      rfl
  exact key _ _ _
theorem p4n : ∀ n, n < 5 → (1 : Int32) <<< ((2 * nI n) &&& 31) = nI (4 ^ n) := by decide +kernel
theorem p4le : ∀ n, n < 5 → 4 ^ n ≤ 256 := by decide
theorem X_inOrder {I : zMi} {T n a y : Nat} {A : Nat → Nat → Int} (hX : XT I T n A) (hn4 : n < 5) (ha : a < 256) (oa : ∀ j, j < n → od a j < n) (big : ∀ v, v < 2 ^ n → tl8 (fun j => kcd n (ccd A a v n j)) n < 2 ^ 31) (ey : y < 2 ^ 31) : (f_X2_comesInOrder T (nI a) (nI y) I = some 1 ∧ ∃ v, v < 2 ^ n ∧ tl8 (fun j => kcd n (ccd A a v n j)) n = y) ∨ (f_X2_comesInOrder T (nI a) (nI y) I = some 0 ∧ ∀ v, v < 2 ^ n → ¬ tl8 (fun j => kcd n (ccd A a v n j)) n = y) := by
  have hs := hX.2.2.1
  have hp : 2 ^ n ≤ 2 ^ 4 := Nat.pow_le_pow_right (by omega) (by omega)
  have hp1 : 1 ≤ 2 ^ n := Nat.one_le_two_pow
  unfold f_X2_comesInOrder
  refine lp (fun g i (_ : Unit) => f_X2_comesInOrder_2 I g T (nI a) (nI y) i) (2 ^ n) 0 (by omega) (by rw [fu_val]; omega) (fun w _ => ∀ v, v < w → ¬ tl8 (fun j => kcd n (ccd A a v n j)) n = y) (fun res => (res = some 1 ∧ ∃ v, v < 2 ^ n ∧ tl8 (fun j => kcd n (ccd A a v n j)) n = y) ∨ (res = some 0 ∧ ∀ v, v < 2 ^ n → ¬ tl8 (fun j => kcd n (ccd A a v n j)) n = y)) ?_ ?_ () (fun v hv => by omega)
  · intro g _ hv0
    right
    refine ⟨?_, hv0⟩
    show f_X2_comesInOrder_2 I (g + 1) T (nI a) (nI y) (nI (2 ^ n)) = _
    rw [f_X2_comesInOrder_2, hs, one_shl (by omega), if_pos (nI_le (Nat.le_refl _) (by omega))]
  · intro g w _ _ hw hv0
    show (∃ s' : Unit, f_X2_comesInOrder_2 I (g + 1) T (nI a) (nI y) (nI w) = f_X2_comesInOrder_2 I g T (nI a) (nI y) (nI (w + 1)) ∧ _) ∨ ((f_X2_comesInOrder_2 I (g + 1) T (nI a) (nI y) (nI w) = _ ∧ _) ∨ (f_X2_comesInOrder_2 I (g + 1) T (nI a) (nI y) (nI w) = _ ∧ _))
    rw [f_X2_comesInOrder_2, hs, one_shl (by omega), if_neg (nI_ge hw (by omega)), X_colTold hX hn4 ha oa hw, Option.bind_some]
    have ex := big w hw
    by_cases c : tl8 (fun j => kcd n (ccd A a w n j)) n = y
    · right
      left
      refine ⟨?_, w, hw, c⟩
      rw [if_pos (by rw [c])]
    · left
      refine ⟨(), ?_, fun v hv => ?_⟩
      · rw [if_neg (fun q => c ((nI_eq ex ey).mp q)), nI_1]
      · by_cases e : v = w
        · subst e; exact c
        · exact hv0 v (by omega)
theorem X_comes {I : zMi} {T U n : Nat} {A B : Nat → Nat → Int} (hX : XT I T n A) (hY : XT I U n B) (hn4 : n < 5) : (f_X2_comesFrom T U I = some 1 ∧ ∃ a v, a < 4 ^ n ∧ v < 2 ^ n ∧ ordB a n = true ∧ tl8 (fun j => kcd n (ccd A a v n j)) n = tl8 (fun j => kcd n (ccd B 228 0 n j)) n) ∨ (f_X2_comesFrom T U I = some 0 ∧ ∀ a v, a < 4 ^ n → v < 2 ^ n → ordB a n = true → ¬ tl8 (fun j => kcd n (ccd A a v n j)) n = tl8 (fun j => kcd n (ccd B 228 0 n j)) n) := by
  have hs := hX.2.2.1
  have hp : 2 ^ n ≤ 2 ^ 4 := Nat.pow_le_pow_right (by omega) (by omega)
  have hp1 : 1 ≤ 2 ^ n := Nat.one_le_two_pow
  have h4 := p4le n hn4
  have t0 : f_X2_columnsTold U 228 0 I = some (nI (tl8 (fun j => kcd n (ccd B 228 0 n j)) n)) := X_colTold (a := 228) (v := 0) hY hn4 (by omega) (fun j hj => by rw [od_228 j (by omega)]; exact hj) (by omega)
  have big : ∀ (A : Nat → Nat → Int) a v, v < 2 ^ n → tl8 (fun j => kcd n (ccd A a v n j)) n < 2 ^ 31 := fun A a v hv => by
    have := tl8_le (fun j => kcd n (ccd A a v n j)) n (fun j _ => kcd_lt n hn4 _ (ccd_lt A j hv))
    have : n * 8 ^ 7 ≤ 4 * 8 ^ 7 := Nat.mul_le_mul_right _ (by omega)
    omega
  have ey := big B 228 0 (by omega)
  unfold f_X2_comesFrom
  rw [t0, Option.bind_some]
  generalize tl8 (fun j => kcd n (ccd B 228 0 n j)) n = y at ey
  refine lp (fun f i (_ : Unit) => f_X2_comesFrom_11 I f T (nI y) i) (4 ^ n) 0 (Nat.zero_le _) (by rw [fu_val]; omega) (fun k _ => ∀ a v, a < k → v < 2 ^ n → ordB a n = true → ¬ tl8 (fun j => kcd n (ccd A a v n j)) n = y) (fun res => (res = some 1 ∧ ∃ a v, a < 4 ^ n ∧ v < 2 ^ n ∧ ordB a n = true ∧ tl8 (fun j => kcd n (ccd A a v n j)) n = y) ∨ (res = some 0 ∧ ∀ a v, a < 4 ^ n → v < 2 ^ n → ordB a n = true → ¬ tl8 (fun j => kcd n (ccd A a v n j)) n = y)) ?_ ?_ () (fun a v ha => by omega)
  · intro f _ hs0
    right
    refine ⟨?_, hs0⟩
    show f_X2_comesFrom_11 I (f + 1) T (nI y) (nI (4 ^ n)) = _
    rw [f_X2_comesFrom_11, hs, p4n n hn4, if_pos (nI_le (Nat.le_refl _) (by omega))]
  · intro f k _ _ hk hs0
    show (∃ s' : Unit, f_X2_comesFrom_11 I (f + 1) T (nI y) (nI k) = f_X2_comesFrom_11 I f T (nI y) (nI (k + 1)) ∧ _) ∨ _
    rw [f_X2_comesFrom_11, hs, p4n n hn4, if_neg (nI_ge hk (by omega))]
    rw [X_isOrder hs hn4 hk, Option.bind_some]
    cases ho : ordB k n
    · left
      refine ⟨(), ?_, fun a v ha hv q => ?_⟩
      · rw [bI_f, if_pos rfl, nI_1]
      · by_cases g : a = k
        · subst g; rw [ho] at q; cases q
        · exact hs0 a v (by omega) hv q
    · rcases X_inOrder (a := k) hX hn4 (by omega) (ord_lt n hn4 k hk ho) (fun v hv => big A k v hv) ey with ⟨i1, v, i2, i3⟩ | ⟨i1, i2⟩
      · right
        left
        refine ⟨?_, k, v, hk, i2, ho, i3⟩
        rw [bI_t, if_neg v10, i1, Option.bind_some, if_neg v10]
      · left
        refine ⟨(), ?_, fun a v ha hv q => ?_⟩
        · rw [bI_t, if_neg v10, i1, Option.bind_some, if_pos rfl, nI_1]
        · by_cases g : a = k
          · subst g; exact i2 v hv
          · exact hs0 a v (by omega) hv q
-- ===== like: the model =====
def cB (A B : Nat → Nat → Int) (a b i j : Nat) : Bool := decide (A (od a i) (od b j) * A (od a 0) (od b j) * A (od a i) (od b 0) * A (od a 0) (od b 0) = B i j * B 0 j * B i 0 * B 0 0)
def lkR (A B : Nat → Nat → Int) (n a b i : Nat) : Bool := alB (fun j => decide (j = 0) || cB A B a b i j) n
def lkA (A B : Nat → Nat → Int) (n a b : Nat) : Bool := alB (fun i => decide (i = 0) || lkR A B n a b i) n
theorem oe {a : Nat} (ha : a < 256) {j : Nat} (hj : j < 4) : f_X4_order (nI a) (nI j) = nI (od a j) := od_eq a ha j hj
theorem tri_bd {x : Int} (h : x = 1 ∨ x = 0 ∨ x = -1) : -2147483648 ≤ x ∧ x < 2147483648 := by omega
theorem M_isLike {K : zMi} {t u n a b : Nat} {A B : Nat → Nat → Int} (hM : MT K t n A) (hN : MT K u n B) (hA : tri A) (hB : tri B) (h0 : 0 < n) (hn4 : n < 5) (ha : a < 256) (hb : b < 256) (oa : ∀ j, j < n → od a j < n) (ob : ∀ j, j < n → od b j < n) : f_X4_isLike (nI t) (nI u) (nI a) (nI b) K = some (bI (lkA A B n a b)) := by
  have ht := hM.1
  have w2 : K 5 t = nI n := hM.2.2.1
  unfold f_X4_isLike
  rw [ix_nI ht (by omega), if_pos rfl, nI_clamp (by omega), w2]
  have := upF (fun f i (s : Int32) => f_X4_isLike_14 K f (nI t) (nI u) (nI a) (nI b) (nI n) s i) n 1 (by omega) (by rw [fu_val]; omega) (fun i => bI (alB (fun i => decide (i = 0) || lkR A B n a b i) i)) (some (bI (lkA A B n a b))) ?_ ?_
  · rw [show alB (fun i => decide (i = 0) || lkR A B n a b i) 1 = true by simp [alB]] at this
    exact this
  · intro f
    show f_X4_isLike_14 K (f + 1) (nI t) (nI u) (nI a) (nI b) (nI n) _ (nI n) = _
    rw [f_X4_isLike_14, if_pos (nI_le (Nat.le_refl _) (by omega))]
    rfl
  · intro f i hi1 hi
    show f_X4_isLike_14 K (f + 1) (nI t) (nI u) (nI a) (nI b) (nI n) (bI _) (nI i) = f_X4_isLike_14 K f (nI t) (nI u) (nI a) (nI b) (nI n) (bI _) (nI (i + 1))
    rw [f_X4_isLike_14, if_neg (nI_ge hi (by omega))]
    rw [show alB (fun i => decide (i = 0) || lkR A B n a b i) (i + 1) = (alB (fun i => decide (i = 0) || lkR A B n a b i) i && lkR A B n a b i) from by
      show (_ && (decide (i = 0) || _)) = _
      rw [decide_eq_false (by omega), Bool.false_or]]
    generalize alB (fun i => decide (i = 0) || lkR A B n a b i) i = c
    have := upF (fun g j (s : Int32) => f_X4_isLike_24 K (f_X4_isLike_14 K f) g (nI t) (nI u) (nI a) (nI b) (nI n) s (nI i) j) n 1 (by omega) (by rw [fu_val]; omega) (fun j => bI (c && alB (fun j => decide (j = 0) || cB A B a b i j) j)) (f_X4_isLike_14 K f (nI t) (nI u) (nI a) (nI b) (nI n) (bI (c && lkR A B n a b i)) (nI (i + 1))) ?_ ?_
    · rw [show alB (fun j => decide (j = 0) || cB A B a b i j) 1 = true by simp [alB], Bool.and_true] at this
      exact this
    · intro g
      show f_X4_isLike_24 K (f_X4_isLike_14 K f) (g + 1) (nI t) (nI u) (nI a) (nI b) (nI n) _ (nI i) (nI n) = _
      rw [f_X4_isLike_24, if_pos (nI_le (Nat.le_refl _) (by omega)), nI_1]
      rfl
    · intro g j hj1 hj
      show f_X4_isLike_24 K (f_X4_isLike_14 K f) (g + 1) (nI t) (nI u) (nI a) (nI b) (nI n) (bI _) (nI i) (nI j) = f_X4_isLike_24 K (f_X4_isLike_14 K f) g (nI t) (nI u) (nI a) (nI b) (nI n) (bI _) (nI i) (nI (j + 1))
      have z : (0 : Int32) = nI 0 := rfl
      have o1 : f_X4_order (nI a) (nI i) = nI (od a i) := oe ha (by omega)
      have o2 : f_X4_order (nI a) 0 = nI (od a 0) := oe ha (j := 0) (by omega)
      have o3 : f_X4_order (nI b) (nI j) = nI (od b j) := oe hb (by omega)
      have o4 : f_X4_order (nI b) 0 = nI (od b 0) := oe hb (j := 0) (by omega)
      have g7 : f_X4_get (nI u) (nI i) (nI j) K = some (sI (B i j)) := MT_get hN hi hj
      have g8 : f_X4_get (nI u) 0 (nI j) K = some (sI (B 0 j)) := MT_get (i := 0) hN (by omega) hj
      have g9 : f_X4_get (nI u) (nI i) 0 K = some (sI (B i 0)) := MT_get (j := 0) hN hi (by omega)
      have g10 : f_X4_get (nI u) 0 0 K = some (sI (B 0 0)) := MT_get (i := 0) (j := 0) hN (by omega) (by omega)
      rw [f_X4_isLike_24, if_neg (nI_ge hj (by omega)), o1, o2, o3, o4, MT_get hM (oa i hi) (ob j hj), MT_get hM (oa 0 h0) (ob j hj), MT_get hM (oa i hi) (ob 0 h0), MT_get hM (oa 0 h0) (ob 0 h0), g7, g8, g9, g10]
      simp only [Option.bind_some, sI_mul]
      rw [show alB (fun j => decide (j = 0) || cB A B a b i j) (j + 1) = (alB (fun j => decide (j = 0) || cB A B a b i j) j && cB A B a b i j) from by
        show (_ && (decide (j = 0) || _)) = _
        rw [decide_eq_false (by omega), Bool.false_or], ← Bool.and_assoc]
      cases (c && alB (fun j => decide (j = 0) || cB A B a b i j) j)
      · rw [bI_f, if_pos rfl, nI_1, Bool.false_and, bI_f]
      · rw [bI_t, if_neg v10, nI_1, Bool.true_and]
        have e := sI_eq (tri_bd (tri_mul (tri_mul (tri_mul (hA (od a i) (od b j)) (hA (od a 0) (od b j))) (hA (od a i) (od b 0))) (hA (od a 0) (od b 0)))) (tri_bd (tri_mul (tri_mul (tri_mul (hB i j) (hB 0 j)) (hB i 0)) (hB 0 0)))
        unfold cB
        by_cases q : A (od a i) (od b j) * A (od a 0) (od b j) * A (od a i) (od b 0) * A (od a 0) (od b 0) = B i j * B 0 j * B i 0 * B 0 0
        · rw [if_pos (e.mpr q), decide_eq_true q, bI_t]
        · rw [if_neg (fun w => q (e.mp w)), decide_eq_false q, bI_f]
