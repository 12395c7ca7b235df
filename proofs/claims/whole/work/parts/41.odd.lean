-- ===== sums in another order =====
theorem sm_comm (f : Nat → Nat → Nat) (m : Nat) : ∀ n, fb_sm (fun i => fb_sm (fun j => f i j) m) n = fb_sm (fun j => fb_sm (fun i => f i j) n) m
  | 0 => by
    show 0 = _
    induction m with
    | zero => rfl
    | succ m ih => rw [fb_sm_succ, ← ih]; rfl
  | n + 1 => by
    rw [fb_sm_succ, sm_comm f m n, ← fb_sm_add]
    rfl
theorem ct_sm (p : Nat → Bool) : ∀ n, fb_ct p n = fb_sm (fun i => if p i then 1 else 0) n
  | 0 => rfl
  | n + 1 => by rw [fb_ct_succ, fb_sm_succ, ct_sm p n]
theorem sm_zero {f : Nat → Nat} {n : Nat} (h : ∀ i, i < n → f i = 0) : fb_sm f n = 0 := by
  induction n with
  | zero => rfl
  | succ n ih => rw [fb_sm_succ, ih (fun i hi => h i (by omega)), h n (by omega)]
theorem sm_below (f : Nat → Nat) {k n : Nat} (h : k ≤ n) : fb_sm f k = fb_sm (fun j => if j < k then f j else 0) n := by
  obtain ⟨d, rfl⟩ := Nat.exists_eq_add_of_le h
  rw [fb_sm_split, sm_zero (n := d) (fun i _ => if_neg (by omega)), Nat.add_zero]
  exact fb_sm_cong (fun j hj => by rw [if_pos hj])
theorem ct_above (p : Nat → Bool) {s n : Nat} (h : s ≤ n) : fb_ct (fun q => p (s + q)) (n - s) = fb_sm (fun k => if s ≤ k ∧ p k = true then 1 else 0) n := by
  obtain ⟨d, rfl⟩ := Nat.exists_eq_add_of_le h
  rw [fb_sm_split, sm_zero (n := s) (fun i hi => if_neg (by omega)), Nat.zero_add, Nat.add_sub_cancel_left, ct_sm]
  refine fb_sm_cong (fun q _ => ?_)
  by_cases g : p (s + q) = true
  · rw [if_pos g, if_pos ⟨by omega, g⟩]
  · rw [if_neg g, if_neg (fun w => g w.2)]
theorem bs_shift (p : Nat → Bool) (n s : Nat) : bs p n / 2 ^ s = bs (fun q => p (s + q)) (n - s) := by
  apply Nat.eq_of_testBit_eq
  intro q
  rw [Nat.testBit_div_two_pow, bs_tb, bs_tb, Nat.add_comm q s]
  by_cases g : s + q < n
  · rw [decide_eq_true g, decide_eq_true (show q < n - s by omega)]
  · rw [decide_eq_false g, decide_eq_false (show ¬ q < n - s by omega)]
def oddB (A : Nat → Nat → Int) (i j k : Nat) : Bool := mn A i j ^^ (mn A i k ^^ mn A j k)
theorem X_oddTriples {I : zMi} {T n : Nat} {A : Nat → Nat → Int} (h : XT I T n A) : f_X2_oddTriples T I = some (nI (fb_sm (fun i => fb_sm (fun j => if i < j then fb_ct (fun q => oddB A i j (j + 1 + q)) (n - (j + 1)) else 0) n) n)) := by
  obtain ⟨h1, h2, h3, h4⟩ := h
  have inner : ∀ (k4 : Nat → Int32 → Int32 → Option Int32) (i b0 : Nat), i < n → f_X2_oddTriples_16 I k4 fu T (nI b0) (nI i) (nI (i + 1)) = k4 T (nI (b0 + fb_sm (fun j => if i < j then fb_ct (fun q => oddB A i j (j + 1 + q)) (n - (j + 1)) else 0) n)) (nI (i + 1)) := by
    intro k4 i b0 hi
    have := upF (fun f j (a : Int32) => f_X2_oddTriples_16 I k4 f T a (nI i) j) n (i + 1) (by omega) (by rw [fu_val]; omega) (fun k => nI (b0 + fb_sm (fun j => if i < j then fb_ct (fun q => oddB A i j (j + 1 + q)) (n - (j + 1)) else 0) k)) (k4 T (nI (b0 + fb_sm (fun j => if i < j then fb_ct (fun q => oddB A i j (j + 1 + q)) (n - (j + 1)) else 0) n)) (nI (i + 1))) ?_ ?_
    · have z : fb_sm (fun j => if i < j then fb_ct (fun q => oddB A i j (j + 1 + q)) (n - (j + 1)) else 0) (i + 1) = 0 := sm_zero (fun j hj => if_neg (by omega))
      simp only [z, Nat.add_zero] at this
      exact this
    · intro f
      show f_X2_oddTriples_16 I k4 (f + 1) T _ (nI i) (nI n) = _
      rw [f_X2_oddTriples_16, h3, if_pos (nI_le (Nat.le_refl _) (by omega)), nI_1]
    · intro f j hij hj
      show f_X2_oddTriples_16 I k4 (f + 1) T _ (nI i) (nI j) = f_X2_oddTriples_16 I k4 f T _ (nI i) (nI (j + 1))
      have hb : f_J6_bitCount ((nI (bs (mn A i) n) ^^^ nI (bs (mn A j) n)) >>> (nI (j + 1) &&& 31)) = nI (fb_ct (fun q => mn A i (j + 1 + q) ^^ mn A j (j + 1 + q)) (n - (j + 1))) := by
        rw [fb_xorI, bs_xor, shr_nI (by have := bs12 (fun q => mn A i q ^^ mn A j q) h2; omega) (by omega), bs_shift, bitCount_bs _ (by omega)]
      rw [f_X2_oddTriples_16, h3, if_neg (nI_ge hj (by omega)), ix_nI (by omega) (by omega), if_pos rfl, ix_nI (by omega) (by omega), if_pos rfl, nI_clamp (by omega), nI_clamp (by omega), (h4 i hi).2, (h4 j hj).2, bit_bs (by omega) (by omega), nI_b, nI_1, hb, fb_sm_succ, if_pos (show i < j by omega)]
      have hle := fb_ct_le (fun q => mn A i (j + 1 + q) ^^ mn A j (j + 1 + q)) (n - (j + 1))
      by_cases g : mn A i j = true
      · rw [if_pos (bI_1.mpr g), pk_sub (show j ≤ n by omega), show (1 : Int32) = nI 1 from rfl, pk_sub (show 1 ≤ n - j by omega), pk_sub (show fb_ct (fun q => mn A i (j + 1 + q) ^^ mn A j (j + 1 + q)) (n - (j + 1)) ≤ n - j - 1 by omega), nI_add]
        have := fb_ct_not (fun q => mn A i (j + 1 + q) ^^ mn A j (j + 1 + q)) (n - (j + 1))
        have e : fb_ct (fun q => oddB A i j (j + 1 + q)) (n - (j + 1)) = fb_ct (fun q => !(mn A i (j + 1 + q) ^^ mn A j (j + 1 + q))) (n - (j + 1)) := fb_ct_cong (fun q _ => by simp [oddB, g])
        rw [e]
        congr 2
        omega
      · have g' : mn A i j = false := by simpa using g
        have e : fb_ct (fun q => oddB A i j (j + 1 + q)) (n - (j + 1)) = fb_ct (fun q => (mn A i (j + 1 + q) ^^ mn A j (j + 1 + q))) (n - (j + 1)) := fb_ct_cong (fun q _ => by simp [oddB, g'])
        rw [if_neg (fun q => g (bI_1.mp q)), nI_add, e, Nat.add_assoc]
  unfold f_X2_oddTriples
  refine up0 (fun f i (a : Int32) => f_X2_oddTriples_4 I f T a i) n (by rw [fu_val]; omega) (fun k => nI (fb_sm (fun i => fb_sm (fun j => if i < j then fb_ct (fun q => oddB A i j (j + 1 + q)) (n - (j + 1)) else 0) n) k)) _ ?_ ?_
  · intro f
    show f_X2_oddTriples_4 I (f + 1) T _ (nI n) = _
    rw [f_X2_oddTriples_4, h3, if_pos (nI_le (Nat.le_refl _) (by omega))]
  · intro f i hi
    show f_X2_oddTriples_4 I (f + 1) T _ (nI i) = f_X2_oddTriples_4 I f T _ (nI (i + 1))
    rw [f_X2_oddTriples_4, h3, if_neg (nI_ge hi (by omega)), nI_1, inner _ i _ hi, fb_sm_succ]
section OM
variable {K : zMi} {t n : Nat} {A : Nat → Nat → Int}
theorem pm_mul {x y z : Int} (hx : x = 1 ∨ x = -1) (hy : y = 1 ∨ y = -1) (hz : z = 1 ∨ z = -1) : x * y * z = if (decide (x = -1) ^^ (decide (y = -1) ^^ decide (z = -1))) then -1 else 1 := by
  rcases hx with rfl | rfl <;> rcases hy with rfl | rfl <;> rcases hz with rfl | rfl <;> decide
theorem GR_pm (hA : tri A) (hG : GR A n) {i j : Nat} (hi : i < n) (hj : j < n) (h : i ≠ j) : A i j = 1 ∨ A i j = -1 := by
  have := ((hG i j hi hj).2 h).1
  rcases hA i j with e | e | e
  · exact Or.inl e
  · exact absurd e this
  · exact Or.inr e
theorem M_oddAt (hA : tri A) (hG : GR A n) (h : MT K t n A) {i j k : Nat} (hij : i < j) (hjk : j < k) (hk : k < n) : f_X4_oddAt (nI t) (nI i) (nI j) (nI k) K = some (sI (if oddB A i j k then -1 else 1)) := by
  unfold f_X4_oddAt
  rw [MT_get h (show i < n by omega) (show j < n by omega), Option.bind_some, MT_get h (show i < n by omega) hk, Option.bind_some, MT_get h (show j < n by omega) hk, Option.bind_some, sI_mul, sI_mul, pm_mul (GR_pm hA hG (by omega) (by omega) (by omega)) (GR_pm hA hG (by omega) (by omega) (by omega)) (GR_pm hA hG (by omega) (by omega) (by omega))]
  rfl
theorem M_odd (hA : tri A) (hG : GR A n) (h : MT K t n A) : f_X4_odd_17 fu (nI t) 0 0 K = some (nI (fb_sm (fun k => fb_sm (fun j => fb_ct (fun i => oddB A i j k) j) k) n), K) := by
  have hn := h.2.1
  have in1 : ∀ (k17 : Int32 → Int32 → Int32 → zMi → Option (Int32 × zMi)) (k31 : Int32 → Int32 → Int32 → Int32 → zMi → Option (Int32 × zMi)) (k j b0 : Nat), k < n → j < k → f_X4_odd_41 k17 k31 fu (nI t) (nI b0) (nI k) (nI j) 0 K = k31 (nI t) (nI (b0 + fb_ct (fun i => oddB A i j k) j)) (nI k) (nI (j + 1)) K := by
    intro k17 k31 k j b0 hk hj
    refine up0 (fun f i (a : Int32) => f_X4_odd_41 k17 k31 f (nI t) a (nI k) (nI j) i K) j (by rw [fu_val]; omega) (fun i => nI (b0 + fb_ct (fun i => oddB A i j k) i)) _ ?_ ?_
    · intro f
      show f_X4_odd_41 k17 k31 (f + 1) (nI t) _ (nI k) (nI j) (nI j) K = _
      rw [f_X4_odd_41, if_pos (nI_le (Nat.le_refl _) (by omega)), nI_1]
    · intro f i hi
      show f_X4_odd_41 k17 k31 (f + 1) (nI t) _ (nI k) (nI j) (nI i) K = f_X4_odd_41 k17 k31 f (nI t) _ (nI k) (nI j) (nI (i + 1)) K
      rw [f_X4_odd_41, if_neg (nI_ge hi (by omega)), M_oddAt hA hG h hi hj hk, Option.bind_some, nI_1 i, nI_1, fb_ct_succ, show (0 : Int32) = nI 0 from rfl, nI_add]
      cases oddB A i j k
      · rfl
      · rfl
  have in2 : ∀ (k17 : Int32 → Int32 → Int32 → zMi → Option (Int32 × zMi)) (k b0 : Nat), k < n → f_X4_odd_31 k17 fu (nI t) (nI b0) (nI k) 0 K = k17 (nI t) (nI (b0 + fb_sm (fun j => fb_ct (fun i => oddB A i j k) j) k)) (nI (k + 1)) K := by
    intro k17 k b0 hk
    refine up0 (fun f j (a : Int32) => f_X4_odd_31 k17 f (nI t) a (nI k) j K) k (by rw [fu_val]; omega) (fun j => nI (b0 + fb_sm (fun j => fb_ct (fun i => oddB A i j k) j) j)) _ ?_ ?_
    · intro f
      show f_X4_odd_31 k17 (f + 1) (nI t) _ (nI k) (nI k) K = _
      rw [f_X4_odd_31, if_pos (nI_le (Nat.le_refl _) (by omega)), nI_1]
    · intro f j hj
      show f_X4_odd_31 k17 (f + 1) (nI t) _ (nI k) (nI j) K = f_X4_odd_31 k17 f (nI t) _ (nI k) (nI (j + 1)) K
      rw [f_X4_odd_31, if_neg (nI_ge hj (by omega)), in1 _ _ k j _ hk hj, fb_sm_succ, Nat.add_assoc]
  refine up0 (fun f k (a : Int32) => f_X4_odd_17 f (nI t) a k K) n (by rw [fu_val]; omega) (fun k => nI (fb_sm (fun k => fb_sm (fun j => fb_ct (fun i => oddB A i j k) j) k) k)) _ ?_ ?_
  · intro f
    show f_X4_odd_17 (f + 1) (nI t) _ (nI n) K = _
    rw [f_X4_odd_17, M_ix h, if_pos rfl, M_w h, if_pos (nI_le (Nat.le_refl _) (by omega))]
  · intro f k hk
    show f_X4_odd_17 (f + 1) (nI t) _ (nI k) K = f_X4_odd_17 f (nI t) _ (nI (k + 1)) K
    rw [f_X4_odd_17, M_ix h, if_pos rfl, M_w h, if_neg (nI_ge hk (by omega)), in2 _ k _ hk, fb_sm_succ]
end OM
theorem odd_sum (A : Nat → Nat → Int) (n : Nat) : fb_sm (fun i => fb_sm (fun j => if i < j then fb_ct (fun q => oddB A i j (j + 1 + q)) (n - (j + 1)) else 0) n) n = fb_sm (fun k => fb_sm (fun j => fb_ct (fun i => oddB A i j k) j) k) n := by
  have l : fb_sm (fun i => fb_sm (fun j => if i < j then fb_ct (fun q => oddB A i j (j + 1 + q)) (n - (j + 1)) else 0) n) n = fb_sm (fun i => fb_sm (fun j => fb_sm (fun k => if i < j ∧ j < k ∧ oddB A i j k = true then 1 else 0) n) n) n := by
    refine fb_sm_cong (fun i _ => fb_sm_cong (fun j hj => ?_))
    by_cases g : i < j
    · rw [if_pos g, ct_above (fun k => oddB A i j k) (show j + 1 ≤ n by omega)]
      refine fb_sm_cong (fun k _ => ?_)
      by_cases g2 : j + 1 ≤ k ∧ oddB A i j k = true
      · rw [if_pos g2, if_pos ⟨g, by omega, g2.2⟩]
      · rw [if_neg g2, if_neg (fun w => g2 ⟨by omega, w.2.2⟩)]
    · rw [if_neg g, sm_zero (fun k _ => if_neg (fun w => g w.1))]
  have r : fb_sm (fun k => fb_sm (fun j => fb_ct (fun i => oddB A i j k) j) k) n = fb_sm (fun k => fb_sm (fun j => fb_sm (fun i => if i < j ∧ j < k ∧ oddB A i j k = true then 1 else 0) n) n) n := by
    refine fb_sm_cong (fun k hk => ?_)
    rw [sm_below _ (show k ≤ n by omega)]
    refine fb_sm_cong (fun j hj => ?_)
    by_cases g : j < k
    · rw [if_pos g, ct_sm, sm_below _ (show j ≤ n by omega)]
      refine fb_sm_cong (fun i _ => ?_)
      by_cases g2 : i < j
      · rw [if_pos g2]
        by_cases g3 : oddB A i j k = true
        · rw [if_pos g3, if_pos ⟨g2, g, g3⟩]
        · rw [if_neg g3, if_neg (fun w => g3 w.2.2)]
      · rw [if_neg g2, if_neg (fun w => g2 w.1)]
    · rw [if_neg g, sm_zero (fun i _ => if_neg (fun w => g w.2.1))]
  rw [l, r]
  have e1 : fb_sm (fun i => fb_sm (fun j => fb_sm (fun k => if i < j ∧ j < k ∧ oddB A i j k = true then 1 else 0) n) n) n = fb_sm (fun i => fb_sm (fun k => fb_sm (fun j => if i < j ∧ j < k ∧ oddB A i j k = true then 1 else 0) n) n) n := fb_sm_cong (fun i _ => sm_comm _ _ _)
  rw [e1, sm_comm]
  exact fb_sm_cong (fun k _ => sm_comm _ _ _)
theorem s_odd : so_odd RR := by
  intro I J K M h a1
  rcases G_cases h a1 with ⟨e1, e2⟩ | ⟨t, ht, rfl, e1, e3, e4, e5, I', K', y1, y2, h'⟩ | ⟨t, n, A, k, ht, rfl, e1, e3, e4, e5, e6, ⟨h0, hA, hX, hM, hK, k1, k2⟩, hG⟩
  · exact ⟨-1, I, K, by simp only [f_X3_odd, e1, if_true], by simp only [f_X4_odd, e2, Option.bind_some, if_neg v0m1], h⟩
  · refine ⟨-3, I', K', ?_, ?_, h'⟩
    · simp only [f_X3_odd, e1, e3, e4, if_neg e5, y1, Option.bind_some, if_neg v10, if_true]
    · simp only [f_X4_odd, y2, Option.bind_some, if_neg v0m3]
  · refine ⟨nI (fb_sm (fun k => fb_sm (fun j => fb_ct (fun i => oddB A i j k) j) k) n), I, K, ?_, ?_, h⟩
    · simp only [f_X3_odd, e1, e3, e4, e5, X_oddTriples hX, Option.bind_some, if_neg v10, if_true]
      rw [odd_sum]
    · simp only [f_X4_odd, e6, Option.bind_some, if_pos v00]
      exact M_odd hA hG hM
-- ===== alike =====
theorem s_alike : so_alike RR := by
  intro I J K M h a1 a2
  rcases T_cases h a1 with ⟨e1, e2, e3⟩ | hT1
  · exact ⟨-1, I, K, by simp only [f_X3_alike, e1, if_true], by simp only [f_X4_alike, e2, if_true], h⟩
  have q1 : f_X3_isTableNumber a1 = 1 ∧ f_X4_isTable a1 = 1 := by
    rcases hT1 with ⟨t, ht, rfl, e1, e2, _⟩ | ⟨t, n, A, k, ht, rfl, e1, e2, _⟩ <;> exact ⟨e1, e2⟩
  rcases T_cases h a2 with ⟨e1, e2, e3⟩ | hT2
  · exact ⟨-1, I, K, by simp only [f_X3_alike, q1.1, e1, if_neg v10, if_true], by simp only [f_X4_alike, q1.2, e2, if_neg v10, if_true], h⟩
  have q2 : f_X3_isTableNumber a2 = 1 ∧ f_X4_isTable a2 = 1 := by
    rcases hT2 with ⟨t, ht, rfl, e1, e2, _⟩ | ⟨t, n, A, k, ht, rfl, e1, e2, _⟩ <;> exact ⟨e1, e2⟩
  obtain ⟨I1, K1, y1, y2, h1⟩ := RR_found h 1 (by simp)
  obtain ⟨I3, K3, z1, z2, h3⟩ := RR_found h 3 (by simp)
  rcases hT1 with ⟨t, ht, rfl, e1, e2, e3, e4, e5, e6, e7⟩ | ⟨t, n, A, k, ht, rfl, e1, e2, e3, e4, e5, e6, e7, h0, hA, hX, hM, hK, k1, k2⟩
  · refine ⟨-3, I1, K1, ?_, ?_, h1⟩
    · rcases hT2 with ⟨u, hu, rfl, g1, g2, g3, g4, g5, g6, g7⟩ | ⟨u, m, B, l, hu, rfl, g1, g2, g3, g4, g5, g6, g7, hT⟩
      · simp only [f_X3_alike, q1.1, q2.1, e3, e4, e5, g3, y1, Option.bind_some, if_neg v10, if_true]
      · simp only [f_X3_alike, q1.1, q2.1, e3, e4, e5, g3, y1, Option.bind_some, if_neg v10, if_true]
    · simp only [f_X4_alike, q1.2, q2.2, e3, e4, e6, y2, Option.bind_some, if_neg v10, if_true]
  · rcases hT2 with ⟨u, hu, rfl, g1, g2, g3, g4, g5, g6, g7⟩ | ⟨u, m, B, l, hu, rfl, g1, g2, g3, g4, g5, g6, g7, m0, hB, hY, hN, hL, l1, l2⟩
    · refine ⟨-3, I1, K1, ?_, ?_, h1⟩
      · simp only [f_X3_alike, q1.1, q2.1, e3, e4, e5, g3, g4, g5, y1, Option.bind_some, if_neg v10, if_true]
      · simp only [f_X4_alike, q1.2, q2.2, e3, e4, if_neg e6, g3, g4, g6, y2, Option.bind_some, if_neg v10, if_true]
    · have hn := hX.2.1
      have hm := hY.2.1
      obtain ⟨b, i1, i2, i3⟩ := is_eq (I := I) (K := K) ht k1 k2 (KD_le hK) (a := 3) (by omega) (by omega)
      have i1' : f_X2_isOfKind t 3 I = bI b := i1
      have i2' : f_X4_is (nI t) 3 K = some (bI b) := i2
      cases b
      · refine ⟨-3, I3, K3, ?_, ?_, h3⟩
        · simp only [f_X3_alike, q1.1, q2.1, e3, e4, e5, g3, g4, g5, i1', bI_f, z1, Option.bind_some, if_neg v10, if_true]
        · simp only [f_X4_alike, q1.2, q2.2, e3, e4, if_neg e6, g3, g4, if_neg g6, i2', bI_f, z2, Option.bind_some, if_neg v10, if_true]
      · obtain ⟨b, j1, j2, j3⟩ := is_eq (I := I) (K := K) hu l1 l2 (KD_le hL) (a := 3) (by omega) (by omega)
        have j1' : f_X2_isOfKind u 3 I = bI b := j1
        have j2' : f_X4_is (nI u) 3 K = some (bI b) := j2
        cases b
        · refine ⟨-3, I3, K3, ?_, ?_, h3⟩
          · simp only [f_X3_alike, q1.1, q2.1, e3, e4, e5, g3, g4, g5, i1', bI_t, j1', bI_f, z1, Option.bind_some, if_neg v10, if_true]
          · simp only [f_X4_alike, q1.2, q2.2, e3, e4, if_neg e6, g3, g4, if_neg g6, i2', bI_t, j2', bI_f, z2, Option.bind_some, if_neg v10, if_true]
        · have w1 : I (22 + 3 * t) 2 = nI n := hX.2.2.1
          have w2 : K 5 t = nI n := hM.2.2.1
          have v1 : I (22 + 3 * u) 2 = nI m := hY.2.2.1
          have v2 : K 5 u = nI m := hN.2.2.1
          have nz : ¬ nI n = 0 := nI_ne0 h0 (by omega)
          have mz : ¬ nI m = 0 := nI_ne0 m0 (by omega)
          by_cases hnm : n = m
          · subst hnm
            have hG := KD_graph hK (by have := i3.mp rfl; omega)
            have hH := KD_graph hL (by have := j3.mp rfl; omega)
            -- the set
            have hs : ∀ x, x = bs (fun b => mn A 0 b ^^ mn B 0 b) n → x < 2 ^ n := fun x hx => by rw [hx]; exact bs_lt _ n
            have sb : ∀ b, b < n → (bs (fun b => mn A 0 b ^^ mn B 0 b) n).testBit b = (mn A 0 b ^^ mn B 0 b) := fun b hb => by rw [bs_tb, decide_eq_true hb, Bool.true_and]
            have set1 : (I (24 + 3 * t) (0 : Int32).toNatClampNeg ^^^ I (24 + 3 * u) (0 : Int32).toNatClampNeg) = nI (bs (fun b => mn A 0 b ^^ mn B 0 b) n) := by
              rw [show (0 : Int32).toNatClampNeg = 0 from rfl, (hX.2.2.2 0 h0).2, (hY.2.2.2 0 h0).2, fb_xorI, bs_xor]
            -- the class
            have cls : ∃ c, f_X2_becomesBySwitching t u (nI (bs (fun b => mn A 0 b ^^ mn B 0 b) n)) I = some (bI c) ∧ (c = true ↔ ∀ i, i < n → ∀ b, b < n → nsB A (bs (fun b => mn A 0 b ^^ mn B 0 b) n) i b = mn B i b) := by
              unfold f_X2_becomesBySwitching
              have := up_all (fun f i (_ : Unit) => f_X2_becomesBySwitching_2 I f t u (nI (bs (fun b => mn A 0 b ^^ mn B 0 b) n)) i) n (fun _ => ()) (some 1) (some 0) (fun i => ∀ b, b < n → nsB A (bs (fun b => mn A 0 b ^^ mn B 0 b) n) i b = mn B i b) 0 (by omega) (by rw [fu_val]; omega)
                (fun _ f => by
                  show f_X2_becomesBySwitching_2 I (f + 1) t u _ (nI n) = _
                  rw [f_X2_becomesBySwitching_2, w1, if_pos (nI_le (Nat.le_refl _) (by omega))])
                (fun f k _ hk hp => by
                  show f_X2_becomesBySwitching_2 I (f + 1) t u _ (nI k) = f_X2_becomesBySwitching_2 I f t u _ (nI (k + 1))
                  rw [f_X2_becomesBySwitching_2, w1, if_neg (nI_ge hk (by omega)), X_ns hX hk (hs _ rfl), Option.bind_some, ix_nI (by omega) (by omega), if_pos rfl, nI_clamp (by omega), (hY.2.2.2 k hk).2, if_pos ((nIbs hn).mpr hp), nI_1])
                (fun f k _ hk hp => by
                  show f_X2_becomesBySwitching_2 I (f + 1) t u _ (nI k) = _
                  rw [f_X2_becomesBySwitching_2, w1, if_neg (nI_ge hk (by omega)), X_ns hX hk (hs _ rfl), Option.bind_some, ix_nI (by omega) (by omega), if_pos rfl, nI_clamp (by omega), (hY.2.2.2 k hk).2, if_neg (fun q => hp ((nIbs hn).mp q))])
              rcases this with ⟨e, hp⟩ | ⟨e, k, _, hk, hp⟩
              · exact ⟨true, e, fun _ i hi => hp i (by omega) hi, fun _ => rfl⟩
              · exact ⟨false, e, fun q => by simp at q, fun q => absurd (q k hk) hp⟩
            -- the model
            have tri1 : ∀ i j k, i < j → j < k → k < n → (sI (if oddB A i j k then -1 else 1) = sI (if oddB B i j k then -1 else 1) ↔ oddB A i j k = oddB B i j k) := by
              intro i j k _ _ _
              cases oddB A i j k <;> cases oddB B i j k <;> simp <;> decide
            have mod : f_X4_alike_87 fu (nI t) (nI u) 0 1 0 K = if alB (fun k => alB (fun j => alB (fun i => decide (oddB A i j k = oddB B i j k)) j) k) n then some (1, wI K 0 2 (nI (bs (fun b => mn A 0 b ^^ mn B 0 b) n))) else some (0, K) := by
              have in1 : ∀ (k87 : Int32 → Int32 → Int32 → Int32 → Int32 → zMi → Option (Int32 × zMi)) (k131 : Int32 → Int32 → Int32 → Int32 → Int32 → Int32 → zMi → Option (Int32 × zMi)) (s : Int32) (k j : Nat) (c : Bool), k < n → j < k → f_X4_alike_141 k87 k131 fu (nI t) (nI u) s (bI c) (nI k) (nI j) 0 K = k131 (nI t) (nI u) s (bI (c && alB (fun i => decide (oddB A i j k = oddB B i j k)) j)) (nI k) (nI (j + 1)) K := by
                intro k87 k131 s k j c hk hj
                have := up0 (fun f i (a : Int32) => f_X4_alike_141 k87 k131 f (nI t) (nI u) s a (nI k) (nI j) i K) j (by rw [fu_val]; omega) (fun i => bI (c && alB (fun i => decide (oddB A i j k = oddB B i j k)) i)) (k131 (nI t) (nI u) s (bI (c && alB (fun i => decide (oddB A i j k = oddB B i j k)) j)) (nI k) (nI (j + 1)) K) ?_ ?_
                · simpa [alB, nI_0] using this
                · intro f
                  show f_X4_alike_141 k87 k131 (f + 1) (nI t) (nI u) s _ (nI k) (nI j) (nI j) K = _
                  rw [f_X4_alike_141, if_pos (nI_le (Nat.le_refl _) (by omega)), nI_1]
                · intro f i hi
                  show f_X4_alike_141 k87 k131 (f + 1) (nI t) (nI u) s (bI _) (nI k) (nI j) (nI i) K = f_X4_alike_141 k87 k131 f (nI t) (nI u) s (bI _) (nI k) (nI j) (nI (i + 1)) K
                  rw [f_X4_alike_141, if_neg (nI_ge hi (by omega)), M_oddAt hA hG hM hi hj hk, Option.bind_some, M_oddAt hB hH hN hi hj hk, Option.bind_some, nI_1]
                  simp only [alB, tri1 i j k hi hj hk]
                  by_cases g : oddB A i j k = oddB B i j k
                  · cases c <;> cases alB (fun i => decide (oddB A i j k = oddB B i j k)) i <;> simp [g, bI]
                  · cases c <;> cases alB (fun i => decide (oddB A i j k = oddB B i j k)) i <;> simp [g, bI]
              have in2 : ∀ (k87 : Int32 → Int32 → Int32 → Int32 → Int32 → zMi → Option (Int32 × zMi)) (s : Int32) (k : Nat) (c : Bool), k < n → f_X4_alike_131 k87 fu (nI t) (nI u) s (bI c) (nI k) 0 K = k87 (nI t) (nI u) s (bI (c && alB (fun j => alB (fun i => decide (oddB A i j k = oddB B i j k)) j) k)) (nI (k + 1)) K := by
                intro k87 s k c hk
                have := up0 (fun f j (a : Int32) => f_X4_alike_131 k87 f (nI t) (nI u) s a (nI k) j K) k (by rw [fu_val]; omega) (fun j => bI (c && alB (fun j => alB (fun i => decide (oddB A i j k = oddB B i j k)) j) j)) (k87 (nI t) (nI u) s (bI (c && alB (fun j => alB (fun i => decide (oddB A i j k = oddB B i j k)) j) k)) (nI (k + 1)) K) ?_ ?_
                · simpa [alB, nI_0] using this
                · intro f
                  show f_X4_alike_131 k87 (f + 1) (nI t) (nI u) s _ (nI k) (nI k) K = _
                  rw [f_X4_alike_131, if_pos (nI_le (Nat.le_refl _) (by omega)), nI_1]
                · intro f j hj
                  show f_X4_alike_131 k87 (f + 1) (nI t) (nI u) s (bI _) (nI k) (nI j) K = f_X4_alike_131 k87 f (nI t) (nI u) s (bI _) (nI k) (nI (j + 1)) K
                  rw [f_X4_alike_131, if_neg (nI_ge hj (by omega)), in1 _ _ s k j _ hk hj]
                  simp only [alB, Bool.and_assoc]
              refine up0 (fun f k (a : Int32 × Int32) => f_X4_alike_87 f (nI t) (nI u) a.1 a.2 k K) n (by rw [fu_val]; omega) (fun k => (nI (bs (fun b => mn A 0 b ^^ mn B 0 b) k), bI (alB (fun k => alB (fun j => alB (fun i => decide (oddB A i j k = oddB B i j k)) j) k) k))) _ ?_ ?_
              · intro f
                show f_X4_alike_87 (f + 1) (nI t) (nI u) _ (bI _) (nI n) K = _
                rw [f_X4_alike_87, M_ix hM, if_pos rfl, M_w hM, if_pos (nI_le (Nat.le_refl _) (by omega))]
                cases alB (fun k => alB (fun j => alB (fun i => decide (oddB A i j k = oddB B i j k)) j) k) n <;> rfl
              · intro f k hk
                show f_X4_alike_87 (f + 1) (nI t) (nI u) _ (bI _) (nI k) K = f_X4_alike_87 f (nI t) (nI u) _ (bI _) (nI (k + 1)) K
                rw [f_X4_alike_87, M_ix hM, if_pos rfl, M_w hM, if_neg (nI_ge hk (by omega)), show f_X4_get (nI t) 0 (nI k) K = _ from MT_get hM h0 hk, Option.bind_some, show f_X4_get (nI u) 0 (nI k) K = _ from MT_get hN h0 hk, Option.bind_some, in2 _ _ k _ hk, in2 _ _ k _ hk]
                have bp := bs_push (fun b => mn A 0 b ^^ mn B 0 b) (i := k) (by omega)
                have eqm : sI (A 0 k) = sI (B 0 k) ↔ (mn A 0 k ^^ mn B 0 k) = false := by
                  have b1 := tri_b hB 0 k
                  rw [tri_eq hA 0 k b1.1 b1.2]
                  by_cases g : 0 = k
                  · subst g
                    rw [(hG 0 0 h0 h0).1 rfl, (hH 0 0 h0 h0).1 rfl]
                    simp [mn, (hG 0 0 h0 h0).1 rfl, (hH 0 0 h0 h0).1 rfl]
                  · rcases GR_pm hA hG h0 hk g with e | e <;> rcases GR_pm hB hH h0 hk g with e' | e' <;> simp [mn, e, e']
                by_cases g : (mn A 0 k ^^ mn B 0 k) = false
                · rw [if_pos (eqm.mpr g)]
                  simp only [g, Bool.false_eq_true, if_false] at bp
                  have e0 : nI (bs (fun b => mn A 0 b ^^ mn B 0 b) k) ||| 0 = nI (bs (fun b => mn A 0 b ^^ mn B 0 b) (k + 1)) := by
                    rw [← bp, show (0 : Int32) = nI 0 from rfl, shl_nI (by omega) (by simp), Nat.zero_mul]
                  rw [e0]
                  rfl
                · have g' : (mn A 0 k ^^ mn B 0 k) = true := by simpa using g
                  rw [if_neg (fun q => g (eqm.mp q))]
                  simp only [g', if_true, show nI 1 = (1 : Int32) from rfl] at bp
                  rw [bp]
                  rfl
            obtain ⟨c, c1, c2⟩ := cls
            have key : c = alB (fun k => alB (fun j => alB (fun i => decide (oddB A i j k = oddB B i j k)) j) k) n := by
              rw [Bool.eq_iff_iff, c2, alB_iff]
              have sy : ∀ i j, i < n → j < n → mn A i j = mn A j i ∧ mn B i j = mn B j i := by
                intro i j hi hj
                by_cases g : i = j
                · subst g; exact ⟨rfl, rfl⟩
                · simp only [mn, ((hG i j hi hj).2 g).2, ((hH i j hi hj).2 g).2, and_self]
              have dg : ∀ i, i < n → mn A i i = false ∧ mn B i i = false := by
                intro i hi
                simp [mn, (hG i i hi hi).1 rfl, (hH i i hi hi).1 rfl]
              constructor
              · intro q k hk
                refine (alB_iff _ _).mpr (fun j hj => (alB_iff _ _).mpr (fun i hi => decide_eq_true ?_))
                have r1 := q i (by omega) j (by omega)
                have r2 := q i (by omega) k hk
                have r3 := q j (by omega) k hk
                simp only [nsB, sb i (by omega), sb j (by omega), sb k hk] at r1 r2 r3
                simp only [oddB, ← r1, ← r2, ← r3]
                cases mn A i j <;> cases mn A i k <;> cases mn A j k <;> cases mn A 0 i <;> cases mn B 0 i <;> cases mn A 0 j <;> cases mn B 0 j <;> cases mn A 0 k <;> cases mn B 0 k <;> rfl
              · intro q
                have od : ∀ i j k, i < j → j < k → k < n → oddB A i j k = oddB B i j k := fun i j k hij hjk hk => of_decide_eq_true ((alB_iff _ _).mp ((alB_iff _ _).mp (q k hk) j hjk) i hij)
                -- below the diagonal and above it
                have up : ∀ i b, i < b → b < n → nsB A (bs (fun b => mn A 0 b ^^ mn B 0 b) n) i b = mn B i b := by
                  intro i b hib hb
                  simp only [nsB, sb i (by omega), sb b hb]
                  by_cases g : i = 0
                  · subst g
                    rw [(dg 0 h0).1, (dg 0 h0).2]
                    cases mn A 0 b <;> cases mn B 0 b <;> rfl
                  · have := od 0 i b (by omega) hib hb
                    simp only [oddB] at this
                    revert this
                    cases mn A 0 i <;> cases mn A 0 b <;> cases mn A i b <;> cases mn B 0 i <;> cases mn B 0 b <;> cases mn B i b <;> decide
                intro i hi b hb
                rcases Nat.lt_trichotomy i b with g | g | g
                · exact up i b g hb
                · subst g
                  simp only [nsB, (dg i hi).1, (dg i hi).2]
                  cases (bs (fun b => mn A 0 b ^^ mn B 0 b) n).testBit i <;> rfl
                · have r := up b i g hi
                  simp only [nsB] at r ⊢
                  rw [(sy i b hi hb).1, (sy i b hi hb).2, ← r]
                  cases (bs (fun b => mn A 0 b ^^ mn B 0 b) n).testBit i <;> cases (bs (fun b => mn A 0 b ^^ mn B 0 b) n).testBit b <;> rfl
            rw [← key] at mod
            cases c
            · refine ⟨0, I, K, ?_, ?_, h⟩
              · simp only [f_X3_alike, q1.1, q2.1, e3, e4, e5, g3, g4, g5, i1', j1', bI_t, w1, v1, set1, c1, bI_f, Option.bind_some, if_neg v10, if_true]
              · simp only [f_X4_alike, q1.2, q2.2, e3, e4, w2, if_neg nz, g3, g4, v2, i2', j2', bI_t, Option.bind_some, if_neg v10, if_true]
                rw [mod]
                rfl
            · refine ⟨1, _, _, ?_, ?_, RR_ask h (nI (bs (fun b => mn A 0 b ^^ mn B 0 b) n))⟩
              · simp only [f_X3_alike, q1.1, q2.1, e3, e4, e5, g3, g4, g5, i1', j1', bI_t, w1, v1, set1, c1, Option.bind_some, if_neg v10, if_true]
              · simp only [f_X4_alike, q1.2, q2.2, e3, e4, w2, if_neg nz, g3, g4, v2, i2', j2', bI_t, Option.bind_some, if_neg v10, if_true]
                rw [mod]
                rfl
          · have ne : ¬ nI n = nI m := fun q => hnm ((nI_eq (by omega) (by omega)).mp q)
            refine ⟨-3, I3, K3, ?_, ?_, h3⟩
            · simp only [f_X3_alike, q1.1, q2.1, e3, e4, e5, g3, g4, g5, i1', j1', bI_t, w1, v1, if_neg ne, z1, Option.bind_some, if_neg v10, if_true]
            · simp only [f_X4_alike, q1.2, q2.2, e3, e4, w2, if_neg nz, g3, g4, v2, if_neg mz, i2', j2', bI_t, if_neg ne, z2, Option.bind_some, if_neg v10, if_true]
