-- ===== weight =====
def tfc : Nat → Int32 → Int32 → Int32 → Int64 × Int64
  | 0, _, _, _ => (0, 0)
  | f + 1, a1, a2, a3 => if a3 ≤ 1 then (a1.toInt64, a2.toInt64) else (if (a1 - a1 / a3 * a3) = 0 then (if (a2 - a2 / a3 * a3) = 0 then ((a1 / a3).toInt64, (a2 / a3).toInt64) else tfc f a1 a2 (a3 + (-1))) else tfc f a1 a2 (a3 + (-1)))
def gcm : Nat → Int64 → Int64 → Int64
  | 0, _, _ => 0
  | f + 1, x, y => if lg_cmp y 0 = 0 then x else gcm f y (x - x / y * y)
theorem wJ_swap (J : zMl) (u l u' l' : Int64) : wJ (wJ (wJ (wJ J 0 11 u) 0 12 l) 0 11 u') 0 12 l' = wJ (wJ J 0 11 u') 0 12 l' := by
  funext a b
  simp only [wJ]
  grind
theorem X_tell (J : zMl) (a1 a2 : Int32) : ∀ (d fuel : Nat), d < fuel → d ≤ 12 → f_X3_tellFraction_14 fuel a1 a2 (nI d) (wJ (wJ J 0 11 a1.toInt64) 0 12 a2.toInt64) = some (wJ (wJ J 0 11 (tfc fuel a1 a2 (nI d)).1) 0 12 (tfc fuel a1 a2 (nI d)).2)
  | 0, fuel, hf, _ => by
    obtain ⟨f, rfl⟩ : ∃ f, fuel = f + 1 := ⟨fuel - 1, by omega⟩
    rw [f_X3_tellFraction_14, tfc, if_pos (show nI 0 ≤ 1 by decide), if_pos (show nI 0 ≤ 1 by decide)]
  | d + 1, fuel, hf, hd => by
    obtain ⟨f, rfl⟩ : ∃ f, fuel = f + 1 := ⟨fuel - 1, by omega⟩
    have ih := X_tell J a1 a2 d f (by omega) (by omega)
    rw [f_X3_tellFraction_14, tfc]
    by_cases g : nI (d + 1) ≤ 1
    · rw [if_pos g, if_pos g]
    · rw [if_neg g, if_neg g, if_neg (nI_ne0 (by omega) (by omega)), pk_m1]
      by_cases g1 : a1 - a1 / nI (d + 1) * nI (d + 1) = 0
      · rw [if_pos g1, if_pos g1]
        by_cases g2 : a2 - a2 / nI (d + 1) * nI (d + 1) = 0
        · rw [if_pos g2, if_pos g2, wJ_swap]
        · rw [if_neg g2, if_neg g2, ih]
      · rw [if_neg g1, if_neg g1, ih]
theorem M_gcd (a1 a3 : Int32) (I : zMi) (J : zMl) : ∀ (fuel : Nat) (x y : Int64), gcm fuel x y ≠ 0 → ix a1 10 = true → f_X4_weight_60 fuel a1 a3 x y I J = some (1, I, wJ (wJ J 0 4 (a3.toInt64 / gcm fuel x y)) 0 5 ((I 5 a1.toNatClampNeg).toInt64 / gcm fuel x y))
  | 0, x, y, h, _ => absurd rfl h
  | f + 1, x, y, h, hi => by
    rw [gcm] at h
    rw [f_X4_weight_60, gcm]
    by_cases g : lg_cmp y 0 = 0
    · rw [if_pos g] at h
      rw [if_pos g, if_pos g, if_neg h, hi, if_pos rfl]
    · rw [if_neg g] at h
      rw [if_neg g, if_neg g, if_neg (fun q => g ((lg_cmp_eq y 0).mpr q))]
      exact M_gcd a1 a3 I J f y _ h hi
def chk (n k : Nat) : Bool :=
  let z : Int32 := nI k - nI 144
  let g := gcm fu (f_X4_abs z).toInt64 (nI n).toInt64
  let t := tfc fu z (nI n) (nI n)
  decide (g ≠ 0) && decide (z.toInt64 / g = t.1) && decide ((nI n).toInt64 / g = t.2)
theorem chk_all : ∀ n, n < 13 → 1 ≤ n → ∀ k, k < 289 → chk n k = true := by decide +kernel
theorem s_weight : so_weight RR := by
  intro I J K M h a1
  rcases T_cases h a1 with ⟨e1, e2, e3⟩ | ⟨t, ht, rfl, e1, e2, e3, e4, e5, e6, e7⟩ | ⟨t, n, A, k, ht, rfl, e1, e2, e3, e4, e5, e6, e7, h0, hA, hX, hM, hK, k1, k2⟩
  · exact ⟨-1, I, J, K, M, by simp only [f_X3_weight, e1, if_true], by simp only [f_X4_weight, e3, Option.bind_some, if_neg v0m1], h⟩
  · obtain ⟨I', K', y1, y2, h'⟩ := RR_found h 1 (by simp)
    refine ⟨-3, I', J, K', M, ?_, ?_, h'⟩
    · simp only [f_X3_weight, e1, e3, e4, e5, y1, Option.bind_some, if_neg v10, if_true]
    · simp only [f_X4_weight, e7, y2, Option.bind_some, if_neg v0m3]
  · have hn := hX.2.1
    have w1 : I (22 + 3 * t) 2 = nI n := hX.2.2.1
    have w2 : K 5 t = nI n := hM.2.2.1
    have c1 := X_countBits (I := I) (c := 23 + 3 * t) hn (pl A) (fun i hi => (hX.2.2.2 i hi).1)
    have c2 := X_countBits (I := I) (c := 24 + 3 * t) hn (mn A) (fun i hi => (hX.2.2.2 i hi).2)
    have lP : fb_sm (fun i => fb_ct (pl A i) n) n ≤ n * n := fb_sm_bound (fun i _ => fb_ct_le _ n)
    have lQ : fb_sm (fun i => fb_ct (mn A i) n) n ≤ n * n := fb_sm_bound (fun i _ => fb_ct_le _ n)
    have nn : n * n ≤ 12 * 12 := Nat.mul_le_mul hn hn
    have row : ∀ i, fb_si (A i) n = (fb_ct (pl A i) n : Int) - fb_ct (mn A i) n := by
      intro i
      have := rs_ct hA i 0 n
      rw [rs_0] at this
      rw [this]
      have z1 : fb_ct (fun j => pl A i j && (0 : Nat).testBit j) n = 0 := fb_ct_zero.mpr (fun j _ => by simp)
      have z2 : fb_ct (fun j => mn A i j && (0 : Nat).testBit j) n = 0 := fb_ct_zero.mpr (fun j _ => by simp)
      rw [z1, z2]
      omega
    have tot : ∀ m, fb_si (fun i => fb_si (A i) n) m = (fb_sm (fun i => fb_ct (pl A i) n) m : Int) - fb_sm (fun i => fb_ct (mn A i) n) m := by
      intro m
      induction m with
      | zero => rfl
      | succ m ih =>
        rw [fb_si_succ, fb_sm_succ, fb_sm_succ, ih, row]
        omega
    have totn := tot n
    generalize fb_sm (fun i => fb_ct (pl A i) n) n = P at c1 lP totn
    generalize fb_sm (fun i => fb_ct (mn A i) n) n = Q at c2 lQ totn
    have loop : f_X4_weight_17 fu (nI t) 0 0 K M = f_X4_weight_60 fu (nI t) (sI (fb_si (fun i => fb_si (A i) n) n)) (f_X4_abs (sI (fb_si (fun i => fb_si (A i) n) n))).toInt64 (nI n).toInt64 K M := by
      refine up0 (fun f i (a : Int32) => f_X4_weight_17 f (nI t) a i K M) n (by rw [fu_val]; omega) (fun k => sI (fb_si (fun i => fb_si (A i) n) k)) _ ?_ ?_
      · intro f
        show f_X4_weight_17 (f + 1) (nI t) _ (nI n) K M = _
        rw [f_X4_weight_17, M_ix hM, if_pos rfl, M_w hM, if_pos (nI_le (Nat.le_refl _) (by omega))]
      · intro f i hi
        show f_X4_weight_17 (f + 1) (nI t) _ (nI i) K M = f_X4_weight_17 f (nI t) _ (nI (i + 1)) K M
        rw [f_X4_weight_17, M_ix hM, if_pos rfl, M_w hM, if_neg (nI_ge hi (by omega)), M_rowSum hM hi, Option.bind_some, sI_add, nI_1]
        rfl
    have hc := chk_all n (by omega) h0 (P + 144 - Q) (by omega)
    have ez : nI (P + 144 - Q) - nI 144 = nI P - nI Q := by
      rw [← sI_nI, ← sI_nI, ← sI_nI, ← sI_nI, sI_sub, sI_sub]
      congr 1
      omega
    have es : sI (fb_si (fun i => fb_si (A i) n) n) = nI P - nI Q := by
      rw [totn, ← sI_nI, ← sI_nI, sI_sub]
    simp only [chk, Bool.and_eq_true, decide_eq_true_iff, ez] at hc
    obtain ⟨⟨g1, g2⟩, g3⟩ := hc
    rw [es, M_gcd _ _ _ _ _ _ _ g1 e3, e4, w2, g2, g3] at loop
    have tl := X_tell J (nI P - nI Q) (nI n) n fu (by rw [fu_val]; omega) hn
    refine ⟨1, I, wJ (wJ J 0 11 (tfc fu (nI P - nI Q) (nI n) (nI n)).1) 0 12 (tfc fu (nI P - nI Q) (nI n) (nI n)).2, K, wJ (wJ M 0 4 (tfc fu (nI P - nI Q) (nI n) (nI n)).1) 0 5 (tfc fu (nI P - nI Q) (nI n) (nI n)).2, ?_, ?_, ?_⟩
    · simp only [f_X3_weight, f_X3_tellFraction, e1, e3, e4, e5, w1, c1, c2, tl, Option.bind_some, if_neg v10, if_true]
    · simp only [f_X4_weight, e7, Option.bind_some, if_pos v00]
      exact loop
    · refine RR_scr h (fun _ _ _ _ _ => rfl) (fun _ _ _ _ => rfl) ⟨?_, ?_, ?_⟩
      · rw [wJ_off (by omega), wJ_off (by omega), wJ_off (by omega), wJ_off (by omega)]
        exact h.2.2.2.1.1
      · rw [wJ_off (by omega), wJ_here rfl rfl, wJ_off (by omega), wJ_here rfl rfl]
      · rw [wJ_here rfl rfl, wJ_here rfl rfl]
