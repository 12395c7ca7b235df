-- ===== excess =====
theorem comp_tb {n x j : Nat} (hx : x < 2 ^ n) (hj : j < n) : (2 ^ n - 1 - x).testBit j = !x.testBit j := by
  rw [show 2 ^ n - 1 - x = 2 ^ n - (x + 1) by omega, Nat.testBit_two_pow_sub_succ hx, decide_eq_true hj, Bool.true_and]
theorem rs_comp (A : Nat → Nat → Int) (i : Nat) {n x : Nat} (hx : x < 2 ^ n) : rsI A n i (2 ^ n - 1 - x) = - rsI A n i x := by
  unfold rsI
  have e : fb_si (fun j => if (2 ^ n - 1 - x).testBit j then - A i j else A i j) n = fb_si (fun j => -1 * (if x.testBit j then - A i j else A i j)) n := fb_si_cong (fun j hj => by
    rw [comp_tb hx hj]
    cases x.testBit j <;> simp)
  rw [e, fb_si_mul]
  omega
def sz (A : Nat → Nat → Int) (n x : Nat) : Nat := fb_sm (fun i => (rsI A n i x).natAbs) n
theorem sz_le {A : Nat → Nat → Int} (hA : tri A) {n : Nat} (hn : n ≤ 12) (x : Nat) : sz A n x ≤ 144 := by
  have : sz A n x ≤ n * n := fb_sm_bound (fun i _ => by have := rs_bound hA i x n; omega)
  have : n * n ≤ 12 * 12 := Nat.mul_le_mul hn hn
  omega
theorem sz_comp (A : Nat → Nat → Int) {n x : Nat} (hx : x < 2 ^ n) : sz A n (2 ^ n - 1 - x) = sz A n x := fb_sm_cong (fun i _ => by rw [rs_comp A i hx]; omega)
theorem X_sumOfSizes {I : zMi} {T n : Nat} {A : Nat → Nat → Int} (hA : tri A) (h : XT I T n A) (x : Nat) : f_X2_sumOfSizes T (nI x) I = some (nI (sz A n x)) := by
  have hn := h.2.1
  unfold f_X2_sumOfSizes
  refine up0 (fun f i (a : Int32) => f_X2_sumOfSizes_4 I f T (nI x) a i) n (by rw [fu_val]; omega) (fun k => nI (fb_sm (fun i => (rsI A n i x).natAbs) k)) _ ?_ ?_
  · intro f
    show f_X2_sumOfSizes_4 I (f + 1) T (nI x) _ (nI n) = _
    rw [f_X2_sumOfSizes_4, h.2.2.1, if_pos (nI_le (Nat.le_refl _) (by omega))]
    rfl
  · intro f k hk
    show f_X2_sumOfSizes_4 I (f + 1) T (nI x) _ (nI k) = f_X2_sumOfSizes_4 I f T (nI x) _ (nI (k + 1))
    have hb := rs_bound hA k x n
    rw [f_X2_sumOfSizes_4, h.2.2.1, if_neg (nI_ge hk (by omega)), X_rowSum hA h hk, Option.bind_some, (abs_sI (by omega) (by omega)).2, nI_add, nI_1]
    rfl
theorem pow_half {n : Nat} (h : 0 < n) : 2 ^ n = 2 ^ (n - 1) + 2 ^ (n - 1) := by
  obtain ⟨m, rfl⟩ : ∃ m, n = m + 1 := ⟨n - 1, by omega⟩
  rw [Nat.pow_succ, Nat.add_sub_cancel]
  omega
theorem s_excess : so_excess RR := by
  intro I J K M h a1
  rcases T_cases h a1 with ⟨e1, e2, e3⟩ | ⟨t, ht, rfl, e1, e2, e3, e4, e5, e6, e7⟩ | ⟨t, n, A, k, ht, rfl, e1, e2, e3, e4, e5, e6, e7, h0, hA, hX, hM, hK, k1, k2⟩
  · exact ⟨-1, I, K, by simp only [f_X3_excess, e1, if_true], by simp only [f_X4_excess, e3, Option.bind_some, if_neg v0m1], h⟩
  · obtain ⟨I', K', y1, y2, h'⟩ := RR_found h 1 (by simp)
    refine ⟨-3, I', K', ?_, ?_, h'⟩
    · simp only [f_X3_excess, e1, e3, e4, e5, y1, Option.bind_some, if_neg v10, if_true]
    · simp only [f_X4_excess, e7, y2, Option.bind_some, if_neg v0m3]
  · have hn := hX.2.1
    have hp := p12 hn
    have hpow := pow_half h0
    have hp1 : 1 ≤ 2 ^ (n - 1) := Nat.one_le_two_pow
    have half : ax (sz A n) (2 ^ n) = ax (sz A n) (2 ^ (n - 1)) := by
      rw [hpow]
      exact ax_half _ _ (fun k h1 h2 => ⟨2 ^ n - 1 - k, by omega, by rw [sz_comp A (by omega)]; exact Nat.le_refl _⟩)
    have hc : nI n - 1 = nI (n - 1) := pk_sub (b := 1) h0
    have cls : f_X3_excess_34 fu t (-1) 0 I = some (nI (sz A n (ax (sz A n) (2 ^ (n - 1)))), wI I 0 9 (nI (ax (sz A n) (2 ^ (n - 1))))) := by
      refine lp (fun f i (s : Int32 × zMi) => f_X3_excess_34 f t s.1 i s.2) (2 ^ (n - 1)) 0 (by omega) (by rw [fu_val]; omega) (fun q s => (q = 0 ∧ s = (-1, I)) ∨ (0 < q ∧ s = (nI (sz A n (ax (sz A n) q)), wI I 0 9 (nI (ax (sz A n) q))))) (fun res => res = some (nI (sz A n (ax (sz A n) (2 ^ (n - 1)))), wI I 0 9 (nI (ax (sz A n) (2 ^ (n - 1)))))) ?_ ?_ (-1, I) (Or.inl ⟨rfl, rfl⟩)
      · intro f s hs
        rcases hs with ⟨hq, -⟩ | ⟨-, rfl⟩
        · omega
        · show f_X3_excess_34 (f + 1) t (nI (sz A n (ax (sz A n) (2 ^ (n - 1))))) (nI (2 ^ (n - 1))) (wI I 0 9 (nI (ax (sz A n) (2 ^ (n - 1))))) = _
          rw [f_X3_excess_34, (XT_ask hX _).2.2.1, hc, one_shl (by omega), if_pos (nI_le (Nat.le_refl _) (by omega))]
      · intro f q s _ hq hs
        left
        show ∃ s' : Int32 × zMi, f_X3_excess_34 (f + 1) t s.1 (nI q) s.2 = f_X3_excess_34 f t s'.1 (nI (q + 1)) s'.2 ∧ _
        have l1 := sz_le hA hn q
        rcases hs with ⟨rfl, rfl⟩ | ⟨h0q, rfl⟩
        · refine ⟨(nI (sz A n 0), wI I 0 9 (nI 0)), ?_, Or.inr ⟨by omega, by simp [ax]⟩⟩
          show f_X3_excess_34 (f + 1) t (-1) (nI 0) I = _
          rw [f_X3_excess_34, hX.2.2.1, hc, one_shl (by omega), if_neg (nI_ge hq (by omega)), X_sumOfSizes hA hX, Option.bind_some, if_neg, nI_1]
          rw [fa_le, nI_toInt (by omega)]
          show ¬ ((sz A n 0 : Nat) : Int) ≤ -1
          omega
        · have l2 := sz_le hA hn (ax (sz A n) q)
          show ∃ s' : Int32 × zMi, f_X3_excess_34 (f + 1) t (nI (sz A n (ax (sz A n) q))) (nI q) (wI I 0 9 (nI (ax (sz A n) q))) = f_X3_excess_34 f t s'.1 (nI (q + 1)) s'.2 ∧ _
          rw [f_X3_excess_34, (XT_ask hX _).2.2.1, hc, one_shl (by omega), if_neg (nI_ge hq (by omega)), X_sumOfSizes hA (XT_ask hX _), Option.bind_some, nI_1, wI_twice]
          simp only [ax]
          by_cases g : sz A n (ax (sz A n) q) < sz A n q
          · rw [if_neg (nI_ge g (by omega)), if_pos g]
            exact ⟨(_, _), rfl, Or.inr ⟨by omega, rfl⟩⟩
          · rw [if_pos (nI_le (by omega) (by omega)), if_neg g]
            exact ⟨(_, _), rfl, Or.inr ⟨by omega, rfl⟩⟩
    have inner : ∀ (k21 : Int32 → Int32 → Int32 → Int32 → zMi → Option (Int32 × zMi)) (b l : Int32) (x : Nat), x < 2 ^ n → f_X4_excess_40 k21 fu (nI t) b l (nI x) 0 0 K = if b < 0 then k21 (nI t) (nI x) (nI (sz A n x)) (nI (x + 1)) K else if nI (sz A n x) ≤ l then k21 (nI t) b l (nI (x + 1)) K else k21 (nI t) (nI x) (nI (sz A n x)) (nI (x + 1)) K := by
      intro k21 b l x hx
      refine up0 (fun f i (a : Int32) => f_X4_excess_40 k21 f (nI t) b l (nI x) a i K) n (by rw [fu_val]; omega) (fun i => nI (fb_sm (fun i => (rsI A n i x).natAbs) i)) _ ?_ ?_
      · intro f
        show f_X4_excess_40 k21 (f + 1) (nI t) b l (nI x) _ (nI n) K = _
        rw [f_X4_excess_40, M_ix hM, if_pos rfl, M_w hM, if_pos (nI_le (Nat.le_refl _) (by omega)), nI_1]
        rfl
      · intro f i hi
        show f_X4_excess_40 k21 (f + 1) (nI t) b l (nI x) _ (nI i) K = f_X4_excess_40 k21 f (nI t) b l (nI x) _ (nI (i + 1)) K
        rw [f_X4_excess_40, M_ix hM, if_pos rfl, M_w hM, if_neg (nI_ge hi (by omega)), M_turnedSum hA hM hi (by omega), Option.bind_some, nI_add, nI_1]
        rfl
    have mod : f_X4_excess_21 fu (nI t) (-9) 0 0 K = some (nI (sz A n (ax (sz A n) (2 ^ n))), wI K 0 2 (nI (ax (sz A n) (2 ^ n)))) := by
      refine lp (fun f i (s : Int32 × Int32) => f_X4_excess_21 f (nI t) s.1 s.2 i K) (2 ^ n) 0 (by omega) (by rw [fu_val]; omega) (fun q s => (q = 0 ∧ s = (-9, 0)) ∨ (0 < q ∧ ax (sz A n) q < 2 ^ n ∧ s = (nI (ax (sz A n) q), nI (sz A n (ax (sz A n) q))))) (fun res => res = some (nI (sz A n (ax (sz A n) (2 ^ n))), wI K 0 2 (nI (ax (sz A n) (2 ^ n))))) ?_ ?_ (-9, 0) (Or.inl ⟨rfl, rfl⟩)
      · intro f s hs
        rcases hs with ⟨hq, -⟩ | ⟨-, -, rfl⟩
        · omega
        · show f_X4_excess_21 (f + 1) (nI t) _ _ (nI (2 ^ n)) K = _
          rw [f_X4_excess_21, M_ix hM, if_pos rfl, M_w hM, one_shl (by omega), if_pos (nI_le (Nat.le_refl _) (by omega))]
          rfl
      · intro f q s _ hq hs
        left
        show ∃ s' : Int32 × Int32, f_X4_excess_21 (f + 1) (nI t) s.1 s.2 (nI q) K = f_X4_excess_21 f (nI t) s'.1 s'.2 (nI (q + 1)) K ∧ _
        have l1 := sz_le hA hn q
        rw [f_X4_excess_21, M_ix hM, if_pos rfl, M_w hM, one_shl (by omega), if_neg (nI_ge hq (by omega)), inner _ _ _ q hq]
        rcases hs with ⟨rfl, rfl⟩ | ⟨h0q, hlt, rfl⟩
        · refine ⟨(nI 0, nI (sz A n 0)), ?_, Or.inr ⟨by omega, by simp [ax]; omega, by simp [ax]⟩⟩
          rw [if_pos (by decide)]
        · have l2 := sz_le hA hn (ax (sz A n) q)
          rw [if_neg (nI_pos (by omega))]
          simp only [ax]
          by_cases g : sz A n (ax (sz A n) q) < sz A n q
          · rw [if_neg (nI_ge g (by omega)), if_pos g]
            exact ⟨(_, _), rfl, Or.inr ⟨by omega, hq, rfl⟩⟩
          · rw [if_pos (nI_le (by omega) (by omega)), if_neg g]
            exact ⟨(_, _), rfl, Or.inr ⟨by omega, hlt, rfl⟩⟩
    rw [half] at mod
    refine ⟨nI (sz A n (ax (sz A n) (2 ^ (n - 1)))), _, _, ?_, ?_, RR_ask h (nI (ax (sz A n) (2 ^ (n - 1))))⟩
    · simp only [f_X3_excess, e1, e3, e4, e5, if_neg v10, if_true]
      exact cls
    · simp only [f_X4_excess, e7, Option.bind_some, if_pos v00]
      exact mod
-- ===== peak =====
def gm (f : Nat → Nat) : Nat → Nat
  | 0 => 0
  | k + 1 => if gm f k < f k then f k else gm f k
theorem gm_mono (f : Nat → Nat) (k : Nat) : ∀ d, gm f k ≤ gm f (k + d)
  | 0 => Nat.le_refl _
  | d + 1 => by
    have := gm_mono f k d
    show _ ≤ gm f (k + d + 1)
    simp only [gm]
    split <;> omega
theorem gm_cong {f g : Nat → Nat} : ∀ {n : Nat}, (∀ k, k < n → f k = g k) → gm f n = gm g n
  | 0, _ => rfl
  | n + 1, h => by rw [gm, gm, gm_cong (fun k hk => h k (by omega)), h n (by omega)]
theorem gm_le {f : Nat → Nat} {c : Nat} : ∀ {n : Nat}, (∀ k, k < n → f k ≤ c) → gm f n ≤ c
  | 0, _ => Nat.zero_le _
  | n + 1, h => by
    have := gm_le (n := n) (fun k hk => h k (by omega))
    have := h n (by omega)
    rw [gm]
    split <;> omega
def pvA (A : Nat → Nat → Int) (n x : Nat) : Nat := gm (fun i => (rsI A n i x).natAbs) n
theorem pvA_le {A : Nat → Nat → Int} (hA : tri A) {n : Nat} (x : Nat) : pvA A n x ≤ n := gm_le (fun i _ => by have := rs_bound hA i x n; omega)
theorem pvA_comp (A : Nat → Nat → Int) {n x : Nat} (hx : x < 2 ^ n) : pvA A n (2 ^ n - 1 - x) = pvA A n x := gm_cong (fun i _ => by rw [rs_comp A i hx]; omega)
theorem J_max (a b : Nat) (ha : a < 2 ^ 31) (hb : b < 2 ^ 31) : f_J9_max (nI a) (nI b) = nI (if a < b then b else a) := by
  unfold f_J9_max
  by_cases g : a < b
  · rw [if_pos (nI_lt g hb), if_pos g]
  · rw [if_neg (nI_nlt (by omega) ha), if_neg g]
theorem X_greatest {I : zMi} {T n : Nat} {A : Nat → Nat → Int} (hA : tri A) (h : XT I T n A) (x e : Nat) (he : e < 2 ^ 31) : ∃ v, f_X2_greatestSize T (nI x) (nI e) I = some (nI v) ∧ v ≤ n ∧ (v = pvA A n x ∨ (e ≤ v ∧ v ≤ pvA A n x)) := by
  have hn := h.2.1
  unfold f_X2_greatestSize
  refine lp (fun f i (a : Int32) => f_X2_greatestSize_5 I f T (nI x) (nI e) a i) n 0 (by omega) (by rw [fu_val]; omega) (fun k a => a = nI (gm (fun i => (rsI A n i x).natAbs) k)) (fun res => ∃ v, res = some (nI v) ∧ v ≤ n ∧ (v = pvA A n x ∨ (e ≤ v ∧ v ≤ pvA A n x))) ?_ ?_ _ rfl
  · intro f a ha
    refine ⟨pvA A n x, ?_, pvA_le hA x, Or.inl rfl⟩
    show f_X2_greatestSize_5 I (f + 1) T (nI x) (nI e) a (nI n) = _
    rw [f_X2_greatestSize_5, h.2.2.1, if_pos (nI_le (Nat.le_refl _) (by omega)), ha]
    rfl
  · intro f k a _ hk ha
    have b1 : gm (fun i => (rsI A n i x).natAbs) k ≤ n := gm_le (fun i _ => by have := rs_bound hA i x n; omega)
    have hb := rs_bound hA k x n
    by_cases g : e ≤ gm (fun i => (rsI A n i x).natAbs) k
    · right
      refine ⟨gm (fun i => (rsI A n i x).natAbs) k, ?_, b1, Or.inr ⟨g, ?_⟩⟩
      · show f_X2_greatestSize_5 I (f + 1) T (nI x) (nI e) a (nI k) = _
        rw [f_X2_greatestSize_5, h.2.2.1, if_neg (nI_ge hk (by omega)), ha, if_pos (nI_le g (by omega))]
      · have := gm_mono (fun i => (rsI A n i x).natAbs) k (n - k)
        rw [show k + (n - k) = n by omega] at this
        exact this
    · left
      refine ⟨nI (gm (fun i => (rsI A n i x).natAbs) (k + 1)), ?_, rfl⟩
      show f_X2_greatestSize_5 I (f + 1) T (nI x) (nI e) a (nI k) = f_X2_greatestSize_5 I f T (nI x) (nI e) _ (nI (k + 1))
      rw [f_X2_greatestSize_5, h.2.2.1, if_neg (nI_ge hk (by omega)), ha, if_neg (nI_ge (by omega) he), X_rowSum hA h hk, Option.bind_some, (abs_sI (by omega) (by omega)).2, nI_1, J_max _ _ (by omega) (by omega)]
      rfl
theorem s_peak : so_peak RR := by
  intro I J K M h a1
  rcases T_cases h a1 with ⟨e1, e2, e3⟩ | ⟨t, ht, rfl, e1, e2, e3, e4, e5, e6, e7⟩ | ⟨t, n, A, k, ht, rfl, e1, e2, e3, e4, e5, e6, e7, h0, hA, hX, hM, hK, k1, k2⟩
  · exact ⟨-1, I, K, by simp only [f_X3_peak, e1, if_true], by simp only [f_X4_peak, e3, Option.bind_some, if_neg v0m1], h⟩
  · obtain ⟨I', K', y1, y2, h'⟩ := RR_found h 1 (by simp)
    refine ⟨-3, I', K', ?_, ?_, h'⟩
    · simp only [f_X3_peak, e1, e3, e4, e5, y1, Option.bind_some, if_neg v10, if_true]
    · simp only [f_X4_peak, e7, y2, Option.bind_some, if_neg v0m3]
  · have hn := hX.2.1
    have hp := p12 hn
    have hpow := pow_half h0
    have hp1 : 1 ≤ 2 ^ (n - 1) := Nat.one_le_two_pow
    have half : am (pvA A n) (2 ^ n) = am (pvA A n) (2 ^ (n - 1)) := by
      rw [hpow]
      exact am_half _ _ (fun k h1 h2 => ⟨2 ^ n - 1 - k, by omega, by rw [pvA_comp A (by omega)]; exact Nat.le_refl _⟩)
    have hc : nI n - 1 = nI (n - 1) := pk_sub (b := 1) h0
    have cls : f_X3_peak_39 fu t (nI (n + 1)) 0 I = some (nI (pvA A n (am (pvA A n) (2 ^ (n - 1)))), wI I 0 9 (nI (am (pvA A n) (2 ^ (n - 1))))) := by
      refine lp (fun f i (s : Int32 × zMi) => f_X3_peak_39 f t s.1 i s.2) (2 ^ (n - 1)) 0 (by omega) (by rw [fu_val]; omega) (fun q s => (q = 0 ∧ s = (nI (n + 1), I)) ∨ (0 < q ∧ s = (nI (pvA A n (am (pvA A n) q)), wI I 0 9 (nI (am (pvA A n) q))))) (fun res => res = some (nI (pvA A n (am (pvA A n) (2 ^ (n - 1)))), wI I 0 9 (nI (am (pvA A n) (2 ^ (n - 1)))))) ?_ ?_ (nI (n + 1), I) (Or.inl ⟨rfl, rfl⟩)
      · intro f s hs
        rcases hs with ⟨hq, -⟩ | ⟨-, rfl⟩
        · omega
        · show f_X3_peak_39 (f + 1) t (nI (pvA A n (am (pvA A n) (2 ^ (n - 1))))) (nI (2 ^ (n - 1))) (wI I 0 9 (nI (am (pvA A n) (2 ^ (n - 1))))) = _
          rw [f_X3_peak_39, (XT_ask hX _).2.2.1, hc, one_shl (by omega), if_pos (nI_le (Nat.le_refl _) (by omega))]
      · intro f q s _ hq hs
        left
        show ∃ s' : Int32 × zMi, f_X3_peak_39 (f + 1) t s.1 (nI q) s.2 = f_X3_peak_39 f t s'.1 (nI (q + 1)) s'.2 ∧ _
        have l1 := pvA_le hA (n := n) q
        rcases hs with ⟨rfl, rfl⟩ | ⟨h0q, rfl⟩
        · refine ⟨(nI (pvA A n 0), wI I 0 9 (nI 0)), ?_, Or.inr ⟨by omega, by simp [am]⟩⟩
          obtain ⟨v, w1, w2, w3⟩ := X_greatest hA hX 0 (n + 1) (by omega)
          have hv : v = pvA A n 0 := by
            rcases w3 with q | q
            · exact q
            · omega
          subst hv
          show f_X3_peak_39 (f + 1) t (nI (n + 1)) (nI 0) I = _
          rw [f_X3_peak_39, hX.2.2.1, hc, one_shl (by omega), if_neg (nI_ge hq (by omega)), w1, Option.bind_some, if_neg (nI_ge (by omega) (by omega)), nI_1]
        · have l2 := pvA_le hA (n := n) (am (pvA A n) q)
          obtain ⟨v, w1, w2, w3⟩ := X_greatest hA (XT_ask hX (nI (am (pvA A n) q))) q (pvA A n (am (pvA A n) q)) (by omega)
          show ∃ s' : Int32 × zMi, f_X3_peak_39 (f + 1) t (nI (pvA A n (am (pvA A n) q))) (nI q) (wI I 0 9 (nI (am (pvA A n) q))) = f_X3_peak_39 f t s'.1 (nI (q + 1)) s'.2 ∧ _
          rw [f_X3_peak_39, (XT_ask hX _).2.2.1, hc, one_shl (by omega), if_neg (nI_ge hq (by omega)), w1, Option.bind_some, nI_1, wI_twice]
          simp only [am]
          by_cases g : pvA A n q < pvA A n (am (pvA A n) q)
          · have hv : v = pvA A n q := by
              rcases w3 with q | q
              · exact q
              · omega
            subst hv
            rw [if_neg (nI_ge g (by omega)), if_pos g]
            exact ⟨(_, _), rfl, Or.inr ⟨by omega, rfl⟩⟩
          · rw [if_pos (nI_le (by omega) (by omega)), if_neg g]
            exact ⟨(_, _), rfl, Or.inr ⟨by omega, rfl⟩⟩
    have inner : ∀ (k21 : Int32 → Int32 → Int32 → Int32 → zMi → Option (Int32 × zMi)) (b l : Int32) (x : Nat), x < 2 ^ n → f_X4_peak_40 k21 fu (nI t) b l (nI x) 0 0 K = if b < 0 then k21 (nI t) (nI x) (nI (pvA A n x)) (nI (x + 1)) K else if l ≤ nI (pvA A n x) then k21 (nI t) b l (nI (x + 1)) K else k21 (nI t) (nI x) (nI (pvA A n x)) (nI (x + 1)) K := by
      intro k21 b l x hx
      refine up0 (fun f i (a : Int32) => f_X4_peak_40 k21 f (nI t) b l (nI x) a i K) n (by rw [fu_val]; omega) (fun i => nI (gm (fun i => (rsI A n i x).natAbs) i)) _ ?_ ?_
      · intro f
        show f_X4_peak_40 k21 (f + 1) (nI t) b l (nI x) _ (nI n) K = _
        rw [f_X4_peak_40, M_ix hM, if_pos rfl, M_w hM, if_pos (nI_le (Nat.le_refl _) (by omega)), nI_1]
        rfl
      · intro f i hi
        show f_X4_peak_40 k21 (f + 1) (nI t) b l (nI x) _ (nI i) K = f_X4_peak_40 k21 f (nI t) b l (nI x) _ (nI (i + 1)) K
        have b1 : gm (fun i => (rsI A n i x).natAbs) i ≤ n := gm_le (fun i _ => by have := rs_bound hA i x n; omega)
        have hb := rs_bound hA i x n
        rw [f_X4_peak_40, M_ix hM, if_pos rfl, M_w hM, if_neg (nI_ge hi (by omega)), M_turnedSum hA hM hi (by omega), Option.bind_some, nI_1]
        simp only [gm]
        by_cases g : gm (fun i => (rsI A n i x).natAbs) i < (rsI A n i x).natAbs
        · rw [if_neg (nI_ge g (by omega)), if_pos g]
        · rw [if_pos (nI_le (by omega) (by omega)), if_neg g]
    have mod : f_X4_peak_21 fu (nI t) (-9) 0 0 K = some (nI (pvA A n (am (pvA A n) (2 ^ n))), wI K 0 2 (nI (am (pvA A n) (2 ^ n)))) := by
      refine lp (fun f i (s : Int32 × Int32) => f_X4_peak_21 f (nI t) s.1 s.2 i K) (2 ^ n) 0 (by omega) (by rw [fu_val]; omega) (fun q s => (q = 0 ∧ s = (-9, 0)) ∨ (0 < q ∧ s = (nI (am (pvA A n) q), nI (pvA A n (am (pvA A n) q))))) (fun res => res = some (nI (pvA A n (am (pvA A n) (2 ^ n))), wI K 0 2 (nI (am (pvA A n) (2 ^ n))))) ?_ ?_ (-9, 0) (Or.inl ⟨rfl, rfl⟩)
      · intro f s hs
        rcases hs with ⟨hq, -⟩ | ⟨-, rfl⟩
        · omega
        · show f_X4_peak_21 (f + 1) (nI t) _ _ (nI (2 ^ n)) K = _
          rw [f_X4_peak_21, M_ix hM, if_pos rfl, M_w hM, one_shl (by omega), if_pos (nI_le (Nat.le_refl _) (by omega))]
          rfl
      · intro f q s _ hq hs
        left
        show ∃ s' : Int32 × Int32, f_X4_peak_21 (f + 1) (nI t) s.1 s.2 (nI q) K = f_X4_peak_21 f (nI t) s'.1 s'.2 (nI (q + 1)) K ∧ _
        have l1 := pvA_le hA (n := n) q
        rw [f_X4_peak_21, M_ix hM, if_pos rfl, M_w hM, one_shl (by omega), if_neg (nI_ge hq (by omega)), inner _ _ _ q hq]
        rcases hs with ⟨rfl, rfl⟩ | ⟨h0q, rfl⟩
        · refine ⟨(nI 0, nI (pvA A n 0)), ?_, Or.inr ⟨by omega, by simp [am]⟩⟩
          rw [if_pos (by decide)]
        · have l2 := pvA_le hA (n := n) (am (pvA A n) q)
          have l3 := am_lt (pvA A n) q h0q
          rw [if_neg (nI_pos (by omega))]
          simp only [am]
          by_cases g : pvA A n q < pvA A n (am (pvA A n) q)
          · rw [if_neg (nI_ge g (by omega)), if_pos g]
            exact ⟨(_, _), rfl, Or.inr ⟨by omega, rfl⟩⟩
          · rw [if_pos (nI_le (by omega) (by omega)), if_neg g]
            exact ⟨(_, _), rfl, Or.inr ⟨by omega, rfl⟩⟩
    rw [half] at mod
    refine ⟨nI (pvA A n (am (pvA A n) (2 ^ (n - 1)))), _, _, ?_, ?_, RR_ask h (nI (am (pvA A n) (2 ^ (n - 1))))⟩
    · have w1 : I (22 + 3 * t) 2 = nI n := hX.2.2.1
      simp only [f_X3_peak, e1, e3, e4, e5, w1, nI_1, if_neg v10, if_true]
      exact cls
    · simp only [f_X4_peak, e7, Option.bind_some, if_pos v00]
      exact mod
-- ===== block =====
theorem SG_pm {A : Nat → Nat → Int} {n : Nat} (hA : tri A) (hS : SG A n) {i j : Nat} (hi : i < n) (hj : j < n) : A i j = 1 ∨ A i j = -1 := by
  have := hS i j hi hj
  rcases hA i j with e | e | e
  · exact Or.inl e
  · exact absurd e this
  · exact Or.inr e
def blB (A : Nat → Nat → Int) (i j : Nat) : Bool := !((mn A (i + 1) j ^^ mn A 0 j) ^^ (mn A (i + 1) 0 ^^ mn A 0 0))
theorem s_block : so_block RR := by
  intro I J K M h a1 a2
  rcases T_cases h a1 with ⟨e1, e2, e3⟩ | ⟨t, ht, rfl, e1, e2, e3, e4, e5, e6, e7⟩ | ⟨t, n, A, k, ht, rfl, e1, e2, e3, e4, e5, e6, e7, h0, hA, hX, hM, hK, k1, k2⟩
  · exact ⟨-1, I, K, by simp only [f_X3_block, e1, if_true], by simp only [f_X4_block, e3, Option.bind_some, if_neg v0m1], h⟩
  · obtain ⟨I', K', y1, y2, h'⟩ := RR_found h 1 (by simp)
    refine ⟨-3, I', K', ?_, ?_, h'⟩
    · simp only [f_X3_block, e1, e3, e4, e5, y1, Option.bind_some, if_neg v10, if_true]
    · simp only [f_X4_block, e7, y2, Option.bind_some, if_neg v0m3]
  · have hn := hX.2.1
    have w1 : I (22 + 3 * t) 2 = nI n := hX.2.2.1
    have w2 : K 5 t = nI n := hM.2.2.1
    obtain ⟨b, i1, i2, i3⟩ := is_eq (I := I) (K := K) ht k1 k2 (KD_le hK) (a := 1) (by omega) (by omega)
    have i1' : f_X2_isOfKind t 1 I = bI b := i1
    have i2' : f_X4_is (nI t) 1 K = some (bI b) := i2
    cases b
    · obtain ⟨I', K', y1, y2, h'⟩ := RR_found h 3 (by simp)
      refine ⟨-3, I', K', ?_, ?_, h'⟩
      · simp only [f_X3_block, e1, e3, e4, e5, i1', bI_f, y1, Option.bind_some, if_neg v10, if_true]
      · simp only [f_X4_block, e7, i2', bI_f, y2, Option.bind_some, if_pos v00, if_true]
    · have hS := KD_square hK (by have := i3.mp rfl; omega)
      by_cases h4 : n < 4
      · obtain ⟨I', K', y1, y2, h'⟩ := RR_found h 5 (by simp)
        have g : ¬ (4 : Int32) ≤ nI n := nI_ge (b := 4) h4 (by omega)
        refine ⟨-3, I', K', ?_, ?_, h'⟩
        · simp only [f_X3_block, e1, e3, e4, e5, i1', bI_t, w1, if_neg g, y1, Option.bind_some, if_neg v10, if_true]
        · simp only [f_X4_block, e7, i2', bI_t, e3, e4, w2, if_neg g, y2, Option.bind_some, if_pos v00, if_neg v10, if_true]
      · have g : (4 : Int32) ≤ nI n := nI_le (a := 4) (by omega) (by omega)
        have em2 : nI n - 2 = nI (n - 2) := pk_sub (b := 2) (by omega)
        rcases in_0n (a := a2) (n - 2) (by omega) with ⟨n1, n2⟩ | ⟨i, hi, rfl, n1, n2, n3⟩
        · obtain ⟨I', K', y1, y2, h'⟩ := RR_found h 2 (by simp)
          refine ⟨-3, I', K', ?_, ?_, h'⟩
          · by_cases q : a2 < 0
            · simp only [f_X3_block, e1, e3, e4, e5, i1', bI_t, w1, if_pos g, if_pos q, y1, Option.bind_some, if_neg v10, if_true]
            · have q' : ¬ a2 ≤ nI (n - 2) := by
                rcases n2 with w | w
                · exact absurd w q
                · exact w
              simp only [f_X3_block, e1, e3, e4, e5, i1', bI_t, w1, if_pos g, if_neg q, em2, if_neg q', y1, Option.bind_some, if_neg v10, if_true]
          · simp only [f_X4_block, e7, i2', bI_t, e3, e4, w2, if_pos g, em2, n1, y2, Option.bind_some, if_pos v00, if_neg v10, if_true]
        · have np : f_X2_normalPlus t (nI (i + 1)) I = some (nI (bs (blB A i) n)) := by
            unfold f_X2_normalPlus
            have hb := bs12 (fun b => mn A (i + 1) b ^^ mn A 0 b) hn
            rw [ix_nI (by omega) (by omega), if_pos rfl, nI_clamp (by omega), show (0 : Int32).toNatClampNeg = 0 from rfl, (hX.2.2.2 (i + 1) (by omega)).2, (hX.2.2.2 0 h0).2, w1, allBits_nI (by omega), fb_xorI, bs_xor, xor_m1, fa_and, ← bs_true, bs_and]
            have lowbit : (nI (bs (fun b => mn A (i + 1) b ^^ mn A 0 b) n) &&& 1) = nI (if (mn A (i + 1) 0 ^^ mn A 0 0) then 1 else 0) := by
              have := bit_bs (p := fun b => mn A (i + 1) b ^^ mn A 0 b) (n := n) (j := 0) (by omega) h0
              rw [shr_nI (by omega) (by omega), Nat.pow_zero, Nat.div_one] at this
              exact this
            rw [lowbit, nI_b]
            by_cases g0 : (mn A (i + 1) 0 ^^ mn A 0 0) = true
            · rw [if_pos (bI_1.mpr g0)]
              congr 2
              exact bs_cong (fun b _ => by simp [blB, g0])
            · have g0' : (mn A (i + 1) 0 ^^ mn A 0 0) = false := by simpa using g0
              rw [if_neg (fun q => g0 (bI_1.mp q)), fa_and]
              congr 2
              apply Nat.eq_of_testBit_eq
              intro b
              rw [Nat.testBit_and, Nat.testBit_xor, bs_tb, bs_tb, bs_tb, Nat.testBit_two_pow_sub_one]
              by_cases gb : b < n
              · have : b < 32 := by omega
                simp [blB, gb, this, g0']
              · simp [gb]
          have mod : f_X4_block_71 fu (nI t) (nI i) (nI n) 0 1 K = some (nI (bs (fun q => blB A i (1 + q)) (n - 1)), K) := by
            refine upF (fun f j (a : Int32) => f_X4_block_71 f (nI t) (nI i) (nI n) a j K) n 1 (by omega) (by rw [fu_val]; omega) (fun j => nI (bs (fun q => blB A i (1 + q)) (j - 1))) _ ?_ ?_
            · intro f
              show f_X4_block_71 (f + 1) (nI t) (nI i) (nI n) _ (nI n) K = _
              rw [f_X4_block_71, if_pos (nI_le (Nat.le_refl _) (by omega))]
            · intro f j hj1 hj
              show f_X4_block_71 (f + 1) (nI t) (nI i) (nI n) _ (nI j) K = f_X4_block_71 f (nI t) (nI i) (nI n) _ (nI (j + 1)) K
              have pm : sI (A (i + 1) j * A 0 j * A (i + 1) 0 * A 0 0) = 1 ↔ blB A i j = true := by
                unfold blB
                rcases SG_pm hA hS (show i + 1 < n by omega) hj with a | a <;> rcases SG_pm hA hS h0 hj with b | b <;> rcases SG_pm hA hS (show i + 1 < n by omega) h0 with c | c <;> rcases SG_pm hA hS h0 h0 with d | d <;> simp [mn, a, b, c, d] <;> decide
              have bp := bs_push (fun q => blB A i (1 + q)) (i := j - 1) (by omega)
              rw [show 1 + (j - 1) = j by omega, show j - 1 + 1 = j + 1 - 1 by omega] at bp
              rw [f_X4_block_71, if_neg (nI_ge hj (by omega)), nI_1 i, MT_get hM (show i + 1 < n by omega) hj, Option.bind_some, show f_X4_get (nI t) 0 (nI j) K = _ from MT_get hM h0 hj, Option.bind_some, show f_X4_get (nI t) (nI (i + 1)) 0 K = _ from MT_get hM (show i + 1 < n by omega) h0, Option.bind_some, show f_X4_get (nI t) 0 0 K = _ from MT_get hM h0 h0, Option.bind_some, sI_mul, sI_mul, sI_mul, show nI j - 1 = nI (j - 1) from pk_sub (b := 1) hj1, nI_1]
              by_cases gg : blB A i j = true
              · rw [if_pos (pm.mpr gg)]
                simp only [gg, if_true, show nI 1 = (1 : Int32) from rfl] at bp
                rw [bp]
              · have gg' : blB A i j = false := by simpa using gg
                rw [if_neg (fun q => gg (pm.mp q))]
                simp only [gg', Bool.false_eq_true, if_false] at bp
                have e0 : nI (bs (fun q => blB A i (1 + q)) (j - 1)) ||| 0 = nI (bs (fun q => blB A i (1 + q)) (j + 1 - 1)) := by
                  rw [← bp, show (0 : Int32) = nI 0 from rfl, shl_nI (by omega) (by simp), Nat.zero_mul]
                rw [e0]
          have hb := bs12 (blB A i) hn
          refine ⟨nI (bs (fun q => blB A i (1 + q)) (n - 1)), I, K, ?_, ?_, h⟩
          · simp only [f_X3_block, e1, e3, e4, e5, i1', bI_t, w1, if_pos g, if_neg n2, em2, if_pos n3, nI_1, np, Option.bind_some, if_neg v10, if_true]
            rw [show (1 : Int32) = nI 1 from rfl, shr_nI (by omega) (by omega), bs_shift]
          · simp only [f_X4_block, e7, i2', bI_t, e3, e4, w2, if_pos g, em2, n1, Option.bind_some, if_pos v00, if_neg v10, if_true]
            exact mod
