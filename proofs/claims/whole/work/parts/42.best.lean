-- ===== the first that is least, or greatest =====
def am (f : Nat → Nat) : Nat → Nat
  | 0 => 0
  | k + 1 => if f k < f (am f k) then k else am f k
def ax (f : Nat → Nat) : Nat → Nat
  | 0 => 0
  | k + 1 => if f (ax f k) < f k then k else ax f k
theorem am_lt (f : Nat → Nat) : ∀ k, 0 < k → am f k < k
  | 0, h => by omega
  | k + 1, _ => by
    simp only [am]
    split
    · omega
    · by_cases g : k = 0
      · subst g; simp [am]
      · have := am_lt f k (by omega); omega
theorem am_le (f : Nat → Nat) : ∀ k j, j < k → f (am f k) ≤ f j
  | 0, j, h => by omega
  | k + 1, j, h => by
    simp only [am]
    by_cases g : f k < f (am f k)
    · rw [if_pos g]
      by_cases e : j = k
      · rw [e]; exact Nat.le_refl _
      · have := am_le f k j (by omega); omega
    · rw [if_neg g]
      by_cases e : j = k
      · rw [e]; omega
      · exact am_le f k j (by omega)
theorem ax_ge (f : Nat → Nat) : ∀ k j, j < k → f j ≤ f (ax f k)
  | 0, j, h => by omega
  | k + 1, j, h => by
    simp only [ax]
    by_cases g : f (ax f k) < f k
    · rw [if_pos g]
      by_cases e : j = k
      · rw [e]; exact Nat.le_refl _
      · have := ax_ge f k j (by omega); omega
    · rw [if_neg g]
      by_cases e : j = k
      · rw [e]; omega
      · exact ax_ge f k j (by omega)
theorem am_half (f : Nat → Nat) {m : Nat} : ∀ d, (∀ k, m ≤ k → k < m + d → ∃ j, j < m ∧ f j ≤ f k) → am f (m + d) = am f m
  | 0, _ => rfl
  | d + 1, h => by
    show am f (m + d + 1) = _
    rw [am, am_half f d (fun k h1 h2 => h k h1 (by omega))]
    obtain ⟨j, hj, hf⟩ := h (m + d) (by omega) (by omega)
    have := am_le f m j hj
    rw [if_neg (by omega)]
theorem ax_half (f : Nat → Nat) {m : Nat} : ∀ d, (∀ k, m ≤ k → k < m + d → ∃ j, j < m ∧ f k ≤ f j) → ax f (m + d) = ax f m
  | 0, _ => rfl
  | d + 1, h => by
    show ax f (m + d + 1) = _
    rw [ax, ax_half f d (fun k h1 h2 => h k h1 (by omega))]
    obtain ⟨j, hj, hf⟩ := h (m + d) (by omega) (by omega)
    have := ax_ge f m j hj
    rw [if_neg (by omega)]
theorem wI_twice (I : zMi) (k j : Nat) (a b : Int32) : wI (wI I k j a) k j b = wI I k j b := by
  funext x y
  simp only [wI]
  split <;> rfl
theorem XT_ask {I : zMi} {T n : Nat} {A : Nat → Nat → Int} (h : XT I T n A) (v : Int32) : XT (wI I 0 9 v) T n A := XT_cong (wI_off (by omega)) (fun b => wI_off (by omega)) (fun b => wI_off (by omega)) h
-- ===== fewest =====
theorem sym_sum (p : Nat → Nat → Bool) (hs : ∀ i j, p i j = p j i) (hd : ∀ i, p i i = false) : ∀ n, fb_sm (fun i => fb_ct (p i) n) n = 2 * fb_sm (fun i => fb_ct (p i) i) n
  | 0 => rfl
  | n + 1 => by
    have ih := sym_sum p hs hd n
    have e : fb_sm (fun i => fb_ct (p i) (n + 1)) n = fb_sm (fun i => fb_ct (p i) n) n + fb_ct (p n) n := by
      rw [ct_sm (p n) n, ← fb_sm_add]
      exact fb_sm_cong (fun i _ => by rw [fb_ct_succ, hs n i])
    rw [fb_sm_succ, fb_sm_succ, e, ih, fb_ct_succ, hd n]
    simp
    omega
def eN (A : Nat → Nat → Int) (n x : Nat) : Nat := fb_sm (fun i => fb_ct (nsB A x i) i) n
theorem eN_le (A : Nat → Nat → Int) {n : Nat} (hn : n ≤ 12) (x : Nat) : eN A n x < 144 := by
  have : fb_sm (fun i => fb_ct (nsB A x i) i) n ≤ fb_sm (fun i => i) n := fb_sm_le (fun i _ => fb_ct_le _ i)
  have t : ∀ m, m ≤ 12 → fb_sm (fun i => i) m ≤ 66 := by decide
  have := t n hn
  unfold eN
  omega
theorem X_edges {I : zMi} {T n : Nat} {A : Nat → Nat → Int} (hG : GR A n) (h : XT I T n A) {x : Nat} (hx : x < 2 ^ n) : f_X2_edgesSwitched T (nI x) I = some (nI (eN A n x)) := by
  have h2 := h.2.1
  have h3 := h.2.2.1
  -- the graph's own places alone
  have q : ∀ i b, i < n → b < n → nsB A x i b = (decide (i < n) && decide (b < n) && nsB A x i b) := fun i b hi hb => by simp [hi, hb]
  have e : fb_sm (fun i => fb_ct (nsB A x i) n) n = 2 * eN A n x := by
    have e1 : fb_sm (fun i => fb_ct (nsB A x i) n) n = fb_sm (fun i => fb_ct (fun b => decide (i < n) && decide (b < n) && nsB A x i b) n) n := fb_sm_cong (fun i hi => fb_ct_cong (fun b hb => q i b hi hb))
    have e2 : eN A n x = fb_sm (fun i => fb_ct (fun b => decide (i < n) && decide (b < n) && nsB A x i b) i) n := fb_sm_cong (fun i hi => fb_ct_cong (fun b hb => q i b hi (by omega)))
    rw [e1, e2]
    refine sym_sum (fun i b => decide (i < n) && decide (b < n) && nsB A x i b) (fun i b => ?_) (fun i => ?_) n
    · by_cases hi : i < n
      · by_cases hb : b < n
        · by_cases g : i = b
          · subst g; rfl
          · have := ((hG i b hi hb).2 g).2
            simp only [hi, hb, nsB, mn, this]
            cases x.testBit i <;> cases x.testBit b <;> rfl
        · simp [hb]
      · simp [hi]
    · by_cases hi : i < n
      · have := (hG i i hi hi).1 rfl
        simp [nsB, mn, this]
      · simp [hi]
  have hle := eN_le A h2 x
  unfold f_X2_edgesSwitched
  refine up0 (fun f i (a : Int32) => f_X2_edgesSwitched_4 I f T (nI x) a i) n (by rw [fu_val]; omega) (fun k => nI (fb_sm (fun i => fb_ct (nsB A x i) n) k)) _ ?_ ?_
  · intro f
    show f_X2_edgesSwitched_4 I (f + 1) T (nI x) _ (nI n) = _
    rw [f_X2_edgesSwitched_4, h3, if_pos (nI_le (Nat.le_refl _) (by omega)), e, show (2 : Int32) = nI 2 from rfl, pk_div (by omega) (by omega) (by omega)]
    congr 2
    omega
  · intro f k hk
    show f_X2_edgesSwitched_4 I (f + 1) T (nI x) _ (nI k) = f_X2_edgesSwitched_4 I f T (nI x) _ (nI (k + 1))
    rw [f_X2_edgesSwitched_4, h3, if_neg (nI_ge hk (by omega)), X_ns h hk hx, Option.bind_some, bitCount_bs _ (by omega), nI_add, nI_1]
    rfl
theorem M_sign {x i : Nat} (hx : x < 2 ^ 31) (hi : i < 32) : f_X4_sign (nI x) (nI i) = sI (if x.testBit i then -1 else 1) := by
  unfold f_X4_sign
  rw [bit_nI hx hi]
  cases x.testBit i <;> rfl
theorem dbl (q : Nat) : 2 * nI q = nI (2 * q) := by rw [show (2 : Int32) = nI 2 from rfl, pk_mul]
theorem dbl2 (q : Nat) : nI (2 * q) + 2 = 2 * nI (q + 1) := by rw [dbl, show (2 : Int32) = nI 2 from rfl, nI_add]; rfl
theorem s_fewest : so_fewest RR := by
  intro I J K M h a1
  rcases G_cases h a1 with ⟨e1, e2⟩ | ⟨t, ht, rfl, e1, e3, e4, e5, I', K', y1, y2, h'⟩ | ⟨t, n, A, k, ht, rfl, e1, e3, e4, e5, e6, ⟨h0, hA, hX, hM, hK, k1, k2⟩, hG⟩
  · exact ⟨-1, I, K, by simp only [f_X3_fewest, e1, if_true], by simp only [f_X4_fewest, e2, Option.bind_some, if_neg v0m1], h⟩
  · refine ⟨-3, I', K', ?_, ?_, h'⟩
    · simp only [f_X3_fewest, e1, e3, e4, if_neg e5, y1, Option.bind_some, if_neg v10, if_true]
    · simp only [f_X4_fewest, y2, Option.bind_some, if_neg v0m3]
  · have hn := hX.2.1
    have hp := p12 hn
    have hpow : 2 ^ n = 2 * 2 ^ (n - 1) := by
      rw [show n = (n - 1) + 1 by omega, Nat.pow_succ, Nat.add_sub_cancel]
      omega
    have hp1 : 1 ≤ 2 ^ (n - 1) := Nat.one_le_two_pow
    have cls : f_X3_fewest_39 fu t 144 0 I = some (nI (eN A n (2 * am (fun q => eN A n (2 * q)) (2 ^ (n - 1)))), wI I 0 9 (nI (2 * am (fun q => eN A n (2 * q)) (2 ^ (n - 1))))) := by
      refine lp (fun f i (s : Int32 × zMi) => f_X3_fewest_39 f t s.1 (2 * i) s.2) (2 ^ (n - 1)) 0 (by omega) (by rw [fu_val]; omega) (fun q s => (q = 0 ∧ s = (144, I)) ∨ (0 < q ∧ s = (nI (eN A n (2 * am (fun q => eN A n (2 * q)) q)), wI I 0 9 (nI (2 * am (fun q => eN A n (2 * q)) q))))) (fun res => res = some (nI (eN A n (2 * am (fun q => eN A n (2 * q)) (2 ^ (n - 1)))), wI I 0 9 (nI (2 * am (fun q => eN A n (2 * q)) (2 ^ (n - 1)))))) ?_ ?_ (144, I) (Or.inl ⟨rfl, rfl⟩)
      · intro f s hs
        rcases hs with ⟨hq, -⟩ | ⟨-, rfl⟩
        · omega
        · show f_X3_fewest_39 (f + 1) t (nI (eN A n (2 * am (fun q => eN A n (2 * q)) (2 ^ (n - 1))))) (2 * nI (2 ^ (n - 1))) (wI I 0 9 (nI (2 * am (fun q => eN A n (2 * q)) (2 ^ (n - 1))))) = _
          rw [f_X3_fewest_39, (XT_ask hX _).2.2.1, one_shl (by omega), dbl, ← hpow, if_pos (nI_le (Nat.le_refl _) (by omega))]
      · intro f q s _ hq hs
        left
        have hx : 2 * q < 2 ^ n := by omega
        show ∃ s' : Int32 × zMi, f_X3_fewest_39 (f + 1) t s.1 (2 * nI q) s.2 = f_X3_fewest_39 f t s'.1 (2 * nI (q + 1)) s'.2 ∧ _
        have l1 := eN_le A hn (2 * q)
        rcases hs with ⟨rfl, rfl⟩ | ⟨h0q, rfl⟩
        · refine ⟨(nI (eN A n 0), wI I 0 9 (nI 0)), ?_, Or.inr ⟨by omega, by simp [am]⟩⟩
          show f_X3_fewest_39 (f + 1) t 144 (2 * nI 0) I = _
          rw [f_X3_fewest_39, hX.2.2.1, one_shl (by omega), dbl, if_neg (nI_ge hx (by omega)), X_edges hG hX hx, Option.bind_some, if_neg (show ¬ (144 : Int32) ≤ nI (eN A n (2 * 0)) from nI_ge (b := 144) l1 (by omega)), dbl2]
        · have l2 := eN_le A hn (2 * am (fun q => eN A n (2 * q)) q)
          show ∃ s' : Int32 × zMi, f_X3_fewest_39 (f + 1) t (nI (eN A n (2 * am (fun q => eN A n (2 * q)) q))) (2 * nI q) (wI I 0 9 (nI (2 * am (fun q => eN A n (2 * q)) q))) = f_X3_fewest_39 f t s'.1 (2 * nI (q + 1)) s'.2 ∧ _
          rw [f_X3_fewest_39, (XT_ask hX _).2.2.1, one_shl (by omega), dbl, if_neg (nI_ge hx (by omega)), X_edges hG (XT_ask hX _) hx, Option.bind_some, dbl2, wI_twice]
          simp only [am]
          by_cases g : eN A n (2 * q) < eN A n (2 * am (fun q => eN A n (2 * q)) q)
          · rw [if_neg (nI_ge g (by omega)), if_pos g]
            exact ⟨(_, _), rfl, Or.inr ⟨by omega, rfl⟩⟩
          · rw [if_pos (nI_le (by omega) (by omega)), if_neg g]
            exact ⟨(_, _), rfl, Or.inr ⟨by omega, rfl⟩⟩
    have inner : ∀ (k21 : Int32 → Int32 → Int32 → Int32 → zMi → Option (Int32 × zMi)) (b l : Int32) (x : Nat), x < 2 ^ n → f_X4_fewest_40 k21 fu (nI t) b l (nI x) 0 0 K = if b < 0 then k21 (nI t) (nI x) (nI (eN A n x)) (nI x + 2) K else if l ≤ nI (eN A n x) then k21 (nI t) b l (nI x + 2) K else k21 (nI t) (nI x) (nI (eN A n x)) (nI x + 2) K := by
      intro k21 b l x hx
      have in1 : ∀ (k40 : Int32 → Int32 → Int32 → Int32 → Int32 → Int32 → zMi → Option (Int32 × zMi)) (c i : Nat), i < n → f_X4_fewest_54 k21 k40 fu (nI t) b l (nI x) (nI c) (nI i) 0 K = k40 (nI t) b l (nI x) (nI (c + fb_ct (nsB A x i) i)) (nI (i + 1)) K := by
        intro k40 c i hi
        refine up0 (fun f j (a : Int32) => f_X4_fewest_54 k21 k40 f (nI t) b l (nI x) a (nI i) j K) i (by rw [fu_val]; omega) (fun j => nI (c + fb_ct (nsB A x i) j)) _ ?_ ?_
        · intro f
          show f_X4_fewest_54 k21 k40 (f + 1) (nI t) b l (nI x) _ (nI i) (nI i) K = _
          rw [f_X4_fewest_54, if_pos (nI_le (Nat.le_refl _) (by omega)), nI_1]
        · intro f j hj
          show f_X4_fewest_54 k21 k40 (f + 1) (nI t) b l (nI x) _ (nI i) (nI j) K = f_X4_fewest_54 k21 k40 f (nI t) b l (nI x) _ (nI i) (nI (j + 1)) K
          have pm : sI (A i j * (if x.testBit i then -1 else 1) * (if x.testBit j then -1 else 1)) = -1 ↔ nsB A x i j = true := by
            unfold nsB
            rcases GR_pm hA hG hi (show j < n by omega) (by omega) with e | e <;> cases h1 : x.testBit i <;> cases h2 : x.testBit j <;> simp [mn, e] <;> decide
          rw [f_X4_fewest_54, if_neg (nI_ge hj (by omega)), MT_get hM hi (show j < n by omega), Option.bind_some, M_sign (by omega) (by omega), M_sign (by omega) (by omega), sI_mul, sI_mul, nI_1 j, nI_1, show (0 : Int32) = nI 0 from rfl, nI_add, fb_ct_succ]
          by_cases g : nsB A x i j = true
          · rw [if_pos (pm.mpr g), if_pos g]
            rfl
          · rw [if_neg (fun q => g (pm.mp q)), if_neg g]
            rfl
      refine up0 (fun f i (a : Int32) => f_X4_fewest_40 k21 f (nI t) b l (nI x) a i K) n (by rw [fu_val]; omega) (fun i => nI (fb_sm (fun i => fb_ct (nsB A x i) i) i)) _ ?_ ?_
      · intro f
        show f_X4_fewest_40 k21 (f + 1) (nI t) b l (nI x) _ (nI n) K = _
        rw [f_X4_fewest_40, M_ix hM, if_pos rfl, M_w hM, if_pos (nI_le (Nat.le_refl _) (by omega))]
        rfl
      · intro f i hi
        show f_X4_fewest_40 k21 (f + 1) (nI t) b l (nI x) _ (nI i) K = f_X4_fewest_40 k21 f (nI t) b l (nI x) _ (nI (i + 1)) K
        rw [f_X4_fewest_40, M_ix hM, if_pos rfl, M_w hM, if_neg (nI_ge hi (by omega)), in1 _ _ i hi, fb_sm_succ]
    have mod : f_X4_fewest_21 fu (nI t) (-9) 0 0 K = some (nI (eN A n (2 * am (fun q => eN A n (2 * q)) (2 ^ (n - 1)))), wI K 0 2 (nI (2 * am (fun q => eN A n (2 * q)) (2 ^ (n - 1))))) := by
      refine lp (fun f i (s : Int32 × Int32) => f_X4_fewest_21 f (nI t) s.1 s.2 (2 * i) K) (2 ^ (n - 1)) 0 (by omega) (by rw [fu_val]; omega) (fun q s => (q = 0 ∧ s = (-9, 0)) ∨ (0 < q ∧ s = (nI (2 * am (fun q => eN A n (2 * q)) q), nI (eN A n (2 * am (fun q => eN A n (2 * q)) q))))) (fun res => res = some (nI (eN A n (2 * am (fun q => eN A n (2 * q)) (2 ^ (n - 1)))), wI K 0 2 (nI (2 * am (fun q => eN A n (2 * q)) (2 ^ (n - 1)))))) ?_ ?_ (-9, 0) (Or.inl ⟨rfl, rfl⟩)
      · intro f s hs
        rcases hs with ⟨hq, -⟩ | ⟨-, rfl⟩
        · omega
        · show f_X4_fewest_21 (f + 1) (nI t) _ _ (2 * nI (2 ^ (n - 1))) K = _
          rw [f_X4_fewest_21, M_ix hM, if_pos rfl, M_w hM, one_shl (by omega), dbl, ← hpow, if_pos (nI_le (Nat.le_refl _) (by omega))]
          rfl
      · intro f q s _ hq hs
        left
        have hx : 2 * q < 2 ^ n := by omega
        show ∃ s' : Int32 × Int32, f_X4_fewest_21 (f + 1) (nI t) s.1 s.2 (2 * nI q) K = f_X4_fewest_21 f (nI t) s'.1 s'.2 (2 * nI (q + 1)) K ∧ _
        have l1 := eN_le A hn (2 * q)
        rw [f_X4_fewest_21, M_ix hM, if_pos rfl, M_w hM, one_shl (by omega), dbl, if_neg (nI_ge hx (by omega)), inner _ _ _ (2 * q) hx, dbl2]
        rcases hs with ⟨rfl, rfl⟩ | ⟨h0q, rfl⟩
        · refine ⟨(nI 0, nI (eN A n 0)), ?_, Or.inr ⟨by omega, by simp [am]⟩⟩
          rw [if_pos (by decide)]
        · have l2 := eN_le A hn (2 * am (fun q => eN A n (2 * q)) q)
          have l3 := am_lt (fun q => eN A n (2 * q)) q h0q
          rw [if_neg (nI_pos (by omega))]
          simp only [am]
          by_cases g : eN A n (2 * q) < eN A n (2 * am (fun q => eN A n (2 * q)) q)
          · rw [if_neg (nI_ge g (by omega)), if_pos g]
            exact ⟨(_, _), rfl, Or.inr ⟨by omega, rfl⟩⟩
          · rw [if_pos (nI_le (by omega) (by omega)), if_neg g]
            exact ⟨(_, _), rfl, Or.inr ⟨by omega, rfl⟩⟩
    refine ⟨nI (eN A n (2 * am (fun q => eN A n (2 * q)) (2 ^ (n - 1)))), _, _, ?_, ?_, RR_ask h (nI (2 * am (fun q => eN A n (2 * q)) (2 ^ (n - 1))))⟩
    · simp only [f_X3_fewest, e1, e3, e4, e5, if_neg v10, if_true]
      exact cls
    · simp only [f_X4_fewest, e6, Option.bind_some, if_pos v00]
      exact mod
