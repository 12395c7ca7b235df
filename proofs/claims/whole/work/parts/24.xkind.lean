theorem p12 {n : Nat} (h : n ≤ 12) : 2 ^ n ≤ 4096 := Nat.pow_le_pow_right (by omega) h
theorem bs12 (p : Nat → Bool) {n : Nat} (h : n ≤ 12) : bs p n < 4096 := Nat.lt_of_lt_of_le (bs_lt p n) (p12 h)
theorem nIbs {p q : Nat → Bool} {n : Nat} (h : n ≤ 12) : nI (bs p n) = nI (bs q n) ↔ ∀ j, j < n → p j = q j := by
  have h1 := bs12 p h
  have h2 := bs12 q h
  rw [nI_eq (by omega) (by omega), bs_inj]
theorem row_full {A : Nat → Nat → Int} (hA : tri A) {n : Nat} (hn : n ≤ 12) (k : Nat) : (nI (bs (pl A k) n) ||| nI (bs (mn A k) n)) = nI (2 ^ n - 1) ↔ ∀ j, j < n → A k j ≠ 0 := by
  rw [fa_or, bs_or, ← bs_true, nIbs hn]
  refine forall_congr' (fun j => forall_congr' (fun _ => ?_))
  rcases hA k j with e | e | e <;> simp [pl, mn, e]
theorem X_isSigns {I : zMi} {T n : Nat} {A : Nat → Nat → Int} (hA : tri A) (h : XT I T n A) : ∃ b, f_X2_isSigns T I = some (bI b) ∧ (b = true ↔ SG A n) := by
  obtain ⟨h1, h2, h3, h4⟩ := h
  have := up_all (fun f i (_ : Unit) => f_X2_isSigns_2 I f T i) n (fun _ => ()) (some 1) (some 0) (fun k => ∀ j, j < n → A k j ≠ 0) 0 (by omega) (by rw [fu_val]; omega)
    (fun _ f => by
      show f_X2_isSigns_2 I (f + 1) T (nI n) = _
      rw [f_X2_isSigns_2, h3, if_pos (nI_le (Nat.le_refl _) (by omega))])
    (fun f k _ hk hp => by
      show f_X2_isSigns_2 I (f + 1) T (nI k) = f_X2_isSigns_2 I f T (nI (k + 1))
      rw [f_X2_isSigns_2, h3, if_neg (nI_ge hk (by omega)), ix_nI (by omega) (by omega), if_pos rfl, nI_clamp (by omega), (h4 k hk).1, (h4 k hk).2, allBits_nI (by omega), if_pos ((row_full hA h2 k).mpr hp), nI_1])
    (fun f k _ hk hp => by
      show f_X2_isSigns_2 I (f + 1) T (nI k) = _
      rw [f_X2_isSigns_2, h3, if_neg (nI_ge hk (by omega)), ix_nI (by omega) (by omega), if_pos rfl, nI_clamp (by omega), (h4 k hk).1, (h4 k hk).2, allBits_nI (by omega), if_neg (fun q => hp ((row_full hA h2 k).mp q))])
  rcases this with ⟨e, hp⟩ | ⟨e, k, _, hk, hp⟩
  · exact ⟨true, e, fun _ i j hi hj => hp i (by omega) hi j hj, fun _ => rfl⟩
  · refine ⟨false, e, fun q => by simp at q, fun q => absurd (fun j hj => q k j hk hj) hp⟩
-- the rows' products by counts
theorem dot_ct {A : Nat → Nat → Int} (hA : tri A) (i k : Nat) : ∀ n, dotI A n i k = (fb_ct (fun j => (pl A i j && pl A k j) || (mn A i j && mn A k j)) n : Int) - (fb_ct (fun j => (pl A i j && mn A k j) || (mn A i j && pl A k j)) n : Int)
  | 0 => by simp [dotI, fb_si, fb_ct]
  | n + 1 => by
    have ih := dot_ct hA i k n
    unfold dotI at ih ⊢
    rw [fb_si_succ, fb_ct_succ, fb_ct_succ, ih]
    rcases hA i n with e | e | e <;> rcases hA k n with e' | e' | e' <;> simp [pl, mn, e, e'] <;> omega
theorem X_agree {A : Nat → Nat → Int} (hA : tri A) {n : Nat} (hn : n ≤ 12) (i k : Nat) : f_J6_bitCount ((nI (bs (pl A i) n) &&& nI (bs (pl A k) n)) ||| (nI (bs (mn A i) n) &&& nI (bs (mn A k) n))) = f_J6_bitCount ((nI (bs (pl A i) n) &&& nI (bs (mn A k) n)) ||| (nI (bs (mn A i) n) &&& nI (bs (pl A k) n))) ↔ dotI A n i k = 0 := by
  rw [fa_and, fa_and, fa_and, fa_and, fa_or, fa_or, bs_and, bs_and, bs_and, bs_and, bs_or, bs_or, bitCount_bs _ (by omega), bitCount_bs _ (by omega), dot_ct hA]
  have h1 := fb_ct_le (fun j => (pl A i j && pl A k j) || (mn A i j && mn A k j)) n
  have h2 := fb_ct_le (fun j => (pl A i j && mn A k j) || (mn A i j && pl A k j)) n
  rw [nI_eq (by omega) (by omega)]
  omega
theorem sm_ct_le (p : Nat → Nat → Bool) (n : Nat) : ∀ m, m ≤ n → fb_sm (fun i => fb_ct (p i) i) m ≤ n * m
  | 0, _ => by simp [fb_sm]
  | m + 1, h => by
    have ih := sm_ct_le p n m (by omega)
    have := fb_ct_le (p m) m
    rw [fb_sm_succ, Nat.mul_succ]
    omega
theorem X_balancedPairs {I : zMi} {T n : Nat} {A : Nat → Nat → Int} (hA : tri A) (h : XT I T n A) : f_X2_balancedPairs T I = some (nI (bpN A n)) := by
  obtain ⟨h1, h2, h3, h4⟩ := h
  have inner : ∀ (k4 : Nat → Int32 → Int32 → Option Int32) (i b0 : Nat), i < n → f_X2_balancedPairs_14 I k4 fu T (nI b0) (nI i) 0 = k4 T (nI (b0 + fb_ct (fun k => decide (dotI A n i k = 0)) i)) (nI (i + 1)) := by
    intro k4 i b0 hi
    refine up0 (fun f j (a : Int32) => f_X2_balancedPairs_14 I k4 f T a (nI i) j) i (by rw [fu_val]; omega) (fun k => nI (b0 + fb_ct (fun k => decide (dotI A n i k = 0)) k)) _ ?_ ?_
    · intro f
      show f_X2_balancedPairs_14 I k4 (f + 1) T _ (nI i) (nI i) = _
      rw [f_X2_balancedPairs_14, if_pos (nI_le (Nat.le_refl _) (by omega)), nI_1]
    · intro f k hk
      show f_X2_balancedPairs_14 I k4 (f + 1) T _ (nI i) (nI k) = f_X2_balancedPairs_14 I k4 f T _ (nI i) (nI (k + 1))
      rw [f_X2_balancedPairs_14, if_neg (nI_ge hk (by omega)), ix_nI (by omega) (by omega), if_pos rfl, ix_nI (by omega) (by omega), if_pos rfl, nI_clamp (by omega), nI_clamp (by omega), (h4 i hi).1, (h4 i hi).2, (h4 k (by omega)).1, (h4 k (by omega)).2, fb_ct_succ]
      by_cases hd : dotI A n i k = 0
      · rw [if_pos ((X_agree hA h2 i k).mpr hd), nI_1, nI_1]
        simp [hd, Nat.add_assoc]
      · rw [if_neg (fun q => hd ((X_agree hA h2 i k).mp q)), nI_1]
        simp [hd]
  unfold f_X2_balancedPairs
  refine up0 (fun f j (a : Int32) => f_X2_balancedPairs_4 I f T a j) n (by rw [fu_val]; omega) (fun k => nI (fb_sm (fun i => fb_ct (fun k => decide (dotI A n i k = 0)) i) k)) _ ?_ ?_
  · intro f
    show f_X2_balancedPairs_4 I (f + 1) T _ (nI n) = _
    rw [f_X2_balancedPairs_4, h3, if_pos (nI_le (Nat.le_refl _) (by omega))]
    rfl
  · intro f k hk
    show f_X2_balancedPairs_4 I (f + 1) T _ (nI k) = f_X2_balancedPairs_4 I f T _ (nI (k + 1))
    rw [f_X2_balancedPairs_4, h3, if_neg (nI_ge hk (by omega)), inner _ k _ hk, fb_sm_succ]
theorem X_rowsBalance {I : zMi} {T n : Nat} {A : Nat → Nat → Int} (hA : tri A) (h : XT I T n A) (h0 : 0 < n) : f_X2_rowsBalance T I = some (bI (decide (2 * bpN A n = n * (n - 1)))) := by
  have hb := X_balancedPairs hA h
  obtain ⟨h1, h2, h3, h4⟩ := h
  have hle := sm_ct_le (fun i k => decide (dotI A n i k = 0)) n n (Nat.le_refl n)
  have hle' : bpN A n ≤ n * n := hle
  have hnn : n * n ≤ 12 * 12 := Nat.mul_le_mul h2 h2
  have hnm : n * (n - 1) ≤ 12 * 12 := Nat.mul_le_mul h2 (by omega)
  unfold f_X2_rowsBalance
  rw [hb]
  show (if nI (bpN A n) = _ then _ else _) = _
  rw [h3, show (1 : Int32) = nI 1 from rfl, pk_sub (b := 1) h0, pk_mul, show (2 : Int32) = nI 2 from rfl, pk_div (by omega) (by omega) (by omega), show nI 1 = (1 : Int32) from rfl]
  have hev : n * (n - 1) % 2 = 0 := by
    rcases (show n = 1 ∨ n = 2 ∨ n = 3 ∨ n = 4 ∨ n = 5 ∨ n = 6 ∨ n = 7 ∨ n = 8 ∨ n = 9 ∨ n = 10 ∨ n = 11 ∨ n = 12 by omega) with rfl | rfl | rfl | rfl | rfl | rfl | rfl | rfl | rfl | rfl | rfl | rfl <;> rfl
  by_cases hd : 2 * bpN A n = n * (n - 1)
  · rw [if_pos ((nI_eq (by omega) (by omega)).mpr (by omega))]
    simp [hd, bI]
  · rw [if_neg (fun q => hd (by have := (nI_eq (by omega) (by omega)).mp q; omega))]
    simp [hd, bI]
-- a row moved one to the right, the last to the first
theorem rot_bits (p : Nat → Bool) {n : Nat} (h0 : 0 < n) (hn : n ≤ 12) : ((nI (bs p n) <<< ((1 : Int32) &&& 31)) ||| (nI (bs p n) >>> ((nI n - 1) &&& 31))) &&& nI (2 ^ n - 1) = nI (bs (fun j => p ((j + n - 1) % n)) n) := by
  have h1 := bs12 p hn
  rw [show (1 : Int32) = nI 1 from rfl, shl_nI (by omega) (by rw [Nat.pow_one]; omega), pk_sub (b := 1) h0, shr_nI (by omega) (by omega), fa_or, fa_and]
  congr 1
  apply Nat.eq_of_testBit_eq
  intro j
  rw [Nat.testBit_and, Nat.testBit_or, Nat.testBit_two_pow_sub_one, Nat.testBit_div_two_pow, bs_tb, bs_tb, Nat.mul_comm, Nat.testBit_two_pow_mul, bs_tb]
  by_cases hj : j < n
  · by_cases h : j = 0
    · subst h
      have e : (0 + n - 1) % n = n - 1 := by
        rw [Nat.zero_add]
        exact Nat.mod_eq_of_lt (by omega)
      have : n - 1 < n := by omega
      simp only [e]
      simp [h0, this]
    · have e : (j + n - 1) % n = j - 1 := by
        rw [show j + n - 1 = (j - 1) + n by omega, Nat.add_mod_right, Nat.mod_eq_of_lt (by omega)]
      have g1 : 1 ≤ j := by omega
      have g2 : j - 1 < n := by omega
      have g3 : ¬ j + (n - 1) < n := by omega
      simp only [e]
      simp [hj, g1, g2, g3]
  · simp [hj]
theorem X_rowsMoveOn {I : zMi} {T n : Nat} {A : Nat → Nat → Int} (hA : tri A) (h : XT I T n A) (h0 : 0 < n) (hsg : SG A n) : ∃ b, f_X2_rowsMoveOn T I = some (bI b) ∧ (b = true ↔ RD A n) := by
  obtain ⟨h1, h2, h3, h4⟩ := h
  have cond : ∀ k, 1 ≤ k → k < n → (nI (bs (mn A k) n) = nI (bs (fun j => mn A (k - 1) ((j + n - 1) % n)) n) ↔ ∀ j, j < n → A k j = A (k - 1) ((j + n - 1) % n)) := by
    intro k hk1 hk
    rw [nIbs h2]
    refine forall_congr' (fun j => forall_congr' (fun hj => ?_))
    have hm : (j + n - 1) % n < n := Nat.mod_lt _ h0
    have g1 := hsg k j hk hj
    have g2 := hsg (k - 1) ((j + n - 1) % n) (by omega) hm
    rcases hA k j with e | e | e <;> rcases hA (k - 1) ((j + n - 1) % n) with e' | e' | e' <;> simp [mn, e, e'] at g1 g2 ⊢
  have := up_all (fun f i (_ : Unit) => f_X2_rowsMoveOn_2 I f T i) n (fun _ => ()) (some 1) (some 0) (fun k => ∀ j, j < n → A k j = A (k - 1) ((j + n - 1) % n)) 1 (by omega) (by rw [fu_val]; omega)
    (fun _ f => by
      show f_X2_rowsMoveOn_2 I (f + 1) T (nI n) = _
      rw [f_X2_rowsMoveOn_2, h3, if_pos (nI_le (Nat.le_refl _) (by omega))])
    (fun f k hk1 hk hp => by
      show f_X2_rowsMoveOn_2 I (f + 1) T (nI k) = f_X2_rowsMoveOn_2 I f T (nI (k + 1))
      have e1 : nI k - 1 = nI (k - 1) := pk_sub hk1
      rw [f_X2_rowsMoveOn_2, h3, if_neg (nI_ge hk (by omega)), e1, ix_nI (by omega) (by omega), if_pos rfl, ix_nI (by omega) (by omega), if_pos rfl, nI_clamp (by omega), nI_clamp (by omega), (h4 k hk).2, (h4 (k - 1) (by omega)).2, allBits_nI (by omega), rot_bits _ h0 h2, if_pos ((cond k hk1 hk).mpr hp), nI_1])
    (fun f k hk1 hk hp => by
      show f_X2_rowsMoveOn_2 I (f + 1) T (nI k) = _
      have e1 : nI k - 1 = nI (k - 1) := pk_sub hk1
      rw [f_X2_rowsMoveOn_2, h3, if_neg (nI_ge hk (by omega)), e1, ix_nI (by omega) (by omega), if_pos rfl, ix_nI (by omega) (by omega), if_pos rfl, nI_clamp (by omega), nI_clamp (by omega), (h4 k hk).2, (h4 (k - 1) (by omega)).2, allBits_nI (by omega), rot_bits _ h0 h2, if_neg (fun q => hp ((cond k hk1 hk).mp q))])
  rcases this with ⟨e, hp⟩ | ⟨e, k, hk1, hk, hp⟩
  · exact ⟨true, e, fun _ i j hi hj => hp (i + 1) (by omega) hi j hj, fun _ => rfl⟩
  · refine ⟨false, e, fun q => by simp at q, fun q => absurd (fun j hj => ?_) hp⟩
    have := q (k - 1) j (by omega) hj
    rw [show k - 1 + 1 = k by omega] at this
    exact this
theorem bs_push (q : Nat → Bool) {i : Nat} (hi : i < 31) : nI (bs q i) ||| (nI (if q i then 1 else 0) <<< (nI i &&& 31)) = nI (bs q (i + 1)) := by
  have hb := bs_lt q i
  by_cases h : q i = true
  · rw [if_pos h, show nI 1 = (1 : Int32) from rfl, one_shl hi, fa_or]
    congr 1
    simp only [bs]
    rw [if_pos h, Nat.or_comm, show bs q i + 2 ^ i = 2 ^ i * 1 + bs q i by omega, Nat.two_pow_add_eq_or_of_lt hb, Nat.mul_one]
  · rw [if_neg h, show nI 0 = nI 0 from rfl, shl_nI (by omega) (by simp), Nat.zero_mul, fa_or, Nat.or_zero]
    simp only [bs]
    rw [if_neg h, Nat.add_zero]
theorem X_minusOfColumn {I : zMi} {T n : Nat} {A : Nat → Nat → Int} (h : XT I T n A) {j : Nat} (hj : j < n) : f_X2_minusOfColumn T (nI j) I = some (nI (bs (fun i => mn A i j) n)) := by
  obtain ⟨h1, h2, h3, h4⟩ := h
  unfold f_X2_minusOfColumn
  refine up0 (fun f i (a : Int32) => f_X2_minusOfColumn_4 I f T (nI j) a i) n (by rw [fu_val]; omega) (fun k => nI (bs (fun i => mn A i j) k)) _ ?_ ?_
  · intro f
    show f_X2_minusOfColumn_4 I (f + 1) T (nI j) _ (nI n) = _
    rw [f_X2_minusOfColumn_4, h3, if_pos (nI_le (Nat.le_refl _) (by omega))]
  · intro f k hk
    show f_X2_minusOfColumn_4 I (f + 1) T (nI j) _ (nI k) = f_X2_minusOfColumn_4 I f T (nI j) _ (nI (k + 1))
    rw [f_X2_minusOfColumn_4, h3, if_neg (nI_ge hk (by omega)), ix_nI (by omega) (by omega), if_pos rfl, nI_clamp (by omega), (h4 k hk).2, bit_bs (by omega) hj, bs_push (fun i => mn A i j) (by omega), nI_1]
theorem row_graph {A : Nat → Nat → Int} (hA : tri A) {n : Nat} (hn : n ≤ 12) {k : Nat} (hk : k < n) : (nI (bs (pl A k) n) ||| nI (bs (mn A k) n)) = nI (2 ^ n - 1) - ((1 : Int32) <<< (nI k &&& 31)) ↔ ∀ j, j < n → (A k j = 0 ↔ j = k) := by
  have h1 : 2 ^ k < 2 ^ n := Nat.pow_lt_pow_right (by omega) hk
  rw [one_shl (by omega), pk_sub (by omega)]
  have e : 2 ^ n - 1 - 2 ^ k = bs (fun j => !decide (j = k)) n := by
    have h2 := bs_or (fun j => !decide (j = k)) (fun j => decide (j = k)) n
    have h3 : bs (fun j => !decide (j = k)) n + 2 ^ k = 2 ^ n - 1 := by
      rw [← bs_true]
      clear h2
      have key : ∀ m, bs (fun j => !decide (j = k)) m + (if k < m then 2 ^ k else 0) = bs (fun _ => true) m := by
        intro m
        induction m with
        | zero => simp [bs]
        | succ m ih =>
          simp only [bs]
          rcases Nat.lt_trichotomy m k with g | g | g
          · have g1 : ¬ k < m := by omega
            have g2 : ¬ k < m + 1 := by omega
            have g3 : ¬ m = k := by omega
            simp only [g1, g2, if_false] at ih ⊢
            simp [g3]
            omega
          · subst g
            simp at ih ⊢
            omega
          · have g2 : k < m + 1 := by omega
            have g3 : ¬ m = k := by omega
            simp only [g, g2, if_true] at ih ⊢
            simp [g3]
            omega
      have := key n
      rw [if_pos hk] at this
      exact this
    rw [← h3, Nat.add_sub_cancel]
  rw [e, fa_or, bs_or, nIbs hn]
  refine forall_congr' (fun j => forall_congr' (fun _ => ?_))
  by_cases g : j = k
  · subst g
    rcases hA j j with e | e | e <;> simp [pl, mn, e]
  · rcases hA k j with e | e | e <;> simp [pl, mn, e, g]
theorem X_isGraph {I : zMi} {T n : Nat} {A : Nat → Nat → Int} (hA : tri A) (h : XT I T n A) : ∃ b, f_X2_isGraph T I = some (bI b) ∧ (b = true ↔ GR A n) := by
  have hcol := fun (j : Nat) (hj : j < n) => X_minusOfColumn h hj
  obtain ⟨h1, h2, h3, h4⟩ := h
  have c2 : ∀ k, k < n → (nI (bs (mn A k) n) = nI (bs (fun i => mn A i k) n) ↔ ∀ j, j < n → mn A k j = mn A j k) := fun k hk => nIbs h2
  have := up_all (fun f i (_ : Unit) => f_X2_isGraph_2 I f T i) n (fun _ => ()) (some 1) (some 0) (fun k => (∀ j, j < n → (A k j = 0 ↔ j = k)) ∧ ∀ j, j < n → mn A k j = mn A j k) 0 (by omega) (by rw [fu_val]; omega)
    (fun _ f => by
      show f_X2_isGraph_2 I (f + 1) T (nI n) = _
      rw [f_X2_isGraph_2, h3, if_pos (nI_le (Nat.le_refl _) (by omega))])
    (fun f k _ hk hp => by
      show f_X2_isGraph_2 I (f + 1) T (nI k) = f_X2_isGraph_2 I f T (nI (k + 1))
      rw [f_X2_isGraph_2, h3, if_neg (nI_ge hk (by omega)), ix_nI (by omega) (by omega), if_pos rfl, nI_clamp (by omega), (h4 k hk).1, (h4 k hk).2, allBits_nI (by omega), if_pos ((row_graph hA h2 hk).mpr hp.1), hcol k hk]
      show (if _ then _ else _) = _
      rw [if_pos ((c2 k hk).mpr hp.2), nI_1])
    (fun f k _ hk hp => by
      show f_X2_isGraph_2 I (f + 1) T (nI k) = _
      rw [f_X2_isGraph_2, h3, if_neg (nI_ge hk (by omega)), ix_nI (by omega) (by omega), if_pos rfl, nI_clamp (by omega), (h4 k hk).1, (h4 k hk).2, allBits_nI (by omega)]
      by_cases g : ∀ j, j < n → (A k j = 0 ↔ j = k)
      · rw [if_pos ((row_graph hA h2 hk).mpr g), hcol k hk]
        show (if _ then _ else _) = _
        rw [if_neg (fun q => hp ⟨g, (c2 k hk).mp q⟩)]
      · rw [if_neg (fun q => g ((row_graph hA h2 hk).mp q))])
  rcases this with ⟨e, hp⟩ | ⟨e, k, _, hk, hp⟩
  · refine ⟨true, e, fun _ i j hi hj => ⟨fun q => ((hp i (by omega) hi).1 j hj).mpr q.symm, fun q => ?_⟩, fun _ => rfl⟩
    have a1 : A i j ≠ 0 := fun z => q (((hp i (by omega) hi).1 j hj).mp z).symm
    have a2 : A j i ≠ 0 := fun z => q (((hp j (by omega) hj).1 i hi).mp z)
    have a3 := (hp i (by omega) hi).2 j hj
    refine ⟨a1, ?_⟩
    rcases hA i j with e1 | e1 | e1 <;> rcases hA j i with e2 | e2 | e2 <;> simp [mn, e1, e2] at a1 a2 a3 ⊢
  · refine ⟨false, e, fun q => by simp at q, fun q => absurd ⟨fun j hj => ⟨fun z => ?_, fun z => ?_⟩, fun j hj => ?_⟩ hp⟩
    · by_cases g : k = j
      · exact g.symm
      · exact absurd z ((q k j hk hj).2 g).1
    · exact (q k j hk hj).1 z.symm
    · by_cases g : k = j
      · subst g; rfl
      · have := ((q k j hk hj).2 g).2
        simp [mn, this]
