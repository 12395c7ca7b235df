-- ===== signs turned =====
def ng (c : Bool) (z : Int) : Int := if c then -z else z
theorem ng_tri {c : Bool} {z : Int} (h : z = 1 ∨ z = 0 ∨ z = -1) : ng c z = 1 ∨ ng c z = 0 ∨ ng c z = -1 := by
  unfold ng
  split <;> omega
def tnC (A : Nat → Nat → Int) (y : Nat → Bool) : Nat → Nat → Int := fun a b => ng (y b) (A a b)
def tnR (A : Nat → Nat → Int) (x : Nat → Bool) : Nat → Nat → Int := fun a b => ng (x a) (A a b)
theorem tri_C {A : Nat → Nat → Int} (hA : tri A) (y : Nat → Bool) : tri (tnC A y) := fun a b => ng_tri (hA a b)
theorem tri_R {A : Nat → Nat → Int} (hA : tri A) (x : Nat → Bool) : tri (tnR A x) := fun a b => ng_tri (hA a b)
section TX
variable {I : zMi} {T n : Nat} {A : Nat → Nat → Int}
theorem X_turnColumns (hA : tri A) (h : XT I T n A) (y : Nat) : ∃ I', f_X2_turnColumns T (nI y) I = some I' ∧ XT I' T n (tnC A (fun b => y.testBit b)) ∧ ∀ a b, a ≠ 23 + 3 * T → a ≠ 24 + 3 * T → I' a b = I a b := by
  obtain ⟨h1, h2, h3, h4⟩ := h
  unfold f_X2_turnColumns
  refine lp (fun f i I => f_X2_turnColumns_2 f T (nI y) i I) n 0 (by omega) (by rw [fu_val]; omega) (fun k I' => (∀ i, i < n → I' (23 + 3 * T) i = nI (bs (pl (if i < k then tnC A (fun b => y.testBit b) else A) i) n) ∧ I' (24 + 3 * T) i = nI (bs (mn (if i < k then tnC A (fun b => y.testBit b) else A) i) n)) ∧ ∀ a b, a ≠ 23 + 3 * T → a ≠ 24 + 3 * T → I' a b = I a b) (fun res => ∃ I', res = some I' ∧ XT I' T n (tnC A (fun b => y.testBit b)) ∧ ∀ a b, a ≠ 23 + 3 * T → a ≠ 24 + 3 * T → I' a b = I a b) ?_ ?_ _ ?_
  · intro f s ⟨s1, s2⟩
    refine ⟨s, ?_, ⟨h1, h2, by rw [s2 _ _ (by omega) (by omega), h3], fun i hi => ?_⟩, s2⟩
    · show f_X2_turnColumns_2 (f + 1) T (nI y) (nI n) s = _
      rw [f_X2_turnColumns_2, s2 _ _ (by omega) (by omega), h3, if_pos (nI_le (Nat.le_refl _) (by omega))]
    · have := s1 i hi
      rw [if_pos hi] at this
      exact this
  · intro f k s _ hk ⟨s1, s2⟩
    left
    have e1 := (s1 k hk).1
    have e2 := (s1 k hk).2
    rw [if_neg (by omega)] at e1 e2
    refine ⟨wI (wI s (23 + 3 * T) k (nI (bs (pl (tnC A (fun b => y.testBit b)) k) n))) (24 + 3 * T) k (nI (bs (mn (tnC A (fun b => y.testBit b)) k) n)), ?_, fun i hi => ?_, fun a b ha hb => by rw [wI_off (by omega), wI_off (by omega), s2 a b ha hb]⟩
    · show f_X2_turnColumns_2 (f + 1) T (nI y) (nI k) s = f_X2_turnColumns_2 f T (nI y) (nI (k + 1)) _
      rw [f_X2_turnColumns_2, s2 (22 + 3 * T) 2 (by omega) (by omega), h3, if_neg (nI_ge hk (by omega)), ix_nI (by omega) (by omega), if_pos rfl, nI_clamp (by omega), nI_1, wI_off (a := 24 + 3 * T) (by omega), e1, e2, fb_xorI, fa_and, bs_xor, bs_andN, fb_xorI, fb_xorI, bs_xor, bs_xor]
      have p1 : bs (fun j => pl A k j ^^ ((pl A k j ^^ mn A k j) && y.testBit j)) n = bs (pl (tnC A (fun b => y.testBit b)) k) n := bs_cong (fun j _ => by
        rcases hA k j with e | e | e <;> cases h : y.testBit j <;> simp [pl, mn, tnC, ng, e, h])
      have p2 : bs (fun j => mn A k j ^^ ((pl A k j ^^ mn A k j) && y.testBit j)) n = bs (mn (tnC A (fun b => y.testBit b)) k) n := bs_cong (fun j _ => by
        rcases hA k j with e | e | e <;> cases h : y.testBit j <;> simp [pl, mn, tnC, ng, e, h])
      rw [p1, p2]
    · by_cases g : i = k
      · subst g
        rw [if_pos (by omega), wI_off (by omega), wI_here rfl rfl, wI_here rfl rfl]
        exact ⟨rfl, rfl⟩
      · rw [wI_off (by omega), wI_off (by omega), wI_off (by omega), wI_off (by omega)]
        have := s1 i hi
        by_cases g2 : i < k
        · rw [if_pos g2] at this
          rw [if_pos (by omega)]
          exact this
        · rw [if_neg g2] at this
          rw [if_neg (by omega)]
          exact this
  · exact ⟨fun i hi => by rw [if_neg (by omega)]; exact h4 i hi, fun _ _ _ _ => rfl⟩
theorem X_turnRows (hA : tri A) (h : XT I T n A) {x : Nat} (hx : x < 2 ^ 31) : ∃ I', f_X2_turnRows T (nI x) I = some I' ∧ XT I' T n (tnR A (fun b => x.testBit b)) ∧ ∀ a b, a ≠ 23 + 3 * T → a ≠ 24 + 3 * T → I' a b = I a b := by
  obtain ⟨h1, h2, h3, h4⟩ := h
  unfold f_X2_turnRows
  refine lp (fun f i I => f_X2_turnRows_2 f T (nI x) i I) n 0 (by omega) (by rw [fu_val]; omega) (fun k I' => (∀ i, i < n → I' (23 + 3 * T) i = nI (bs (pl (if i < k then tnR A (fun b => x.testBit b) else A) i) n) ∧ I' (24 + 3 * T) i = nI (bs (mn (if i < k then tnR A (fun b => x.testBit b) else A) i) n)) ∧ ∀ a b, a ≠ 23 + 3 * T → a ≠ 24 + 3 * T → I' a b = I a b) (fun res => ∃ I', res = some I' ∧ XT I' T n (tnR A (fun b => x.testBit b)) ∧ ∀ a b, a ≠ 23 + 3 * T → a ≠ 24 + 3 * T → I' a b = I a b) ?_ ?_ _ ?_
  · intro f s ⟨s1, s2⟩
    refine ⟨s, ?_, ⟨h1, h2, by rw [s2 _ _ (by omega) (by omega), h3], fun i hi => ?_⟩, s2⟩
    · show f_X2_turnRows_2 (f + 1) T (nI x) (nI n) s = _
      rw [f_X2_turnRows_2, s2 _ _ (by omega) (by omega), h3, if_pos (nI_le (Nat.le_refl _) (by omega))]
    · have := s1 i hi
      rw [if_pos hi] at this
      exact this
  · intro f k s _ hk ⟨s1, s2⟩
    left
    have e1 := (s1 k hk).1
    have e2 := (s1 k hk).2
    rw [if_neg (by omega)] at e1 e2
    have rest : ∀ i, i < n → i ≠ k → ∀ s' : zMi, (∀ a b, a = 23 + 3 * T ∨ a = 24 + 3 * T → b ≠ k → s' a b = s a b) → s' (23 + 3 * T) i = nI (bs (pl (if i < k + 1 then tnR A (fun b => x.testBit b) else A) i) n) ∧ s' (24 + 3 * T) i = nI (bs (mn (if i < k + 1 then tnR A (fun b => x.testBit b) else A) i) n) := by
      intro i hi hik s' hs
      rw [hs _ _ (Or.inl rfl) hik, hs _ _ (Or.inr rfl) hik]
      have := s1 i hi
      by_cases g2 : i < k
      · rw [if_pos g2] at this
        rw [if_pos (by omega)]
        exact this
      · rw [if_neg g2] at this
        rw [if_neg (by omega)]
        exact this
    by_cases hb : x.testBit k = true
    · refine ⟨wI (wI s (23 + 3 * T) k (s (24 + 3 * T) k)) (24 + 3 * T) k (s (23 + 3 * T) k), ?_, fun i hi => ?_, fun a b ha hb => by rw [wI_off (by omega), wI_off (by omega), s2 a b ha hb]⟩
      · show f_X2_turnRows_2 (f + 1) T (nI x) (nI k) s = f_X2_turnRows_2 f T (nI x) (nI (k + 1)) _
        rw [f_X2_turnRows_2, s2 (22 + 3 * T) 2 (by omega) (by omega), h3, if_neg (nI_ge hk (by omega)), bit_nI hx (by omega), hb, if_pos rfl, if_pos (show nI 1 = 1 from rfl), ix_nI (by omega) (by omega), if_pos rfl, nI_clamp (by omega), nI_1]
      · by_cases g : i = k
        · subst g
          rw [if_pos (by omega), wI_off (by omega), wI_here rfl rfl, wI_here rfl rfl, e1, e2]
          exact ⟨congrArg nI (bs_cong (fun j _ => by rcases hA i j with e | e | e <;> simp [pl, mn, tnR, ng, e, hb])), congrArg nI (bs_cong (fun j _ => by rcases hA i j with e | e | e <;> simp [pl, mn, tnR, ng, e, hb]))⟩
        · exact rest i hi g _ (fun a b ha hb => by rw [wI_off (by omega), wI_off (by omega)])
    · have hb' : x.testBit k = false := by simpa using hb
      refine ⟨s, ?_, fun i hi => ?_, s2⟩
      · show f_X2_turnRows_2 (f + 1) T (nI x) (nI k) s = f_X2_turnRows_2 f T (nI x) (nI (k + 1)) _
        rw [f_X2_turnRows_2, s2 (22 + 3 * T) 2 (by omega) (by omega), h3, if_neg (nI_ge hk (by omega)), bit_nI hx (by omega), hb', if_neg (by decide), nI_1]
      · by_cases g : i = k
        · subst g
          rw [if_pos (by omega), e1, e2]
          exact ⟨congrArg nI (bs_cong (fun j _ => by simp [pl, tnR, ng, hb'])), congrArg nI (bs_cong (fun j _ => by simp [mn, tnR, ng, hb']))⟩
        · exact rest i hi g _ (fun a b ha hb => rfl)
  · exact ⟨fun i hi => by rw [if_neg (by omega)]; exact h4 i hi, fun _ _ _ _ => rfl⟩
end TX
section TM
variable {K : zMi} {t n : Nat} {A : Nat → Nat → Int}
theorem M_turnRow (h : MT K t n A) {i : Nat} (hi : i < n) : ∃ K', f_X4_turnRow (nI t) (nI i) K = some K' ∧ MT K' t n (tnR A (fun a => decide (a = i))) ∧ mfr t K K' := by
  have hn := h.2.1
  unfold f_X4_turnRow
  refine lp (fun f j K => f_X4_turnRow_2 f (nI t) (nI i) j K) n 0 (by omega) (by rw [fu_val]; omega) (fun k K' => MT K' t n (fun a b => ng (decide (a = i) && decide (b < k)) (A a b)) ∧ mfr t K K') (fun res => ∃ K', res = some K' ∧ MT K' t n (tnR A (fun a => decide (a = i))) ∧ mfr t K K') ?_ ?_ _ ?_
  · intro f s ⟨s1, s2⟩
    refine ⟨s, ?_, MT_congA s1 (fun a b ha hb => by simp [tnR, hb]), s2⟩
    show f_X4_turnRow_2 (f + 1) (nI t) (nI i) (nI n) s = _
    rw [f_X4_turnRow_2, M_ix s1, if_pos rfl, M_w s1, if_pos (nI_le (Nat.le_refl _) (by omega))]
  · intro f k s _ hk ⟨s1, s2⟩
    left
    obtain ⟨l1, l2⟩ := M_let s1 hi hk (- A i k)
    refine ⟨_, ?_, ?_, mfr_let s2 (show i < 12 by omega) (show k < 12 by omega) (sI (- A i k))⟩
    · show f_X4_turnRow_2 (f + 1) (nI t) (nI i) (nI k) s = f_X4_turnRow_2 f (nI t) (nI i) (nI (k + 1)) _
      rw [f_X4_turnRow_2, M_ix s1, if_pos rfl, M_w s1, if_neg (nI_ge hk (by omega)), MT_get s1 hi hk, nI_1, Option.bind_some, sI_neg, show ng (decide (i = i) && decide (k < k)) (A i k) = A i k from by simp [ng], l1]
      rfl
    · refine MT_congA l2 (fun a b _ _ => ?_)
      simp only [up2, ng]
      grind
  · exact ⟨MT_congA h (fun a b _ _ => by simp [ng]), fun _ _ _ => rfl⟩
theorem M_turnColumn (h : MT K t n A) {j : Nat} (hj : j < n) : ∃ K', f_X4_turnColumn (nI t) (nI j) K = some K' ∧ MT K' t n (tnC A (fun b => decide (b = j))) ∧ mfr t K K' := by
  have hn := h.2.1
  unfold f_X4_turnColumn
  refine lp (fun f i K => f_X4_turnColumn_2 f (nI t) (nI j) i K) n 0 (by omega) (by rw [fu_val]; omega) (fun k K' => MT K' t n (fun a b => ng (decide (b = j) && decide (a < k)) (A a b)) ∧ mfr t K K') (fun res => ∃ K', res = some K' ∧ MT K' t n (tnC A (fun b => decide (b = j))) ∧ mfr t K K') ?_ ?_ _ ?_
  · intro f s ⟨s1, s2⟩
    refine ⟨s, ?_, MT_congA s1 (fun a b ha hb => by simp [tnC, ha]), s2⟩
    show f_X4_turnColumn_2 (f + 1) (nI t) (nI j) (nI n) s = _
    rw [f_X4_turnColumn_2, M_ix s1, if_pos rfl, M_w s1, if_pos (nI_le (Nat.le_refl _) (by omega))]
  · intro f k s _ hk ⟨s1, s2⟩
    left
    obtain ⟨l1, l2⟩ := M_let s1 hk hj (- A k j)
    refine ⟨_, ?_, ?_, mfr_let s2 (show k < 12 by omega) (show j < 12 by omega) (sI (- A k j))⟩
    · show f_X4_turnColumn_2 (f + 1) (nI t) (nI j) (nI k) s = f_X4_turnColumn_2 f (nI t) (nI j) (nI (k + 1)) _
      rw [f_X4_turnColumn_2, M_ix s1, if_pos rfl, M_w s1, if_neg (nI_ge hk (by omega)), MT_get s1 hk hj, nI_1, Option.bind_some, sI_neg, show ng (decide (j = j) && decide (k < k)) (A k j) = A k j from by simp [ng], l1]
      rfl
    · refine MT_congA l2 (fun a b _ _ => ?_)
      simp only [up2, ng]
      grind
  · exact ⟨MT_congA h (fun a b _ _ => by simp [ng]), fun _ _ _ => rfl⟩
end TM
theorem mfr_trans {t : Nat} {K K' K'' : zMi} (h : mfr t K K') (h' : mfr t K' K'') : mfr t K K'' := fun a b q => by rw [h' a b q, h a b q]
def tnk (A : Nat → Nat → Int) (x y : Nat → Bool) (k : Nat) : Nat → Nat → Int := fun a b => ng (x a && decide (a < k)) (ng (y b && decide (b < k)) (A a b))
theorem ng_ng (c d : Bool) (z : Int) : ng c (ng d z) = ng (c ^^ d) z := by
  cases c <;> cases d <;> simp [ng]
theorem ng_cong {c d : Bool} (h : c = d) (z : Int) : ng c z = ng d z := by rw [h]
theorem lt_succ_b (a k : Nat) : decide (a < k + 1) = (decide (a < k) ^^ decide (a = k)) := by
  by_cases g : a = k
  · subst g; simp
  · by_cases g2 : a < k
    · simp [g, g2, Nat.lt_succ_of_lt g2]
    · have : ¬ a < k + 1 := by omega
      simp [g, g2, this]
theorem tnk_step (A : Nat → Nat → Int) (x y : Nat → Bool) (k : Nat) : tnk A x y (k + 1) = tnC (tnR (tnk A x y k) (fun a => x k && decide (a = k))) (fun b => y k && decide (b = k)) := by
  funext a b
  simp only [tnk, tnC, tnR, ng_ng, lt_succ_b]
  apply ng_cong
  by_cases g1 : a = k <;> by_cases g2 : b = k <;> simp [g1, g2] <;> cases x k <;> cases y k <;> simp
/-- sets of rows or columns -/
theorem set_cases {I K : zMi} {t n : Nat} (hx : I (22 + 3 * t) 2 = nI n) (hm : K 5 t = nI n) (ht : t < 10) (hn : n ≤ 12) (a : Int32) : (f_X2_isBeyond t a I = 1 ∧ f_X4_isSet (nI t) a K = some 0) ∨ ∃ x, x < 2 ^ n ∧ a = nI x ∧ f_X2_isBeyond t a I = 0 ∧ f_X4_isSet (nI t) a K = some 1 := by
  have hp := p12 hn
  have h1 : 1 ≤ 2 ^ n := Nat.one_le_two_pow
  obtain ⟨u, hu, rfl⟩ : ∃ u, u < 2 ^ 32 ∧ a = nI u := ⟨a.toBitVec.toNat, a.toBitVec.isLt, by
    apply Int32.toBitVec_inj.mp
    apply BitVec.eq_of_toNat_eq
    rw [pk_tn a.toBitVec.isLt]⟩
  have eB : f_X2_isBeyond t (nI u) I = if u < 2 ^ n then 0 else 1 := by
    unfold f_X2_isBeyond
    rw [hx, allBits_nI (by omega), xor_m1, fa_and]
    have hw : u &&& (2 ^ n - 1 ^^^ 2 ^ 32 - 1) < 2 ^ 32 := Nat.lt_of_le_of_lt Nat.and_le_left hu
    have z : nI (u &&& (2 ^ n - 1 ^^^ 2 ^ 32 - 1)) = 0 ↔ u < 2 ^ n := by
      have e1 : nI (u &&& (2 ^ n - 1 ^^^ 2 ^ 32 - 1)) = 0 ↔ u &&& (2 ^ n - 1 ^^^ 2 ^ 32 - 1) = 0 := by
        constructor
        · intro q
          have := congrArg (fun v : Int32 => v.toBitVec.toNat) q
          rw [show ((nI (u &&& (2 ^ n - 1 ^^^ 2 ^ 32 - 1))).toBitVec.toNat) = _ from pk_tn hw] at this
          exact this
        · intro q
          rw [q]
          rfl
      rw [e1]
      constructor
      · intro q
        apply Nat.lt_of_not_le
        intro g
        obtain ⟨i, hi1, hi2⟩ := Nat.exists_ge_and_testBit_of_ge_two_pow g
        have h32 : i < 32 := by
          apply Nat.lt_of_not_le
          intro w
          rw [Nat.testBit_lt_two_pow (Nat.lt_of_lt_of_le hu (Nat.pow_le_pow_right (by omega) w))] at hi2
          cases hi2
        have := congrArg (fun v => Nat.testBit v i) q
        simp only [Nat.testBit_and, Nat.testBit_xor, Nat.testBit_two_pow_sub_one, Nat.zero_testBit, hi2] at this
        rw [decide_eq_false (show ¬ i < n by omega), decide_eq_true h32] at this
        cases this
      · intro q
        apply Nat.eq_of_testBit_eq
        intro i
        rw [Nat.testBit_and, Nat.testBit_xor, Nat.testBit_two_pow_sub_one, Nat.testBit_two_pow_sub_one, Nat.zero_testBit]
        by_cases g : i < n
        · have : i < 32 := by omega
          simp [g, this]
        · rw [Nat.testBit_lt_two_pow (Nat.lt_of_lt_of_le q (Nat.pow_le_pow_right (by omega) (by omega)))]
          simp
    by_cases g : u < 2 ^ n
    · rw [if_pos (z.mpr g), if_pos g]
    · rw [if_neg (fun q => g (z.mp q)), if_neg g]
  have eS : f_X4_isSet (nI t) (nI u) K = some (if u < 2 ^ n then 1 else 0) := by
    unfold f_X4_isSet
    rw [ix_nI ht (by omega), if_pos rfl, nI_clamp (by omega), hm, one_shl (by omega), show (1 : Int32) = nI 1 from rfl, pk_sub h1]
    congr 1
    unfold f_X4_in
    by_cases g : u < 2 ^ n
    · rw [if_neg (nI_pos (by omega)), if_neg (nI_nlt (by omega) (by omega)), if_pos g]
      rfl
    · rw [if_neg g]
      by_cases g2 : u < 2 ^ 31
      · rw [if_neg (nI_pos g2), if_pos (nI_lt (by omega) g2)]
      · rw [if_pos]
        rw [fa_lt]
        show (nI u).toInt < 0
        have : (nI u).toInt = (nI u).toBitVec.toInt := rfl
        rw [this, BitVec.toInt_eq_toNat_cond, pk_tn hu, if_neg (by omega)]
        omega
  by_cases g : u < 2 ^ n
  · right
    exact ⟨u, g, rfl, by rw [eB, if_pos g], by rw [eS, if_pos g]⟩
  · left
    exact ⟨by rw [eB, if_neg g], by rw [eS, if_neg g]⟩
theorem MT_n0 {K : zMi} {t n : Nat} {A : Nat → Nat → Int} (h : MT K t n A) (c : Bool) {i : Nat} (hi : i < n) : (c = true → ∃ K', f_X4_turnRow (nI t) (nI i) K = some K' ∧ MT K' t n (tnR A (fun a => c && decide (a = i))) ∧ mfr t K K') ∧ (c = false → MT K t n (tnR A (fun a => c && decide (a = i)))) ∧ (c = true → ∃ K', f_X4_turnColumn (nI t) (nI i) K = some K' ∧ MT K' t n (tnC A (fun a => c && decide (a = i))) ∧ mfr t K K') ∧ (c = false → MT K t n (tnC A (fun a => c && decide (a = i)))) := by
  refine ⟨fun q => ?_, fun q => ?_, fun q => ?_, fun q => ?_⟩
  · subst q
    simpa using M_turnRow h hi
  · subst q
    exact MT_congA h (fun a b _ _ => by simp [tnR, ng])
  · subst q
    simpa using M_turnColumn h hi
  · subst q
    exact MT_congA h (fun a b _ _ => by simp [tnC, ng])
theorem s_turn : so_turn RR := by
  intro I J K M h a1 a2 a3
  rcases T_cases h a1 with ⟨e1, e2, e3⟩ | ⟨t, ht, rfl, e1, e2, e3, e4, e5, e6, e7⟩ | ⟨t, n, A, k, ht, rfl, e1, e2, e3, e4, e5, e6, e7, h0, hA, hX, hM, hK, k1, k2⟩
  · exact ⟨-1, I, K, by simp only [f_X3_turn, e1, if_true], by simp only [f_X4_turn, e3, Option.bind_some, if_neg v0m1], h⟩
  · obtain ⟨I', K', y1, y2, h'⟩ := RR_found h 1 (by simp)
    refine ⟨-3, I', K', ?_, ?_, h'⟩
    · simp only [f_X3_turn, e1, e3, e4, e5, y1, Option.bind_some, if_neg v10, if_true]
    · simp only [f_X4_turn, e7, y2, Option.bind_some, if_neg v0m3]
  · have hn := hX.2.1
    have hp := p12 hn
    rcases set_cases hX.2.2.1 hM.2.2.1 ht hn a2 with ⟨b1, b2⟩ | ⟨x, hx, rfl, b1, b2⟩
    · exact ⟨-1, I, K, by simp only [f_X3_turn, e1, e3, e4, e5, b1, if_neg v10, if_true], by simp only [f_X4_turn, e7, b2, Option.bind_some, if_pos v00, if_true], h⟩
    · rcases set_cases hX.2.2.1 hM.2.2.1 ht hn a3 with ⟨c1, c2⟩ | ⟨y, hy, rfl, c1, c2⟩
      · exact ⟨-1, I, K, by simp only [f_X3_turn, e1, e3, e4, e5, b1, c1, if_neg v10, if_true], by simp only [f_X4_turn, e7, b2, c2, Option.bind_some, if_pos v00, if_neg v10, if_true], h⟩
      · obtain ⟨I1, x1, x2, x3⟩ := X_turnColumns hA hX y
        obtain ⟨I2, w1, w2, w3⟩ := X_turnRows (tri_C hA _) x2 (x := x) (by omega)
        have mod : ∃ K', f_X4_turn_38 fu (nI t) (nI x) (nI y) 0 K = (f_X4_setKind (nI t) K').bind (fun x3 => some (x3.1, x3.2)) ∧ MT K' t n (tnk A (fun a => x.testBit a) (fun b => y.testBit b) n) ∧ mfr t K K' := by
          refine lp (fun f j K => f_X4_turn_38 f (nI t) (nI x) (nI y) j K) n 0 (by omega) (by rw [fu_val]; omega) (fun k K' => MT K' t n (tnk A (fun a => x.testBit a) (fun b => y.testBit b) k) ∧ mfr t K K') (fun res => ∃ K', res = (f_X4_setKind (nI t) K').bind (fun x3 => some (x3.1, x3.2)) ∧ MT K' t n (tnk A (fun a => x.testBit a) (fun b => y.testBit b) n) ∧ mfr t K K') ?_ ?_ _ ?_
          · intro f s ⟨s1, s2⟩
            refine ⟨s, ?_, s1, s2⟩
            show f_X4_turn_38 (f + 1) (nI t) (nI x) (nI y) (nI n) s = _
            rw [f_X4_turn_38, M_ix s1, if_pos rfl, M_w s1, if_pos (nI_le (Nat.le_refl _) (by omega))]
          · intro f k s _ hk ⟨s1, s2⟩
            left
            show ∃ s', f_X4_turn_38 (f + 1) (nI t) (nI x) (nI y) (nI k) s = f_X4_turn_38 f (nI t) (nI x) (nI y) (nI (k + 1)) s' ∧ _
            rw [f_X4_turn_38, M_ix s1, if_pos rfl, M_w s1, if_neg (nI_ge hk (by omega)), bit_nI (by omega) (by omega), bit_nI (by omega) (by omega), nI_1, tnk_step]
            have q1 := MT_n0 s1 (x.testBit k) hk
            by_cases bx : x.testBit k = true
            · obtain ⟨s', r1, r2, r3⟩ := q1.1 bx
              have q2 := MT_n0 r2 (y.testBit k) hk
              simp only [bx, if_true, show nI 1 = (1 : Int32) from rfl, r1, Option.bind_some]
              by_cases by' : y.testBit k = true
              · obtain ⟨s'', u1, u2, u3⟩ := q2.2.2.1 by'
                simp only [by', if_true, show nI 1 = (1 : Int32) from rfl, u1, Option.bind_some]
                refine ⟨s'', rfl, ?_, mfr_trans s2 (mfr_trans r3 u3)⟩
                simpa [bx, by'] using u2
              · have by2 : y.testBit k = false := by simpa using by'
                simp only [by2]
                refine ⟨s', rfl, ?_, mfr_trans s2 r3⟩
                have := q2.2.2.2 by2
                simpa [bx, by2] using this
            · have bx2 : x.testBit k = false := by simpa using bx
              have q2 := MT_n0 (q1.2.1 bx2) (y.testBit k) hk
              simp only [bx2]
              rw [if_neg (by decide)]
              by_cases by' : y.testBit k = true
              · obtain ⟨s'', u1, u2, u3⟩ := q2.2.2.1 by'
                simp only [by', if_true, show nI 1 = (1 : Int32) from rfl, u1, Option.bind_some]
                refine ⟨s'', rfl, ?_, mfr_trans s2 u3⟩
                simpa [bx2, by'] using u2
              · have by2 : y.testBit k = false := by simpa using by'
                simp only [by2]
                refine ⟨s, rfl, ?_, s2⟩
                have := q2.2.2.2 by2
                simpa [bx2, by2] using this
          · exact ⟨MT_congA hM (fun a b _ _ => by simp [tnk, ng]), fun _ _ _ => rfl⟩
        obtain ⟨K', m1, m2, m3⟩ := mod
        have eqA : ∀ a b, a < n → b < n → tnk A (fun a => x.testBit a) (fun b => y.testBit b) n a b = tnR (tnC A (fun b => y.testBit b)) (fun a => x.testBit a) a b := fun a b ha hb => by simp [tnk, tnR, tnC, ha, hb]
        obtain ⟨k, I'', K'', z1, z2, z3⟩ := fin_tab h ht h0 (tri_R (tri_C hA _) _) w2 (MT_congA m2 eqA) (fun a b _ _ _ q1 q2 q3 => by rw [w3 a b q2 q3, x3 a b q2 q3]) (fun a b _ _ q1 q2 q3 => m3 a b q3)
        refine ⟨k, I'', K'', ?_, ?_, z3⟩
        · simp only [f_X3_turn, e1, e3, e4, e5, b1, c1, x1, w1, z1, Option.bind_some, if_neg v10, if_true]
        · simp only [f_X4_turn, e7, b2, c2, m1, z2, Option.bind_some, if_pos v00, if_neg v10]
