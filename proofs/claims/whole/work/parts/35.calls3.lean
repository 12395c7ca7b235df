-- ===== told, mark, even =====
theorem X_countBits {I : zMi} {c n : Nat} (hn : n ≤ 12) (P : Nat → Nat → Bool) (h : ∀ i, i < n → I c i = nI (bs (P i) n)) : f_X3_countBits c (nI n) I = some (nI (fb_sm (fun i => fb_ct (P i) n) n)) := by
  unfold f_X3_countBits
  refine up0 (fun f i (a : Int32) => f_X3_countBits_4 I f c (nI n) a i) n (by rw [fu_val]; omega) (fun k => nI (fb_sm (fun i => fb_ct (P i) n) k)) _ ?_ ?_
  · intro f
    show f_X3_countBits_4 I (f + 1) c (nI n) _ (nI n) = _
    rw [f_X3_countBits_4, if_pos (nI_le (Nat.le_refl _) (by omega))]
  · intro f k hk
    show f_X3_countBits_4 I (f + 1) c (nI n) _ (nI k) = f_X3_countBits_4 I f c (nI n) _ (nI (k + 1))
    rw [f_X3_countBits_4, if_neg (nI_ge hk (by omega)), ix_nI (by omega) (by omega), if_pos rfl, nI_clamp (by omega), h k hk, bitCount_bs _ (by omega), nI_add, nI_1]
    rfl
section TC
variable {K : zMi} {t n : Nat} {A : Nat → Nat → Int}
theorem M_countOf (hA : tri A) (h : MT K t n A) {z : Int} (hz : -1 ≤ z ∧ z ≤ 1) : f_X4_countOf (nI t) (sI z) K = some (nI (fb_sm (fun i => fb_ct (fun j => decide (A i j = z)) n) n)) := by
  have hn := h.2.1
  have inner : ∀ (k5 : Int32 → Int32 → Int32 → Int32 → Option Int32) (i b0 : Nat), i < n → f_X4_countOf_19 K k5 fu (nI t) (sI z) (nI b0) (nI i) 0 = k5 (nI t) (sI z) (nI (b0 + fb_ct (fun j => decide (A i j = z)) n)) (nI (i + 1)) := by
    intro k5 i b0 hi
    refine up0 (fun f j (a : Int32) => f_X4_countOf_19 K k5 f (nI t) (sI z) a (nI i) j) n (by rw [fu_val]; omega) (fun k => nI (b0 + fb_ct (fun j => decide (A i j = z)) k)) _ ?_ ?_
    · intro f
      show f_X4_countOf_19 K k5 (f + 1) (nI t) (sI z) _ (nI i) (nI n) = _
      rw [f_X4_countOf_19, M_ix h, if_pos rfl, M_w h, if_pos (nI_le (Nat.le_refl _) (by omega)), nI_1]
    · intro f k hk
      show f_X4_countOf_19 K k5 (f + 1) (nI t) (sI z) _ (nI i) (nI k) = f_X4_countOf_19 K k5 f (nI t) (sI z) _ (nI i) (nI (k + 1))
      rw [f_X4_countOf_19, M_ix h, if_pos rfl, M_w h, if_neg (nI_ge hk (by omega)), MT_get h hi hk, nI_1, fb_ct_succ]
      show (if sI (A i k) = sI z then _ else _) = _
      by_cases g : A i k = z
      · rw [if_pos ((tri_eq hA i k hz.1 hz.2).mpr g), nI_1, if_pos (decide_eq_true g), Nat.add_assoc]
      · rw [if_neg (fun q => g ((tri_eq hA i k hz.1 hz.2).mp q)), if_neg (fun q => g (of_decide_eq_true q)), show (0 : Int32) = nI 0 from rfl, nI_add, Nat.add_assoc, nI_1]
  unfold f_X4_countOf
  refine up0 (fun f i (a : Int32) => f_X4_countOf_5 K f (nI t) (sI z) a i) n (by rw [fu_val]; omega) (fun k => nI (fb_sm (fun i => fb_ct (fun j => decide (A i j = z)) n) k)) _ ?_ ?_
  · intro f
    show f_X4_countOf_5 K (f + 1) (nI t) (sI z) _ (nI n) = _
    rw [f_X4_countOf_5, M_ix h, if_pos rfl, M_w h, if_pos (nI_le (Nat.le_refl _) (by omega))]
  · intro f k hk
    show f_X4_countOf_5 K (f + 1) (nI t) (sI z) _ (nI k) = f_X4_countOf_5 K f (nI t) (sI z) _ (nI (k + 1))
    rw [f_X4_countOf_5, M_ix h, if_pos rfl, M_w h, if_neg (nI_ge hk (by omega)), inner _ k _ hk, fb_sm_succ]
theorem M_isNormal (hA : tri A) (h : MT K t n A) (h0 : 0 < n) : ∃ b, f_X4_isNormal (nI t) K = some (bI b) ∧ (b = true ↔ SG A n ∧ ∀ i, i < n → A i 0 = 1 ∧ A 0 i = 1) := by
  have hn := h.2.1
  obtain ⟨b1, e1, q1⟩ := M_hasZero hA h
  have one : ∀ i j, sI (A i j) = 1 ↔ A i j = 1 := fun i j => tri_eq hA i j (z := 1) (by omega) (by omega)
  have loop : ∀ b : Bool, f_X4_isNormal_16 K fu (nI t) (bI b) 0 = some (bI (b && alB (fun i => decide (A i 0 = 1) && decide (A 0 i = 1)) n)) := by
    intro b
    have := up0 (fun f i (a : Int32) => f_X4_isNormal_16 K f (nI t) a i) n (by rw [fu_val]; omega) (fun k => bI (b && alB (fun i => decide (A i 0 = 1) && decide (A 0 i = 1)) k)) (some (bI (b && alB (fun i => decide (A i 0 = 1) && decide (A 0 i = 1)) n))) ?_ ?_
    · simpa [alB, nI_0] using this
    · intro f
      show f_X4_isNormal_16 K (f + 1) (nI t) _ (nI n) = _
      rw [f_X4_isNormal_16, M_ix h, if_pos rfl, M_w h, if_pos (nI_le (Nat.le_refl _) (by omega))]
    · intro f k hk
      show f_X4_isNormal_16 K (f + 1) (nI t) (bI _) (nI k) = f_X4_isNormal_16 K f (nI t) (bI _) (nI (k + 1))
      rw [f_X4_isNormal_16, M_ix h, if_pos rfl, M_w h, if_neg (nI_ge hk (by omega)), show f_X4_get (nI t) (nI k) 0 K = _ from MT_get h hk h0, show f_X4_get (nI t) 0 (nI k) K = _ from MT_get h h0 hk, nI_1]
      simp only [alB, Option.bind_some, one]
      cases b <;> cases alB (fun i => decide (A i 0 = 1) && decide (A 0 i = 1)) k <;> by_cases g1 : A k 0 = 1 <;> by_cases g2 : A 0 k = 1 <;> simp [g1, g2, bI]
  unfold f_X4_isNormal
  rw [e1]
  cases b1
  · refine ⟨_, loop true, ?_⟩
    have hs : SG A n := Classical.byContradiction (fun q => by have := q1.mpr q; cases this)
    rw [Bool.true_and, alB_iff]
    constructor
    · intro q
      exact ⟨hs, fun i hi => by have := q i hi; simpa using this⟩
    · intro q i hi
      have := q.2 i hi
      simp [this]
  · refine ⟨_, loop false, ?_⟩
    simp only [Bool.false_and]
    exact ⟨fun q => (by cases q), fun q => absurd q.1 (q1.mp rfl)⟩
theorem X_isNormal {I : zMi} (hA : tri A) (h : XT I t n A) (h0 : 0 < n) : ∃ b, f_X2_isNormal t I = some (bI b) ∧ (b = true ↔ SG A n ∧ ∀ i, i < n → A i 0 = 1 ∧ A 0 i = 1) := by
  obtain ⟨b1, e1, q1⟩ := X_isSigns hA h
  have e2 : f_X2_minusOfColumn t 0 I = _ := X_minusOfColumn h h0
  have hn := h.2.1
  have z : ∀ p : Nat → Bool, nI (bs p n) = 0 ↔ ∀ j, j < n → p j = false := fun p => by
    have := nIbs (p := p) (q := fun _ => false) hn
    rw [bs_false] at this
    exact this
  unfold f_X2_isNormal
  rw [e1]
  cases b1
  · exact ⟨false, rfl, fun q => (by cases q), fun q => absurd (q1.mpr q.1) (by decide)⟩
  · have hs : SG A n := q1.mp rfl
    have sgn : ∀ i j, i < n → j < n → (mn A i j = false ↔ A i j = 1) := fun i j hi hj => by
      have := hs i j hi hj
      rcases hA i j with e | e | e <;> simp [mn, e] at this ⊢
    show ∃ b, (if bI true = 0 then some 0 else if I (24 + 3 * t) (0 : Int32).toNatClampNeg = 0 then ((f_X2_minusOfColumn t 0 I).bind (fun x4 => if x4 = 0 then some 1 else some 0)) else some 0) = some (bI b) ∧ (b = true ↔ SG A n ∧ ∀ i, i < n → A i 0 = 1 ∧ A 0 i = 1)
    rw [if_neg (by decide), show (0 : Int32).toNatClampNeg = 0 from rfl, (h.2.2.2 0 h0).2]
    by_cases g : ∀ j, j < n → mn A 0 j = false
    · rw [if_pos ((z _).mpr g), e2]
      show ∃ b, (if nI (bs (fun i => mn A i 0) n) = 0 then some 1 else some 0) = some (bI b) ∧ (b = true ↔ SG A n ∧ ∀ i, i < n → A i 0 = 1 ∧ A 0 i = 1)
      by_cases g2 : ∀ i, i < n → mn A i 0 = false
      · rw [if_pos ((z _).mpr g2)]
        exact ⟨true, rfl, fun _ => ⟨hs, fun i hi => ⟨(sgn i 0 hi h0).mp (g2 i hi), (sgn 0 i h0 hi).mp (g i hi)⟩⟩, fun _ => rfl⟩
      · rw [if_neg (fun q => g2 ((z _).mp q))]
        exact ⟨false, rfl, fun q => (by cases q), fun q => absurd (fun i hi => (sgn i 0 hi h0).mpr (q.2 i hi).1) g2⟩
    · rw [if_neg (fun q => g ((z _).mp q))]
      exact ⟨false, rfl, fun q => (by cases q), fun q => absurd (fun i hi => (sgn 0 i h0 hi).mpr (q.2 i hi).2) g⟩
end TC
theorem in_0n {a : Int32} (N : Nat) (hN : N < 2 ^ 30) : (f_X4_in a 0 (nI N) = 0 ∧ (a < 0 ∨ ¬ a ≤ nI N)) ∨ ∃ n, n ≤ N ∧ a = nI n ∧ f_X4_in (nI n) 0 (nI N) = 1 ∧ ¬ nI n < 0 ∧ nI n ≤ nI N := by
  by_cases h1 : a < 0
  · left
    exact ⟨by simp only [f_X4_in, if_pos h1], Or.inl h1⟩
  · by_cases h2 : nI N < a
    · left
      refine ⟨by simp only [f_X4_in, if_neg h1, if_pos h2], Or.inr (fun q => ?_)⟩
      rw [fa_lt] at h2
      rw [fa_le] at q
      omega
    · right
      have r2 : ¬ (N : Int) < a.toInt := fun q => h2 (by rw [fa_lt, nI_toInt (by omega)]; exact q)
      obtain ⟨n, hn, rfl⟩ := nI_of h1
      rw [nI_toInt hn] at r2
      exact ⟨n, by omega, rfl, by simp only [f_X4_in, if_neg h1, if_neg h2], h1, nI_le (by omega) (by omega)⟩
theorem s_told : so_told RR := by
  intro I J K M h a1 a2
  rcases T_cases h a1 with ⟨e1, e2, e3⟩ | hT
  · refine ⟨-1, I, K, by simp only [f_X3_told, e1, if_true], ?_, h⟩
    by_cases g : f_X4_in a2 0 4 = 0
    · simp only [f_X4_told, g, if_true]
    · simp only [f_X4_told, if_neg g, e3, Option.bind_some, if_neg v0m1]
  have e1' : f_X3_isTableNumber a1 = 1 := by
    rcases hT with ⟨t, ht, rfl, e1, _⟩ | ⟨t, n, A, k, ht, rfl, e1, _⟩ <;> exact e1
  rcases in_0n (a := a2) 4 (by omega) with ⟨n1, n2⟩ | ⟨w, hw, rfl, n1, n2, n3⟩
  · refine ⟨-1, I, K, ?_, by simp only [f_X4_told, show f_X4_in a2 0 4 = 0 from n1, if_true], h⟩
    rcases n2 with q | q
    · simp only [f_X3_told, e1', if_neg v10, if_pos q]
    · have q' : ¬ a2 ≤ 4 := q
      by_cases q2 : a2 < 0
      · simp only [f_X3_told, e1', if_neg v10, if_pos q2]
      · simp only [f_X3_told, e1', if_neg v10, if_neg q2, if_neg q']
  have n1' : f_X4_in (nI w) 0 4 = 1 := n1
  have n3' : nI w ≤ 4 := n3
  rcases hT with ⟨t, ht, rfl, e1, e2, e3, e4, e5, e6, e7⟩ | ⟨t, n, A, k, ht, rfl, e1, e2, e3, e4, e5, e6, e7, h0, hA, hX, hM, hK, k1, k2⟩
  · obtain ⟨I', K', y1, y2, h'⟩ := RR_found h 1 (by simp)
    refine ⟨-3, I', K', ?_, ?_, h'⟩
    · simp only [f_X3_told, e1, e3, e4, e5, y1, Option.bind_some, if_neg v10, if_true, if_neg n2, if_pos n3']
    · simp only [f_X4_told, n1', e7, y2, Option.bind_some, if_neg v0m3, if_neg v10]
  · have hn := hX.2.1
    have w1 : I (22 + 3 * t) 2 = nI n := hX.2.2.1
    have w2 : K 5 t = nI n := hM.2.2.1
    have c1 := X_countBits (I := I) (c := 23 + 3 * t) hn (pl A) (fun i hi => (hX.2.2.2 i hi).1)
    have c2 := X_countBits (I := I) (c := 24 + 3 * t) hn (mn A) (fun i hi => (hX.2.2.2 i hi).2)
    have d1 : f_X4_countOf (nI t) 1 K = some (nI (fb_sm (fun i => fb_ct (pl A i) n) n)) := M_countOf hA hM (z := 1) (by omega)
    have d2 : f_X4_countOf (nI t) (-1) K = some (nI (fb_sm (fun i => fb_ct (mn A i) n) n)) := by
      have := M_countOf hA hM (z := -1) (by omega)
      rw [show sI (-1) = (-1 : Int32) from by decide] at this
      exact this
    obtain ⟨b, f1, f2⟩ := X_isNormal hA hX h0
    obtain ⟨b', f3, f4⟩ := M_isNormal hA hM h0
    have hb : b = b' := by rw [Bool.eq_iff_iff, f2, f4]
    subst hb
    rcases (show w = 0 ∨ w = 1 ∨ w = 2 ∨ w = 3 ∨ w = 4 by omega) with rfl | rfl | rfl | rfl | rfl
    · refine ⟨1, _, _, ?_, ?_, RR_ask h (nI k)⟩
      · simp only [f_X3_told, e1, e3, e4, e5, if_neg v10, if_true, if_neg n2, if_pos n3', k1]
        rfl
      · simp only [f_X4_told, n1', e7, Option.bind_some, if_pos v00, if_neg v10, if_true, e3, e4, k2, f_X4_ask]
        rfl
    · refine ⟨1, _, _, ?_, ?_, RR_ask h (nI n)⟩
      · simp only [f_X3_told, e1, e3, e4, e5, if_neg v10, if_true, if_neg n2, if_pos n3', w1]
        rfl
      · simp only [f_X4_told, n1', e7, Option.bind_some, if_pos v00, if_neg v10, if_true, e3, e4, w2, f_X4_ask]
        rfl
    · refine ⟨1, _, _, ?_, ?_, RR_ask h (nI (fb_sm (fun i => fb_ct (pl A i) n) n))⟩
      · simp only [f_X3_told, e1, e3, e4, e5, if_neg v10, if_true, if_neg n2, if_pos n3', w1, c1, Option.bind_some]
        rfl
      · simp only [f_X4_told, n1', e7, Option.bind_some, if_pos v00, if_neg v10, if_true, e3, e4, d1, f_X4_ask]
        rfl
    · refine ⟨1, _, _, ?_, ?_, RR_ask h (nI (fb_sm (fun i => fb_ct (mn A i) n) n))⟩
      · simp only [f_X3_told, e1, e3, e4, e5, if_neg v10, if_true, if_neg n2, if_pos n3', w1, c2, Option.bind_some]
        rfl
      · simp only [f_X4_told, n1', e7, Option.bind_some, if_pos v00, if_neg v10, if_true, e3, e4, d2, f_X4_ask]
        rfl
    · refine ⟨1, _, _, ?_, ?_, RR_ask h (bI b)⟩
      · simp only [f_X3_told, e1, e3, e4, e5, if_neg v10, if_true, if_neg n2, if_pos n3', f1, Option.bind_some]
        cases b <;> rfl
      · simp only [f_X4_told, n1', e7, Option.bind_some, if_pos v00, if_neg v10, if_true, f3, f_X4_ask]
        cases b <;> rfl
