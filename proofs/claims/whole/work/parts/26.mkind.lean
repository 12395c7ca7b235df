theorem upF {σ R : Type} (F : Nat → Int32 → σ → Option R) (n i0 : Nat) (hi : i0 ≤ n) (hn : n - i0 < fu) (S : Nat → σ) (res : Option R) (hex : ∀ f, F (f + 1) (nI n) (S n) = res) (hst : ∀ f k, i0 ≤ k → k < n → F (f + 1) (nI k) (S k) = F f (nI (k + 1)) (S (k + 1))) : F fu (nI i0) (S i0) = res := by
  have key : ∀ (d k fuel : Nat), k + d = n → d < fuel → i0 ≤ k → F fuel (nI k) (S k) = res := by
    intro d
    induction d with
    | zero =>
      intro k fuel hk hf h0
      obtain ⟨f, rfl⟩ : ∃ f, fuel = f + 1 := ⟨fuel - 1, by omega⟩
      have e : k = n := by omega
      subst e
      exact hex f
    | succ d ih =>
      intro k fuel hk hf h0
      obtain ⟨f, rfl⟩ : ∃ f, fuel = f + 1 := ⟨fuel - 1, by omega⟩
      rw [hst f k h0 (by omega)]
      exact ih (k + 1) f (by omega) (by omega) (by omega)
  exact key (n - i0) i0 fu (by omega) hn (Nat.le_refl _)
def exB (p : Nat → Bool) : Nat → Bool
  | 0 => false
  | n + 1 => exB p n || p n
def alB (p : Nat → Bool) : Nat → Bool
  | 0 => true
  | n + 1 => alB p n && p n
theorem exB_iff (p : Nat → Bool) : ∀ n, exB p n = true ↔ ∃ i, i < n ∧ p i = true
  | 0 => by simp [exB]
  | n + 1 => by
    simp only [exB, Bool.or_eq_true, exB_iff p n]
    constructor
    · rintro (⟨i, h1, h2⟩ | h)
      · exact ⟨i, by omega, h2⟩
      · exact ⟨n, by omega, h⟩
    · rintro ⟨i, h1, h2⟩
      by_cases e : i = n
      · subst e; exact Or.inr h2
      · exact Or.inl ⟨i, by omega, h2⟩
theorem alB_iff (p : Nat → Bool) : ∀ n, alB p n = true ↔ ∀ i, i < n → p i = true
  | 0 => by simp [alB]
  | n + 1 => by
    simp only [alB, Bool.and_eq_true, alB_iff p n]
    constructor
    · rintro ⟨h1, h2⟩ i hi
      by_cases e : i = n
      · subst e; exact h2
      · exact h1 i (by omega)
    · intro h
      exact ⟨fun i hi => h i (by omega), h n (by omega)⟩
theorem tri_b {A : Nat → Nat → Int} (hA : tri A) (i j : Nat) : -1 ≤ A i j ∧ A i j ≤ 1 := by
  rcases hA i j with e | e | e <;> rw [e] <;> omega
theorem tri_eq {A : Nat → Nat → Int} (hA : tri A) (i j : Nat) {z : Int} (h1 : -1 ≤ z) (h2 : z ≤ 1) : sI (A i j) = sI z ↔ A i j = z := by
  have := tri_b hA i j
  exact sI_eq (by omega) (by omega)
theorem tri_0 {A : Nat → Nat → Int} (hA : tri A) (i j : Nat) : sI (A i j) = 0 ↔ A i j = 0 := tri_eq hA i j (z := 0) (by omega) (by omega)
theorem tri_m {A : Nat → Nat → Int} (hA : tri A) (i j : Nat) : sI (A i j) = -1 ↔ A i j = -1 := by
  rw [show (-1 : Int32) = sI (-1) from by decide]
  exact tri_eq hA i j (z := -1) (by omega) (by omega)
section MK
variable {K : zMi} {t n : Nat} {A : Nat → Nat → Int}
theorem M_ix (h : MT K t n A) : ix (nI t) 10 = true := ix_nI h.1 (by omega)
theorem M_w (h : MT K t n A) : K 5 (nI t).toNatClampNeg = nI n := by
  have := h.1
  rw [nI_clamp (by omega), h.2.2.1]
theorem M_hasZero (hA : tri A) (h : MT K t n A) : ∃ b, f_X4_hasZero (nI t) K = some (bI b) ∧ (b = true ↔ ¬ SG A n) := by
  have hn := h.2.1
  have inner : ∀ (k4 : Int32 → Int32 → Int32 → Option Int32) (i : Nat) (b : Bool), i < n → f_X4_hasZero_17 K k4 fu (nI t) (bI b) (nI i) 0 = k4 (nI t) (bI (b || exB (fun j => decide (A i j = 0)) n)) (nI (i + 1)) := by
    intro k4 i b hi
    have := up0 (fun f j (a : Int32) => f_X4_hasZero_17 K k4 f (nI t) a (nI i) j) n (by rw [fu_val]; omega) (fun k => bI (b || exB (fun j => decide (A i j = 0)) k)) (k4 (nI t) (bI (b || exB (fun j => decide (A i j = 0)) n)) (nI (i + 1))) ?_ ?_
    · simpa [exB, nI_0] using this
    · intro f
      show f_X4_hasZero_17 K k4 (f + 1) (nI t) _ (nI i) (nI n) = _
      rw [f_X4_hasZero_17, M_ix h, if_pos rfl, M_w h, if_pos (nI_le (Nat.le_refl _) (by omega)), nI_1]
    · intro f k hk
      show f_X4_hasZero_17 K k4 (f + 1) (nI t) (bI _) (nI i) (nI k) = f_X4_hasZero_17 K k4 f (nI t) (bI _) (nI i) (nI (k + 1))
      rw [f_X4_hasZero_17, M_ix h, if_pos rfl, M_w h, if_neg (nI_ge hk (by omega)), MT_get h hi hk, nI_1]
      simp only [exB]
      by_cases g : (b || exB (fun j => decide (A i j = 0)) k) = true
      · rw [if_neg (fun q => by rw [bI_0.mp q] at g; cases g), ← Bool.or_assoc, g, Bool.true_or]
        rfl
      · have g' : (b || exB (fun j => decide (A i j = 0)) k) = false := by simpa using g
        rw [if_pos (bI_0.mpr g'), ← Bool.or_assoc, g', Bool.false_or]
        show (if sI (A i k) = 0 then _ else _) = _
        by_cases g2 : A i k = 0
        · rw [if_pos ((tri_0 hA i k).mpr g2), decide_eq_true g2]
          rfl
        · rw [if_neg (fun q => g2 ((tri_0 hA i k).mp q)), decide_eq_false g2]
          rfl
  refine ⟨exB (fun i => exB (fun j => decide (A i j = 0)) n) n, ?_, ?_⟩
  · unfold f_X4_hasZero
    refine up0 (fun f i (a : Int32) => f_X4_hasZero_4 K f (nI t) a i) n (by rw [fu_val]; omega) (fun k => bI (exB (fun i => exB (fun j => decide (A i j = 0)) n) k)) _ ?_ ?_
    · intro f
      show f_X4_hasZero_4 K (f + 1) (nI t) _ (nI n) = _
      rw [f_X4_hasZero_4, M_ix h, if_pos rfl, M_w h, if_pos (nI_le (Nat.le_refl _) (by omega))]
    · intro f k hk
      show f_X4_hasZero_4 K (f + 1) (nI t) _ (nI k) = f_X4_hasZero_4 K f (nI t) _ (nI (k + 1))
      rw [f_X4_hasZero_4, M_ix h, if_pos rfl, M_w h, if_neg (nI_ge hk (by omega)), inner _ k _ hk]
      rfl
  · rw [exB_iff]
    constructor
    · rintro ⟨i, hi, h2⟩ hs
      obtain ⟨j, hj, h3⟩ := (exB_iff _ _).mp h2
      exact hs i j hi hj (of_decide_eq_true h3)
    · intro hs
      apply Classical.byContradiction
      intro hno
      refine hs (fun i j hi hj e => hno ⟨i, hi, (exB_iff _ _).mpr ⟨j, hj, decide_eq_true e⟩⟩)
theorem dot_bound (hA : tri A) (i k : Nat) : ∀ m : Nat, -(m : Int) ≤ dotI A m i k ∧ dotI A m i k ≤ m
  | 0 => by simp [dotI, fb_si]
  | m + 1 => by
    have ih := dot_bound hA i k m
    unfold dotI at ih ⊢
    rw [fb_si_succ]
    rcases hA i m with e | e | e <;> rcases hA k m with e' | e' | e' <;> simp only [e, e'] <;> omega
theorem M_balance (hA : tri A) (h : MT K t n A) {i k : Nat} (hi : i < n) (hk : k < n) : f_X4_balance (nI t) (nI i) (nI k) K = some (bI (decide (dotI A n i k = 0))) := by
  have hn := h.2.1
  unfold f_X4_balance
  refine up0 (fun f j (a : Int32) => f_X4_balance_6 K f (nI t) (nI i) (nI k) a j) n (by rw [fu_val]; omega) (fun m => sI (dotI A m i k)) _ ?_ ?_
  · intro f
    show f_X4_balance_6 K (f + 1) (nI t) (nI i) (nI k) _ (nI n) = _
    have hb := dot_bound hA i k n
    rw [f_X4_balance_6, M_ix h, if_pos rfl, M_w h, if_pos (nI_le (Nat.le_refl _) (by omega))]
    by_cases g : dotI A n i k = 0
    · rw [if_pos (by rw [g]; rfl), decide_eq_true g]
      rfl
    · rw [if_neg (show ¬ sI (dotI A n i k) = 0 from fun q => g ((sI_eq (b := 0) (by omega) (by omega)).mp q)), decide_eq_false g]
      rfl
  · intro f m hm
    show f_X4_balance_6 K (f + 1) (nI t) (nI i) (nI k) _ (nI m) = f_X4_balance_6 K f (nI t) (nI i) (nI k) _ (nI (m + 1))
    rw [f_X4_balance_6, M_ix h, if_pos rfl, M_w h, if_neg (nI_ge hm (by omega)), MT_get h hi hm, MT_get h hk hm, nI_1]
    show f_X4_balance_6 K f (nI t) (nI i) (nI k) (sI _ + sI _ * sI _) _ = _
    rw [sI_mul, sI_add]
    rfl
theorem M_pairs (hA : tri A) (h : MT K t n A) : f_X4_pairsThatBalance (nI t) K = some (nI (bpN A n)) := by
  have hn := h.2.1
  have inner : ∀ (k4 : Int32 → Int32 → Int32 → Option Int32) (i b0 : Nat), i < n → f_X4_pairsThatBalance_17 K k4 fu (nI t) (nI b0) (nI i) 0 = k4 (nI t) (nI (b0 + fb_ct (fun k => decide (dotI A n i k = 0)) i)) (nI (i + 1)) := by
    intro k4 i b0 hi
    refine up0 (fun f j (a : Int32) => f_X4_pairsThatBalance_17 K k4 f (nI t) a (nI i) j) i (by rw [fu_val]; omega) (fun k => nI (b0 + fb_ct (fun k => decide (dotI A n i k = 0)) k)) _ ?_ ?_
    · intro f
      show f_X4_pairsThatBalance_17 K k4 (f + 1) (nI t) _ (nI i) (nI i) = _
      rw [f_X4_pairsThatBalance_17, if_pos (nI_le (Nat.le_refl _) (by omega)), nI_1]
    · intro f k hk
      show f_X4_pairsThatBalance_17 K k4 (f + 1) (nI t) _ (nI i) (nI k) = f_X4_pairsThatBalance_17 K k4 f (nI t) _ (nI i) (nI (k + 1))
      rw [f_X4_pairsThatBalance_17, if_neg (nI_ge hk (by omega)), M_balance hA h hi (show k < n by omega), nI_1, fb_ct_succ]
      show (if bI _ = 0 then _ else _) = _
      by_cases g : dotI A n i k = 0
      · rw [decide_eq_true g, if_neg (by decide), nI_1, if_pos rfl, Nat.add_assoc]
      · rw [decide_eq_false g, if_pos (show bI false = 0 from rfl), if_neg (by decide), show (0 : Int32) = nI 0 from rfl, nI_add, Nat.add_assoc]
  unfold f_X4_pairsThatBalance
  refine up0 (fun f i (a : Int32) => f_X4_pairsThatBalance_4 K f (nI t) a i) n (by rw [fu_val]; omega) (fun k => nI (fb_sm (fun i => fb_ct (fun k => decide (dotI A n i k = 0)) i) k)) _ ?_ ?_
  · intro f
    show f_X4_pairsThatBalance_4 K (f + 1) (nI t) _ (nI n) = _
    rw [f_X4_pairsThatBalance_4, M_ix h, if_pos rfl, M_w h, if_pos (nI_le (Nat.le_refl _) (by omega))]
    rfl
  · intro f k hk
    show f_X4_pairsThatBalance_4 K (f + 1) (nI t) _ (nI k) = f_X4_pairsThatBalance_4 K f (nI t) _ (nI (k + 1))
    rw [f_X4_pairsThatBalance_4, M_ix h, if_pos rfl, M_w h, if_neg (nI_ge hk (by omega)), inner _ k _ hk, fb_sm_succ]
theorem M_isRound (hA : tri A) (h : MT K t n A) (h0 : 0 < n) : ∃ b, f_X4_isRound (nI t) K = some (bI b) ∧ (b = true ↔ RD A n) := by
  have hn := h.2.1
  have inner : ∀ (k12 : Int32 → Int32 → Int32 → Int32 → Option Int32) (i : Nat) (b : Bool), 1 ≤ i → i < n → f_X4_isRound_21 K k12 fu (nI t) (bI b) (nI n) (nI i) 0 = k12 (nI t) (bI (b && alB (fun j => decide (A i j = A (i - 1) ((j + n - 1) % n))) n)) (nI n) (nI (i + 1)) := by
    intro k12 i b hi1 hi
    have := up0 (fun f j (a : Int32) => f_X4_isRound_21 K k12 f (nI t) a (nI n) (nI i) j) n (by rw [fu_val]; omega) (fun k => bI (b && alB (fun j => decide (A i j = A (i - 1) ((j + n - 1) % n))) k)) (k12 (nI t) (bI (b && alB (fun j => decide (A i j = A (i - 1) ((j + n - 1) % n))) n)) (nI n) (nI (i + 1))) ?_ ?_
    · simpa [alB, nI_0] using this
    · intro f
      show f_X4_isRound_21 K k12 (f + 1) (nI t) _ (nI n) (nI i) (nI n) = _
      rw [f_X4_isRound_21, if_pos (nI_le (Nat.le_refl _) (by omega)), nI_1]
    · intro f k hk
      show f_X4_isRound_21 K k12 (f + 1) (nI t) (bI _) (nI n) (nI i) (nI k) = f_X4_isRound_21 K k12 f (nI t) (bI _) (nI n) (nI i) (nI (k + 1))
      have hm : (k + n - 1) % n < n := Nat.mod_lt _ h0
      have e1 : nI k + nI n - 1 = nI (k + n - 1) := by rw [nI_add]; exact pk_sub (b := 1) (by omega)
      have e2 : nI i - 1 = nI (i - 1) := pk_sub (b := 1) hi1
      have e3 : nI (k + n - 1) - nI (k + n - 1) / nI n * nI n = nI ((k + n - 1) % n) := pk_rem (by omega) h0 (by omega)
      rw [f_X4_isRound_21, if_neg (nI_ge hk (by omega)), MT_get h hi hk, e1, e2, e3, MT_get h (show i - 1 < n by omega) hm, nI_1]
      simp only [alB]
      by_cases g : (b && alB (fun j => decide (A i j = A (i - 1) ((j + n - 1) % n))) k) = true
      · rw [if_neg (fun q => by rw [bI_0.mp q] at g; cases g), ← Bool.and_assoc, g, Bool.true_and]
        show (if nI n = 0 then _ else _) = _
        rw [if_neg (nI_ne0 h0 (by omega))]
        show (if sI _ = sI _ then _ else _) = _
        have b1 := tri_b hA (i - 1) ((k + n - 1) % n)
        by_cases g2 : A i k = A (i - 1) ((k + n - 1) % n)
        · rw [if_pos (by rw [g2]), decide_eq_true g2]
          rfl
        · rw [if_neg (fun q => g2 ((tri_eq hA i k b1.1 b1.2).mp q)), decide_eq_false g2]
          rfl
      · have g' : (b && alB (fun j => decide (A i j = A (i - 1) ((j + n - 1) % n))) k) = false := by simpa using g
        rw [if_pos (bI_0.mpr g'), ← Bool.and_assoc, g', Bool.false_and]
        rfl
  refine ⟨alB (fun i => alB (fun j => decide (A (i + 1) j = A i ((j + n - 1) % n))) n) (n - 1), ?_, ?_⟩
  · unfold f_X4_isRound
    rw [M_ix h, if_pos rfl, M_w h]
    refine upF (fun f i (a : Int32) => f_X4_isRound_12 K f (nI t) a (nI n) i) n 1 (by omega) (by rw [fu_val]; omega) (fun k => bI (alB (fun i => alB (fun j => decide (A (i + 1) j = A i ((j + n - 1) % n))) n) (k - 1))) _ ?_ ?_
    · intro f
      show f_X4_isRound_12 K (f + 1) (nI t) _ (nI n) (nI n) = _
      rw [f_X4_isRound_12, if_pos (nI_le (Nat.le_refl _) (by omega))]
    · intro f k hk1 hk
      show f_X4_isRound_12 K (f + 1) (nI t) _ (nI n) (nI k) = f_X4_isRound_12 K f (nI t) _ (nI n) (nI (k + 1))
      rw [f_X4_isRound_12, if_neg (nI_ge hk (by omega)), inner _ k _ hk1 hk]
      obtain ⟨m, rfl⟩ : ∃ m, k = m + 1 := ⟨k - 1, by omega⟩
      rfl
  · rw [alB_iff]
    constructor
    · intro hh i j hi hj
      exact of_decide_eq_true ((alB_iff _ _).mp (hh i (by omega)) j hj)
    · intro hh i hi
      exact (alB_iff _ _).mpr (fun j hj => decide_eq_true (hh i j (by omega) hj))
theorem M_isGraph (hA : tri A) (h : MT K t n A) : ∃ b, f_X4_isGraph (nI t) K = some (bI b) ∧ (b = true ↔ GR A n) := by
  have hn := h.2.1
  have inner : ∀ (k4 : Int32 → Int32 → Int32 → Option Int32) (i : Nat) (b : Bool), i < n → f_X4_isGraph_17 K k4 fu (nI t) (bI b) (nI i) 0 = k4 (nI t) (bI (b && alB (fun j => if i = j then decide (A i j = 0) else (decide (A i j ≠ 0) && decide (A i j = A j i))) n)) (nI (i + 1)) := by
    intro k4 i b hi
    have := up0 (fun f j (a : Int32) => f_X4_isGraph_17 K k4 f (nI t) a (nI i) j) n (by rw [fu_val]; omega) (fun k => bI (b && alB (fun j => if i = j then decide (A i j = 0) else (decide (A i j ≠ 0) && decide (A i j = A j i))) k)) (k4 (nI t) (bI (b && alB (fun j => if i = j then decide (A i j = 0) else (decide (A i j ≠ 0) && decide (A i j = A j i))) n)) (nI (i + 1))) ?_ ?_
    · simpa [alB, nI_0] using this
    · intro f
      show f_X4_isGraph_17 K k4 (f + 1) (nI t) _ (nI i) (nI n) = _
      rw [f_X4_isGraph_17, M_ix h, if_pos rfl, M_w h, if_pos (nI_le (Nat.le_refl _) (by omega)), nI_1]
    · intro f k hk
      show f_X4_isGraph_17 K k4 (f + 1) (nI t) (bI _) (nI i) (nI k) = f_X4_isGraph_17 K k4 f (nI t) (bI _) (nI i) (nI (k + 1))
      rw [f_X4_isGraph_17, M_ix h, if_pos rfl, M_w h, if_neg (nI_ge hk (by omega)), MT_get h hi hk, MT_get h hk hi, nI_1]
      simp only [alB]
      by_cases g : (b && alB (fun j => if i = j then decide (A i j = 0) else (decide (A i j ≠ 0) && decide (A i j = A j i))) k) = true
      · rw [if_neg (fun q => by rw [bI_0.mp q] at g; cases g), ← Bool.and_assoc, g, Bool.true_and]
        by_cases g2 : i = k
        · rw [if_pos (by rw [g2]), if_pos g2]
          show (if sI _ = 0 then _ else _) = _
          by_cases g3 : A i k = 0
          · rw [if_pos ((tri_0 hA i k).mpr g3), decide_eq_true g3]
            rfl
          · rw [if_neg (fun q => g3 ((tri_0 hA i k).mp q)), decide_eq_false g3]
            rfl
        · rw [if_neg (fun q => g2 ((nI_eq (by omega) (by omega)).mp q)), if_neg g2]
          show (if sI _ = 0 then _ else _) = _
          by_cases g3 : A i k = 0
          · rw [if_pos ((tri_0 hA i k).mpr g3), decide_eq_false (fun q => q g3)]
            rfl
          · rw [if_neg (fun q => g3 ((tri_0 hA i k).mp q)), decide_eq_true (p := A i k ≠ 0) g3, Bool.true_and]
            show (if sI _ = sI _ then _ else _) = _
            have b1 := tri_b hA k i
            by_cases g4 : A i k = A k i
            · rw [if_pos (by rw [g4]), decide_eq_true g4]
              rfl
            · rw [if_neg (fun q => g4 ((tri_eq hA i k b1.1 b1.2).mp q)), decide_eq_false g4]
              rfl
      · have g' : (b && alB (fun j => if i = j then decide (A i j = 0) else (decide (A i j ≠ 0) && decide (A i j = A j i))) k) = false := by simpa using g
        rw [if_pos (bI_0.mpr g'), ← Bool.and_assoc, g', Bool.false_and]
        rfl
  refine ⟨alB (fun i => alB (fun j => if i = j then decide (A i j = 0) else (decide (A i j ≠ 0) && decide (A i j = A j i))) n) n, ?_, ?_⟩
  · unfold f_X4_isGraph
    refine up0 (fun f i (a : Int32) => f_X4_isGraph_4 K f (nI t) a i) n (by rw [fu_val]; omega) (fun k => bI (alB (fun i => alB (fun j => if i = j then decide (A i j = 0) else (decide (A i j ≠ 0) && decide (A i j = A j i))) n) k)) _ ?_ ?_
    · intro f
      show f_X4_isGraph_4 K (f + 1) (nI t) _ (nI n) = _
      rw [f_X4_isGraph_4, M_ix h, if_pos rfl, M_w h, if_pos (nI_le (Nat.le_refl _) (by omega))]
    · intro f k hk
      show f_X4_isGraph_4 K (f + 1) (nI t) _ (nI k) = f_X4_isGraph_4 K f (nI t) _ (nI (k + 1))
      rw [f_X4_isGraph_4, M_ix h, if_pos rfl, M_w h, if_neg (nI_ge hk (by omega)), inner _ k _ hk]
      rfl
  · rw [alB_iff]
    constructor
    · intro hh i j hi hj
      have := (alB_iff _ _).mp (hh i hi) j hj
      by_cases g : i = j
      · rw [if_pos g] at this
        exact ⟨fun _ => of_decide_eq_true this, fun q => absurd g q⟩
      · rw [if_neg g, Bool.and_eq_true] at this
        exact ⟨fun q => absurd q g, fun _ => ⟨of_decide_eq_true this.1, of_decide_eq_true this.2⟩⟩
    · intro hh i hi
      refine (alB_iff _ _).mpr (fun j hj => ?_)
      by_cases g : i = j
      · rw [if_pos g]
        exact decide_eq_true ((hh i j hi hj).1 g)
      · rw [if_neg g, Bool.and_eq_true]
        exact ⟨decide_eq_true ((hh i j hi hj).2 g).1, decide_eq_true ((hh i j hi hj).2 g).2⟩
theorem M_neighbours (hA : tri A) (h : MT K t n A) {i : Nat} (hi : i < n) : f_X4_neighbours (nI t) (nI i) K = some (nI (nbN A n i)) := by
  have hn := h.2.1
  unfold f_X4_neighbours
  refine up0 (fun f j (a : Int32) => f_X4_neighbours_5 K f (nI t) (nI i) a j) n (by rw [fu_val]; omega) (fun m => nI (fb_ct (mn A i) m)) _ ?_ ?_
  · intro f
    show f_X4_neighbours_5 K (f + 1) (nI t) (nI i) _ (nI n) = _
    rw [f_X4_neighbours_5, M_ix h, if_pos rfl, M_w h, if_pos (nI_le (Nat.le_refl _) (by omega))]
    rfl
  · intro f m hm
    show f_X4_neighbours_5 K (f + 1) (nI t) (nI i) _ (nI m) = f_X4_neighbours_5 K f (nI t) (nI i) _ (nI (m + 1))
    rw [f_X4_neighbours_5, M_ix h, if_pos rfl, M_w h, if_neg (nI_ge hm (by omega)), MT_get h hi hm, nI_1, fb_ct_succ]
    show (if sI _ = -1 then _ else _) = _
    by_cases g : A i m = -1
    · rw [if_pos ((tri_m hA i m).mpr g), nI_1, if_pos (show mn A i m = true from decide_eq_true g)]
    · rw [if_neg (fun q => g ((tri_m hA i m).mp q)), if_neg (show ¬ mn A i m = true from fun q => g (of_decide_eq_true q)), show (0 : Int32) = nI 0 from rfl, nI_add, nI_1]
theorem M_inCommon (hA : tri A) (h : MT K t n A) {i k : Nat} (hi : i < n) (hk : k < n) : f_X4_inCommon (nI t) (nI i) (nI k) K = some (nI (icN A n i k)) := by
  have hn := h.2.1
  unfold f_X4_inCommon
  refine up0 (fun f j (a : Int32) => f_X4_inCommon_6 K f (nI t) (nI i) (nI k) a j) n (by rw [fu_val]; omega) (fun m => nI (fb_ct (fun j => mn A i j && mn A k j) m)) _ ?_ ?_
  · intro f
    show f_X4_inCommon_6 K (f + 1) (nI t) (nI i) (nI k) _ (nI n) = _
    rw [f_X4_inCommon_6, M_ix h, if_pos rfl, M_w h, if_pos (nI_le (Nat.le_refl _) (by omega))]
    rfl
  · intro f m hm
    show f_X4_inCommon_6 K (f + 1) (nI t) (nI i) (nI k) _ (nI m) = f_X4_inCommon_6 K f (nI t) (nI i) (nI k) _ (nI (m + 1))
    rw [f_X4_inCommon_6, M_ix h, if_pos rfl, M_w h, if_neg (nI_ge hm (by omega)), MT_get h hi hm, MT_get h hk hm, nI_1, fb_ct_succ]
    show (if sI _ = -1 then (if sI _ = -1 then _ else _) else _) = _
    have e0 : ∀ x : Nat, nI x + 0 = nI (x + 0) := fun x => nI_add x 0
    by_cases g : A i m = -1
    · rw [if_pos ((tri_m hA i m).mpr g)]
      by_cases g2 : A k m = -1
      · rw [if_pos ((tri_m hA k m).mpr g2), nI_1, if_pos (by simp [mn, g, g2])]
      · rw [if_neg (fun q => g2 ((tri_m hA k m).mp q)), if_neg (by simp [mn, g2]), e0, nI_1]
    · rw [if_neg (fun q => g ((tri_m hA i m).mp q)), if_neg (by simp [mn, g]), e0, nI_1]
end MK
