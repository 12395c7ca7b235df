-- ===== tables written =====
def up2 (A : Nat → Nat → Int) (i j : Nat) (z : Int) : Nat → Nat → Int := fun a b => if a = i ∧ b = j then z else A a b
theorem tri_up {A : Nat → Nat → Int} (hA : tri A) {i j : Nat} {z : Int} (hz : z = 1 ∨ z = 0 ∨ z = -1) : tri (up2 A i j z) := by
  intro a b
  unfold up2
  split
  · exact hz
  · exact hA a b
theorem XT_congA {I : zMi} {T n : Nat} {A B : Nat → Nat → Int} (h : XT I T n A) (e : ∀ i j, i < n → j < n → A i j = B i j) : XT I T n B := by
  obtain ⟨a, b, c, d⟩ := h
  refine ⟨a, b, c, fun i hi => ?_⟩
  rw [(d i hi).1, (d i hi).2]
  exact ⟨congrArg nI (bs_cong (fun j hj => by simp only [pl, e i j hi hj])), congrArg nI (bs_cong (fun j hj => by simp only [mn, e i j hi hj]))⟩
theorem MT_congA {K : zMi} {t n : Nat} {A B : Nat → Nat → Int} (h : MT K t n A) (e : ∀ i j, i < n → j < n → A i j = B i j) : MT K t n B := by
  obtain ⟨a, b, c, d⟩ := h
  exact ⟨a, b, c, fun i j hi hj => by rw [d i j hi hj, e i j hi hj]⟩
theorem X_write {I : zMi} {T n : Nat} {A : Nat → Nat → Int} (h : XT I T n A) {i j : Nat} (hi : i < n) (hj : j < n) {z : Int} (hz : z = 1 ∨ z = 0 ∨ z = -1) : ∃ I', f_X2_write T (nI i) (nI j) (sI z) I = some I' ∧ XT I' T n (up2 A i j z) ∧ ∀ a b, a ≠ 23 + 3 * T → a ≠ 24 + 3 * T → I' a b = I a b := by
  obtain ⟨h1, h2, h3, h4⟩ := h
  have hp : ∀ (P : Nat → Bool), nI (bs P n) ||| nI (2 ^ j) = nI (bs (fun b => P b || decide (b = j)) n) := fun P => by rw [fa_or, bs_set hj]
  have hc : ∀ (P : Nat → Bool), nI (bs P n) &&& (nI (2 ^ j) ^^^ (-1)) = nI (bs (fun b => P b && !decide (b = j)) n) := fun P => by rw [xor_m1, fa_and, bs_clear (by omega) hj]
  have fin : ∀ (x y : Int32), x = nI (bs (pl (up2 A i j z) i) n) → y = nI (bs (mn (up2 A i j z) i) n) → XT (wI (wI I (23 + 3 * T) i x) (24 + 3 * T) i y) T n (up2 A i j z) ∧ ∀ a b, a ≠ 23 + 3 * T → a ≠ 24 + 3 * T → (wI (wI I (23 + 3 * T) i x) (24 + 3 * T) i y) a b = I a b := by
    intro x y hx hy
    refine ⟨⟨h1, h2, ?_, fun q hq => ?_⟩, fun a b ha hb => ?_⟩
    · rw [wI_off (by omega), wI_off (by omega), h3]
    · by_cases g : q = i
      · subst g
        rw [wI_off (by omega), wI_here rfl rfl, wI_here rfl rfl]
        exact ⟨hx, hy⟩
      · rw [wI_off (by omega), wI_off (by omega), wI_off (by omega), wI_off (by omega), (h4 q hq).1, (h4 q hq).2]
        have e : ∀ b, up2 A i j z q b = A q b := fun b => by unfold up2; rw [if_neg (fun w => g w.1)]
        exact ⟨congrArg nI (bs_cong (fun b _ => by simp only [pl, e])), congrArg nI (bs_cong (fun b _ => by simp only [mn, e]))⟩
    · rw [wI_off (by omega), wI_off (by omega)]
  have u : ∀ b, up2 A i j z i b = if b = j then z else A i b := fun b => by unfold up2; simp
  unfold f_X2_write f_X2_write_37
  rw [one_shl (by omega), ix_nI (by omega) (by omega), nI_clamp (by omega), (h4 i hi).1]
  rcases hz with rfl | rfl | rfl
  · rw [if_neg (show ¬ sI 1 ≤ 0 by decide), if_pos rfl, if_pos rfl, if_pos (show (0 : Int32) ≤ sI 1 by decide), if_pos rfl, hp, wI_off (by omega), (h4 i hi).2, hc]
    refine ⟨_, rfl, fin _ _ (congrArg nI (bs_cong (fun b _ => ?_))) (congrArg nI (bs_cong (fun b _ => ?_)))⟩
    · simp only [pl, u]
      by_cases g : b = j <;> simp [g]
    · simp only [mn, u]
      by_cases g : b = j <;> simp [g]
  · rw [if_pos (show sI 0 ≤ 0 by decide), if_pos rfl, if_pos rfl, if_pos (show (0 : Int32) ≤ sI 0 by decide), if_pos rfl, hc, wI_off (by omega), (h4 i hi).2, hc]
    refine ⟨_, rfl, fin _ _ (congrArg nI (bs_cong (fun b _ => ?_))) (congrArg nI (bs_cong (fun b _ => ?_)))⟩
    · simp only [pl, u]
      by_cases g : b = j <;> simp [g]
    · simp only [mn, u]
      by_cases g : b = j <;> simp [g]
  · rw [if_pos (show sI (-1) ≤ 0 by decide), if_pos rfl, if_pos rfl, if_neg (show ¬ (0 : Int32) ≤ sI (-1) by decide), if_pos rfl, hc, wI_off (by omega), (h4 i hi).2, hp]
    refine ⟨_, rfl, fin _ _ (congrArg nI (bs_cong (fun b _ => ?_))) (congrArg nI (bs_cong (fun b _ => ?_)))⟩
    · simp only [pl, u]
      by_cases g : b = j <;> simp [g]
    · simp only [mn, u]
      by_cases g : b = j <;> simp [g]
theorem X_begin {T n : Nat} (hT : T < 12) (hn : n ≤ 12) (I : zMi) : ∃ I', f_X2_begin T (nI n) I = some I' ∧ XT I' T n (fun _ _ => 1) ∧ ∀ a b, a ≠ 22 + 3 * T → a ≠ 23 + 3 * T → a ≠ 24 + 3 * T → I' a b = I a b := by
  unfold f_X2_begin
  have e1 : nI (2 ^ n - 1) = nI (bs (pl (fun _ _ => 1) 0) n) := by
    rw [← bs_true]
    exact congrArg nI (bs_cong (fun j _ => by simp [pl]))
  have e2 : (0 : Int32) = nI (bs (mn (fun _ _ => 1) 0) n) := by
    rw [show bs (mn (fun _ _ => 1) 0) n = bs (fun _ => false) n from bs_cong (fun j _ => by simp [mn]), bs_false]
    rfl
  refine lp (fun f i I => f_X2_begin_7 f T i I) n 0 (by omega) (by rw [fu_val]; omega) (fun k I' => I' (22 + 3 * T) 2 = nI n ∧ (∀ i, i < k → I' (23 + 3 * T) i = nI (bs (pl (fun _ _ => 1) 0) n) ∧ I' (24 + 3 * T) i = nI (bs (mn (fun _ _ => 1) 0) n)) ∧ ∀ a b, a ≠ 22 + 3 * T → a ≠ 23 + 3 * T → a ≠ 24 + 3 * T → I' a b = I a b) (fun res => ∃ I', res = some I' ∧ XT I' T n (fun _ _ => 1) ∧ ∀ a b, a ≠ 22 + 3 * T → a ≠ 23 + 3 * T → a ≠ 24 + 3 * T → I' a b = I a b) ?_ ?_ _ ?_
  · intro f s ⟨h1, h2, h3⟩
    refine ⟨s, ?_, ⟨hT, hn, h1, fun i hi => h2 i hi⟩, h3⟩
    show f_X2_begin_7 (f + 1) T (nI n) s = _
    rw [f_X2_begin_7, h1, if_pos (nI_le (Nat.le_refl _) (by omega))]
  · intro f k s _ hk ⟨h1, h2, h3⟩
    left
    refine ⟨wI (wI s (23 + 3 * T) k (nI (2 ^ n - 1))) (24 + 3 * T) k 0, ?_, ?_, ?_, ?_⟩
    · show f_X2_begin_7 (f + 1) T (nI k) s = f_X2_begin_7 f T (nI (k + 1)) _
      rw [f_X2_begin_7, h1, if_neg (nI_ge hk (by omega)), ix_nI (by omega) (by omega), if_pos rfl, nI_clamp (by omega), nI_1, allBits_nI (by omega)]
    · rw [wI_off (by omega), wI_off (by omega), h1]
    · intro i hi
      by_cases g : i = k
      · subst g
        rw [wI_off (by omega), wI_here rfl rfl, wI_here rfl rfl]
        exact ⟨e1, e2⟩
      · rw [wI_off (by omega), wI_off (by omega), wI_off (by omega), wI_off (by omega)]
        exact h2 i (by omega)
    · intro a b ha hb hc
      rw [wI_off (by omega), wI_off (by omega), h3 a b ha hb hc]
  · exact ⟨wI_here rfl rfl, fun i hi => by omega, fun a b ha _ _ => wI_off (by omega)⟩
theorem X_take {I : zMi} {T U n : Nat} {A : Nat → Nat → Int} (hT : T < 12) (hTU : T ≠ U) (h : XT I U n A) : ∃ I', f_X2_take T U I = some I' ∧ XT I' T n A ∧ ∀ a b, a ≠ 22 + 3 * T → a ≠ 23 + 3 * T → a ≠ 24 + 3 * T → I' a b = I a b := by
  obtain ⟨g1, hn, g3, g4⟩ := h
  unfold f_X2_take
  rw [g3]
  refine lp (fun f i I => f_X2_take_10 f T U i I) n 0 (by omega) (by rw [fu_val]; omega) (fun k I' => I' (22 + 3 * T) 2 = nI n ∧ (∀ i, i < k → I' (23 + 3 * T) i = nI (bs (pl A i) n) ∧ I' (24 + 3 * T) i = nI (bs (mn A i) n)) ∧ ∀ a b, a ≠ 22 + 3 * T → a ≠ 23 + 3 * T → a ≠ 24 + 3 * T → I' a b = I a b) (fun res => ∃ I', res = some I' ∧ XT I' T n A ∧ ∀ a b, a ≠ 22 + 3 * T → a ≠ 23 + 3 * T → a ≠ 24 + 3 * T → I' a b = I a b) ?_ ?_ _ ?_
  · intro f s ⟨h1, h2, h3⟩
    refine ⟨s, ?_, ⟨hT, hn, h1, fun i hi => h2 i hi⟩, h3⟩
    show f_X2_take_10 (f + 1) T U (nI n) s = _
    rw [f_X2_take_10, h1, if_pos (nI_le (Nat.le_refl _) (by omega))]
  · intro f k s _ hk ⟨h1, h2, h3⟩
    left
    refine ⟨wI (wI s (23 + 3 * T) k (s (23 + 3 * U) k)) (24 + 3 * T) k (s (24 + 3 * U) k), ?_, ?_, ?_, ?_⟩
    · show f_X2_take_10 (f + 1) T U (nI k) s = f_X2_take_10 f T U (nI (k + 1)) _
      rw [f_X2_take_10, h1, if_neg (nI_ge hk (by omega)), ix_nI (by omega) (by omega), if_pos rfl, nI_clamp (by omega), nI_1, wI_off (a := 24 + 3 * U) (by omega)]
    · rw [wI_off (by omega), wI_off (by omega), h1]
    · intro i hi
      by_cases g : i = k
      · subst g
        rw [wI_off (by omega), wI_here rfl rfl, wI_here rfl rfl, h3 _ _ (by omega) (by omega) (by omega), h3 _ _ (by omega) (by omega) (by omega)]
        exact g4 i hk
      · rw [wI_off (by omega), wI_off (by omega), wI_off (by omega), wI_off (by omega)]
        exact h2 i (by omega)
    · intro a b ha hb hc
      rw [wI_off (by omega), wI_off (by omega), h3 a b ha hb hc]
  · exact ⟨wI_here rfl rfl, fun i hi => by omega, fun a b ha _ _ => wI_off (by omega)⟩
theorem M_let {K : zMi} {t n : Nat} {A : Nat → Nat → Int} (h : MT K t n A) {i j : Nat} (hi : i < n) (hj : j < n) (z : Int) : f_X4_let (nI t) (nI i) (nI j) (sI z) K = some (wI K 6 (144 * t + 12 * i + j) (sI z)) ∧ MT (wI K 6 (144 * t + 12 * i + j) (sI z)) t n (up2 A i j z) := by
  obtain ⟨h1, h2, h3, h4⟩ := h
  have e : 144 * nI t + 12 * nI i + nI j = nI (144 * t + 12 * i + j) := by
    rw [show (144 : Int32) = nI 144 from rfl, show (12 : Int32) = nI 12 from rfl, pk_mul, pk_mul, nI_add, nI_add]
  refine ⟨?_, h1, h2, ?_, fun a b ha hb => ?_⟩
  · unfold f_X4_let
    rw [e, ix_nI (by omega) (by omega), if_pos rfl, nI_clamp (by omega)]
  · rw [wI_off (by omega), h3]
  · unfold up2
    by_cases g : a = i ∧ b = j
    · rw [if_pos g, wI_here rfl (by rw [g.1, g.2])]
    · rw [if_neg g, wI_off (by omega), h4 a b ha hb]
/-- the first places, row by row, are told anew -/
def fil (G A : Nat → Nat → Int) (i k : Nat) : Nat → Nat → Int := fun a b => if a < i ∨ (a = i ∧ b < k) then G a b else A a b
theorem fil_step (G A : Nat → Nat → Int) (i k : Nat) : up2 (fil G A i k) i k (G i k) = fil G A i (k + 1) := by
  funext a b
  unfold up2 fil
  by_cases g : a = i ∧ b = k
  · rw [if_pos g, if_pos (by omega), g.1, g.2]
  · rw [if_neg g]
    by_cases g2 : a < i ∨ (a = i ∧ b < k)
    · rw [if_pos g2, if_pos (by omega)]
    · rw [if_neg g2, if_neg (by omega)]
theorem fil_next {G A : Nat → Nat → Int} {i n : Nat} : ∀ a b, a < n → b < n → fil G A i n a b = fil G A (i + 1) 0 a b := by
  intro a b _ hb
  unfold fil
  by_cases g : a < i ∨ (a = i ∧ b < n)
  · rw [if_pos g, if_pos (by omega)]
  · rw [if_neg g, if_neg (by omega)]
theorem fil_0 (G A : Nat → Nat → Int) : fil G A 0 0 = A := by
  funext a b
  unfold fil
  rw [if_neg (by omega)]
theorem fil_all {G A : Nat → Nat → Int} {n : Nat} : ∀ a b, a < n → b < n → fil G A n 0 a b = G a b := by
  intro a b ha _
  unfold fil
  rw [if_pos (by omega)]
/-- a table that is written anew on both sides gets one KIND -/
theorem fin_tab {I K I' K' : zMi} {J M : zMl} (h : RR I J K M) {t n : Nat} {A : Nat → Nat → Int} (ht : t < 10) (h0 : 0 < n) (hA : tri A) (hX : XT I' t n A) (hM : MT K' t n A) (fI : ∀ a b, a < 52 → a ≠ 3 → a ≠ 7 → a ≠ 22 + 3 * t → a ≠ 23 + 3 * t → a ≠ 24 + 3 * t → I' a b = I a b) (fK : ∀ a b, a < 8 → a ≠ 4 → (a = 5 → b ≠ t) → (a = 7 → b ≠ t) → (a = 6 → b < 144 * t ∨ 144 * t + 144 ≤ b) → K' a b = K a b) : ∃ k I'' K'', f_X2_judged t I' = some (k, I'') ∧ f_X4_setKind (nI t) K' = some (k, K'') ∧ RR I'' J K'' M := by
  obtain ⟨k, e1, d1⟩ := X_judged hA hX h0
  obtain ⟨k', e2, d2⟩ := M_setKind hA hM h0
  have := KD_one d1 d2
  subst this
  refine ⟨nI k, _, _, e1, e2, RR_tab h ht (fun a b h1 h2 h3 h4 h5 h6 => ?_) (fun a b h1 h2 h3 h4 h5 => ?_) (Or.inr ⟨n, A, k, h0, hA, ?_, ?_, d1, wI_here rfl rfl, wI_here rfl rfl⟩)⟩
  · rw [wI_off (by omega), fI a b h1 h2 h3 h4 h5 h6]
  · rw [wI_off (by omega), fK a b h1 h2 h3 h4 h5]
  · exact XT_cong (wI_off (by omega)) (fun b => wI_off (by omega)) (fun b => wI_off (by omega)) hX
  · exact MT_cong (wI_off (by omega)) (fun q _ => wI_off (by omega)) hM
