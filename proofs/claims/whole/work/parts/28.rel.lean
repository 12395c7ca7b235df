-- ===== loops with an invariant =====
theorem lp {σ R : Type} (F : Nat → Int32 → σ → Option R) (n i0 : Nat) (hi : i0 ≤ n) (hn : n - i0 < fu) (Inv : Nat → σ → Prop) (Post : Option R → Prop)
    (hex : ∀ f s, Inv n s → Post (F (f + 1) (nI n) s))
    (hst : ∀ f k s, i0 ≤ k → k < n → Inv k s → (∃ s', F (f + 1) (nI k) s = F f (nI (k + 1)) s' ∧ Inv (k + 1) s') ∨ Post (F (f + 1) (nI k) s))
    (s : σ) (h0 : Inv i0 s) : Post (F fu (nI i0) s) := by
  have key : ∀ (d k fuel : Nat) (s : σ), k + d = n → d < fuel → i0 ≤ k → Inv k s → Post (F fuel (nI k) s) := by
    intro d
    induction d with
    | zero =>
      intro k fuel s hk hf h0 hs
      obtain ⟨f, rfl⟩ : ∃ f, fuel = f + 1 := ⟨fuel - 1, by omega⟩
      have e : k = n := by omega
      subst e
      exact hex f s hs
    | succ d ih =>
      intro k fuel s hk hf h0 hs
      obtain ⟨f, rfl⟩ : ∃ f, fuel = f + 1 := ⟨fuel - 1, by omega⟩
      rcases hst f k s h0 (by omega) hs with ⟨s', e, hs'⟩ | h
      · rw [e]
        exact ih (k + 1) f s' (by omega) (by omega) (by omega) hs'
      · exact h
  exact key (n - i0) i0 fu s (by omega) hn (Nat.le_refl _) h0
-- ===== the relation of the class's memory and the model's =====
def RW (I K : zMi) (r : Nat) : Prop := (I (10 + 2 * r) 1 = -1 ∧ K 2 r = -9) ∨ ∃ n, n ≤ 24 ∧ I (10 + 2 * r) 1 = nI n ∧ K 2 r = nI n ∧ ∀ j, j < n → I (11 + 2 * r) j = K 3 (24 * r + j)
def TOK (I K : zMi) (t n : Nat) (A : Nat → Nat → Int) (k : Nat) : Prop := 0 < n ∧ tri A ∧ XT I t n A ∧ MT K t n A ∧ KD A n k ∧ I (22 + 3 * t) 3 = nI k ∧ K 7 t = nI k
def TB (I K : zMi) (t : Nat) : Prop := (I (22 + 3 * t) 2 = 0 ∧ K 5 t = 0) ∨ ∃ n A k, TOK I K t n A k
def RR : lRel := fun I J K M => I 0 8 = K 0 0 ∧ I 0 9 = K 0 2 ∧ (∀ f, f < 6 → I 9 f = K 1 f) ∧ (J 0 10 = M 0 3 ∧ J 0 11 = M 0 4 ∧ J 0 12 = M 0 5) ∧ (∀ r, r < 6 → RW I K r) ∧ (∀ t, t < 10 → TB I K t)
theorem RW_cong {I K I' K' : zMi} {r : Nat} (h1 : ∀ b, I' (10 + 2 * r) b = I (10 + 2 * r) b) (h2 : ∀ b, I' (11 + 2 * r) b = I (11 + 2 * r) b) (h3 : K' 2 r = K 2 r) (h4 : ∀ j, j < 24 → K' 3 (24 * r + j) = K 3 (24 * r + j)) (h : RW I K r) : RW I' K' r := by
  rcases h with ⟨a, b⟩ | ⟨n, hn, a, b, c⟩
  · exact Or.inl ⟨by rw [h1, a], by rw [h3, b]⟩
  · exact Or.inr ⟨n, hn, by rw [h1, a], by rw [h3, b], fun j hj => by rw [h2, h4 j (by omega), c j hj]⟩
theorem XT_cong {I I' : zMi} {T n : Nat} {A : Nat → Nat → Int} (h1 : I' (22 + 3 * T) 2 = I (22 + 3 * T) 2) (h2 : ∀ b, I' (23 + 3 * T) b = I (23 + 3 * T) b) (h3 : ∀ b, I' (24 + 3 * T) b = I (24 + 3 * T) b) (h : XT I T n A) : XT I' T n A := by
  obtain ⟨a, b, c, d⟩ := h
  exact ⟨a, b, by rw [h1, c], fun i hi => by rw [h2, h3]; exact d i hi⟩
theorem MT_cong {K K' : zMi} {t n : Nat} {A : Nat → Nat → Int} (h1 : K' 5 t = K 5 t) (h2 : ∀ q, q < 144 → K' 6 (144 * t + q) = K 6 (144 * t + q)) (h : MT K t n A) : MT K' t n A := by
  obtain ⟨a, b, c, d⟩ := h
  refine ⟨a, b, by rw [h1, c], fun i j hi hj => ?_⟩
  rw [Nat.add_assoc, h2 _ (by omega), ← Nat.add_assoc]
  exact d i j hi hj
theorem TB_cong {I K I' K' : zMi} {t : Nat} (h1 : ∀ b, I' (22 + 3 * t) b = I (22 + 3 * t) b) (h2 : ∀ b, I' (23 + 3 * t) b = I (23 + 3 * t) b) (h3 : ∀ b, I' (24 + 3 * t) b = I (24 + 3 * t) b) (h4 : K' 5 t = K 5 t) (h5 : K' 7 t = K 7 t) (h6 : ∀ q, q < 144 → K' 6 (144 * t + q) = K 6 (144 * t + q)) (h : TB I K t) : TB I' K' t := by
  rcases h with ⟨a, b⟩ | ⟨n, A, k, a, b, c, d, e, f, g⟩
  · exact Or.inl ⟨by rw [h1, a], by rw [h4, b]⟩
  · exact Or.inr ⟨n, A, k, a, b, XT_cong (h1 2) h2 h3 c, MT_cong h4 h6 d, e, by rw [h1, f], by rw [h5, g]⟩
/-- a step that writes scratch alone -/
theorem RR_scr {I K I' K' : zMi} {J J' M M' : zMl} (h : RR I J K M) (hI : ∀ a b, a < 52 → a ≠ 3 → a ≠ 7 → I' a b = I a b) (hK : ∀ a b, a < 8 → a ≠ 4 → K' a b = K a b) (hJ : J' 0 10 = M' 0 3 ∧ J' 0 11 = M' 0 4 ∧ J' 0 12 = M' 0 5) : RR I' J' K' M' := by
  obtain ⟨a, b, c, d, e, f⟩ := h
  refine ⟨?_, ?_, fun q hq => ?_, hJ, fun r hr => ?_, fun t ht => ?_⟩
  · rw [hI _ _ (by omega) (by omega) (by omega), hK _ _ (by omega) (by omega), a]
  · rw [hI _ _ (by omega) (by omega) (by omega), hK _ _ (by omega) (by omega), b]
  · rw [hI _ _ (by omega) (by omega) (by omega), hK _ _ (by omega) (by omega), c q hq]
  · exact RW_cong (fun b => hI _ _ (by omega) (by omega) (by omega)) (fun b => hI _ _ (by omega) (by omega) (by omega)) (hK _ _ (by omega) (by omega)) (fun j _ => hK _ _ (by omega) (by omega)) (e r hr)
  · exact TB_cong (fun b => hI _ _ (by omega) (by omega) (by omega)) (fun b => hI _ _ (by omega) (by omega) (by omega)) (fun b => hI _ _ (by omega) (by omega) (by omega)) (hK _ _ (by omega) (by omega)) (hK _ _ (by omega) (by omega)) (fun q _ => hK _ _ (by omega) (by omega)) (f t ht)
/-- a step that writes one table, and scratch -/
theorem RR_tab {I K I' K' : zMi} {J M : zMl} (h : RR I J K M) {t : Nat} (ht : t < 10) (hI : ∀ a b, a < 52 → a ≠ 3 → a ≠ 7 → a ≠ 22 + 3 * t → a ≠ 23 + 3 * t → a ≠ 24 + 3 * t → I' a b = I a b) (hK : ∀ a b, a < 8 → a ≠ 4 → (a = 5 → b ≠ t) → (a = 7 → b ≠ t) → (a = 6 → b < 144 * t ∨ 144 * t + 144 ≤ b) → K' a b = K a b) (hT : TB I' K' t) : RR I' J K' M := by
  obtain ⟨a, b, c, d, e, f⟩ := h
  refine ⟨?_, ?_, fun q hq => ?_, d, fun r hr => ?_, fun u hu => ?_⟩
  · rw [hI _ _ (by omega) (by omega) (by omega) (by omega) (by omega) (by omega), hK _ _ (by omega) (by omega) (by omega) (by omega) (by omega), a]
  · rw [hI _ _ (by omega) (by omega) (by omega) (by omega) (by omega) (by omega), hK _ _ (by omega) (by omega) (by omega) (by omega) (by omega), b]
  · rw [hI _ _ (by omega) (by omega) (by omega) (by omega) (by omega) (by omega), hK _ _ (by omega) (by omega) (by omega) (by omega) (by omega), c q hq]
  · exact RW_cong (fun b => hI _ _ (by omega) (by omega) (by omega) (by omega) (by omega) (by omega)) (fun b => hI _ _ (by omega) (by omega) (by omega) (by omega) (by omega) (by omega)) (hK _ _ (by omega) (by omega) (by omega) (by omega) (by omega)) (fun j _ => hK _ _ (by omega) (by omega) (by omega) (by omega) (by omega)) (e r hr)
  · by_cases g : u = t
    · subst g; exact hT
    · exact TB_cong (fun b => hI _ _ (by omega) (by omega) (by omega) (by omega) (by omega) (by omega)) (fun b => hI _ _ (by omega) (by omega) (by omega) (by omega) (by omega) (by omega)) (fun b => hI _ _ (by omega) (by omega) (by omega) (by omega) (by omega) (by omega)) (hK _ _ (by omega) (by omega) (by omega) (by omega) (by omega)) (hK _ _ (by omega) (by omega) (by omega) (by omega) (by omega)) (fun q _ => hK _ _ (by omega) (by omega) (by omega) (by omega) (by omega)) (f u hu)
/-- a step that writes one row, and scratch -/
theorem RR_row {I K I' K' : zMi} {J M : zMl} (h : RR I J K M) {r : Nat} (hr : r < 6) (hI : ∀ a b, a ≠ 10 + 2 * r → a ≠ 11 + 2 * r → I' a b = I a b) (hK : ∀ a b, a ≠ 4 → (a = 2 → b ≠ r) → (a = 3 → b < 24 * r ∨ 24 * r + 24 ≤ b) → K' a b = K a b) (hT : RW I' K' r) : RR I' J K' M := by
  obtain ⟨a, b, c, d, e, f⟩ := h
  refine ⟨?_, ?_, fun q hq => ?_, d, fun u hu => ?_, fun t ht => ?_⟩
  · rw [hI _ _ (by omega) (by omega), hK _ _ (by omega) (by omega) (by omega), a]
  · rw [hI _ _ (by omega) (by omega), hK _ _ (by omega) (by omega) (by omega), b]
  · rw [hI _ _ (by omega) (by omega), hK _ _ (by omega) (by omega) (by omega), c q hq]
  · by_cases g : u = r
    · subst g; exact hT
    · exact RW_cong (fun b => hI _ _ (by omega) (by omega)) (fun b => hI _ _ (by omega) (by omega)) (hK _ _ (by omega) (by omega) (by omega)) (fun j _ => hK _ _ (by omega) (by omega) (by omega)) (e u hu)
  · exact TB_cong (fun b => hI _ _ (by omega) (by omega)) (fun b => hI _ _ (by omega) (by omega)) (fun b => hI _ _ (by omega) (by omega)) (hK _ _ (by omega) (by omega) (by omega)) (hK _ _ (by omega) (by omega) (by omega)) (fun q _ => hK _ _ (by omega) (by omega) (by omega)) (f t ht)
theorem wI_off {I : zMi} {k j a b : Nat} {v : Int32} (h : a = k → b ≠ j) : wI I k j v a b = I a b := by
  simp only [wI]
  rw [if_neg (fun q => h q.1 q.2)]
theorem wI_here {I : zMi} {k j a b : Nat} {v : Int32} (h1 : a = k) (h2 : b = j) : wI I k j v a b = v := by
  simp only [wI]
  rw [if_pos ⟨h1, h2⟩]
theorem wJ_off {J : zMl} {k j a b : Nat} {v : Int64} (h : a = k → b ≠ j) : wJ J k j v a b = J a b := by
  simp only [wJ]
  rw [if_neg (fun q => h q.1 q.2)]
theorem wJ_here {J : zMl} {k j a b : Nat} {v : Int64} (h1 : a = k) (h2 : b = j) : wJ J k j v a b = v := by
  simp only [wJ]
  rw [if_pos ⟨h1, h2⟩]
theorem RR_ask {I K : zMi} {J M : zMl} (h : RR I J K M) (v : Int32) : RR (wI I 0 9 v) J (wI K 0 2 v) M := by
  obtain ⟨a, b, c, d, e, f⟩ := h
  refine ⟨?_, ?_, fun q hq => ?_, d, fun r hr => ?_, fun t ht => ?_⟩
  · rw [wI_off (by omega), wI_off (by omega), a]
  · rw [wI_here rfl rfl, wI_here rfl rfl]
  · rw [wI_off (by omega), wI_off (by omega), c q hq]
  · exact RW_cong (fun b => wI_off (by omega)) (fun b => wI_off (by omega)) (wI_off (by omega)) (fun j _ => wI_off (by omega)) (e r hr)
  · exact TB_cong (fun b => wI_off (by omega)) (fun b => wI_off (by omega)) (fun b => wI_off (by omega)) (wI_off (by omega)) (wI_off (by omega)) (fun q _ => wI_off (by omega)) (f t ht)
theorem RR_found {I K : zMi} {J M : zMl} (h : RR I J K M) (f : Int32) (hf : f = 1 ∨ f = 2 ∨ f = 3 ∨ f = 4 ∨ f = 5) : ∃ I' K', f_X3_found f I = some (-3, I') ∧ f_X4_meets f K = some (-3, K') ∧ RR I' J K' M := by
  obtain ⟨q, hq1, hq5, rfl⟩ : ∃ q : Nat, 1 ≤ q ∧ q ≤ 5 ∧ f = nI q := by
    rcases hf with rfl | rfl | rfl | rfl | rfl
    · exact ⟨1, by omega, by omega, rfl⟩
    · exact ⟨2, by omega, by omega, rfl⟩
    · exact ⟨3, by omega, by omega, rfl⟩
    · exact ⟨4, by omega, by omega, rfl⟩
    · exact ⟨5, by omega, by omega, rfl⟩
  unfold f_X3_found f_X4_meets
  rw [ix_nI (by omega) (by omega), if_pos rfl, if_pos rfl, nI_clamp (by omega)]
  refine ⟨_, _, rfl, rfl, ?_⟩
  obtain ⟨a, b, c, d, e, g⟩ := h
  refine ⟨?_, ?_, fun u hu => ?_, d, fun r hr => ?_, fun t ht => ?_⟩
  · rw [wI_off (by omega), wI_here rfl rfl, wI_off (by omega), wI_here rfl rfl]
  · rw [wI_off (by omega), wI_off (by omega), wI_off (by omega), wI_off (by omega), b]
  · by_cases g : u = q
    · rw [wI_here rfl g, wI_here rfl g, wI_off (by omega), wI_off (by omega), c q (by omega)]
    · rw [wI_off (by omega), wI_off (by omega), wI_off (by omega), wI_off (by omega), c u hu]
  · exact RW_cong (fun b => by rw [wI_off (by omega), wI_off (by omega)]) (fun b => by rw [wI_off (by omega), wI_off (by omega)]) (by rw [wI_off (by omega), wI_off (by omega)]) (fun j _ => by rw [wI_off (by omega), wI_off (by omega)]) (e r hr)
  · exact TB_cong (fun b => by rw [wI_off (by omega), wI_off (by omega)]) (fun b => by rw [wI_off (by omega), wI_off (by omega)]) (fun b => by rw [wI_off (by omega), wI_off (by omega)]) (by rw [wI_off (by omega), wI_off (by omega)]) (by rw [wI_off (by omega), wI_off (by omega)]) (fun j _ => by rw [wI_off (by omega), wI_off (by omega)]) (g t ht)
-- ===== the numbers of rows and tables =====
theorem nI_ofRange {a : Int32} {N : Nat} (hN : N < 2 ^ 31) (h1 : ¬ a < 0) (h2 : a < nI N) : ∃ t, t < N ∧ a = nI t := by
  rcases pk_ix a hN with h | h | h
  · exact absurd h h1
  · exact absurd h2 (fun q => by
      have := (fa_le _ _).mp h
      have := (fa_lt _ _).mp q
      omega)
  · exact h
theorem tn_cases (a : Int32) : (f_X3_isTableNumber a = 0 ∧ f_X4_isTable a = 0) ∨ ∃ t, t < 10 ∧ a = nI t ∧ f_X3_isTableNumber (nI t) = 1 ∧ f_X4_isTable (nI t) = 1 ∧ ix (nI t) 10 = true ∧ (nI t).toNatClampNeg = t := by
  rcases pk_ix a (show 10 < 2 ^ 31 by omega) with h | h | ⟨t, ht, rfl⟩
  · left
    simp only [f_X3_isTableNumber, f_X4_isTable, f_X4_in, if_pos h, and_self]
  · left
    have h0 : ¬ a < 0 := by rw [fa_lt]; rw [fa_le, nI_toInt (by omega)] at h; show ¬ a.toInt < 0; omega
    have h9 : (9 : Int32) < a := by rw [fa_lt]; rw [fa_le, nI_toInt (by omega)] at h; show (9 : Int) < a.toInt; omega
    simp only [f_X3_isTableNumber, f_X4_isTable, f_X4_in, if_neg h0, if_pos h9, and_true]
    exact if_pos h
  · right
    have h0 : ¬ nI t < 0 := nI_pos (by omega)
    have h10 : ¬ (10 : Int32) ≤ nI t := nI_ge (b := 10) ht (by omega)
    have h9 : ¬ (9 : Int32) < nI t := nI_nlt (b := t) (a := 9) (by omega) (by omega)
    refine ⟨t, ht, rfl, ?_, ?_, ix_nI ht (by omega), nI_clamp (by omega)⟩
    · simp only [f_X3_isTableNumber, if_neg h0, if_neg h10]
    · simp only [f_X4_isTable, f_X4_in, if_neg h0, if_neg h9]
theorem rn_cases (a : Int32) : (f_X3_isRowNumber a = 0 ∧ f_X4_isRow a = 0) ∨ ∃ t, t < 6 ∧ a = nI t ∧ f_X3_isRowNumber (nI t) = 1 ∧ f_X4_isRow (nI t) = 1 ∧ ix (nI t) 6 = true ∧ (nI t).toNatClampNeg = t := by
  rcases pk_ix a (show 6 < 2 ^ 31 by omega) with h | h | ⟨t, ht, rfl⟩
  · left
    simp only [f_X3_isRowNumber, f_X4_isRow, f_X4_in, if_pos h, and_self]
  · left
    have h0 : ¬ a < 0 := by rw [fa_lt]; rw [fa_le, nI_toInt (by omega)] at h; show ¬ a.toInt < 0; omega
    have h9 : (5 : Int32) < a := by rw [fa_lt]; rw [fa_le, nI_toInt (by omega)] at h; show (5 : Int) < a.toInt; omega
    simp only [f_X3_isRowNumber, f_X4_isRow, f_X4_in, if_neg h0, if_pos h9, and_true]
    exact if_pos h
  · right
    have h0 : ¬ nI t < 0 := nI_pos (by omega)
    have h10 : ¬ (6 : Int32) ≤ nI t := nI_ge (b := 6) ht (by omega)
    have h9 : ¬ (5 : Int32) < nI t := nI_nlt (b := t) (a := 5) (by omega) (by omega)
    refine ⟨t, ht, rfl, ?_, ?_, ix_nI ht (by omega), nI_clamp (by omega)⟩
    · simp only [f_X3_isRowNumber, if_neg h0, if_neg h10]
    · simp only [f_X4_isRow, f_X4_in, if_neg h0, if_neg h9]
theorem v10 : ¬ (1 : Int32) = 0 := by decide
theorem v0m3 : ¬ (0 : Int32) ≤ -3 := by decide
theorem v0m1 : ¬ (0 : Int32) ≤ -1 := by decide
theorem v00 : (0 : Int32) ≤ 0 := by decide
theorem vm3 : (-3 : Int32) < 0 := by decide
theorem vm1 : (-1 : Int32) < 0 := by decide
theorem v0n : ¬ (0 : Int32) < 0 := by decide
/-- one table that a call names: no number, missing, or there -/
theorem T_cases {I K : zMi} {J M : zMl} (h : RR I J K M) (a : Int32) :
    (f_X3_isTableNumber a = 0 ∧ f_X4_isTable a = 0 ∧ f_X4_askedTable a K = some (-1, K))
    ∨ (∃ t, t < 10 ∧ a = nI t ∧ f_X3_isTableNumber (nI t) = 1 ∧ f_X4_isTable (nI t) = 1 ∧ ix (nI t) 10 = true ∧ (nI t).toNatClampNeg = t ∧ f_X2_isMissing t I = 1 ∧ K 5 t = 0 ∧ f_X4_askedTable (nI t) K = (f_X4_meets 1 K).bind (fun x4 => some (x4.1, x4.2)))
    ∨ (∃ t n A k, t < 10 ∧ a = nI t ∧ f_X3_isTableNumber (nI t) = 1 ∧ f_X4_isTable (nI t) = 1 ∧ ix (nI t) 10 = true ∧ (nI t).toNatClampNeg = t ∧ f_X2_isMissing t I = 0 ∧ ¬ K 5 t = 0 ∧ f_X4_askedTable (nI t) K = some (0, K) ∧ TOK I K t n A k) := by
  rcases tn_cases a with ⟨e1, e2⟩ | ⟨t, ht, rfl, e1, e2, e3, e4⟩
  · left
    refine ⟨e1, e2, ?_⟩
    simp only [f_X4_askedTable, e2, if_true]
  · right
    rcases h.2.2.2.2.2 t ht with ⟨a1, a2⟩ | ⟨n, A, k, hk⟩
    · left
      refine ⟨t, ht, rfl, e1, e2, e3, e4, ?_, a2, ?_⟩
      · simp only [f_X2_isMissing, a1, if_true]
      · simp only [f_X4_askedTable, e2, e3, e4, a2, if_neg v10, if_true]
    · right
      have hn := hk.1
      have hn2 := hk.2.2.1.2.1
      have x1 : I (22 + 3 * t) 2 = nI n := hk.2.2.1.2.2.1
      have x2 : K 5 t = nI n := hk.2.2.2.1.2.2.1
      have x3 : ¬ nI n = 0 := nI_ne0 hn (by omega)
      refine ⟨t, n, A, k, ht, rfl, e1, e2, e3, e4, ?_, by rw [x2]; exact x3, ?_, hk⟩
      · simp only [f_X2_isMissing, x1, if_neg x3]
      · simp only [f_X4_askedTable, e2, e3, e4, x2, if_neg v10, if_neg x3, if_true]
/-- one row that a call names -/
theorem R_cases {I K : zMi} {J M : zMl} (h : RR I J K M) (a : Int32) :
    (f_X3_isRowNumber a = 0 ∧ f_X4_isRow a = 0 ∧ f_X4_askedRow a K = some (-1, K))
    ∨ (∃ t, t < 6 ∧ a = nI t ∧ f_X3_isRowNumber (nI t) = 1 ∧ f_X4_isRow (nI t) = 1 ∧ ix (nI t) 6 = true ∧ (nI t).toNatClampNeg = t ∧ f_X1_isMissing t I = 1 ∧ K 2 t < 0 ∧ f_X4_askedRow (nI t) K = (f_X4_meets 1 K).bind (fun x4 => some (x4.1, x4.2)))
    ∨ (∃ t n, t < 6 ∧ a = nI t ∧ f_X3_isRowNumber (nI t) = 1 ∧ f_X4_isRow (nI t) = 1 ∧ ix (nI t) 6 = true ∧ (nI t).toNatClampNeg = t ∧ f_X1_isMissing t I = 0 ∧ ¬ K 2 t < 0 ∧ f_X4_askedRow (nI t) K = some (0, K) ∧ n ≤ 24 ∧ I (10 + 2 * t) 1 = nI n ∧ K 2 t = nI n ∧ ∀ j, j < n → I (11 + 2 * t) j = K 3 (24 * t + j)) := by
  rcases rn_cases a with ⟨e1, e2⟩ | ⟨t, ht, rfl, e1, e2, e3, e4⟩
  · left
    refine ⟨e1, e2, ?_⟩
    simp only [f_X4_askedRow, e2, if_true]
  · right
    rcases h.2.2.2.2.1 t ht with ⟨a1, a2⟩ | ⟨n, hn, x1, x2, x3⟩
    · left
      refine ⟨t, ht, rfl, e1, e2, e3, e4, ?_, by rw [a2]; decide, ?_⟩
      · simp only [f_X1_isMissing, a1, if_neg v0m1]
      · simp only [f_X4_askedRow, e2, e3, e4, a2, if_neg v10, if_neg (show ¬ (0 : Int32) ≤ -9 by decide), if_true]
    · right
      have p1 : (0 : Int32) ≤ nI n := nI_pos' (by omega)
      refine ⟨t, n, ht, rfl, e1, e2, e3, e4, ?_, by rw [x2]; exact nI_pos (by omega), ?_, hn, x1, x2, x3⟩
      · simp only [f_X1_isMissing, x1, if_pos p1]
      · simp only [f_X4_askedRow, e2, e3, e4, x2, if_neg v10, if_pos p1, if_true]
