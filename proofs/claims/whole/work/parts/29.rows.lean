-- ===== rows: begin =====
theorem sgn_bit {x k : Nat} (hx : x < 2 ^ 31) (hk : k < 32) : (1 : Int32) - (2 * ((nI x >>> (nI k &&& 31)) &&& 1)) = sI (if x.testBit k then -1 else 1) := by
  rw [bit_nI hx hk]
  cases x.testBit k <;> decide
theorem X_beginSigns {r n x : Nat} (hr : r < 6) (hn : n ≤ 24) (hx : x < 2 ^ 31) (I : zMi) : ∃ I', f_X1_beginSigns r (nI n) (nI x) I = some I' ∧ I' (10 + 2 * r) 1 = nI n ∧ (∀ j, j < n → I' (11 + 2 * r) j = sI (if x.testBit j then -1 else 1)) ∧ ∀ a b, a ≠ 10 + 2 * r → a ≠ 11 + 2 * r → I' a b = I a b := by
  unfold f_X1_beginSigns
  refine lp (fun f i I => f_X1_beginSigns_7 f r (nI n) (nI x) i I) n 0 (by omega) (by rw [fu_val]; omega) (fun k I' => I' (10 + 2 * r) 1 = nI n ∧ (∀ j, j < k → I' (11 + 2 * r) j = sI (if x.testBit j then -1 else 1)) ∧ ∀ a b, a ≠ 10 + 2 * r → a ≠ 11 + 2 * r → I' a b = I a b) (fun res => ∃ I', res = some I' ∧ I' (10 + 2 * r) 1 = nI n ∧ (∀ j, j < n → I' (11 + 2 * r) j = sI (if x.testBit j then -1 else 1)) ∧ ∀ a b, a ≠ 10 + 2 * r → a ≠ 11 + 2 * r → I' a b = I a b) ?_ ?_ _ ?_
  · intro f s hs
    refine ⟨s, ?_, hs⟩
    show f_X1_beginSigns_7 (f + 1) r (nI n) (nI x) (nI n) s = _
    rw [f_X1_beginSigns_7, if_pos (nI_le (Nat.le_refl _) (by omega))]
  · intro f k s _ hk ⟨h1, h2, h3⟩
    left
    refine ⟨wI s (11 + 2 * r) k (sI (if x.testBit k then -1 else 1)), ?_, ?_, ?_, ?_⟩
    · show f_X1_beginSigns_7 (f + 1) r (nI n) (nI x) (nI k) s = f_X1_beginSigns_7 f r (nI n) (nI x) (nI (k + 1)) _
      rw [f_X1_beginSigns_7, if_neg (nI_ge hk (by omega)), ix_nI (by omega) (by omega), if_pos rfl, nI_clamp (by omega), nI_1, sgn_bit hx (by omega)]
    · rw [wI_off (by omega), h1]
    · intro j hj
      by_cases g : j = k
      · rw [wI_here rfl g, g]
      · rw [wI_off (by omega), h2 j (by omega)]
    · intro a b ha hb
      rw [wI_off (by omega), h3 a b ha hb]
  · exact ⟨wI_here rfl rfl, fun j hj => by omega, fun a b ha hb => wI_off (by omega)⟩
theorem M_begin {r n : Nat} (hr : r < 6) (K : zMi) : ∃ K', f_X4_begin (nI r) (nI n) K = some K' ∧ K' 2 r = nI n ∧ (∀ j, j < 24 → K' 3 (24 * r + j) = 1) ∧ ∀ a b, (a = 2 → b ≠ r) → (a = 3 → b < 24 * r ∨ 24 * r + 24 ≤ b) → K' a b = K a b := by
  unfold f_X4_begin
  rw [ix_nI hr (by omega), if_pos rfl, nI_clamp (by omega)]
  have e : ∀ k, 24 * nI r + nI k = nI (24 * r + k) := fun k => by
    rw [show (24 : Int32) = nI 24 from rfl, pk_mul, nI_add]
  refine lp (fun f i K => f_X4_begin_9 f (nI r) i K) 24 0 (by omega) (by rw [fu_val]; omega) (fun k K' => K' 2 r = nI n ∧ (∀ j, j < k → K' 3 (24 * r + j) = 1) ∧ ∀ a b, (a = 2 → b ≠ r) → (a = 3 → b < 24 * r ∨ 24 * r + 24 ≤ b) → K' a b = K a b) (fun res => ∃ K', res = some K' ∧ K' 2 r = nI n ∧ (∀ j, j < 24 → K' 3 (24 * r + j) = 1) ∧ ∀ a b, (a = 2 → b ≠ r) → (a = 3 → b < 24 * r ∨ 24 * r + 24 ≤ b) → K' a b = K a b) ?_ ?_ _ ?_
  · intro f s hs
    refine ⟨s, ?_, hs⟩
    show f_X4_begin_9 (f + 1) (nI r) (nI 24) s = _
    rw [f_X4_begin_9, if_pos (show (24 : Int32) ≤ nI 24 from nI_le (Nat.le_refl _) (by omega))]
  · intro f k s _ hk ⟨h1, h2, h3⟩
    left
    refine ⟨wI s 3 (24 * r + k) 1, ?_, ?_, ?_, ?_⟩
    · show f_X4_begin_9 (f + 1) (nI r) (nI k) s = f_X4_begin_9 f (nI r) (nI (k + 1)) _
      rw [f_X4_begin_9, if_neg (show ¬ (24 : Int32) ≤ nI k from nI_ge (b := 24) hk (by omega)), e, ix_nI (by omega) (by omega), if_pos rfl, nI_clamp (by omega), nI_1]
    · rw [wI_off (by omega), h1]
    · intro j hj
      by_cases g : j = k
      · rw [wI_here rfl (by omega)]
      · rw [wI_off (by omega), h2 j (by omega)]
    · intro a b ha hb
      rw [wI_off (by omega), h3 a b ha hb]
  · exact ⟨wI_here rfl rfl, fun j hj => by omega, fun a b ha hb => wI_off (by omega)⟩
-- ===== row, lay, tear =====
theorem s_row : so_row RR := by
  intro I J K M h a1 a2
  rcases rn_cases a1 with ⟨e1, e2⟩ | ⟨r, hr, rfl, e1, e2, e3, e4⟩
  · exact ⟨-1, I, K, by simp only [f_X3_row, e1, if_true], by simp only [f_X4_row, e2, if_true], h⟩
  · by_cases h24 : a2 ≤ 24
    · by_cases h0 : 0 ≤ a2
      · obtain ⟨n, hn, rfl⟩ : ∃ n, n ≤ 24 ∧ a2 = nI n := by
          obtain ⟨n, hn, rfl⟩ := nI_of2 (x := a2) (M := 24) (n := 24) rfl (fun q => by rw [fa_lt] at q; rw [fa_le] at h0; omega) h24
          exact ⟨n, hn, rfl⟩
        obtain ⟨I', x1, x2, x3, x4⟩ := X_beginSigns hr hn (x := 0) (by omega) I
        obtain ⟨K', y1, y2, y3, y4⟩ := M_begin (n := n) hr K
        refine ⟨nI n, I', K', ?_, ?_, ?_⟩
        · simp only [f_X3_row, e1, e3, e4, if_neg v10, if_pos h24, if_pos h0, if_true]
          rw [show (0 : Int32) = nI 0 from rfl, x1]
          rfl
        · simp only [f_X4_row, e2, if_neg v10, if_pos h24, if_pos h0]
          rw [y1]
          rfl
        · refine RR_row h hr (fun a b ha hb => x4 a b ha hb) (fun a b h4 ha hb => y4 a b ha hb) (Or.inr ⟨n, hn, x2, y2, fun j hj => ?_⟩)
          rw [x3 j hj, y3 j (by omega)]
          simp
          rfl
      · obtain ⟨I', K', x1, x2, h'⟩ := RR_found h 5 (by simp)
        refine ⟨-3, I', K', ?_, ?_, h'⟩
        · simp only [f_X3_row, e1, if_neg v10, if_pos h24, if_neg h0]
          rw [x1]
          rfl
        · simp only [f_X4_row, e2, if_neg v10, if_pos h24, if_neg h0]
          rw [x2]
          rfl
    · exact ⟨-1, I, K, by simp only [f_X3_row, e1, if_neg v10, if_neg h24], by simp only [f_X4_row, e2, if_neg v10, if_neg h24], h⟩
theorem in_cases (a : Int32) {n : Nat} (h0 : 0 < n) (hn : n < 2 ^ 30) : (f_X4_in a 0 (nI n - 1) = 0 ∧ (a < 0 ∨ nI n ≤ a)) ∨ ∃ i, i < n ∧ a = nI i ∧ f_X4_in (nI i) 0 (nI n - 1) = 1 := by
  have e : nI n - 1 = nI (n - 1) := pk_sub (b := 1) h0
  rw [e]
  rcases pk_ix a (show n < 2 ^ 31 by omega) with h | h | ⟨i, hi, rfl⟩
  · left
    exact ⟨by simp only [f_X4_in, if_pos h], Or.inl h⟩
  · left
    have h9 : nI (n - 1) < a := by rw [fa_lt, nI_toInt (by omega)]; rw [fa_le, nI_toInt (by omega)] at h; omega
    refine ⟨?_, Or.inr h⟩
    simp only [f_X4_in, if_pos h9]
    split <;> rfl
  · right
    refine ⟨i, hi, rfl, ?_⟩
    simp only [f_X4_in, if_neg (nI_pos (show i < 2 ^ 31 by omega)), if_neg (nI_nlt (show i ≤ n - 1 by omega) (show n - 1 < 2 ^ 31 by omega))]
theorem in_none (a : Int32) : f_X4_in a 0 (nI 0 - 1) = 0 := by
  simp only [f_X4_in]
  by_cases h : a < 0
  · rw [if_pos h]
  · rw [if_neg h, if_pos]
    show nI 0 - 1 < a
    rw [fa_lt, show (nI 0 - 1).toInt = -1 from by decide]
    rw [fa_lt] at h
    have h' : ¬ a.toInt < 0 := h
    omega
theorem hasPlaces_eq {I : zMi} {t n : Nat} (a m : Int32) (hn : n ≤ 24) (hs : I (10 + 2 * t) 1 = nI n) : f_X1_hasPlaces t a m I = (if 0 ≤ a.toInt ∧ a.toInt + m.toInt ≤ n then 1 else 0) := by
  unfold f_X1_hasPlaces
  have r1 := fb_rng a
  have r2 := fb_rng m
  by_cases h : a < 0
  · rw [if_pos h, if_neg]
    rw [fa_lt] at h
    have h' : a.toInt < 0 := h
    omega
  · rw [if_neg h, hs]
    rw [fa_lt] at h
    have h' : ¬ a.toInt < 0 := h
    have e : 0 < lg_cmp (a.toInt64 + m.toInt64) (nI n).toInt64 ↔ ¬ a.toInt + m.toInt ≤ n := by
      rw [lg_cmp_gt, fa_lt64, fb_addL (by rw [Int32.toInt_toInt64, Int32.toInt_toInt64]; omega) (by rw [Int32.toInt_toInt64, Int32.toInt_toInt64]; omega), Int32.toInt_toInt64, Int32.toInt_toInt64, Int32.toInt_toInt64, nI_toInt (by omega)]
      omega
    by_cases g : a.toInt + m.toInt ≤ n
    · rw [if_neg (fun q => e.mp q g), if_pos ⟨by omega, g⟩]
    · rw [if_pos (e.mpr g), if_neg (fun q => g q.2)]
theorem s_lay : so_lay RR := by
  intro I J K M h a1 a2 a3
  rcases R_cases h a1 with ⟨e1, e2, e3⟩ | ⟨r, hr, rfl, e1, e2, e3, e4, e5, e6, e7⟩ | ⟨r, n, hr, rfl, e1, e2, e3, e4, e5, e6, e7, hn, x1, x2, x3⟩
  · exact ⟨-1, I, K, by simp only [f_X3_lay, e1, if_true], by simp only [f_X4_lay, e3, Option.bind_some, if_neg v0m1], h⟩
  · obtain ⟨I', K', y1, y2, h'⟩ := RR_found h 1 (by simp)
    refine ⟨-3, I', K', ?_, ?_, h'⟩
    · simp only [f_X3_lay, e1, e3, e4, e5, y1, Option.bind_some, if_neg v10, if_true]
    · simp only [f_X4_lay, e7, y2, Option.bind_some, if_neg v0m3]
  · have hp := hasPlaces_eq (I := I) (t := r) a2 1 hn x1
    have bad : (a2 < 0 ∨ nI n ≤ a2) → f_X4_in a2 0 (nI n - 1) = 0 → ∃ (r' : Int32) (I' : zMi) (K' : zMi), f_X3_lay (nI r) a2 a3 I = some (r', I') ∧ f_X4_lay (nI r) a2 a3 K = some (r', K') ∧ RR I' J K' M := by
      intro hb hin
      obtain ⟨I', K', y1, y2, h'⟩ := RR_found h 2 (by simp)
      have hp0 : f_X1_hasPlaces r a2 1 I = 0 := by
        rw [hp, if_neg]
        rintro ⟨g1, g2⟩
        have g3 : a2.toInt + 1 ≤ n := g2
        rcases hb with hb | hb
        · rw [fa_lt] at hb
          have : a2.toInt < 0 := hb
          omega
        · rw [fa_le, nI_toInt (by omega)] at hb
          omega
      refine ⟨-3, I', K', ?_, ?_, h'⟩
      · simp only [f_X3_lay, e1, e3, e4, e5, hp0, y1, Option.bind_some, if_neg v10, if_true]
      · simp only [f_X4_lay, e7, e3, e4, x2, hin, y2, Option.bind_some, if_pos v00, if_true]
    by_cases h0 : n = 0
    · subst h0
      refine bad ?_ (in_none a2)
      by_cases g : a2 < 0
      · exact Or.inl g
      · exact Or.inr (fa_of_nlt g)
    · rcases in_cases a2 (n := n) (by omega) (by omega) with ⟨hin, hb⟩ | ⟨i, hi, rfl, hin⟩
      · exact bad hb hin
      · have hp1 : f_X1_hasPlaces r (nI i) 1 I = 1 := by
          rw [hp, if_pos]
          rw [nI_toInt (by omega)]
          exact ⟨by omega, show (i : Int) + 1 ≤ n by omega⟩
        have e : 24 * nI r + nI i = nI (24 * r + i) := by
          rw [show (24 : Int32) = nI 24 from rfl, pk_mul, nI_add]
        refine ⟨1, wI (wI I 0 9 (K 3 (24 * r + i))) (11 + 2 * r) i a3, wI (wI K 0 2 (K 3 (24 * r + i))) 3 (24 * r + i) a3, ?_, ?_, ?_⟩
        · simp only [f_X3_lay, e1, e3, e4, e5, hp1, if_neg v10, if_true, ix_nI (show i < 24 by omega) (by omega), nI_clamp (show i < 2 ^ 31 by omega), x3 i hi]
        · simp only [f_X4_lay, e7, e3, e4, x2, hin, Option.bind_some, if_pos v00, if_neg v10, if_true, e, ix_nI (show 24 * r + i < 144 by omega) (by omega), nI_clamp (show 24 * r + i < 2 ^ 31 by omega)]
        · refine RR_row (RR_ask h (K 3 (24 * r + i))) hr (fun a b ha hb => wI_off (by omega)) (fun a b h4 ha hb => wI_off (by omega)) (Or.inr ⟨n, hn, ?_, ?_, fun j hj => ?_⟩)
          · rw [wI_off (by omega), wI_off (by omega), x1]
          · rw [wI_off (by omega), wI_off (by omega), x2]
          · by_cases g : j = i
            · rw [wI_here rfl g, wI_here rfl (by omega)]
            · rw [wI_off (by omega), wI_off (by omega), wI_off (by omega), wI_off (by omega), x3 j hj]
theorem s_tear : so_tear RR := by
  intro I J K M h a1
  rcases R_cases h a1 with ⟨e1, e2, e3⟩ | ⟨r, hr, rfl, e1, e2, e3, e4, e5, e6, e7⟩ | ⟨r, n, hr, rfl, e1, e2, e3, e4, e5, e6, e7, hn, x1, x2, x3⟩
  · exact ⟨-1, I, K, by simp only [f_X3_tear, e1, if_true], by simp only [f_X4_tear, e3, Option.bind_some, if_neg v0m1], h⟩
  · obtain ⟨I', K', y1, y2, h'⟩ := RR_found h 1 (by simp)
    refine ⟨-3, I', K', ?_, ?_, h'⟩
    · simp only [f_X3_tear, e1, e3, e4, e5, y1, Option.bind_some, if_neg v10, if_true]
    · simp only [f_X4_tear, e7, y2, Option.bind_some, if_neg v0m3]
  · refine ⟨1, wI I (10 + 2 * r) 1 (-1), wI K 2 r (-9), ?_, ?_, ?_⟩
    · simp only [f_X3_tear, f_X1_end, e1, e3, e4, e5, if_neg v10, if_true]
    · simp only [f_X4_tear, e7, e3, e4, Option.bind_some, if_pos v00, if_true]
    · exact RR_row h hr (fun a b ha hb => wI_off (by omega)) (fun a b h4 ha hb => wI_off (by omega)) (Or.inl ⟨wI_here rfl rfl, wI_here rfl rfl⟩)
-- ===== copy =====
theorem M_copy {r to i j n : Nat} (hr : r < 6) (ht : to < 6) (hi : i + n ≤ 24) (hj : j + n ≤ 24) (K : zMi) : ∃ K', f_X4_copy_104 fu (nI r) (nI i) (nI to) (nI j) (nI n) 0 K = some (1, K') ∧ (∀ k, k < n → K' 3 (24 * to + j + k) = K 3 (24 * r + i + k)) ∧ ∀ a b, a ≠ 4 → (a = 3 → b < 24 * to + j ∨ 24 * to + j + n ≤ b) → K' a b = K a b := by
  have e : ∀ r i k, 24 * nI r + nI i + nI k = nI (24 * r + i + k) := fun r i k => by
    rw [show (24 : Int32) = nI 24 from rfl, pk_mul, nI_add, nI_add]
  refine lp (fun f k K => f_X4_copy_104 f (nI r) (nI i) (nI to) (nI j) (nI n) k K) n 0 (by omega) (by rw [fu_val]; omega) (fun m K' => (∀ k, k < m → K' 4 k = K 3 (24 * r + i + k)) ∧ ∀ a b, a ≠ 4 → K' a b = K a b) (fun res => ∃ K', res = some (1, K') ∧ (∀ k, k < n → K' 3 (24 * to + j + k) = K 3 (24 * r + i + k)) ∧ ∀ a b, a ≠ 4 → (a = 3 → b < 24 * to + j ∨ 24 * to + j + n ≤ b) → K' a b = K a b) ?_ ?_ _ ?_
  · intro f s ⟨h1, h2⟩
    show ∃ K', f_X4_copy_104 (f + 1) (nI r) (nI i) (nI to) (nI j) (nI n) (nI n) s = some (1, K') ∧ _
    rw [f_X4_copy_104, if_pos (nI_le (Nat.le_refl _) (by omega))]
    refine lp (fun f k K => f_X4_copy_141 f (nI to) (nI j) (nI n) k K) n 0 (by omega) (by rw [fu_val]; omega) (fun m K' => (∀ k, k < n → K' 4 k = K 3 (24 * r + i + k)) ∧ (∀ k, k < m → K' 3 (24 * to + j + k) = K 3 (24 * r + i + k)) ∧ ∀ a b, a ≠ 4 → (a = 3 → b < 24 * to + j ∨ 24 * to + j + n ≤ b) → K' a b = K a b) (fun res => ∃ K', res = some (1, K') ∧ (∀ k, k < n → K' 3 (24 * to + j + k) = K 3 (24 * r + i + k)) ∧ ∀ a b, a ≠ 4 → (a = 3 → b < 24 * to + j ∨ 24 * to + j + n ≤ b) → K' a b = K a b) ?_ ?_ _ ?_
    · intro f s ⟨_, h3, h4⟩
      refine ⟨s, ?_, h3, h4⟩
      show f_X4_copy_141 (f + 1) (nI to) (nI j) (nI n) (nI n) s = _
      rw [f_X4_copy_141, if_pos (nI_le (Nat.le_refl _) (by omega))]
    · intro f k s _ hk ⟨h5, h3, h4⟩
      left
      refine ⟨wI s 3 (24 * to + j + k) (s 4 k), ?_, ?_, ?_, ?_⟩
      · show f_X4_copy_141 (f + 1) (nI to) (nI j) (nI n) (nI k) s = f_X4_copy_141 f (nI to) (nI j) (nI n) (nI (k + 1)) _
        rw [f_X4_copy_141, if_neg (nI_ge hk (by omega)), ix_nI (by omega) (by omega), if_pos rfl, e, ix_nI (by omega) (by omega), if_pos rfl, nI_clamp (by omega), nI_clamp (by omega), nI_1]
      · intro q hq
        rw [wI_off (by omega), h5 q hq]
      · intro q hq
        by_cases g : q = k
        · rw [wI_here rfl (by omega), g, h5 k hk]
        · rw [wI_off (by omega), h3 q (by omega)]
      · intro a b ha hb
        rw [wI_off (by omega), h4 a b ha hb]
    · exact ⟨h1, fun k hk => by omega, fun a b ha _ => h2 a b ha⟩
  · intro f k s _ hk ⟨h1, h2⟩
    left
    refine ⟨wI s 4 k (s 3 (24 * r + i + k)), ?_, ?_, ?_⟩
    · show f_X4_copy_104 (f + 1) (nI r) (nI i) (nI to) (nI j) (nI n) (nI k) s = f_X4_copy_104 f (nI r) (nI i) (nI to) (nI j) (nI n) (nI (k + 1)) _
      rw [f_X4_copy_104, if_neg (nI_ge hk (by omega)), e, ix_nI (by omega) (by omega), if_pos rfl, ix_nI (by omega) (by omega), if_pos rfl, nI_clamp (by omega), nI_clamp (by omega), nI_1]
    · intro q hq
      by_cases g : q = k
      · rw [wI_here rfl g, g, h2 _ _ (by omega)]
      · rw [wI_off (by omega), h1 q (by omega)]
    · intro a b ha
      rw [wI_off (by omega), h2 a b ha]
  · exact ⟨fun k hk => by omega, fun a b _ => rfl⟩
theorem long_le (a m : Int32) {n : Nat} (hn : n ≤ 24) : (0 < lg_cmp (a.toInt64 + m.toInt64) (nI n).toInt64 ↔ ¬ a.toInt + m.toInt ≤ n) ∧ (lg_cmp (a.toInt64 + m.toInt64) (nI n).toInt64 ≤ 0 ↔ a.toInt + m.toInt ≤ n) := by
  have r1 := fb_rng a
  have r2 := fb_rng m
  rw [lg_cmp_gt, lg_cmp_le, fa_lt64, fa_le64, fb_addL (by rw [Int32.toInt_toInt64, Int32.toInt_toInt64]; omega) (by rw [Int32.toInt_toInt64, Int32.toInt_toInt64]; omega), Int32.toInt_toInt64, Int32.toInt_toInt64, Int32.toInt_toInt64, nI_toInt (by omega)]
  omega
theorem s_copy : so_copy RR := by
  intro I J K M h a1 a2 a3 a4 a5
  rcases R_cases h a1 with ⟨e1, e2, e3⟩ | hr1
  · exact ⟨-1, I, K, by simp only [f_X3_copy, e1, if_true], by simp only [f_X4_copy, e2, if_true], h⟩
  have q1 : ¬ f_X3_isRowNumber a1 = 0 ∧ ¬ f_X4_isRow a1 = 0 := by
    rcases hr1 with ⟨r, hr, rfl, e1, e2, _⟩ | ⟨r, n, hr, rfl, e1, e2, _⟩ <;> rw [e1, e2] <;> decide
  rcases R_cases h a3 with ⟨e1, e2, e3⟩ | hr3
  · exact ⟨-1, I, K, by simp only [f_X3_copy, e1, if_neg q1.1, if_true], by simp only [f_X4_copy, e2, if_neg q1.2, if_true], h⟩
  have q3 : ¬ f_X3_isRowNumber a3 = 0 ∧ ¬ f_X4_isRow a3 = 0 := by
    rcases hr3 with ⟨r, hr, rfl, e1, e2, _⟩ | ⟨r, n, hr, rfl, e1, e2, _⟩ <;> rw [e1, e2] <;> decide
  rcases (Classical.em (0 ≤ a5)).symm with h5 | h5
  · obtain ⟨I', K', y1, y2, h'⟩ := RR_found h 5 (by simp)
    refine ⟨-3, I', K', ?_, ?_, h'⟩
    · simp only [f_X3_copy, if_neg q1.1, if_neg q3.1, if_neg h5, y1, Option.bind_some]
    · simp only [f_X4_copy, if_neg q1.2, if_neg q3.2, if_neg h5, y2, Option.bind_some]
  obtain ⟨I1, K1, y1, y2, h1'⟩ := RR_found h 1 (by simp)
  rcases hr1 with ⟨r, hr, rfl, e1, e2, e3, e4, e5, e6, e7⟩ | ⟨r, n, hr, rfl, e1, e2, e3, e4, e5, e6, e7, hn, x1, x2, x3⟩
  · rcases hr3 with ⟨u, hu, rfl, g1, g2, g3, g4, g5, g6, g7⟩ | ⟨u, m, hu, rfl, g1, g2, g3, g4, g5, g6, g7, hm, z1, z2, z3⟩
    · refine ⟨-3, I1, K1, ?_, ?_, h1'⟩
      · simp only [f_X3_copy, if_neg q1.1, if_neg q3.1, if_pos h5, e3, e4, e5, g3, g4, g5, if_neg v10, if_true, y1, Option.bind_some]
      · simp only [f_X4_copy, if_neg q1.2, if_neg q3.2, if_pos h5, e3, e4, if_pos e6, if_true, y2, Option.bind_some]
    · refine ⟨-3, I1, K1, ?_, ?_, h1'⟩
      · simp only [f_X3_copy, if_neg q1.1, if_neg q3.1, if_pos h5, e3, e4, e5, g3, g4, g5, if_neg v10, if_true, y1, Option.bind_some]
      · simp only [f_X4_copy, if_neg q1.2, if_neg q3.2, if_pos h5, e3, e4, if_pos e6, if_true, y2, Option.bind_some]
  · rcases hr3 with ⟨u, hu, rfl, g1, g2, g3, g4, g5, g6, g7⟩ | ⟨u, m, hu, rfl, g1, g2, g3, g4, g5, g6, g7, hm, z1, z2, z3⟩
    · have g6' : ¬ 0 ≤ K 2 u := fun q => by rw [fa_lt] at g6; rw [fa_le] at q; omega
      refine ⟨-3, I1, K1, ?_, ?_, h1'⟩
      · simp only [f_X3_copy, if_neg q1.1, if_neg q3.1, if_pos h5, e3, e4, e5, g3, g4, g5, if_neg v10, if_true, y1, Option.bind_some]
      · simp only [f_X4_copy, if_neg q1.2, if_neg q3.2, if_pos h5, e3, e4, g3, g4, if_neg e6, if_neg g6', if_true, y2, Option.bind_some]
    · have g6' : 0 ≤ K 2 u := fa_of_nlt g6
      have n6 : ¬ nI n < 0 := nI_pos (by omega)
      have m6 : 0 ≤ nI m := nI_pos' (by omega)
      have p1 := hasPlaces_eq (I := I) (t := r) a2 a5 hn x1
      have p2 := hasPlaces_eq (I := I) (t := u) a4 a5 hm z1
      have l1 := long_le a2 a5 hn
      have l2 := long_le a4 a5 hm
      have c2 : a2 < 0 ↔ a2.toInt < 0 := fa_lt _ _
      have c4 : a4 < 0 ↔ a4.toInt < 0 := fa_lt _ _
      have c5 : (0 : Int) ≤ a5.toInt := (fa_le _ _).mp h5
      obtain ⟨I2, K2, w1, w2, h2'⟩ := RR_found h 2 (by simp)
      by_cases ok1 : 0 ≤ a2.toInt ∧ a2.toInt + a5.toInt ≤ n
      · by_cases ok2 : 0 ≤ a4.toInt ∧ a4.toInt + a5.toInt ≤ m
        · have b2 : ¬ a2 < 0 := fun q => by have := c2.mp q; omega
          have b4 : ¬ a4 < 0 := fun q => by have := c4.mp q; omega
          obtain ⟨i, hi, rfl⟩ := nI_of b2
          obtain ⟨j, hj, rfl⟩ := nI_of b4
          obtain ⟨c, hc, rfl⟩ := nI_of (x := a5) (fun q => by rw [fa_lt] at q; have : a5.toInt < 0 := q; omega)
          rw [nI_toInt hi, nI_toInt hc] at ok1
          rw [nI_toInt hj, nI_toInt hc] at ok2
          rw [nI_toInt hi, nI_toInt hc] at l1 p1
          rw [nI_toInt hj, nI_toInt hc] at l2 p2
          obtain ⟨K', k1, k2, k3⟩ := M_copy (r := r) (to := u) (i := i) (j := j) (n := c) hr hu (by omega) (by omega) K
          have ha : acok (nI i) (nI j) (nI c) = true := by
            simp only [acok, Bool.and_eq_true, decide_eq_true_eq, nI_clamp hi, nI_clamp hj, nI_clamp hc]
            exact ⟨⟨⟨⟨nI_pos' hi, nI_pos' hj⟩, nI_pos' hc⟩, by omega⟩, by omega⟩
          refine ⟨1, acp I (11 + 2 * r) (11 + 2 * u) (nI i) (nI j) (nI c), K', ?_, ?_, ?_⟩
          · simp only [f_X3_copy, if_neg q1.1, if_neg q3.1, if_pos h5, e3, e4, e5, g3, g4, g5, if_true, p1, p2, if_pos ok1, if_pos ok2, if_neg v10, ha]
          · simp only [f_X4_copy, if_neg q1.2, if_neg q3.2, if_pos h5, e3, e4, g3, g4, if_neg e6, if_pos g6', if_true, if_neg b2, if_neg b4, x2, z2, if_neg n6, if_pos m6, if_neg (fun q => l1.1.mp q ok1.2), if_pos (l2.2.mpr ok2.2), k1]
          · refine RR_row h hu (fun a b ha hb => ?_) (fun a b h4 ha hb => k3 a b h4 (fun q => by have := hb q; omega)) (Or.inr ⟨m, hm, ?_, ?_, fun q hq => ?_⟩)
            · simp only [acp, if_neg hb]
            · simp only [acp, if_neg (show ¬ 10 + 2 * u = 11 + 2 * u by omega), z1]
            · rw [k3 _ _ (by omega) (by omega), z2]
            · simp only [acp, if_true, nI_clamp hi, nI_clamp hj, nI_clamp hc]
              by_cases g : j ≤ q ∧ q < j + c
              · rw [pk_cpy_in g.1 g.2, x3 _ (by omega)]
                have := k2 (q - j) (by omega)
                rw [show 24 * u + j + (q - j) = 24 * u + q by omega] at this
                rw [this]
                congr 1
                omega
              · rw [pk_cpy_out (by omega), z3 q hq, k3 _ _ (by omega) (by omega)]
        · refine ⟨-3, I2, K2, ?_, ?_, h2'⟩
          · simp only [f_X3_copy, if_neg q1.1, if_neg q3.1, if_pos h5, e3, e4, e5, g3, g4, g5, if_true, p1, p2, if_pos ok1, if_neg ok2, if_neg v10, w1, Option.bind_some]
          · have b2 : ¬ a2 < 0 := fun q => by have := c2.mp q; omega
            by_cases b4 : a4 < 0
            · simp only [f_X4_copy, if_neg q1.2, if_neg q3.2, if_pos h5, e3, e4, g3, g4, if_neg e6, if_pos g6', if_true, if_neg b2, if_pos b4, w2, Option.bind_some]
            · have b4' : ¬ a4.toInt < 0 := fun q => b4 (c4.mpr q)
              simp only [f_X4_copy, if_neg q1.2, if_neg q3.2, if_pos h5, e3, e4, g3, g4, if_neg e6, if_pos g6', if_true, if_neg b2, if_neg b4, x2, z2, if_neg n6, if_pos m6, if_neg (fun q => l1.1.mp q ok1.2), if_neg (fun q => ok2 ⟨by omega, l2.2.mp q⟩), w2, Option.bind_some]
      · refine ⟨-3, I2, K2, ?_, ?_, h2'⟩
        · simp only [f_X3_copy, if_neg q1.1, if_neg q3.1, if_pos h5, e3, e4, e5, g3, g4, g5, if_true, p1, if_neg ok1, w1, Option.bind_some]
        · by_cases b2 : a2 < 0
          · simp only [f_X4_copy, if_neg q1.2, if_neg q3.2, if_pos h5, e3, e4, g3, g4, if_neg e6, if_pos g6', if_true, if_pos b2, w2, Option.bind_some]
          · have b2' : ¬ a2.toInt < 0 := fun q => b2 (c2.mpr q)
            by_cases b4 : a4 < 0
            · simp only [f_X4_copy, if_neg q1.2, if_neg q3.2, if_pos h5, e3, e4, g3, g4, if_neg e6, if_pos g6', if_true, if_neg b2, if_pos b4, w2, Option.bind_some]
            · simp only [f_X4_copy, if_neg q1.2, if_neg q3.2, if_pos h5, e3, e4, g3, g4, if_neg e6, if_pos g6', if_true, if_neg b2, if_neg b4, x2, if_neg n6, if_pos (l1.1.mpr (fun q => ok1 ⟨by omega, q⟩)), w2, Option.bind_some]
-- ===== mean =====
def sL (f : Nat → Int32) : Nat → Int64
  | 0 => 0
  | n + 1 => sL f n + (f n).toInt64
theorem sL_cong {f g : Nat → Int32} : ∀ {n : Nat}, (∀ j, j < n → f j = g j) → sL f n = sL g n
  | 0, _ => rfl
  | n + 1, h => by rw [sL, sL, sL_cong (fun j hj => h j (by omega)), h n (by omega)]
theorem s_mean : so_mean RR := by
  intro I J K M h a1
  rcases R_cases h a1 with ⟨e1, e2, e3⟩ | ⟨r, hr, rfl, e1, e2, e3, e4, e5, e6, e7⟩ | ⟨r, n, hr, rfl, e1, e2, e3, e4, e5, e6, e7, hn, x1, x2, x3⟩
  · exact ⟨-1, I, K, by simp only [f_X3_mean, e1, if_true], by simp only [f_X4_mean, e3, Option.bind_some, if_neg v0m1], h⟩
  · obtain ⟨I', K', y1, y2, h'⟩ := RR_found h 1 (by simp)
    refine ⟨-3, I', K', ?_, ?_, h'⟩
    · simp only [f_X3_mean, e1, e3, e4, e5, y1, Option.bind_some, if_neg v10, if_true]
    · simp only [f_X4_mean, e7, y2, Option.bind_some, if_neg v0m3]
  · have e : ∀ k, 24 * nI r + nI k = nI (24 * r + k) := fun k => by
      rw [show (24 : Int32) = nI 24 from rfl, pk_mul, nI_add]
    have sx : f_X1_sum r I = some (sL (I (11 + 2 * r)) n) := by
      unfold f_X1_sum
      refine up0 (fun f i (a : Int64) => f_X1_sum_4 I f r a i) n (by rw [fu_val]; omega) (fun k => sL (I (11 + 2 * r)) k) _ ?_ ?_
      · intro f
        show f_X1_sum_4 I (f + 1) r _ (nI n) = _
        rw [f_X1_sum_4, x1, if_pos (nI_le (Nat.le_refl _) (by omega))]
      · intro f k hk
        show f_X1_sum_4 I (f + 1) r _ (nI k) = f_X1_sum_4 I f r _ (nI (k + 1))
        rw [f_X1_sum_4, x1, if_neg (nI_ge hk (by omega)), ix_nI (by omega) (by omega), if_pos rfl, nI_clamp (by omega), nI_1]
        rfl
    have hs : sL (I (11 + 2 * r)) n = sL (fun k => K 3 (24 * r + k)) n := sL_cong (fun j hj => x3 j hj)
    have sm : ∀ res, (∀ f, f_X4_mean_17 (f + 1) (nI r) (sL (fun k => K 3 (24 * r + k)) n) (nI n) K = res) → f_X4_mean_17 fu (nI r) 0 0 K = res := by
      intro res hres
      refine up0 (fun f i (a : Int64) => f_X4_mean_17 f (nI r) a i K) n (by rw [fu_val]; omega) (fun k => sL (fun k => K 3 (24 * r + k)) k) _ hres ?_
      intro f k hk
      show f_X4_mean_17 (f + 1) (nI r) _ (nI k) K = f_X4_mean_17 f (nI r) _ (nI (k + 1)) K
      rw [f_X4_mean_17, e3, if_pos rfl, e4, x2, if_neg (nI_ge hk (by omega)), e, ix_nI (by omega) (by omega), if_pos rfl, nI_clamp (by omega), nI_1]
      rfl
    by_cases h0 : n = 0
    · subst h0
      obtain ⟨I', K', y1, y2, h'⟩ := RR_found h 4 (by simp)
      refine ⟨-3, I', K', ?_, ?_, h'⟩
      · simp only [f_X3_mean, e1, e3, e4, e5, x1, y1, Option.bind_some, if_neg v10, if_true, nI_0]
      · simp only [f_X4_mean, e7, Option.bind_some, if_pos v00]
        refine sm _ (fun f => ?_)
        rw [f_X4_mean_17, e3, if_pos rfl, e4, x2, if_pos (nI_le (Nat.le_refl _) (by omega)), if_pos nI_0, y2]
        rfl
    · have n0 : ¬ nI n = 0 := nI_ne0 (by omega) (by omega)
      have n64 : ¬ (nI n).toInt64 = 0 := fun q => n0 ((fa_wide_eq (nI n) 0).mp q)
      refine ⟨1, wI I 0 9 (sL (I (11 + 2 * r)) n / (nI n).toInt64).toInt32, wI K 0 2 (sL (I (11 + 2 * r)) n / (nI n).toInt64).toInt32, ?_, ?_, RR_ask h _⟩
      · simp only [f_X3_mean, e1, e3, e4, e5, x1, sx, Option.bind_some, if_neg v10, if_true, if_neg n0, if_neg n64]
      · simp only [f_X4_mean, e7, Option.bind_some, if_pos v00]
        refine sm _ (fun f => ?_)
        rw [f_X4_mean_17, e3, if_pos rfl, e4, x2, if_pos (nI_le (Nat.le_refl _) (by omega)), if_neg n0, if_neg n64, hs]
        rfl
-- ===== what is told =====
theorem s_worthTold : so_worthTold RR := fun I J K M h => ⟨_, rfl, h.2.2.2.1.1.symm, h⟩
theorem s_upper : so_upper RR := fun I J K M h => ⟨_, rfl, h.2.2.2.1.2.1.symm, h⟩
theorem s_lower : so_lower RR := fun I J K M h => ⟨_, rfl, h.2.2.2.1.2.2.symm, h⟩
theorem s_asked : so_asked RR := fun I J K M h => ⟨_, rfl, h.2.1.symm, h⟩
theorem s_finding : so_finding RR := fun I J K M h => ⟨_, rfl, h.1.symm, h⟩
theorem s_findings : so_findings RR := by
  intro I J K M h a1
  rcases pk_ix a1 (show 6 < 2 ^ 31 by omega) with q | q | ⟨f, hf, rfl⟩
  · have q1 : a1 < 1 := by rw [fa_lt] at q ⊢; have : a1.toInt < 0 := q; show a1.toInt < 1; omega
    exact ⟨-1, by simp only [f_X3_findings, if_pos q1], by simp only [f_X4_findings, f_X4_in, if_pos q1, if_true], h⟩
  · rw [fa_le, nI_toInt (by omega)] at q
    have q1 : ¬ a1 < 1 := by rw [fa_lt]; show ¬ a1.toInt < 1; omega
    have q5 : ¬ a1 ≤ 5 := by rw [fa_le]; show ¬ a1.toInt ≤ 5; omega
    have q6 : 5 < a1 := by rw [fa_lt]; show 5 < a1.toInt; omega
    exact ⟨-1, by simp only [f_X3_findings, if_neg q1, if_neg q5], by simp only [f_X4_findings, f_X4_in, if_neg q1, if_pos q6, if_true], h⟩
  · by_cases h0 : f = 0
    · subst h0
      exact ⟨-1, rfl, rfl, h⟩
    · have q1 : ¬ nI f < 1 := nI_nlt (b := 1) (by omega) (by omega)
      have q5 : nI f ≤ 5 := nI_le (b := 5) (by omega) (by omega)
      have q6 : ¬ 5 < nI f := nI_nlt (a := 5) (by omega) (by omega)
      refine ⟨I 9 f, ?_, ?_, h⟩
      · simp only [f_X3_findings, if_neg q1, if_pos q5, ix_nI hf (show 6 < 2 ^ 31 by omega), if_true, nI_clamp (show f < 2 ^ 31 by omega)]
      · simp only [f_X4_findings, f_X4_in, if_neg q1, if_neg q6, ix_nI hf (show 6 < 2 ^ 31 by omega), if_true, if_neg v10, nI_clamp (show f < 2 ^ 31 by omega), h.2.2.1 f hf]
