theorem MT_any {K : zMi} {t n : Nat} (ht : t < 10) (hn : n ≤ 12) (h : K 5 t = nI n) : MT K t n (fun i j => (K 6 (144 * t + 12 * i + j)).toInt) := ⟨ht, hn, h, fun i j _ _ => (Int32.ofInt_toInt _).symm⟩
/-- what a step on table t of the model may have written -/
def mfr (t : Nat) (K K' : zMi) : Prop := ∀ a b, (a = 6 → b < 144 * t ∨ 144 * t + 144 ≤ b) → K' a b = K a b
theorem mfr_let {t i j : Nat} {K K' : zMi} (h : mfr t K K') (hi : i < 12) (hj : j < 12) (v : Int32) : mfr t K (wI K' 6 (144 * t + 12 * i + j) v) := fun a b q => by
  rw [wI_off (by omega), h a b q]
theorem M_table {K : zMi} {t n : Nat} (ht : t < 10) (hn : n ≤ 12) (h5 : K 5 t = nI n) : ∃ K', f_X4_table_28 fu (nI t) (nI n) 0 K = (f_X4_setKind (nI t) K').bind (fun x2 => some (x2.1, x2.2)) ∧ MT K' t n (fun _ _ => 1) ∧ mfr t K K' := by
  refine lp (fun f i K => f_X4_table_28 f (nI t) (nI n) i K) n 0 (by omega) (by rw [fu_val]; omega) (fun i K' => MT K' t n (fil (fun _ _ => 1) (fun i j => (K 6 (144 * t + 12 * i + j)).toInt) i 0) ∧ mfr t K K') (fun res => ∃ K', res = (f_X4_setKind (nI t) K').bind (fun x2 => some (x2.1, x2.2)) ∧ MT K' t n (fun _ _ => 1) ∧ mfr t K K') ?_ ?_ _ ?_
  · intro f s ⟨h1, h2⟩
    refine ⟨s, ?_, MT_congA h1 fil_all, h2⟩
    show f_X4_table_28 (f + 1) (nI t) (nI n) (nI n) s = _
    rw [f_X4_table_28, if_pos (nI_le (Nat.le_refl _) (by omega))]
  · intro f i s _ hi ⟨h1, h2⟩
    left
    show ∃ s', f_X4_table_28 (f + 1) (nI t) (nI n) (nI i) s = f_X4_table_28 f (nI t) (nI n) (nI (i + 1)) s' ∧ _
    rw [f_X4_table_28, if_neg (nI_ge hi (by omega))]
    refine lp (fun g j K => f_X4_table_36 (f_X4_table_28 f) g (nI t) (nI n) (nI i) j K) n 0 (by omega) (by rw [fu_val]; omega) (fun k K' => MT K' t n (fil (fun _ _ => 1) (fun i j => (K 6 (144 * t + 12 * i + j)).toInt) i k) ∧ mfr t K K') (fun res => ∃ s', res = f_X4_table_28 f (nI t) (nI n) (nI (i + 1)) s' ∧ MT s' t n (fil (fun _ _ => 1) (fun i j => (K 6 (144 * t + 12 * i + j)).toInt) (i + 1) 0) ∧ mfr t K s') ?_ ?_ _ ⟨h1, h2⟩
    · intro g s ⟨h3, h4⟩
      refine ⟨s, ?_, MT_congA h3 fil_next, h4⟩
      show f_X4_table_36 (f_X4_table_28 f) (g + 1) (nI t) (nI n) (nI i) (nI n) s = _
      rw [f_X4_table_36, if_pos (nI_le (Nat.le_refl _) (by omega)), nI_1]
    · intro g k s _ hk ⟨h3, h4⟩
      left
      obtain ⟨l1, l2⟩ := M_let h3 hi hk 1
      refine ⟨_, ?_, ?_, mfr_let h4 (show i < 12 by omega) (show k < 12 by omega) (sI 1)⟩
      · show f_X4_table_36 (f_X4_table_28 f) (g + 1) (nI t) (nI n) (nI i) (nI k) s = f_X4_table_36 (f_X4_table_28 f) g (nI t) (nI n) (nI i) (nI (k + 1)) _
        rw [f_X4_table_36, if_neg (nI_ge hk (by omega)), nI_1]
        rw [show f_X4_let (nI t) (nI i) (nI k) 1 s = _ from l1]
        rfl
      · rw [fil_step (fun _ _ => 1)] at l2
        exact l2
  · rw [fil_0]
    exact ⟨MT_any ht hn h5, fun a b _ => rfl⟩
theorem in_1n {a : Int32} (N : Nat) (hN : N < 2 ^ 30) : (f_X4_in a 1 (nI N) = 0 ∧ (a < 1 ∨ ¬ a ≤ nI N)) ∨ ∃ n, 1 ≤ n ∧ n ≤ N ∧ a = nI n ∧ f_X4_in (nI n) 1 (nI N) = 1 ∧ ¬ nI n < 1 ∧ nI n ≤ nI N := by
  by_cases h1 : a < 1
  · left
    exact ⟨by simp only [f_X4_in, if_pos h1], Or.inl h1⟩
  · by_cases h2 : nI N < a
    · left
      refine ⟨by simp only [f_X4_in, if_neg h1, if_pos h2], Or.inr (fun q => ?_)⟩
      rw [fa_lt] at h2
      rw [fa_le] at q
      omega
    · right
      have r1 : ¬ a.toInt < 1 := fun q => h1 ((fa_lt _ _).mpr q)
      have r2 : ¬ (N : Int) < a.toInt := fun q => h2 (by rw [fa_lt, nI_toInt (by omega)]; exact q)
      obtain ⟨n, hn, rfl⟩ := nI_of (x := a) (fun q => by rw [fa_lt] at q; have : a.toInt < 0 := q; omega)
      rw [nI_toInt hn] at r1 r2
      exact ⟨n, by omega, by omega, rfl, by simp only [f_X4_in, if_neg h1, if_neg h2], h1, nI_le (by omega) (by omega)⟩
theorem s_table : so_table RR := by
  intro I J K M h a1 a2
  rcases tn_cases a1 with ⟨e1, e2⟩ | ⟨t, ht, rfl, e1, e2, e3, e4⟩
  · exact ⟨-1, I, K, by simp only [f_X3_table, e1, if_true], by simp only [f_X4_table, e2, if_true], h⟩
  · rcases in_1n (a := a2) 12 (by omega) with ⟨i1, i2⟩ | ⟨n, h1, hn, rfl, i1, i2, i3⟩
    · refine ⟨-1, I, K, ?_, ?_, h⟩
      · rcases i2 with q | q
        · simp only [f_X3_table, e1, if_neg v10, if_pos q]
        · have q' : ¬ a2 ≤ 12 := q
          by_cases q2 : a2 < 1
          · simp only [f_X3_table, e1, if_neg v10, if_pos q2]
          · simp only [f_X3_table, e1, if_neg v10, if_neg q2, if_neg q']
      · have i1' : f_X4_in a2 1 12 = 0 := i1
        simp only [f_X4_table, e2, if_neg v10, i1', if_true]
    · have i1' : f_X4_in (nI n) 1 12 = 1 := i1
      have i3' : nI n ≤ 12 := i3
      obtain ⟨I', x1, x2, x3⟩ := X_begin (T := t) (by omega) hn I
      obtain ⟨K', y1, y2, y3⟩ := M_table (K := wI K 5 t (nI n)) ht hn (wI_here rfl rfl)
      obtain ⟨k, I'', K'', z1, z2, z3⟩ := fin_tab h ht h1 (A := fun _ _ => 1) (fun _ _ => Or.inl rfl) x2 y2 (fun a b _ _ _ g1 g2 g3 => x3 a b g1 g2 g3) (fun a b _ _ g1 _ g3 => by rw [y3 a b g3, wI_off (by omega)])
      refine ⟨k, I'', K'', ?_, ?_, z3⟩
      · simp only [f_X3_table, e1, e3, e4, if_neg v10, if_neg i2, if_pos i3', if_true, x1, z1, Option.bind_some]
      · simp only [f_X4_table, e2, e3, e4, if_neg v10, i1', if_true, y1, z2, Option.bind_some]
theorem hasLine_cases {I : zMi} {T n : Nat} (h3 : I (22 + 3 * T) 2 = nI n) (hn : n ≤ 12) (a : Int32) (h : a < 0 ∨ nI n ≤ a) : f_X2_hasLine T a I = 0 := by
  unfold f_X2_hasLine
  rcases h with q | q
  · rw [if_pos q]
  · rw [h3]
    by_cases g : a < 0
    · rw [if_pos g]
    · rw [if_neg g, if_pos q]
theorem hasLine_ok {I : zMi} {T n : Nat} (h3 : I (22 + 3 * T) 2 = nI n) (hn : n ≤ 12) {i : Nat} (hi : i < n) : f_X2_hasLine T (nI i) I = 1 := by
  unfold f_X2_hasLine
  rw [if_neg (nI_pos (by omega)), h3, if_neg (nI_ge hi (by omega))]
theorem isPlace_cases {I K : zMi} {t n : Nat} (hx : I (22 + 3 * t) 2 = nI n) (hm : K 5 t = nI n) (ht : t < 10) (h0 : 0 < n) (hn : n ≤ 12) (a b : Int32) : (f_X4_isPlace (nI t) a b K = some 0 ∧ (f_X2_hasLine t a I = 0 ∨ (f_X2_hasLine t a I = 1 ∧ f_X2_hasLine t b I = 0))) ∨ ∃ i j, i < n ∧ j < n ∧ a = nI i ∧ b = nI j ∧ f_X4_isPlace (nI t) (nI i) (nI j) K = some 1 ∧ f_X2_hasLine t (nI i) I = 1 ∧ f_X2_hasLine t (nI j) I = 1 := by
  have e0 : ix (nI t) 10 = true := ix_nI ht (by omega)
  have e1 : (nI t).toNatClampNeg = t := nI_clamp (by omega)
  rcases in_cases a h0 (by omega) with ⟨q1, q2⟩ | ⟨i, hi, rfl, q1⟩
  · left
    exact ⟨by simp only [f_X4_isPlace, e0, e1, hm, q1, if_true], Or.inl (hasLine_cases hx hn a q2)⟩
  · rcases in_cases b h0 (by omega) with ⟨w1, w2⟩ | ⟨j, hj, rfl, w1⟩
    · left
      exact ⟨by simp only [f_X4_isPlace, e0, e1, hm, q1, w1, if_true, if_neg v10], Or.inr ⟨hasLine_ok hx hn hi, hasLine_cases hx hn b w2⟩⟩
    · right
      exact ⟨i, j, hi, hj, rfl, rfl, by simp only [f_X4_isPlace, e0, e1, hm, q1, w1, if_true, if_neg v10], hasLine_ok hx hn hi, hasLine_ok hx hn hj⟩
theorem s_at : so_at RR := by
  intro I J K M h a1 a2 a3
  rcases T_cases h a1 with ⟨e1, e2, e3⟩ | ⟨t, ht, rfl, e1, e2, e3, e4, e5, e6, e7⟩ | ⟨t, n, A, k, ht, rfl, e1, e2, e3, e4, e5, e6, e7, h0, hA, hX, hM, hK, k1, k2⟩
  · exact ⟨-1, I, K, by simp only [f_X3_at, e1, if_true], by simp only [f_X4_at, e3, Option.bind_some, if_neg v0m1], h⟩
  · obtain ⟨I', K', y1, y2, h'⟩ := RR_found h 1 (by simp)
    refine ⟨-3, I', K', ?_, ?_, h'⟩
    · simp only [f_X3_at, e1, e3, e4, e5, y1, Option.bind_some, if_neg v10, if_true]
    · simp only [f_X4_at, e7, y2, Option.bind_some, if_neg v0m3]
  · rcases isPlace_cases hX.2.2.1 hM.2.2.1 ht h0 hX.2.1 a2 a3 with ⟨p1, p2⟩ | ⟨i, j, hi, hj, rfl, rfl, p1, p2, p3⟩
    · obtain ⟨I', K', y1, y2, h'⟩ := RR_found h 2 (by simp)
      refine ⟨-3, I', K', ?_, ?_, h'⟩
      · rcases p2 with q | ⟨q, q'⟩
        · simp only [f_X3_at, e1, e3, e4, e5, q, y1, Option.bind_some, if_neg v10, if_true]
        · simp only [f_X3_at, e1, e3, e4, e5, q, q', y1, Option.bind_some, if_neg v10, if_true]
      · simp only [f_X4_at, e7, p1, y2, Option.bind_some, if_pos v00, if_true]
    · refine ⟨1, _, _, ?_, ?_, RR_ask h (sI (A i j))⟩
      · simp only [f_X3_at, e1, e3, e4, e5, p2, p3, XT_number hA hX hi hj, Option.bind_some, if_neg v10, if_true]
      · simp only [f_X4_at, e7, p1, MT_get hM hi hj, Option.bind_some, if_pos v00, if_neg v10, f_X4_ask]
theorem s_drop : so_drop RR := by
  intro I J K M h a1
  rcases T_cases h a1 with ⟨e1, e2, e3⟩ | ⟨t, ht, rfl, e1, e2, e3, e4, e5, e6, e7⟩ | ⟨t, n, A, k, ht, rfl, e1, e2, e3, e4, e5, e6, e7, h0, hA, hX, hM, hK, k1, k2⟩
  · exact ⟨-1, I, K, by simp only [f_X3_drop, e1, if_true], by simp only [f_X4_drop, e3, Option.bind_some, if_neg v0m1], h⟩
  · obtain ⟨I', K', y1, y2, h'⟩ := RR_found h 1 (by simp)
    refine ⟨-3, I', K', ?_, ?_, h'⟩
    · simp only [f_X3_drop, e1, e3, e4, e5, y1, Option.bind_some, if_neg v10, if_true]
    · simp only [f_X4_drop, e7, y2, Option.bind_some, if_neg v0m3]
  · refine ⟨1, f_X2_end t I, wI K 5 t 0, ?_, ?_, ?_⟩
    · simp only [f_X3_drop, e1, e3, e4, e5, if_neg v10, if_true]
    · simp only [f_X4_drop, e7, e3, e4, Option.bind_some, if_pos v00, if_true]
    · refine RR_tab h ht (fun a b _ _ _ g1 g2 g3 => ?_) (fun a b _ _ g1 _ _ => wI_off (by omega)) (Or.inl ⟨?_, wI_here rfl rfl⟩)
      · unfold f_X2_end
        rw [wI_off (by omega), wI_off (by omega)]
      · unfold f_X2_end
        rw [wI_off (by omega), wI_here rfl rfl]
theorem num_cases (v : Int32) : (f_X4_isNumber v = 0 ∧ (v < -1 ∨ ¬ v ≤ 1)) ∨ ∃ z, (z = 1 ∨ z = 0 ∨ z = -1) ∧ v = sI z ∧ f_X4_isNumber v = 1 ∧ ¬ v < -1 ∧ v ≤ 1 := by
  unfold f_X4_isNumber f_X4_in
  by_cases h1 : v < -1
  · left
    exact ⟨if_pos h1, Or.inl h1⟩
  · by_cases h2 : 1 < v
    · left
      refine ⟨by rw [if_neg h1, if_pos h2], Or.inr (fun q => ?_)⟩
      rw [fa_lt] at h2
      rw [fa_le] at q
      omega
    · right
      have r1 : ¬ v.toInt < -1 := fun q => h1 ((fa_lt _ _).mpr q)
      have r2 : ¬ 1 < v.toInt := fun q => h2 ((fa_lt _ _).mpr q)
      exact ⟨v.toInt, by omega, (Int32.ofInt_toInt v).symm, by rw [if_neg h1, if_neg h2], h1, fa_of_nlt h2⟩
theorem s_set : so_set RR := by
  intro I J K M h a1 a2 a3 a4 a5 _
  rcases T_cases h a1 with ⟨e1, e2, e3⟩ | hT
  · refine ⟨-1, I, K, by simp only [f_X3_set, e1, if_true], ?_, h⟩
    by_cases g : f_X4_isNumber a4 = 0
    · simp only [f_X4_set, g, if_true]
    · simp only [f_X4_set, if_neg g, e3, Option.bind_some, if_neg v0m1]
  have e1' : f_X3_isTableNumber a1 = 1 := by
    rcases hT with ⟨t, ht, rfl, e1, _⟩ | ⟨t, n, A, k, ht, rfl, e1, _⟩ <;> exact e1
  rcases num_cases a4 with ⟨n1, n2⟩ | ⟨z, hz, rfl, n1, n2, n3⟩
  · refine ⟨-1, I, K, ?_, by simp only [f_X4_set, n1, if_true], h⟩
    rcases n2 with q | q
    · simp only [f_X3_set, e1', if_neg v10, if_pos q]
    · by_cases q2 : a4 < -1
      · simp only [f_X3_set, e1', if_neg v10, if_pos q2]
      · simp only [f_X3_set, e1', if_neg v10, if_neg q2, if_neg q]
  rcases hT with ⟨t, ht, rfl, e1, e2, e3, e4, e5, e6, e7⟩ | ⟨t, n, A, k, ht, rfl, e1, e2, e3, e4, e5, e6, e7, h0, hA, hX, hM, hK, k1, k2⟩
  · obtain ⟨I', K', y1, y2, h'⟩ := RR_found h 1 (by simp)
    refine ⟨-3, I', K', ?_, ?_, h'⟩
    · simp only [f_X3_set, e1, e3, e4, e5, y1, Option.bind_some, if_neg v10, if_true, if_neg n2, if_pos n3]
    · simp only [f_X4_set, n1, e7, y2, Option.bind_some, if_neg v0m3, if_neg v10]
  · rcases isPlace_cases hX.2.2.1 hM.2.2.1 ht h0 hX.2.1 a2 a3 with ⟨p1, p2⟩ | ⟨i, j, hi, hj, rfl, rfl, p1, p2, p3⟩
    · obtain ⟨I', K', y1, y2, h'⟩ := RR_found h 2 (by simp)
      refine ⟨-3, I', K', ?_, ?_, h'⟩
      · rcases p2 with q | ⟨q, q'⟩
        · simp only [f_X3_set, e1, e3, e4, e5, q, y1, Option.bind_some, if_neg v10, if_true, if_neg n2, if_pos n3]
        · simp only [f_X3_set, e1, e3, e4, e5, q, q', y1, Option.bind_some, if_neg v10, if_true, if_neg n2, if_pos n3]
      · simp only [f_X4_set, n1, e7, p1, y2, Option.bind_some, if_pos v00, if_true, if_neg v10]
    · obtain ⟨I1, x1, x2, x3⟩ := X_write hX hi hj hz
      obtain ⟨l1, l2⟩ := M_let hM hi hj z
      have hn := hX.2.1
      by_cases hb : a5 = 0
      · obtain ⟨k, I'', K'', z1, z2, z3⟩ := fin_tab h ht h0 (tri_up hA hz) x2 l2 (fun a b _ _ _ g1 g2 g3 => x3 a b g2 g3) (fun a b _ _ g1 g2 g3 => wI_off (by omega))
        refine ⟨k, I'', K'', ?_, ?_, z3⟩
        · simp only [f_X3_set, e1, e3, e4, e5, p2, p3, x1, z1, hb, Option.bind_some, if_neg v10, if_true, if_neg n2, if_pos n3]
        · simp only [f_X4_set, n1, e7, p1, l1, z2, hb, Option.bind_some, if_pos v00, if_true, if_neg v10]
      · obtain ⟨I2, w1, w2, w3⟩ := X_write x2 hj hi hz
        obtain ⟨m1, m2⟩ := M_let l2 hj hi z
        obtain ⟨k, I'', K'', z1, z2, z3⟩ := fin_tab h ht h0 (tri_up (tri_up hA hz) hz) w2 m2 (fun a b _ _ _ g1 g2 g3 => by rw [w3 a b g2 g3, x3 a b g2 g3]) (fun a b _ _ g1 g2 g3 => by rw [wI_off (by omega), wI_off (by omega)])
        refine ⟨k, I'', K'', ?_, ?_, z3⟩
        · simp only [f_X3_set, e1, e3, e4, e5, p2, p3, x1, w1, z1, if_neg hb, Option.bind_some, if_neg v10, if_true, if_neg n2, if_pos n3]
        · simp only [f_X4_set, n1, e7, p1, l1, m1, z2, if_neg hb, Option.bind_some, if_pos v00, if_neg v10]
theorem s_balanced : so_balanced RR := by
  intro I J K M h a1
  rcases T_cases h a1 with ⟨e1, e2, e3⟩ | ⟨t, ht, rfl, e1, e2, e3, e4, e5, e6, e7⟩ | ⟨t, n, A, k, ht, rfl, e1, e2, e3, e4, e5, e6, e7, h0, hA, hX, hM, hK, k1, k2⟩
  · exact ⟨-1, I, K, by simp only [f_X3_balanced, e1, if_true], by simp only [f_X4_balanced, e3, Option.bind_some, if_neg v0m1], h⟩
  · obtain ⟨I', K', y1, y2, h'⟩ := RR_found h 1 (by simp)
    refine ⟨-3, I', K', ?_, ?_, h'⟩
    · simp only [f_X3_balanced, e1, e3, e4, e5, y1, Option.bind_some, if_neg v10, if_true]
    · simp only [f_X4_balanced, e7, y2, Option.bind_some, if_neg v0m3]
  · refine ⟨nI (bpN A n), I, K, ?_, ?_, h⟩
    · simp only [f_X3_balanced, e1, e3, e4, e5, X_balancedPairs hA hX, Option.bind_some, if_neg v10, if_true]
    · simp only [f_X4_balanced, e7, M_pairs hA hM, Option.bind_some, if_pos v00]
