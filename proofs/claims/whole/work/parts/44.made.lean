-- ===== a table that was built comes to a place =====
theorem M_take {K : zMi} {t n : Nat} {G : Nat → Nat → Int} (ht : t < 10) (hn : n ≤ 12) (hG : ∀ i j, i < n → j < n → K 8 (12 * i + j) = sI (G i j)) : ∃ K', f_X4_take (nI t) (nI n) K = (f_X4_setKind (nI t) K').bind (fun x2 => some (x2.1, x2.2)) ∧ MT K' t n G ∧ ∀ a b, (a = 5 → b ≠ t) → (a = 6 → b < 144 * t ∨ 144 * t + 144 ≤ b) → K' a b = K a b := by
  unfold f_X4_take
  rw [ix_nI ht (by omega), if_pos rfl, nI_clamp (by omega)]
  have fr0 : ∀ {K' : zMi}, mfr t (wI K 5 t (nI n)) K' → ∀ a b, (a = 5 → b ≠ t) → (a = 6 → b < 144 * t ∨ 144 * t + 144 ≤ b) → K' a b = K a b := fun h a b h1 h2 => by rw [h a b h2, wI_off (by omega)]
  have e12 : ∀ i k : Nat, 12 * nI i + nI k = nI (12 * i + k) := fun i k => by
    rw [show (12 : Int32) = nI 12 from rfl, pk_mul, nI_add]
  refine lp (fun f i K => f_X4_take_9 f (nI t) (nI n) i K) n 0 (by omega) (by rw [fu_val]; omega) (fun i K' => MT K' t n (fil G (fun i j => ((wI K 5 t (nI n)) 6 (144 * t + 12 * i + j)).toInt) i 0) ∧ mfr t (wI K 5 t (nI n)) K') (fun res => ∃ K', res = (f_X4_setKind (nI t) K').bind (fun x2 => some (x2.1, x2.2)) ∧ MT K' t n G ∧ ∀ a b, (a = 5 → b ≠ t) → (a = 6 → b < 144 * t ∨ 144 * t + 144 ≤ b) → K' a b = K a b) ?_ ?_ _ ?_
  · intro f s ⟨h1, h2⟩
    refine ⟨s, ?_, MT_congA h1 fil_all, fr0 h2⟩
    show f_X4_take_9 (f + 1) (nI t) (nI n) (nI n) s = _
    rw [f_X4_take_9, if_pos (nI_le (Nat.le_refl _) (by omega))]
  · intro f i s _ hi ⟨h1, h2⟩
    left
    show ∃ s', f_X4_take_9 (f + 1) (nI t) (nI n) (nI i) s = f_X4_take_9 f (nI t) (nI n) (nI (i + 1)) s' ∧ _
    rw [f_X4_take_9, if_neg (nI_ge hi (by omega))]
    refine lp (fun g j K => f_X4_take_17 (f_X4_take_9 f) g (nI t) (nI n) (nI i) j K) n 0 (by omega) (by rw [fu_val]; omega) (fun k K' => MT K' t n (fil G (fun i j => ((wI K 5 t (nI n)) 6 (144 * t + 12 * i + j)).toInt) i k) ∧ mfr t (wI K 5 t (nI n)) K') (fun res => ∃ s', res = f_X4_take_9 f (nI t) (nI n) (nI (i + 1)) s' ∧ MT s' t n (fil G (fun i j => ((wI K 5 t (nI n)) 6 (144 * t + 12 * i + j)).toInt) (i + 1) 0) ∧ mfr t (wI K 5 t (nI n)) s') ?_ ?_ _ ⟨h1, h2⟩
    · intro g s ⟨h3, h4⟩
      refine ⟨s, ?_, MT_congA h3 fil_next, h4⟩
      show f_X4_take_17 (f_X4_take_9 f) (g + 1) (nI t) (nI n) (nI i) (nI n) s = _
      rw [f_X4_take_17, if_pos (nI_le (Nat.le_refl _) (by omega)), nI_1]
    · intro g k s _ hk ⟨h3, h4⟩
      left
      obtain ⟨l1, l2⟩ := M_let h3 hi hk (G i k)
      have v : s 8 (12 * i + k) = sI (G i k) := by rw [fr0 h4 _ _ (by omega) (by omega), hG i k hi hk]
      refine ⟨_, ?_, ?_, mfr_let h4 (show i < 12 by omega) (show k < 12 by omega) (sI (G i k))⟩
      · show f_X4_take_17 (f_X4_take_9 f) (g + 1) (nI t) (nI n) (nI i) (nI k) s = f_X4_take_17 (f_X4_take_9 f) g (nI t) (nI n) (nI i) (nI (k + 1)) _
        rw [f_X4_take_17, if_neg (nI_ge hk (by omega)), e12, ix_nI (by omega) (by omega), if_pos rfl, nI_clamp (by omega), v, l1, Option.bind_some, nI_1]
      · rw [fil_step G] at l2
        exact l2
  · rw [fil_0]
    exact ⟨MT_any ht hn (wI_here rfl rfl), fun _ _ _ => rfl⟩
theorem e12 (i k : Nat) : 12 * nI i + nI k = nI (12 * i + k) := by
  rw [show (12 : Int32) = nI 12 from rfl, pk_mul, nI_add]
theorem b12 {G : Nat → Nat → Int} {s : zMi} {i k n : Nat} (hk : k < 12) (h : ∀ a b, a < n → b < n → (a < i ∨ (a = i ∧ b < k)) → s 8 (12 * a + b) = sI (G a b)) (hn : n ≤ 12) : ∀ a b, a < n → b < n → (a < i ∨ (a = i ∧ b < k + 1)) → (wI s 8 (12 * i + k) (sI (G i k))) 8 (12 * a + b) = sI (G a b) := by
  intro a b ha hb hab
  by_cases g : a = i ∧ b = k
  · rw [wI_here rfl (by rw [g.1, g.2]), g.1, g.2]
  · rw [wI_off (by omega), h a b ha hb (by omega)]
-- ===== times =====
theorem tri_mul {x y : Int} (hx : x = 1 ∨ x = 0 ∨ x = -1) (hy : y = 1 ∨ y = 0 ∨ y = -1) : x * y = 1 ∨ x * y = 0 ∨ x * y = -1 := by
  rcases hx with rfl | rfl | rfl <;> rcases hy with rfl | rfl | rfl <;> decide
theorem s_times : so_times RR := by
  intro I J K M h a1 a2 a3
  rcases T_cases h a1 with ⟨e1, e2, e3⟩ | hT1
  · exact ⟨-1, I, K, by simp only [f_X3_times, e1, if_true], by simp only [f_X4_times, e2, if_true], h⟩
  have q1 : f_X3_isTableNumber a1 = 1 ∧ f_X4_isTable a1 = 1 := by
    rcases hT1 with ⟨t, ht, rfl, e1, e2, _⟩ | ⟨t, n, A, k, ht, rfl, e1, e2, _⟩ <;> exact ⟨e1, e2⟩
  rcases T_cases h a2 with ⟨e1, e2, e3⟩ | hT2
  · exact ⟨-1, I, K, by simp only [f_X3_times, q1.1, e1, if_neg v10, if_true], by simp only [f_X4_times, q1.2, e2, if_neg v10, if_true], h⟩
  have q2 : f_X3_isTableNumber a2 = 1 ∧ f_X4_isTable a2 = 1 := by
    rcases hT2 with ⟨t, ht, rfl, e1, e2, _⟩ | ⟨t, n, A, k, ht, rfl, e1, e2, _⟩ <;> exact ⟨e1, e2⟩
  rcases tn_cases a3 with ⟨e1, e2⟩ | ⟨w, hw, rfl, d1, d2, d3, d4⟩
  · exact ⟨-1, I, K, by simp only [f_X3_times, q1.1, q2.1, e1, if_neg v10, if_true], by simp only [f_X4_times, q1.2, q2.2, e2, if_neg v10, if_true], h⟩
  obtain ⟨I1, K1, y1, y2, h1⟩ := RR_found h 1 (by simp)
  rcases hT1 with ⟨t, ht, rfl, e1, e2, e3, e4, e5, e6, e7⟩ | ⟨t, n, A, k, ht, rfl, e1, e2, e3, e4, e5, e6, e7, h0, hA, hX, hM, hK, k1, k2⟩
  · refine ⟨-3, I1, K1, ?_, ?_, h1⟩
    · rcases hT2 with ⟨u, hu, rfl, g1, g2, g3, g4, g5, g6, g7⟩ | ⟨u, m, B, l, hu, rfl, g1, g2, g3, g4, g5, g6, g7, hT⟩
      · simp only [f_X3_times, q1.1, q2.1, d1, e3, e4, e5, g3, y1, Option.bind_some, if_neg v10, if_true]
      · simp only [f_X3_times, q1.1, q2.1, d1, e3, e4, e5, g3, y1, Option.bind_some, if_neg v10, if_true]
    · simp only [f_X4_times, q1.2, q2.2, d2, e3, e4, e6, y2, Option.bind_some, if_neg v10, if_true]
  · rcases hT2 with ⟨u, hu, rfl, g1, g2, g3, g4, g5, g6, g7⟩ | ⟨u, m, B, l, hu, rfl, g1, g2, g3, g4, g5, g6, g7, m0, hB, hY, hN, hL, l1, l2⟩
    · refine ⟨-3, I1, K1, ?_, ?_, h1⟩
      · simp only [f_X3_times, q1.1, q2.1, d1, e3, e4, e5, g3, g4, g5, y1, Option.bind_some, if_neg v10, if_true]
      · simp only [f_X4_times, q1.2, q2.2, d2, e3, e4, if_neg e6, g3, g4, g6, y2, Option.bind_some, if_neg v10, if_true]
    · have hn := hX.2.1
      have hm := hY.2.1
      have w1 : I (22 + 3 * t) 2 = nI n := hX.2.2.1
      have w2 : K 5 t = nI n := hM.2.2.1
      have v1 : I (22 + 3 * u) 2 = nI m := hY.2.2.1
      have v2 : K 5 u = nI m := hN.2.2.1
      have nz : ¬ nI n = 0 := nI_ne0 h0 (by omega)
      have mz : ¬ nI m = 0 := nI_ne0 m0 (by omega)
      have hnm : n * m ≤ 144 := Nat.le_trans (Nat.mul_le_mul hn hm) (by omega)
      by_cases big : n * m ≤ 12
      · have bg : nI n * nI m ≤ 12 := by rw [pk_mul]; exact nI_le (b := 12) big (by omega)
        have hnm0 : 0 < n * m := Nat.mul_pos h0 m0
        have hG : tri (fun a b => A (a / m) (b / m) * B (a % m) (b % m)) := fun a b => tri_mul (hA _ _) (hB _ _)
        have dv : ∀ i, i < n * m → i / m < n ∧ i % m < m := fun i hi => ⟨Nat.div_lt_of_lt_mul (by rw [Nat.mul_comm]; exact hi), Nat.mod_lt _ m0⟩
        have cls : ∃ I', f_X2_beginProduct 10 t u I = some I' ∧ XT I' 10 (n * m) (fun a b => A (a / m) (b / m) * B (a % m) (b % m)) ∧ ∀ a b, a ≠ 52 → a ≠ 53 → a ≠ 54 → I' a b = I a b := by
          unfold f_X2_beginProduct
          rw [w1, v1, pk_mul]
          obtain ⟨I0, b1, b2, b3⟩ := X_begin (T := 10) (by omega) big I
          rw [b1, Option.bind_some]
          have old : ∀ s : zMi, (∀ a b, a ≠ 52 → a ≠ 53 → a ≠ 54 → s a b = I a b) → XT s t n A ∧ XT s u m B := fun s hs => ⟨XT_cong (hs _ _ (by omega) (by omega) (by omega)) (fun b => hs _ _ (by omega) (by omega) (by omega)) (fun b => hs _ _ (by omega) (by omega) (by omega)) hX, XT_cong (hs _ _ (by omega) (by omega) (by omega)) (fun b => hs _ _ (by omega) (by omega) (by omega)) (fun b => hs _ _ (by omega) (by omega) (by omega)) hY⟩
          refine lp (fun f i I => f_X2_beginProduct_18 f 10 t u (nI m) i I) (n * m) 0 (by omega) (by rw [fu_val]; omega) (fun i I' => XT I' 10 (n * m) (fil (fun a b => A (a / m) (b / m) * B (a % m) (b % m)) (fun _ _ => 1) i 0) ∧ ∀ a b, a ≠ 52 → a ≠ 53 → a ≠ 54 → I' a b = I a b) (fun res => ∃ I', res = some I' ∧ XT I' 10 (n * m) (fun a b => A (a / m) (b / m) * B (a % m) (b % m)) ∧ ∀ a b, a ≠ 52 → a ≠ 53 → a ≠ 54 → I' a b = I a b) ?_ ?_ _ ?_
          · intro f s ⟨s1, s2⟩
            refine ⟨s, ?_, XT_congA s1 fil_all, s2⟩
            show f_X2_beginProduct_18 (f + 1) 10 t u (nI m) (nI (n * m)) s = _
            rw [f_X2_beginProduct_18, s1.2.2.1, if_pos (nI_le (Nat.le_refl _) (by omega))]
          · intro f i s _ hi ⟨s1, s2⟩
            left
            show ∃ s', f_X2_beginProduct_18 (f + 1) 10 t u (nI m) (nI i) s = f_X2_beginProduct_18 f 10 t u (nI m) (nI (i + 1)) s' ∧ _
            rw [f_X2_beginProduct_18, s1.2.2.1, if_neg (nI_ge hi (by omega))]
            refine lp (fun g j I => f_X2_beginProduct_30 (f_X2_beginProduct_18 f) g 10 t u (nI m) (nI i) j I) (n * m) 0 (by omega) (by rw [fu_val]; omega) (fun k I' => XT I' 10 (n * m) (fil (fun a b => A (a / m) (b / m) * B (a % m) (b % m)) (fun _ _ => 1) i k) ∧ ∀ a b, a ≠ 52 → a ≠ 53 → a ≠ 54 → I' a b = I a b) (fun res => ∃ s', res = f_X2_beginProduct_18 f 10 t u (nI m) (nI (i + 1)) s' ∧ XT s' 10 (n * m) (fil (fun a b => A (a / m) (b / m) * B (a % m) (b % m)) (fun _ _ => 1) (i + 1) 0) ∧ ∀ a b, a ≠ 52 → a ≠ 53 → a ≠ 54 → s' a b = I a b) ?_ ?_ _ ⟨s1, s2⟩
            · intro g s ⟨u1, u2⟩
              refine ⟨s, ?_, XT_congA u1 fil_next, u2⟩
              show f_X2_beginProduct_30 (f_X2_beginProduct_18 f) (g + 1) 10 t u (nI m) (nI i) (nI (n * m)) s = _
              rw [f_X2_beginProduct_30, u1.2.2.1, if_pos (nI_le (Nat.le_refl _) (by omega)), nI_1]
            · intro g k s _ hk ⟨u1, u2⟩
              left
              obtain ⟨s', r1, r2, r3⟩ := X_write u1 hi hk (hG i k)
              refine ⟨s', ?_, ?_, fun a b ha hb hc => by rw [r3 a b hb hc, u2 a b ha hb hc]⟩
              · show f_X2_beginProduct_30 (f_X2_beginProduct_18 f) (g + 1) 10 t u (nI m) (nI i) (nI k) s = f_X2_beginProduct_30 (f_X2_beginProduct_18 f) g 10 t u (nI m) (nI i) (nI (k + 1)) s'
                rw [f_X2_beginProduct_30, u1.2.2.1, if_neg (nI_ge hk (by omega)), if_neg mz, pk_rem (by omega) m0 (by omega), pk_rem (by omega) m0 (by omega), pk_div (by omega) m0 (by omega), pk_div (by omega) m0 (by omega), XT_number hA (old s u2).1 (dv i hi).1 (dv k hk).1, Option.bind_some, XT_number hB (old s u2).2 (dv i hi).2 (dv k hk).2, Option.bind_some, sI_mul, r1, Option.bind_some, nI_1]
              · have := fil_step (fun a b => A (a / m) (b / m) * B (a % m) (b % m)) (fun _ _ => 1) i k
                rw [this] at r2
                exact r2
          · rw [fil_0]
            exact ⟨b2, fun a b ha hb hc => b3 a b ha hb hc⟩
        have mod : ∃ K', f_X4_times_82 fu (nI t) (nI u) (nI w) (nI m) (nI (n * m)) 0 K = (f_X4_take (nI w) (nI (n * m)) K').bind (fun x2 => some (x2.1, x2.2)) ∧ (∀ a b, a < n * m → b < n * m → K' 8 (12 * a + b) = sI (A (a / m) (b / m) * B (a % m) (b % m))) ∧ ∀ a b, a ≠ 8 → K' a b = K a b := by
          refine lp (fun f i K => f_X4_times_82 f (nI t) (nI u) (nI w) (nI m) (nI (n * m)) i K) (n * m) 0 (by omega) (by rw [fu_val]; omega) (fun i K' => (∀ a b, a < n * m → b < n * m → (a < i ∨ (a = i ∧ b < 0)) → K' 8 (12 * a + b) = sI (A (a / m) (b / m) * B (a % m) (b % m))) ∧ ∀ a b, a ≠ 8 → K' a b = K a b) (fun res => ∃ K', res = (f_X4_take (nI w) (nI (n * m)) K').bind (fun x2 => some (x2.1, x2.2)) ∧ (∀ a b, a < n * m → b < n * m → K' 8 (12 * a + b) = sI (A (a / m) (b / m) * B (a % m) (b % m))) ∧ ∀ a b, a ≠ 8 → K' a b = K a b) ?_ ?_ _ ?_
          · intro f s ⟨s1, s2⟩
            refine ⟨s, ?_, fun a b ha hb => s1 a b ha hb (Or.inl ha), s2⟩
            show f_X4_times_82 (f + 1) (nI t) (nI u) (nI w) (nI m) (nI (n * m)) (nI (n * m)) s = _
            rw [f_X4_times_82, if_pos (nI_le (Nat.le_refl _) (by omega))]
          · intro f i s _ hi ⟨s1, s2⟩
            left
            show ∃ s', f_X4_times_82 (f + 1) (nI t) (nI u) (nI w) (nI m) (nI (n * m)) (nI i) s = f_X4_times_82 f (nI t) (nI u) (nI w) (nI m) (nI (n * m)) (nI (i + 1)) s' ∧ _
            rw [f_X4_times_82, if_neg (nI_ge hi (by omega))]
            refine lp (fun g j K => f_X4_times_92 (f_X4_times_82 f) g (nI t) (nI u) (nI w) (nI m) (nI (n * m)) (nI i) j K) (n * m) 0 (by omega) (by rw [fu_val]; omega) (fun k K' => (∀ a b, a < n * m → b < n * m → (a < i ∨ (a = i ∧ b < k)) → K' 8 (12 * a + b) = sI (A (a / m) (b / m) * B (a % m) (b % m))) ∧ ∀ a b, a ≠ 8 → K' a b = K a b) (fun res => ∃ s', res = f_X4_times_82 f (nI t) (nI u) (nI w) (nI m) (nI (n * m)) (nI (i + 1)) s' ∧ (∀ a b, a < n * m → b < n * m → (a < i + 1 ∨ (a = i + 1 ∧ b < 0)) → s' 8 (12 * a + b) = sI (A (a / m) (b / m) * B (a % m) (b % m))) ∧ ∀ a b, a ≠ 8 → s' a b = K a b) ?_ ?_ _ ⟨s1, s2⟩
            · intro g s ⟨u1, u2⟩
              refine ⟨s, ?_, fun a b ha hb hab => u1 a b ha hb (by omega), u2⟩
              show f_X4_times_92 (f_X4_times_82 f) (g + 1) (nI t) (nI u) (nI w) (nI m) (nI (n * m)) (nI i) (nI (n * m)) s = _
              rw [f_X4_times_92, if_pos (nI_le (Nat.le_refl _) (by omega)), nI_1]
            · intro g k s _ hk ⟨u1, u2⟩
              left
              have o1 : MT s t n A := MT_cong (u2 _ _ (by omega)) (fun q _ => u2 _ _ (by omega)) hM
              have o2 : MT s u m B := MT_cong (u2 _ _ (by omega)) (fun q _ => u2 _ _ (by omega)) hN
              refine ⟨wI s 8 (12 * i + k) (sI (A (i / m) (k / m) * B (i % m) (k % m))), ?_, b12 (G := fun a b => A (a / m) (b / m) * B (a % m) (b % m)) (by omega) u1 big, fun a b ha => by rw [wI_off (by omega), u2 a b ha]⟩
              show f_X4_times_92 (f_X4_times_82 f) (g + 1) (nI t) (nI u) (nI w) (nI m) (nI (n * m)) (nI i) (nI k) s = f_X4_times_92 (f_X4_times_82 f) g (nI t) (nI u) (nI w) (nI m) (nI (n * m)) (nI i) (nI (k + 1)) _
              rw [f_X4_times_92, if_neg (nI_ge hk (by omega)), if_neg mz, pk_rem (by omega) m0 (by omega), pk_rem (by omega) m0 (by omega), pk_div (by omega) m0 (by omega), pk_div (by omega) m0 (by omega), MT_get o1 (dv i hi).1 (dv k hk).1, Option.bind_some, MT_get o2 (dv i hi).2 (dv k hk).2, Option.bind_some, sI_mul, e12, ix_nI (by omega) (by omega), if_pos rfl, nI_clamp (by omega), nI_1]
          · exact ⟨fun a b _ _ hab => by omega, fun _ _ _ => rfl⟩
        obtain ⟨Ia, x1, x2, x3⟩ := cls
        obtain ⟨Ib, z1, z2, z3⟩ := X_take (T := w) (U := 10) (by omega) (by omega) x2
        obtain ⟨Ka, m1, m2, m3⟩ := mod
        obtain ⟨Kb, r1, r2, r3⟩ := M_take hw big m2
        obtain ⟨k, I'', K'', t1, t2, t3⟩ := fin_tab h hw hnm0 hG z2 r2 (fun a b q0 _ _ q1 q2 q3 => by rw [z3 a b q1 q2 q3, x3 a b (by omega) (by omega) (by omega)]) (fun a b q0 _ q1 q2 q3 => by rw [r3 a b q1 q3, m3 a b (by omega)])
        refine ⟨k, I'', K'', ?_, ?_, t3⟩
        · simp only [f_X3_times, q1.1, q2.1, d1, d3, d4, e3, e4, e5, g3, g4, g5, w1, v1, if_pos bg, x1, z1, t1, Option.bind_some, if_neg v10, if_true]
        · simp only [f_X4_times, q1.2, q2.2, d2, e3, e4, w2, if_neg nz, g3, g4, v2, if_neg mz, if_pos bg, if_neg v10, if_true]
          rw [pk_mul, m1, r1, t2]
          rfl
      · have bg : ¬ nI n * nI m ≤ 12 := by rw [pk_mul]; exact nI_ge (a := 12) (by omega) (by omega)
        obtain ⟨I5, K5, z1, z2, h5⟩ := RR_found h 5 (by simp)
        refine ⟨-3, I5, K5, ?_, ?_, h5⟩
        · simp only [f_X3_times, q1.1, q2.1, d1, e3, e4, e5, g3, g4, g5, w1, v1, if_neg bg, z1, Option.bind_some, if_neg v10, if_true]
        · simp only [f_X4_times, q1.2, q2.2, d2, e3, e4, w2, if_neg nz, g3, g4, v2, if_neg mz, if_neg bg, z2, Option.bind_some, if_neg v10, if_true]
