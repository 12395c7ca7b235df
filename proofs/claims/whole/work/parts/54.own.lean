-- ===== own =====
def qq (c : Nat → Int64) (x : Int64) (d : Nat) : Nat → Int64
  | 0 => 0
  | m + 1 => c (d - m) + qq c x d m * x
theorem qq_cong {c c' : Nat → Int64} {x : Int64} {d : Nat} (h : ∀ k, k ≤ d → c k = c' k) : ∀ m, qq c x d m = qq c' x d m
  | 0 => rfl
  | m + 1 => by rw [qq, qq, qq_cong h m, h _ (by omega)]
def dn : Nat → Int32
  | 0 => -1
  | k + 1 => nI k
theorem dn_step : ∀ k, nI k + (-1) = dn k
  | 0 => by decide
  | k + 1 => pk_m1 k
theorem dn_neg : dn 0 < 0 := by decide
theorem X_valueAt {I : zMi} {J : zMl} {d : Nat} (hd : d ≤ 12) (x : Int32) (h3 : I 3 3 = nI d) : f_X0_valueAt x I J = some (qq (J 4) x.toInt64 d (d + 1)) := by
  unfold f_X0_valueAt
  have key : ∀ (r fuel m : Nat), m + r = d + 1 → r < fuel → f_X0_valueAt_8 I J fuel x (qq (J 4) x.toInt64 d m) (dn r) = some (qq (J 4) x.toInt64 d (d + 1)) := by
    intro r
    induction r with
    | zero =>
      intro fuel m hm hf
      obtain ⟨f, rfl⟩ : ∃ f, fuel = f + 1 := ⟨fuel - 1, by omega⟩
      rw [f_X0_valueAt_8, if_pos dn_neg, show m = d + 1 by omega]
    | succ r ih =>
      intro fuel m hm hf
      obtain ⟨f, rfl⟩ : ∃ f, fuel = f + 1 := ⟨fuel - 1, by omega⟩
      show f_X0_valueAt_8 I J (f + 1) x _ (nI r) = _
      rw [f_X0_valueAt_8, if_neg (nI_pos (by omega)), ix_nI (by omega) (by omega), if_pos rfl, nI_clamp (by omega), dn_step, ← ih f (m + 1) (by omega) (by omega), qq, show d - m = r by omega, Int64.add_comm]
  rw [h3]
  exact key (d + 1) fu 0 (by omega) (by rw [fu_val]; omega)
theorem X_divideBy {I : zMi} {J : zMl} {d : Nat} (hd : d ≤ 12) (x : Int32) (h3 : I 3 3 = nI d) : ∃ J', f_X0_divideBy x I J = some (wI I 3 3 (nI d - 1), J') ∧ (∀ k, k ≤ d → J' 4 k = qq (J 4) x.toInt64 d (d - k)) ∧ ∀ a b, a ≠ 4 → J' a b = J a b := by
  unfold f_X0_divideBy
  have key : ∀ (r fuel m : Nat) (s : zMl), m + r = d + 1 → r < fuel → (∀ k, k < r → s 4 k = J 4 k) → (∀ k, r ≤ k → k ≤ d → s 4 k = qq (J 4) x.toInt64 d (d - k)) → (∀ a b, a ≠ 4 → s a b = J a b) → ∃ J', f_X0_divideBy_8 fuel x (qq (J 4) x.toInt64 d m) (dn r) I s = some (wI I 3 3 (nI d - 1), J') ∧ (∀ k, k ≤ d → J' 4 k = qq (J 4) x.toInt64 d (d - k)) ∧ ∀ a b, a ≠ 4 → J' a b = J a b := by
    intro r
    induction r with
    | zero =>
      intro fuel m s hm hf s1 s2 s3
      obtain ⟨f, rfl⟩ : ∃ f, fuel = f + 1 := ⟨fuel - 1, by omega⟩
      refine ⟨s, ?_, fun k hk => s2 k (by omega) hk, s3⟩
      rw [f_X0_divideBy_8, if_pos dn_neg, h3]
    | succ r ih =>
      intro fuel m s hm hf s1 s2 s3
      obtain ⟨f, rfl⟩ : ∃ f, fuel = f + 1 := ⟨fuel - 1, by omega⟩
      show ∃ J', f_X0_divideBy_8 (f + 1) x _ (nI r) I s = _ ∧ _
      have e : s 4 r + x.toInt64 * qq (J 4) x.toInt64 d m = qq (J 4) x.toInt64 d (m + 1) := by
        rw [qq, s1 r (by omega), show d - m = r by omega, Int64.mul_comm]
      rw [f_X0_divideBy_8, if_neg (nI_pos (by omega)), ix_nI (by omega) (by omega), if_pos rfl, nI_clamp (by omega), dn_step, e]
      refine ih f (m + 1) _ (by omega) (by omega) (fun k hk => by rw [wJ_off (by omega), s1 k (by omega)]) (fun k h1 h2 => ?_) (fun a b ha => by rw [wJ_off (by omega), s3 a b ha])
      by_cases g : k = r
      · rw [wJ_here rfl g, show d - k = m by omega]
      · rw [wJ_off (by omega), s2 k (by omega) h2]
  rw [h3]
  exact key (d + 1) fu 0 J (by omega) (by rw [fu_val]; omega) (fun _ _ => rfl) (fun k h1 h2 => by omega) (fun _ _ _ => rfl)
theorem M_divides {M : zMl} {d : Nat} (hd : d ≤ 12) (x : Int32) : (¬ qq (M 16) x.toInt64 d (d + 1) = 0 → ∃ M', f_X4_divides (nI d) x M = some (0, M') ∧ ∀ a b, a ≠ 16 → a ≠ 17 → M' a b = M a b) ∧ (qq (M 16) x.toInt64 d (d + 1) = 0 → ∃ M', f_X4_divides (nI d) x M = some (1, M') ∧ (∀ k, k < d → M' 16 k = qq (M 16) x.toInt64 d (d - k)) ∧ ∀ a b, a ≠ 16 → a ≠ 17 → M' a b = M a b) := by
  have key : ∀ (r fuel m : Nat) (s : zMl), m + r = d → r < fuel → (∀ k, r ≤ k → k < d → s 17 k = qq (M 16) x.toInt64 d (d - k)) → (∀ a b, a ≠ 17 → s a b = M a b) → ∃ s', f_X4_divides_5 fuel (nI d) x (qq (M 16) x.toInt64 d m) (nI r) s = (if lg_cmp (qq (M 16) x.toInt64 d (d + 1)) 0 = 0 then f_X4_divides_60 fu (nI d) 0 s' else some (0, s')) ∧ (∀ k, k < d → s' 17 k = qq (M 16) x.toInt64 d (d - k)) ∧ ∀ a b, a ≠ 17 → s' a b = M a b := by
    intro r
    induction r with
    | zero =>
      intro fuel m s hm hf s1 s2
      obtain ⟨f, rfl⟩ : ∃ f, fuel = f + 1 := ⟨fuel - 1, by omega⟩
      refine ⟨s, ?_, fun k hk => s1 k (by omega) hk, s2⟩
      have hm' : m = d := by omega
      subst hm'
      rw [f_X4_divides_5, if_pos (show nI 0 ≤ 0 by decide), show (0 : Int32).toNatClampNeg = 0 from rfl, s2 16 0 (by omega)]
      have e : qq (M 16) x.toInt64 m (m + 1) = M 16 0 + qq (M 16) x.toInt64 m m * x.toInt64 := by rw [qq, Nat.sub_self]
      rw [e]
    | succ r ih =>
      intro fuel m s hm hf s1 s2
      obtain ⟨f, rfl⟩ : ∃ f, fuel = f + 1 := ⟨fuel - 1, by omega⟩
      have e : s 16 (r + 1) + qq (M 16) x.toInt64 d m * x.toInt64 = qq (M 16) x.toInt64 d (m + 1) := by
        rw [qq, s2 16 _ (by omega), show d - m = r + 1 by omega]
      rw [f_X4_divides_5, if_neg (nI_nle (by omega) (by omega)), ix_nI (by omega) (by omega), if_pos rfl, show nI (r + 1) - 1 = nI r from pk_sub (b := 1) (by omega), ix_nI (by omega) (by omega), if_pos rfl, nI_clamp (by omega), nI_clamp (by omega), pk_m1, e]
      refine ih f (m + 1) _ (by omega) (by omega) (fun k h1 h2 => ?_) (fun a b ha => by rw [wJ_off (by omega), s2 a b ha])
      by_cases g : k = r
      · rw [wJ_here rfl g, show d - k = m + 1 by omega]
      · rw [wJ_off (by omega), s1 k (by omega) h2]
  obtain ⟨s, z1, z2, z3⟩ := key d fu 0 M (by omega) (by rw [fu_val]; omega) (fun k h1 h2 => by omega) (fun _ _ _ => rfl)
  have z1' : f_X4_divides (nI d) x M = (if lg_cmp (qq (M 16) x.toInt64 d (d + 1)) 0 = 0 then f_X4_divides_60 fu (nI d) 0 s else some (0, s)) := z1
  constructor
  · intro hne
    refine ⟨s, ?_, fun a b _ h17 => z3 a b h17⟩
    rw [z1', if_neg (fun q => hne ((lg_cmp_eq _ _).mp q))]
  · intro heq
    rw [z1', if_pos ((lg_cmp_eq _ _).mpr heq)]
    refine lp (fun f k (J : zMl) => f_X4_divides_60 f (nI d) k J) d 0 (by omega) (by rw [fu_val]; omega) (fun k J' => (∀ q, q < k → J' 16 q = qq (M 16) x.toInt64 d (d - q)) ∧ (∀ q, q < d → J' 17 q = qq (M 16) x.toInt64 d (d - q)) ∧ ∀ a b, a ≠ 16 → a ≠ 17 → J' a b = M a b) (fun res => ∃ M', res = some (1, M') ∧ (∀ k, k < d → M' 16 k = qq (M 16) x.toInt64 d (d - k)) ∧ ∀ a b, a ≠ 16 → a ≠ 17 → M' a b = M a b) ?_ ?_ _ ⟨fun q hq => by omega, z2, fun a b _ h17 => z3 a b h17⟩
    · intro f w ⟨w1, w2, w3⟩
      refine ⟨w, ?_, w1, w3⟩
      show f_X4_divides_60 (f + 1) (nI d) (nI d) w = _
      rw [f_X4_divides_60, if_pos (nI_le (Nat.le_refl _) (by omega))]
    · intro f k w _ hk ⟨w1, w2, w3⟩
      left
      refine ⟨wJ w 16 k (w 17 k), ?_, fun q hq => ?_, fun q hq => by rw [wJ_off (by omega), w2 q hq], fun a b h1 h2 => by rw [wJ_off (by omega), w3 a b h1 h2]⟩
      · show f_X4_divides_60 (f + 1) (nI d) (nI k) w = f_X4_divides_60 f (nI d) (nI (k + 1)) _
        rw [f_X4_divides_60, if_neg (nI_ge hk (by omega)), ix_nI (by omega) (by omega), if_pos rfl, nI_clamp (by omega), nI_1]
      · by_cases g : q = k
        · rw [wJ_here rfl g, w2 k hk, g]
        · rw [wJ_off (by omega), w1 q (by omega)]
theorem roots_eq (x : Int32) (K : zMi) : ∀ (d o f1 f2 : Nat) (I : zMi) (J M : zMl), d ≤ 12 → d < f1 → d < f2 → I 3 3 = nI d → (∀ k, k ≤ d → J 4 k = M 16 k) → ∃ r I' J' M', f_X0_takeRoots_7 f1 x (nI o) (nI d) I J = some (r, I', J') ∧ f_X4_own_41 f2 x (nI d) (nI o) K M = some (r, K, M') ∧ (∀ a b, a ≠ 3 → I' a b = I a b) ∧ (∀ a b, a ≠ 4 → J' a b = J a b) ∧ ∀ a b, a ≠ 16 → a ≠ 17 → M' a b = M a b
  | 0, o, f1, f2, I, J, M, _, h1, h2, _, _ => by
    obtain ⟨f, rfl⟩ : ∃ f, f1 = f + 1 := ⟨f1 - 1, by omega⟩
    obtain ⟨g, rfl⟩ : ∃ f, f2 = f + 1 := ⟨f2 - 1, by omega⟩
    refine ⟨nI o, I, J, M, ?_, ?_, fun _ _ _ => rfl, fun _ _ _ => rfl, fun _ _ _ _ => rfl⟩
    · rw [f_X0_takeRoots_7, if_pos (show nI 0 ≤ 0 by decide)]
    · rw [f_X4_own_41, if_pos (show nI 0 ≤ 0 by decide)]
  | d + 1, o, f1, f2, I, J, M, hd, h1, h2, h3, hc => by
    obtain ⟨f, rfl⟩ : ∃ f, f1 = f + 1 := ⟨f1 - 1, by omega⟩
    obtain ⟨g, rfl⟩ : ∃ f, f2 = f + 1 := ⟨f2 - 1, by omega⟩
    have va := X_valueAt (J := J) hd x h3
    have md := M_divides (M := M) hd x
    have ec : ∀ m, qq (J 4) x.toInt64 (d + 1) m = qq (M 16) x.toInt64 (d + 1) m := qq_cong hc
    rw [f_X0_takeRoots_7, if_neg (nI_nle (by omega) (by omega)), va, Option.bind_some, f_X4_own_41, if_neg (nI_nle (by omega) (by omega))]
    by_cases z : qq (M 16) x.toInt64 (d + 1) (d + 1 + 1) = 0
    · obtain ⟨M1, m1, m2, m3⟩ := md.2 z
      obtain ⟨J1, j1, j2, j3⟩ := X_divideBy (J := J) hd x h3
      rw [if_pos ((lg_cmp_eq _ _).mpr (by rw [ec]; exact z)), j1, Option.bind_some, m1, Option.bind_some, if_neg v10, pk_m1, nI_1]
      obtain ⟨r, I', J', M', r1, r2, r3, r4, r5⟩ := roots_eq x K d (o + 1) f g (wI I 3 3 (nI (d + 1) - 1)) J1 M1 (by omega) (by omega) (by omega) (by rw [wI_here rfl rfl]; exact pk_sub (b := 1) (by omega)) (fun k hk => by rw [j2 k (by omega), m2 k (by omega), ec])
      exact ⟨r, I', J', M', r1, r2, fun a b ha => by rw [r3 a b ha, wI_off (by omega)], fun a b ha => by rw [r4 a b ha, j3 a b ha], fun a b h16 h17 => by rw [r5 a b h16 h17, m3 a b h16 h17]⟩
    · obtain ⟨M1, m1, m2⟩ := md.1 z
      rw [if_neg (fun q => z (by rw [← ec]; exact (lg_cmp_eq _ _).mp q)), m1, Option.bind_some, if_pos rfl]
      exact ⟨nI o, I, J, M1, rfl, rfl, fun _ _ _ => rfl, fun _ _ _ => rfl, m2⟩
theorem s_own : so_own RR := by
  intro I J K M h a1 a2
  have c12 : ∀ v : Int32, (v < -12 ↔ v.toInt < -12) ∧ (v ≤ 12 ↔ v.toInt ≤ 12) ∧ (12 < v ↔ 12 < v.toInt) := fun v => ⟨fa_lt _ _, fa_le _ _, fa_lt _ _⟩
  have hin : (f_X4_in a2 (-12) 12 = 0 ∧ (a2 < -12 ∨ ¬ a2 ≤ 12)) ∨ (f_X4_in a2 (-12) 12 = 1 ∧ ¬ a2 < -12 ∧ a2 ≤ 12) := by
    unfold f_X4_in
    obtain ⟨b1, b2, b3⟩ := c12 a2
    by_cases g1 : a2 < -12
    · exact Or.inl ⟨if_pos g1, Or.inl g1⟩
    · by_cases g2 : 12 < a2
      · exact Or.inl ⟨by rw [if_neg g1, if_pos g2], Or.inr (fun q => by have := b2.mp q; have := b3.mp g2; omega)⟩
      · exact Or.inr ⟨by rw [if_neg g1, if_neg g2], g1, b2.mpr (Int.not_lt.mp (fun w => g2 (b3.mpr w)))⟩
  rcases T_cases h a1 with ⟨e1, e2, e3⟩ | hT
  · refine ⟨-1, I, J, K, M, by simp only [f_X3_own, e1, if_true], ?_, h⟩
    rcases hin with ⟨g, -⟩ | ⟨g, -⟩
    · simp only [f_X4_own, g, if_true]
    · simp only [f_X4_own, g, if_neg v10, e3, Option.bind_some, if_neg v0m1]
  have e1' : f_X3_isTableNumber a1 = 1 := by
    rcases hT with ⟨t, ht, rfl, e1, _⟩ | ⟨t, n, A, k, ht, rfl, e1, _⟩ <;> exact e1
  rcases hin with ⟨g, g2⟩ | ⟨g, g1, g2⟩
  · refine ⟨-1, I, J, K, M, ?_, by simp only [f_X4_own, g, if_true], h⟩
    by_cases q : a2 < -12
    · simp only [f_X3_own, e1', if_neg v10, if_pos q]
    · have q2 : ¬ a2 ≤ 12 := g2.resolve_left q
      simp only [f_X3_own, e1', if_neg v10, if_neg q, if_neg q2]
  · rcases hT with ⟨t, ht, rfl, e1, e2, e3, e4, e5, e6, e7⟩ | ⟨t, n, A, k, ht, rfl, e1, e2, e3, e4, e5, e6, e7, h0, hA, hX, hM, hK, k1, k2⟩
    · obtain ⟨I', K', y1, y2, h'⟩ := RR_found h 1 (by simp)
      refine ⟨-3, I', J, K', M, ?_, ?_, h'⟩
      · simp only [f_X3_own, e1, e3, e4, e5, y1, Option.bind_some, if_neg g1, if_pos g2, if_neg v10, if_true]
      · simp only [f_X4_own, g, e7, y2, Option.bind_some, if_neg v10, if_neg v0m3]
    · have hn := hX.2.1
      have w2 : K 5 t = nI n := hM.2.2.1
      obtain ⟨J', x1, x2, x3⟩ := X_tellOf hA hX h0 J
      obtain ⟨M', y1, y2, y3⟩ := M_setForm hA hM h0 M
      obtain ⟨r, I2, J2, M2, r1, r2, r3, r4, r5⟩ := roots_eq a2 K n 0 fu fu (wI I 3 3 (nI n)) J' M' hn (by rw [fu_val]; omega) (by rw [fu_val]; omega) (wI_here rfl rfl) (fun k hk => by rw [x2 k hk, y2 k hk])
      have r1' : f_X0_takeRoots a2 (wI I 3 3 (nI n)) J' = some (r, I2, J2) := by
        unfold f_X0_takeRoots
        rw [wI_here rfl rfl]
        exact r1
      have r2' : f_X4_own_41 fu a2 (nI n) 0 K M' = some (r, K, M2) := r2
      refine ⟨r, I2, J2, K, M2, ?_, ?_, ?_⟩
      · simp only [f_X3_own, e1, e3, e4, e5, x1, r1', Option.bind_some, if_neg g1, if_pos g2, if_neg v10, if_true]
      · simp only [f_X4_own, g, e7, e3, e4, w2, y1, r2', Option.bind_some, if_pos v00, if_neg v10, if_true]
      · refine RR_scr h (fun a b _ q3 _ => by rw [r3 a b q3, wI_off (by omega)]) (fun _ _ _ _ => rfl) ?_
        rw [r4 _ _ (by omega), r4 _ _ (by omega), r4 _ _ (by omega), x3 _ _ (by omega) (by omega) (by omega), x3 _ _ (by omega) (by omega) (by omega), x3 _ _ (by omega) (by omega) (by omega), r5 _ _ (by omega) (by omega), r5 _ _ (by omega) (by omega), r5 _ _ (by omega) (by omega), y3 _ _ (by omega) (by omega) (by omega), y3 _ _ (by omega) (by omega) (by omega), y3 _ _ (by omega) (by omega) (by omega)]
        exact h.2.2.2.1
