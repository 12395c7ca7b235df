-- ===== longer =====
theorem RR_row2 {I K I' K' : zMi} {J M : zMl} (h : RR I J K M) {r v : Nat} (hr : r < 6) (hv : v < 6) (hI : ∀ a b, a ≠ 10 + 2 * r → a ≠ 11 + 2 * r → a ≠ 10 + 2 * v → a ≠ 11 + 2 * v → I' a b = I a b) (hK : ∀ a b, a ≠ 4 → (a = 2 → b ≠ r ∧ b ≠ v) → (a = 3 → (b < 24 * r ∨ 24 * r + 24 ≤ b) ∧ (b < 24 * v ∨ 24 * v + 24 ≤ b)) → K' a b = K a b) (hT : RW I' K' r) (hT2 : RW I' K' v) : RR I' J K' M := by
  obtain ⟨a, b, c, d, e, f⟩ := h
  refine ⟨?_, ?_, fun q hq => ?_, d, fun u hu => ?_, fun t ht => ?_⟩
  · rw [hI _ _ (by omega) (by omega) (by omega) (by omega), hK _ _ (by omega) (by omega) (by omega), a]
  · rw [hI _ _ (by omega) (by omega) (by omega) (by omega), hK _ _ (by omega) (by omega) (by omega), b]
  · rw [hI _ _ (by omega) (by omega) (by omega) (by omega), hK _ _ (by omega) (by omega) (by omega), c q hq]
  · by_cases g : u = r
    · subst g; exact hT
    · by_cases g2 : u = v
      · subst g2; exact hT2
      · exact RW_cong (fun b => hI _ _ (by omega) (by omega) (by omega) (by omega)) (fun b => hI _ _ (by omega) (by omega) (by omega) (by omega)) (hK _ _ (by omega) (by omega) (by omega)) (fun j _ => hK _ _ (by omega) (by omega) (by omega)) (e u hu)
  · exact TB_cong (fun b => hI _ _ (by omega) (by omega) (by omega) (by omega)) (fun b => hI _ _ (by omega) (by omega) (by omega) (by omega)) (fun b => hI _ _ (by omega) (by omega) (by omega) (by omega)) (hK _ _ (by omega) (by omega) (by omega)) (hK _ _ (by omega) (by omega) (by omega)) (fun q _ => hK _ _ (by omega) (by omega) (by omega)) (f t ht)
def jn (p q : Nat → Bool) (n : Nat) : Nat → Bool := fun j => if j < n then p j else q (j - n)
theorem jn_bs (p q : Nat → Bool) (n : Nat) : bs p n ||| bs q n * 2 ^ n = bs (jn p q n) (2 * n) := by
  apply Nat.eq_of_testBit_eq
  intro j
  rw [Nat.testBit_or, Nat.mul_comm (bs q n), Nat.testBit_two_pow_mul, bs_tb, bs_tb, bs_tb]
  unfold jn
  by_cases g : j < n
  · rw [decide_eq_true g, decide_eq_false (show ¬ n ≤ j by omega), decide_eq_true (show j < 2 * n by omega), if_pos g]
    simp
  · rw [decide_eq_false g, decide_eq_true (show n ≤ j by omega), if_neg g]
    by_cases g2 : j < 2 * n
    · rw [decide_eq_true g2, decide_eq_true (show j - n < n by omega)]
      simp
    · rw [decide_eq_false g2, decide_eq_false (show ¬ j - n < n by omega)]
      simp
theorem sv_lo (p q : Nat → Bool) {n j : Nat} (h : j < n) : sv (jn p q n) j = sv p j := by
  simp only [sv, jn, if_pos h]
theorem sv_hi (p q : Nat → Bool) {n j : Nat} (h : ¬ j < n) : sv (jn p q n) j = sv q (j - n) := by
  simp only [sv, jn, if_neg h]
theorem sv_no (q : Nat → Bool) (j : Nat) : sv (fun j => !q j) j = - sv q j := by
  cases h : q j <;> simp [sv, h]
theorem M_longer {I K : zMi} {r u n w z : Nat} {p q : Nat → Bool} (h : SGN I K r n p) (h' : SGN I K u n q) (h12 : n ≤ 12) (hw : w < 6) (hz : z < 6) (hwz : w ≠ z) : ∃ K', f_X4_longer_65 fu (nI r) (nI u) (nI w) (nI z) (nI n) 0 K = some (nI (2 * n), K') ∧ K' 2 w = nI (2 * n) ∧ K' 2 z = nI (2 * n) ∧ (∀ j, j < 2 * n → K' 3 (24 * w + j) = sI (sv (jn p q n) j)) ∧ (∀ j, j < 2 * n → K' 3 (24 * z + j) = sI (sv (jn p (fun j => !q j) n) j)) ∧ ∀ a b, a ≠ 4 → (a = 2 → b ≠ w ∧ b ≠ z) → (a = 3 → (b < 24 * w ∨ 24 * w + 24 ≤ b) ∧ (b < 24 * z ∨ 24 * z + 24 ≤ b)) → K' a b = K a b := by
  obtain ⟨hr, -, -, -, -, x4⟩ := h
  obtain ⟨hu, -, -, -, -, y4⟩ := h'
  refine lp (fun f i K => f_X4_longer_65 f (nI r) (nI u) (nI w) (nI z) (nI n) i K) n 0 (by omega) (by rw [fu_val]; omega) (fun k K' => (∀ j, j < k → K' 4 j = sI (sv p j) ∧ K' 4 (n + j) = sI (sv q j)) ∧ ∀ a b, a ≠ 4 → K' a b = K a b) (fun res => ∃ K', res = some (nI (2 * n), K') ∧ K' 2 w = nI (2 * n) ∧ K' 2 z = nI (2 * n) ∧ (∀ j, j < 2 * n → K' 3 (24 * w + j) = sI (sv (jn p q n) j)) ∧ (∀ j, j < 2 * n → K' 3 (24 * z + j) = sI (sv (jn p (fun j => !q j) n) j)) ∧ ∀ a b, a ≠ 4 → (a = 2 → b ≠ w ∧ b ≠ z) → (a = 3 → (b < 24 * w ∨ 24 * w + 24 ≤ b) ∧ (b < 24 * z ∨ 24 * z + 24 ≤ b)) → K' a b = K a b) ?_ ?_ _ ?_
  · intro f s ⟨s1, s2⟩
    show ∃ K', f_X4_longer_65 (f + 1) (nI r) (nI u) (nI w) (nI z) (nI n) (nI n) s = some (nI (2 * n), K') ∧ _
    obtain ⟨Ka, a1, a2, a3, a4⟩ := M_begin (n := 2 * n) hw s
    obtain ⟨Kb, b1, b2, b3, b4⟩ := M_begin (n := 2 * n) hz Ka
    rw [f_X4_longer_65, if_pos (nI_le (Nat.le_refl _) (by omega)), dbl, a1, Option.bind_some, b1, Option.bind_some]
    have mv : ∀ j, j < 2 * n → Kb 4 j = sI (sv (jn p q n) j) := by
      intro j hj
      rw [b4 _ _ (by omega) (by omega), a4 _ _ (by omega) (by omega)]
      by_cases g : j < n
      · rw [sv_lo p q g]
        exact (s1 j g).1
      · rw [sv_hi p q g]
        have := (s1 (j - n) (by omega)).2
        rw [show n + (j - n) = j by omega] at this
        exact this
    refine lp (fun f i K => f_X4_longer_141 f (nI w) (nI z) (nI n) i K) (2 * n) 0 (by omega) (by rw [fu_val]; omega) (fun k K' => (∀ j, j < 2 * n → K' 4 j = sI (sv (jn p q n) j)) ∧ (∀ j, j < k → K' 3 (24 * w + j) = sI (sv (jn p q n) j) ∧ K' 3 (24 * z + j) = sI (sv (jn p (fun j => !q j) n) j)) ∧ ∀ a b, (a = 3 → (b < 24 * w ∨ 24 * w + 24 ≤ b) ∧ (b < 24 * z ∨ 24 * z + 24 ≤ b)) → K' a b = Kb a b) (fun res => ∃ K', res = some (nI (2 * n), K') ∧ K' 2 w = nI (2 * n) ∧ K' 2 z = nI (2 * n) ∧ (∀ j, j < 2 * n → K' 3 (24 * w + j) = sI (sv (jn p q n) j)) ∧ (∀ j, j < 2 * n → K' 3 (24 * z + j) = sI (sv (jn p (fun j => !q j) n) j)) ∧ ∀ a b, a ≠ 4 → (a = 2 → b ≠ w ∧ b ≠ z) → (a = 3 → (b < 24 * w ∨ 24 * w + 24 ≤ b) ∧ (b < 24 * z ∨ 24 * z + 24 ≤ b)) → K' a b = K a b) ?_ ?_ _ ?_
    · intro f s ⟨u0, u1, u2⟩
      refine ⟨s, ?_, ?_, ?_, fun j hj => (u1 j hj).1, fun j hj => (u1 j hj).2, fun a b h4 hb hc => ?_⟩
      · show f_X4_longer_141 (f + 1) (nI w) (nI z) (nI n) (nI (2 * n)) s = _
        rw [f_X4_longer_141, dbl, if_pos (nI_le (Nat.le_refl _) (by omega))]
      · rw [u2 _ _ (by omega), b4 _ _ (by omega) (by omega), a2]
      · rw [u2 _ _ (by omega), b2]
      · rw [u2 a b hc, b4 a b (fun q => (hb q).2) (fun q => (hc q).2), a4 a b (fun q => (hb q).1) (fun q => (hc q).1), s2 a b h4]
    · intro f k s _ hk ⟨u0, u1, u2⟩
      left
      have vk := u0 k hk
      have neg : - sI (sv (jn p q n) k) = sI (- sv (jn p q n) k) := sI_neg _
      have val : sI (sv (jn p (fun j => !q j) n) k) = if n ≤ k then - sI (sv (jn p q n) k) else sI (sv (jn p q n) k) := by
        by_cases g : n ≤ k
        · rw [if_pos g, sv_hi _ _ (show ¬ k < n by omega), sv_hi _ _ (show ¬ k < n by omega), sv_no, sI_neg]
        · rw [if_neg g, sv_lo _ _ (show k < n by omega), sv_lo _ _ (show k < n by omega)]
      refine ⟨wI (wI s 3 (24 * w + k) (sI (sv (jn p q n) k))) 3 (24 * z + k) (sI (sv (jn p (fun j => !q j) n) k)), ?_, fun j hj => ?_, fun j hj => ?_, fun a b hc => ?_⟩
      · show f_X4_longer_141 (f + 1) (nI w) (nI z) (nI n) (nI k) s = f_X4_longer_141 f (nI w) (nI z) (nI n) (nI (k + 1)) _
        rw [f_X4_longer_141, dbl, if_neg (nI_ge hk (by omega)), ix_nI (by omega) (by omega), if_pos rfl, e24, e24, ix_nI (by omega) (by omega), if_pos rfl, ix_nI (by omega) (by omega), if_pos rfl, if_pos rfl, nI_clamp (by omega), nI_clamp (by omega), nI_clamp (by omega), wI_off (a := 4) (by omega), vk, nI_1, val]
        by_cases g : n ≤ k
        · rw [if_pos (nI_le g (by omega)), if_pos g]
        · rw [if_neg (nI_ge (by omega) (by omega)), if_neg g]
      · rw [wI_off (by omega), wI_off (by omega), u0 j hj]
      · by_cases g : j = k
        · subst g
          rw [wI_off (by omega), wI_here rfl rfl, wI_here rfl rfl]
          exact ⟨rfl, rfl⟩
        · rw [wI_off (by omega), wI_off (by omega), wI_off (by omega), wI_off (by omega)]
          exact u1 j (by omega)
      · rw [wI_off (by omega), wI_off (by omega), u2 a b hc]
    · exact ⟨mv, fun j hj => by omega, fun _ _ _ => rfl⟩
  · intro f k s _ hk ⟨s1, s2⟩
    left
    refine ⟨wI (wI s 4 k (sI (sv p k))) 4 (n + k) (sI (sv q k)), ?_, fun j hj => ?_, fun a b ha => by rw [wI_off (by omega), wI_off (by omega), s2 a b ha]⟩
    · show f_X4_longer_65 (f + 1) (nI r) (nI u) (nI w) (nI z) (nI n) (nI k) s = f_X4_longer_65 f (nI r) (nI u) (nI w) (nI z) (nI n) (nI (k + 1)) _
      rw [f_X4_longer_65, if_neg (nI_ge hk (by omega)), e24, ix_nI (by omega) (by omega), if_pos rfl, ix_nI (by omega) (by omega), if_pos rfl, e24, ix_nI (by omega) (by omega), if_pos rfl, nI_add, ix_nI (by omega) (by omega), if_pos rfl, nI_clamp (by omega), nI_clamp (by omega), nI_clamp (by omega), nI_clamp (by omega), wI_off (a := 3) (by omega), s2 _ _ (by omega), s2 _ _ (by omega), x4 k hk, y4 k hk, nI_1]
    · by_cases g : j = k
      · subst g
        rw [wI_off (by omega), wI_here rfl rfl, wI_here rfl rfl]
        exact ⟨rfl, rfl⟩
      · rw [wI_off (by omega), wI_off (by omega), wI_off (by omega), wI_off (by omega)]
        exact s1 j (by omega)
  · exact ⟨fun j hj => by omega, fun _ _ _ => rfl⟩
theorem s_longer : so_longer RR := by
  intro I J K M h a1 a2 a3 a4
  -- the numbers
  rcases rn_cases a3 with ⟨d1, d2⟩ | ⟨w, hw, rfl, d1, d2, d3, d4⟩
  · refine ⟨-1, I, K, ?_, by simp only [f_X4_longer, d2, if_true], h⟩
    unfold f_X3_longer
    rw [d1]
    simp only [if_true]
    split
    · rfl
    · split <;> rfl
  rcases rn_cases a4 with ⟨c1, c2⟩ | ⟨z, hz, rfl, c1, c2, c3, c4⟩
  · refine ⟨-1, I, K, ?_, by simp only [f_X4_longer, d2, c2, if_neg v10, if_true], h⟩
    unfold f_X3_longer
    rw [d1, c1]
    simp only [if_true, if_neg v10]
    split
    · rfl
    · split <;> rfl
  by_cases hwz : w = z
  · subst hwz
    refine ⟨-1, I, K, ?_, by simp only [f_X4_longer, d2, if_neg v10, if_true], h⟩
    unfold f_X3_longer
    rw [d1]
    simp only [if_true, if_neg v10]
    split
    · rfl
    · split <;> rfl
  have ne : ¬ nI w = nI z := fun q => hwz ((nI_eq (by omega) (by omega)).mp q)
  rcases rn_cases a1 with ⟨e1, e2⟩ | ⟨r0, hr0, hra, e1, e2, e3, e4⟩
  · exact ⟨-1, I, K, by simp only [f_X3_longer, e1, if_true], by simp only [f_X4_longer, f_X4_askedPair, d2, c2, if_neg ne, if_neg v10, e2, if_true, Option.bind_some, if_neg v0m1], h⟩
  rcases rn_cases a2 with ⟨g1, g2⟩ | ⟨u0, hu0, hua, g1, g2, g3, g4⟩
  · rw [← hra] at e1 e2
    exact ⟨-1, I, K, by simp only [f_X3_longer, e1, g1, if_neg v10, if_true], by simp only [f_X4_longer, f_X4_askedPair, d2, c2, if_neg ne, e2, g2, if_neg v10, if_true, Option.bind_some, if_neg v0m1], h⟩
  subst hra hua
  rcases P_cases h (most := 12) (by omega) e1 g1 with ⟨r, u, v, I', K', hr, hu, hra, hua, f1, f0, y1, y2, h'⟩ | ⟨r, u, n, p, q, hr, hu, hra, hua, f1, f2, h0, hno, hp, hq⟩
  · have er : r0 = r := (nI_eq (by omega) (by omega)).mp hra
    have eu : u0 = u := (nI_eq (by omega) (by omega)).mp hua
    subst er eu
    have f1' : f_X3_findingOfPair r0 u0 12 I = some v := f1
    have y2' : f_X4_askedPair (nI r0) (nI u0) 12 K = some (-3, K') := y2
    refine ⟨-3, I', K', ?_, ?_, h'⟩
    · simp only [f_X3_longer, e1, g1, d1, c1, if_neg ne, e3, e4, g3, g4, f1', Option.bind_some, if_neg f0, y1, if_neg v10, if_true]
    · simp only [f_X4_longer, d2, c2, if_neg ne, if_neg v10, y2', Option.bind_some, if_neg v0m3]
  · have er : r0 = r := (nI_eq (by omega) (by omega)).mp hra
    have eu : u0 = u := (nI_eq (by omega) (by omega)).mp hua
    subst er eu
    have f1' : f_X3_findingOfPair r0 u0 12 I = some 0 := f1
    have f2' : f_X4_askedPair (nI r0) (nI u0) 12 K = some (0, K) := f2
    obtain ⟨b, b1, b2⟩ := cancel_eq hp hq h0 false
    have b1' : f_X3_pairCancels r0 u0 0 I = some (bI b) := b1
    have b2' : f_X4_areZero (nI r0) (nI u0) 0 K = some (bI b) := b2
    cases b
    · refine ⟨-4, I, K, ?_, ?_, h⟩
      · simp only [f_X3_longer, e1, g1, d1, c1, if_neg ne, e3, e4, g3, g4, f1', b1', bI_f, Option.bind_some, if_neg v10, if_true]
      · simp only [f_X4_longer, d2, c2, if_neg ne, if_neg v10, f2', b2', bI_f, Option.bind_some, if_pos v00, if_true]
    · have x1 : I (10 + 2 * r0) 1 = nI n := hp.2.2.1
      have x2 : K 2 r0 = nI n := hp.2.2.2.1
      have lp2 : 2 ^ (2 * n) ≤ 2 ^ 24 := Nat.pow_le_pow_right (by omega) (by omega)
      have s1 : nI (bs p n) ||| (nI (bs q n) <<< (nI n &&& 31)) = nI (bs (jn p q n) (2 * n)) := by
        rw [shl_any (by omega), fa_or, jn_bs]
      have s2 : nI (bs p n) ||| ((nI (bs q n) ^^^ f_X3_allBits (nI n)) <<< (nI n &&& 31)) = nI (bs (jn p (fun j => !q j) n) (2 * n)) := by
        have : bs q n ^^^ (2 ^ n - 1) = bs (fun j => !q j) n := by
          rw [← bs_true, bs_xor]
          exact bs_cong (fun j _ => by cases q j <;> rfl)
        rw [allBits_nI (by omega), fb_xorI, this, shl_any (by omega), fa_or, jn_bs]
      have l1 := bs_lt (jn p q n) (2 * n)
      have l2 := bs_lt (jn p (fun j => !q j) n) (2 * n)
      obtain ⟨Ia, i1, i2, i3, i4⟩ := X_beginSigns (r := w) (n := 2 * n) (x := bs (jn p q n) (2 * n)) hw (by omega) (by omega) I
      obtain ⟨Ib, j1, j2, j3, j4⟩ := X_beginSigns (r := z) (n := 2 * n) (x := bs (jn p (fun j => !q j) n) (2 * n)) hz (by omega) (by omega) Ia
      obtain ⟨K', m1, m2, m3, m4, m5, m6⟩ := M_longer hp hq (by omega) hw hz hwz
      refine ⟨nI (2 * n), Ib, K', ?_, ?_, ?_⟩
      · simp only [f_X3_longer, e1, g1, d1, c1, if_neg ne, e3, e4, g3, g4, d3, d4, c3, c4, f1', b1', bI_t, X_minusBits hp, X_minusBits hq, x1, s1, s2, dbl, i1, j1, Option.bind_some, if_neg v10, if_true]
      · simp only [f_X4_longer, d2, c2, if_neg ne, if_neg v10, f2', b2', bI_t, e3, e4, x2, m1, Option.bind_some, if_pos v00, if_true]
      · refine RR_row2 h hw hz (fun a b q1 q2 q3 q4 => by rw [j4 a b q3 q4, i4 a b q1 q2]) m6 (Or.inr ⟨2 * n, by omega, ?_, m2, fun j hj => ?_⟩) (Or.inr ⟨2 * n, by omega, j2, m3, fun j hj => ?_⟩)
        · rw [j4 _ _ (by omega) (by omega), i2]
        · rw [j4 _ _ (by omega) (by omega), i3 j hj, m4 j hj, bs_tb, decide_eq_true hj, Bool.true_and]
          rfl
        · rw [j3 j hj, m5 j hj, bs_tb, decide_eq_true hj, Bool.true_and]
          rfl
-- ===== leastSide =====
theorem ec_cong {p q : Nat → Bool} {n s : Nat} (h : ∀ j, j < n → p j = q j) : ecI p n s = ecI q n s := by
  unfold ecI
  rw [fb_ct_cong (p := fun j => p j ^^ p (j + s)) (q := fun j => q j ^^ q (j + s)) (fun j hj => by rw [h j (by omega), h (j + s) (by omega)])]
theorem sd_cong {p q : Nat → Bool} {n : Nat} (h : ∀ j, j < n → p j = q j) : sd p n = sd q n := gm_cong (fun k _ => by rw [ec_cong h])
theorem ec_not (p : Nat → Bool) (n s : Nat) : ecI (fun j => !p j) n s = ecI p n s := by
  unfold ecI
  rw [fb_ct_cong (p := fun j => !p j ^^ !p (j + s)) (q := fun j => p j ^^ p (j + s)) (fun j _ => by cases p j <;> cases p (j + s) <;> rfl)]
theorem ec_comp {n x : Nat} (s : Nat) (hx : x < 2 ^ n) : ecI (fun j => (2 ^ n - 1 - x).testBit j) n s = ecI (fun j => x.testBit j) n s := by
  rw [ec_cong (q := fun j => !x.testBit j) (fun j hj => comp_tb hx hj), ec_not]
theorem sd_comp {n x : Nat} (hx : x < 2 ^ n) : sd (fun j => (2 ^ n - 1 - x).testBit j) n = sd (fun j => x.testBit j) n := gm_cong (fun k _ => by rw [ec_comp _ hx])
theorem M_echoOf {x n s : Nat} (hx : x < 2 ^ 31) (hn : n ≤ 24) (hs : s ≤ n) : f_X4_echoOf (nI x) (nI n) (nI s) = some (sI (ecI (fun j => x.testBit j) n s)) := by
  unfold f_X4_echoOf
  refine up0 (fun f i (a : Int32) => f_X4_echoOf_5 f (nI x) (nI n) (nI s) a i) (n - s) (by rw [fu_val]; omega) (fun k => sI (fb_si (fun i => sv (fun j => x.testBit j) i * sv (fun j => x.testBit j) (i + s)) k)) _ ?_ ?_
  · intro f
    show f_X4_echoOf_5 (f + 1) (nI x) (nI n) (nI s) _ (nI (n - s)) = _
    rw [f_X4_echoOf_5, nI_add, if_pos (nI_le (by omega) (by omega)), sv_sum (fun j => x.testBit j) (fun i => i + s)]
    rfl
  · intro f k hk
    show f_X4_echoOf_5 (f + 1) (nI x) (nI n) (nI s) _ (nI k) = f_X4_echoOf_5 f (nI x) (nI n) (nI s) _ (nI (k + 1))
    rw [f_X4_echoOf_5, nI_add, if_neg (nI_ge (by omega) (by omega)), M_sign hx (by omega), M_sign hx (by omega), sI_mul, sI_add, nI_1]
    rfl
theorem s_leastSide : so_leastSide RR := by
  intro I J K M h a1 a2
  rcases in_1n (a := a1) 12 (by omega) with ⟨i1, i2⟩ | ⟨n, h0, hn, rfl, i1, i2, i3⟩
  · refine ⟨-1, I, K, ?_, by simp only [f_X4_leastSide, show f_X4_in a1 1 12 = 0 from i1, if_true], h⟩
    rcases i2 with q | q
    · simp only [f_X3_leastSide, if_pos q]
    · have q' : 12 < a1 := by
        have : ¬ a1.toInt ≤ (nI 12).toInt := fun w => q ((fa_le _ _).mpr w)
        rw [fa_lt]
        rw [nI_toInt (by omega)] at this
        show (12 : Int) < a1.toInt
        omega
      by_cases q2 : a1 < 1
      · simp only [f_X3_leastSide, if_pos q2]
      · simp only [f_X3_leastSide, if_neg q2, if_pos q']
  have i1' : f_X4_in (nI n) 1 12 = 1 := i1
  have i3' : ¬ (12 : Int32) < nI n := nI_nlt (a := 12) (by omega) (by omega)
  rcases rn_cases a2 with ⟨e1, e2⟩ | ⟨w, hw, rfl, e1, e2, e3, e4⟩
  · exact ⟨-1, I, K, by simp only [f_X3_leastSide, if_neg i2, if_neg i3', e1, if_true], by simp only [f_X4_leastSide, i1', e2, if_neg v10, if_true], h⟩
  have hp := p12 hn
  have hpow := pow_half h0
  have hp1 : 1 ≤ 2 ^ (n - 1) := Nat.one_le_two_pow
  have hc : nI n - 1 = nI (n - 1) := pk_sub (b := 1) h0
  -- the side of the bits x
  have hF : ∀ x, x < 2 ^ n → bs (fun j => x.testBit j) n = x := fun x hx => bs_self hx
  have half : am (fun x => sd (fun j => x.testBit j) n) (2 ^ n) = am (fun x => sd (fun j => x.testBit j) n) (2 ^ (n - 1)) := by
    rw [hpow]
    exact am_half _ _ (fun k h1 h2 => ⟨2 ^ n - 1 - k, by omega, by
      show sd (fun j => (2 ^ n - 1 - k).testBit j) n ≤ _
      rw [sd_comp (by omega)]
      exact Nat.le_refl _⟩)
  generalize hf : (fun x : Nat => sd (fun j => x.testBit j) n) = F at half
  have hFx : ∀ x, F x = sd (fun j => x.testBit j) n := fun x => by rw [← hf]
  have hlt : ∀ x, F x < n := fun x => by rw [hFx]; exact sd_lt _ h0
  have cls : f_X3_leastSide_28 fu (nI n) (nI w) (nI n) 0 0 I = (f_X1_beginSigns w (nI n) (nI (am F (2 ^ (n - 1)))) I).bind (fun x3 => some (nI (F (am F (2 ^ (n - 1)))), x3)) := by
    refine lp (fun f i (s : Int32 × Int32) => f_X3_leastSide_28 f (nI n) (nI w) s.1 s.2 i I) (2 ^ (n - 1)) 0 (by omega) (by rw [fu_val]; omega) (fun q s => (q = 0 ∧ s = (nI n, 0)) ∨ (0 < q ∧ s = (nI (F (am F q)), nI (am F q)))) (fun res => res = (f_X1_beginSigns w (nI n) (nI (am F (2 ^ (n - 1)))) I).bind (fun x3 => some (nI (F (am F (2 ^ (n - 1)))), x3))) ?_ ?_ (nI n, 0) (Or.inl ⟨rfl, rfl⟩)
    · intro f s hs
      rcases hs with ⟨hq, -⟩ | ⟨-, rfl⟩
      · omega
      · show f_X3_leastSide_28 (f + 1) (nI n) (nI w) (nI (F (am F (2 ^ (n - 1))))) (nI (am F (2 ^ (n - 1)))) (nI (2 ^ (n - 1))) I = _
        rw [f_X3_leastSide_28, hc, one_shl (by omega), if_pos (nI_le (Nat.le_refl _) (by omega)), e3, if_pos rfl, e4]
    · intro f q s _ hq hs
      left
      show ∃ s' : Int32 × Int32, f_X3_leastSide_28 (f + 1) (nI n) (nI w) s.1 s.2 (nI q) I = f_X3_leastSide_28 f (nI n) (nI w) s'.1 s'.2 (nI (q + 1)) I ∧ _
      have l1 := hlt q
      rcases hs with ⟨rfl, rfl⟩ | ⟨h0q, rfl⟩
      · obtain ⟨v, w1, w2, w3⟩ := X_sideOf (fun j => (0 : Nat).testBit j) h0 (by omega) n (by omega)
        rw [hF 0 (by omega)] at w1
        rw [← hFx] at w3
        have hv : v = F 0 := by
          rcases w3 with q | q
          · exact q
          · omega
        subst hv
        refine ⟨(nI (F 0), nI 0), ?_, Or.inr ⟨by omega, by simp [am]⟩⟩
        show f_X3_leastSide_28 (f + 1) (nI n) (nI w) (nI n) 0 (nI 0) I = _
        rw [f_X3_leastSide_28, hc, one_shl (by omega), if_neg (nI_ge hq (by omega)), w1, Option.bind_some, if_neg (nI_ge l1 (by omega)), nI_1]
      · have l2 := hlt (am F q)
        obtain ⟨v, w1, w2, w3⟩ := X_sideOf (fun j => q.testBit j) h0 (by omega) (F (am F q)) (by omega)
        rw [hF q (by omega)] at w1
        rw [← hFx] at w3
        show ∃ s' : Int32 × Int32, f_X3_leastSide_28 (f + 1) (nI n) (nI w) (nI (F (am F q))) (nI (am F q)) (nI q) I = f_X3_leastSide_28 f (nI n) (nI w) s'.1 s'.2 (nI (q + 1)) I ∧ _
        rw [f_X3_leastSide_28, hc, one_shl (by omega), if_neg (nI_ge hq (by omega)), w1, Option.bind_some, nI_1]
        simp only [am]
        by_cases g : F q < F (am F q)
        · have hv : v = F q := by
            rcases w3 with q | q
            · exact q
            · omega
          subst hv
          rw [if_neg (nI_ge g (by omega)), if_pos g]
          exact ⟨(_, _), rfl, Or.inr ⟨by omega, rfl⟩⟩
        · rw [if_pos (nI_le (by omega) (by omega)), if_neg g]
          exact ⟨(_, _), rfl, Or.inr ⟨by omega, rfl⟩⟩
  have inner : ∀ (k28 : Int32 → Int32 → Int32 → Int32 → Int32 → zMi → Option (Int32 × zMi)) (b l : Int32) (x : Nat), x < 2 ^ n → f_X4_leastSide_42 k28 fu (nI n) (nI w) b l (nI x) 0 1 K = if b < 0 then k28 (nI n) (nI w) (nI x) (nI (F x)) (nI (x + 1)) K else if l ≤ nI (F x) then k28 (nI n) (nI w) b l (nI (x + 1)) K else k28 (nI n) (nI w) (nI x) (nI (F x)) (nI (x + 1)) K := by
    intro k28 b l x hx
    refine upF (fun f i (a : Int32) => f_X4_leastSide_42 k28 f (nI n) (nI w) b l (nI x) a i K) n 1 (by omega) (by rw [fu_val]; omega) (fun k => nI (gm (fun q => (ecI (fun j => x.testBit j) n (q + 1)).natAbs) (k - 1))) _ ?_ ?_
    · intro f
      show f_X4_leastSide_42 k28 (f + 1) (nI n) (nI w) b l (nI x) _ (nI n) K = _
      rw [f_X4_leastSide_42, if_pos (nI_le (Nat.le_refl _) (by omega)), nI_1, hFx]
      rfl
    · intro f k hk1 hk
      show f_X4_leastSide_42 k28 (f + 1) (nI n) (nI w) b l (nI x) _ (nI k) K = f_X4_leastSide_42 k28 f (nI n) (nI w) b l (nI x) _ (nI (k + 1)) K
      have b1 : gm (fun q => (ecI (fun j => x.testBit j) n (q + 1)).natAbs) (k - 1) ≤ n - 1 := gm_le (fun q hq => ecI_lt _ (by omega))
      have hb := ecI_bound (fun j => x.testBit j) n k
      rw [f_X4_leastSide_42, if_neg (nI_ge hk (by omega)), M_echoOf (by omega) (by omega) (by omega), Option.bind_some, (abs_sI (by omega) (by omega)).1, nI_1]
      obtain ⟨m, rfl⟩ : ∃ m, k = m + 1 := ⟨k - 1, by omega⟩
      simp only [Nat.add_sub_cancel, gm] at b1 ⊢
      by_cases g : gm (fun q => (ecI (fun j => x.testBit j) n (q + 1)).natAbs) m < (ecI (fun j => x.testBit j) n (m + 1)).natAbs
      · rw [if_neg (nI_ge g (by omega)), if_pos g]
      · rw [if_pos (nI_le (by omega) (by omega)), if_neg g]
  have mod : f_X4_leastSide_28 fu (nI n) (nI w) (-9) 0 0 K = (f_X4_begin (nI w) (nI n) K).bind (fun x2 => f_X4_leastSide_116 fu (nI n) (nI w) (nI (am F (2 ^ n))) (nI (F (am F (2 ^ n)))) 0 x2) := by
    refine lp (fun f i (s : Int32 × Int32) => f_X4_leastSide_28 f (nI n) (nI w) s.1 s.2 i K) (2 ^ n) 0 (by omega) (by rw [fu_val]; omega) (fun q s => (q = 0 ∧ s = (-9, 0)) ∨ (0 < q ∧ s = (nI (am F q), nI (F (am F q))))) (fun res => res = (f_X4_begin (nI w) (nI n) K).bind (fun x2 => f_X4_leastSide_116 fu (nI n) (nI w) (nI (am F (2 ^ n))) (nI (F (am F (2 ^ n)))) 0 x2)) ?_ ?_ (-9, 0) (Or.inl ⟨rfl, rfl⟩)
    · intro f s hs
      rcases hs with ⟨hq, -⟩ | ⟨-, rfl⟩
      · omega
      · show f_X4_leastSide_28 (f + 1) (nI n) (nI w) (nI (am F (2 ^ n))) (nI (F (am F (2 ^ n)))) (nI (2 ^ n)) K = _
        rw [f_X4_leastSide_28, one_shl (by omega), if_pos (nI_le (Nat.le_refl _) (by omega))]
    · intro f q s _ hq hs
      left
      show ∃ s' : Int32 × Int32, f_X4_leastSide_28 (f + 1) (nI n) (nI w) s.1 s.2 (nI q) K = f_X4_leastSide_28 f (nI n) (nI w) s'.1 s'.2 (nI (q + 1)) K ∧ _
      have l1 := hlt q
      rw [f_X4_leastSide_28, one_shl (by omega), if_neg (nI_ge hq (by omega)), inner _ _ _ q hq]
      rcases hs with ⟨rfl, rfl⟩ | ⟨h0q, rfl⟩
      · refine ⟨(nI 0, nI (F 0)), ?_, Or.inr ⟨by omega, by simp [am]⟩⟩
        rw [if_pos (by decide)]
      · have l2 := hlt (am F q)
        have l3 := am_lt F q h0q
        rw [if_neg (nI_pos (by omega))]
        simp only [am]
        by_cases g : F q < F (am F q)
        · rw [if_neg (nI_ge g (by omega)), if_pos g]
          exact ⟨(_, _), rfl, Or.inr ⟨by omega, rfl⟩⟩
        · rw [if_pos (nI_le (by omega) (by omega)), if_neg g]
          exact ⟨(_, _), rfl, Or.inr ⟨by omega, rfl⟩⟩
  rw [half] at mod
  have lx := am_lt F (2 ^ (n - 1)) (by omega)
  generalize am F (2 ^ (n - 1)) = x at cls mod lx
  obtain ⟨I', x1, x2, x3, x4⟩ := X_beginSigns (r := w) (n := n) (x := x) hw (by omega) (by omega) I
  obtain ⟨Ka, y1, y2, y3, y4⟩ := M_begin (n := n) hw K
  have fin : ∃ K', f_X4_leastSide_116 fu (nI n) (nI w) (nI x) (nI (F x)) 0 Ka = some (nI (F x), K') ∧ (∀ j, j < n → K' 3 (24 * w + j) = sI (if x.testBit j then -1 else 1)) ∧ ∀ a b, (a = 3 → b < 24 * w ∨ 24 * w + 24 ≤ b) → K' a b = Ka a b := by
    refine lp (fun f i K => f_X4_leastSide_116 f (nI n) (nI w) (nI x) (nI (F x)) i K) n 0 (by omega) (by rw [fu_val]; omega) (fun k K' => (∀ j, j < k → K' 3 (24 * w + j) = sI (if x.testBit j then -1 else 1)) ∧ ∀ a b, (a = 3 → b < 24 * w ∨ 24 * w + 24 ≤ b) → K' a b = Ka a b) (fun res => ∃ K', res = some (nI (F x), K') ∧ (∀ j, j < n → K' 3 (24 * w + j) = sI (if x.testBit j then -1 else 1)) ∧ ∀ a b, (a = 3 → b < 24 * w ∨ 24 * w + 24 ≤ b) → K' a b = Ka a b) ?_ ?_ _ ?_
    · intro f s ⟨s1, s2⟩
      refine ⟨s, ?_, s1, s2⟩
      show f_X4_leastSide_116 (f + 1) (nI n) (nI w) (nI x) (nI (F x)) (nI n) s = _
      rw [f_X4_leastSide_116, if_pos (nI_le (Nat.le_refl _) (by omega))]
    · intro f k s _ hk ⟨s1, s2⟩
      left
      refine ⟨wI s 3 (24 * w + k) (sI (if x.testBit k then -1 else 1)), ?_, fun j hj => ?_, fun a b hb => by rw [wI_off (by omega), s2 a b hb]⟩
      · show f_X4_leastSide_116 (f + 1) (nI n) (nI w) (nI x) (nI (F x)) (nI k) s = f_X4_leastSide_116 f (nI n) (nI w) (nI x) (nI (F x)) (nI (k + 1)) _
        rw [f_X4_leastSide_116, if_neg (nI_ge hk (by omega)), e24, ix_nI (by omega) (by omega), if_pos rfl, nI_clamp (by omega), M_sign (by omega) (by omega), nI_1]
      · by_cases g : j = k
        · subst g
          rw [wI_here rfl rfl]
        · rw [wI_off (by omega), s1 j (by omega)]
    · exact ⟨fun j hj => by omega, fun _ _ _ => rfl⟩
  obtain ⟨K', z1, z2, z3⟩ := fin
  refine ⟨nI (F x), I', K', ?_, ?_, ?_⟩
  · simp only [f_X3_leastSide, if_neg i2, if_neg i3', e1, if_neg v10]
    rw [cls, x1]
    rfl
  · simp only [f_X4_leastSide, i1', e2, if_neg v10]
    rw [mod, y1, Option.bind_some, z1]
  · refine RR_row h hw x4 (fun a b h4 ha hb => by rw [z3 a b hb, y4 a b ha hb]) (Or.inr ⟨n, by omega, x2, ?_, fun j hj => ?_⟩)
    · rw [z3 _ _ (by omega), y2]
    · rw [x3 j hj, z2 j hj]
