-- ===== like: the model's search =====
theorem M_like {K : zMi} {t u n : Nat} {A B : Nat → Nat → Int} (hM : MT K t n A) (hN : MT K u n B) (hA : tri A) (hB : tri B) (h0 : 0 < n) (hn4 : n < 5) : (f_X4_like_36 fu (nI t) (nI u) (nI n) 0 K = some (1, K) ∧ ∃ a b, a < 4 ^ n ∧ b < 4 ^ n ∧ ordB a n = true ∧ ordB b n = true ∧ lkA A B n a b = true) ∨ (f_X4_like_36 fu (nI t) (nI u) (nI n) 0 K = some (0, K) ∧ ∀ a b, a < 4 ^ n → b < 4 ^ n → ordB a n = true → ordB b n = true → ¬ lkA A B n a b = true) := by
  have h4 := p4le n hn4
  refine lp (fun f i (_ : Unit) => f_X4_like_36 f (nI t) (nI u) (nI n) i K) (4 ^ n) 0 (Nat.zero_le _) (by rw [fu_val]; omega) (fun k _ => ∀ a b, a < k → b < 4 ^ n → ordB a n = true → ordB b n = true → ¬ lkA A B n a b = true) (fun res => (res = some (1, K) ∧ ∃ a b, a < 4 ^ n ∧ b < 4 ^ n ∧ ordB a n = true ∧ ordB b n = true ∧ lkA A B n a b = true) ∨ (res = some (0, K) ∧ ∀ a b, a < 4 ^ n → b < 4 ^ n → ordB a n = true → ordB b n = true → ¬ lkA A B n a b = true)) ?_ ?_ () (fun a b ha => absurd ha (Nat.not_lt_zero a))
  · intro f _ hs0
    right
    refine ⟨?_, hs0⟩
    show f_X4_like_36 (f + 1) (nI t) (nI u) (nI n) (nI (4 ^ n)) K = _
    rw [f_X4_like_36, p4n n hn4, if_pos (nI_le (Nat.le_refl _) (by omega))]
  · intro f k _ _ hk hs0
    show (∃ s' : Unit, f_X4_like_36 (f + 1) (nI t) (nI u) (nI n) (nI k) K = f_X4_like_36 f (nI t) (nI u) (nI n) (nI (k + 1)) K ∧ _) ∨ _
    rw [f_X4_like_36, p4n n hn4, if_neg (nI_ge hk (by omega))]
    have inner := lp (fun g i (_ : Unit) => f_X4_like_50 (f_X4_like_36 f) g (nI t) (nI u) (nI n) (nI k) i K) (4 ^ n) 0 (Nat.zero_le _) (by rw [fu_val]; omega) (fun w _ => ∀ b, b < w → ordB k n = true → ordB b n = true → ¬ lkA A B n k b = true) (fun res => (res = some (1, K) ∧ ∃ b, b < 4 ^ n ∧ ordB k n = true ∧ ordB b n = true ∧ lkA A B n k b = true) ∨ (res = f_X4_like_36 f (nI t) (nI u) (nI n) (nI (k + 1)) K ∧ ∀ b, b < 4 ^ n → ordB k n = true → ordB b n = true → ¬ lkA A B n k b = true)) ?_ ?_ () (fun b hb => absurd hb (Nat.not_lt_zero b))
    · rcases inner with ⟨i1, b, i2, i3, i4, i5⟩ | ⟨i1, i2⟩
      · right
        left
        exact ⟨i1, k, b, hk, i2, i3, i4, i5⟩
      · left
        refine ⟨(), i1, fun a b ha hb oa ob => ?_⟩
        by_cases g : a = k
        · subst g; exact i2 b hb oa ob
        · exact hs0 a b (by omega) hb oa ob
    · intro g _ hv0
      right
      refine ⟨?_, fun b hb => hv0 b hb⟩
      show f_X4_like_50 (f_X4_like_36 f) (g + 1) (nI t) (nI u) (nI n) (nI k) (nI (4 ^ n)) K = _
      rw [f_X4_like_50, p4n n hn4, if_pos (nI_le (Nat.le_refl _) (by omega)), nI_1]
    · intro g w _ _ hw hv0
      show (∃ s' : Unit, f_X4_like_50 (f_X4_like_36 f) (g + 1) (nI t) (nI u) (nI n) (nI k) (nI w) K = f_X4_like_50 (f_X4_like_36 f) g (nI t) (nI u) (nI n) (nI k) (nI (w + 1)) K ∧ _) ∨ ((f_X4_like_50 (f_X4_like_36 f) (g + 1) (nI t) (nI u) (nI n) (nI k) (nI w) K = _ ∧ _) ∨ (f_X4_like_50 (f_X4_like_36 f) (g + 1) (nI t) (nI u) (nI n) (nI k) (nI w) K = _ ∧ _))
      rw [f_X4_like_50, p4n n hn4, if_neg (nI_ge hw (by omega)), isOrd_eq n hn4 k hk, Option.bind_some]
      cases ho : ordB k n
      · right
        right
        refine ⟨?_, fun b _ q => by cases q⟩
        rw [bI_f, if_pos rfl, nI_1]
      · rw [bI_t, if_neg v10, isOrd_eq n hn4 w hw, Option.bind_some]
        cases hq : ordB w n
        · left
          refine ⟨(), ?_, fun b hb o1 o2 => ?_⟩
          · rw [bI_f, if_pos rfl, nI_1]
          · by_cases e : b = w
            · subst e; rw [hq] at o2; cases o2
            · exact hv0 b (by omega) ho o2
        · rw [bI_t, if_neg v10, M_isLike hM hN hA hB h0 hn4 (by omega) (by omega) (ord_lt n hn4 k hk ho) (ord_lt n hn4 w hw hq), Option.bind_some]
          cases hl : lkA A B n k w
          · left
            refine ⟨(), ?_, fun b hb o1 o2 => ?_⟩
            · rw [bI_f, if_pos rfl, nI_1]
            · by_cases e : b = w
              · subst e; rw [hl]; decide
              · exact hv0 b (by omega) ho o2
          · right
            left
            refine ⟨?_, w, hw, rfl, hq, hl⟩
            rw [bI_t, if_neg v10]
-- ===== like: both searches find alike =====
theorem xor8 : ∀ x1 x2 x3 x4 y1 y2 y3 y4 : Bool, ((if x1 then (-1 : Int) else 1) * (if x2 then -1 else 1) * (if x3 then -1 else 1) * (if x4 then -1 else 1) = (if y1 then (-1 : Int) else 1) * (if y2 then -1 else 1) * (if y3 then -1 else 1) * (if y4 then -1 else 1)) ↔ (x1 ^^ (x2 ^^ (x3 ^^ x4))) = (y1 ^^ (y2 ^^ (y3 ^^ y4))) := by decide +kernel
theorem pm_mn {A : Nat → Nat → Int} {i j : Nat} (h : A i j = 1 ∨ A i j = -1) : A i j = if mn A i j then -1 else 1 := by
  unfold mn
  rcases h with e | e <;> rw [e] <;> decide
theorem ccd_tb (A : Nat → Nat → Int) (a v n j : Nat) {i : Nat} (hi : i < n) : (ccd A a v n j).testBit i = (v.testBit i ^^ mn A (od a i) j) := by
  unfold ccd
  rw [Nat.testBit_xor, bs_tb, decide_eq_true hi, Bool.true_and]
theorem xor_a : ∀ p q r s y z w o : Bool, (p ^^ (q ^^ (r ^^ s))) = (y ^^ (z ^^ (w ^^ o))) → (((r ^^ w) ^^ p) ^^ ((s ^^ o) ^^ q)) = (y ^^ z) := by decide
theorem xor_b : ∀ v w p q r s y z x o : Bool, ((v ^^ p) ^^ (w ^^ q)) = (y ^^ z) → ((v ^^ r) ^^ (w ^^ s)) = (x ^^ o) → (p ^^ (q ^^ (r ^^ s))) = (y ^^ (z ^^ (x ^^ o))) := by decide
theorem xor_c : ∀ r s w o : Bool, (((r ^^ w) ^^ r) ^^ ((s ^^ o) ^^ s)) = (w ^^ o) := by decide
theorem like_iff {A B : Nat → Nat → Int} {n : Nat} (hA : tri A) (hB : tri B) (hS : SG A n) (hR : SG B n) (h0 : 0 < n) (hn4 : n < 5) : (∃ a b, a < 4 ^ n ∧ b < 4 ^ n ∧ ordB a n = true ∧ ordB b n = true ∧ lkA A B n a b = true) ↔ ∃ a v, a < 4 ^ n ∧ v < 2 ^ n ∧ ordB a n = true ∧ tl8 (fun j => kcd n (ccd A a v n j)) n = tl8 (fun j => kcd n (ccd B 228 0 n j)) n := by
  have hp1 : 0 < 2 ^ n := Nat.two_pow_pos n
  have hY : ∀ j i, i < n → (ccd B 228 0 n j).testBit i = mn B i j := fun j i hi => by
    rw [ccd_tb B 228 0 n j hi, od_228 i (by omega), Nat.zero_testBit, Bool.false_xor]
  have cond : ∀ a b, (∀ j, j < n → od a j < n) → (∀ j, j < n → od b j < n) → ∀ i j, i < n → j < n → (cB A B a b i j = true ↔ (mn A (od a i) (od b j) ^^ (mn A (od a 0) (od b j) ^^ (mn A (od a i) (od b 0) ^^ mn A (od a 0) (od b 0)))) = (mn B i j ^^ (mn B 0 j ^^ (mn B i 0 ^^ mn B 0 0)))) := by
    intro a b oa ob i j hi hj
    rw [← xor8, ← pm_mn (SG_pm hA hS (oa i hi) (ob j hj)), ← pm_mn (SG_pm hA hS (oa 0 h0) (ob j hj)), ← pm_mn (SG_pm hA hS (oa i hi) (ob 0 h0)), ← pm_mn (SG_pm hA hS (oa 0 h0) (ob 0 h0)), ← pm_mn (SG_pm hB hR hi hj), ← pm_mn (SG_pm hB hR h0 hj), ← pm_mn (SG_pm hB hR hi h0), ← pm_mn (SG_pm hB hR h0 h0)]
    exact decide_eq_true_iff
  have lkc : ∀ a b, lkA A B n a b = true ↔ ∀ i, i < n → i ≠ 0 → ∀ j, j < n → j ≠ 0 → cB A B a b i j = true := by
    intro a b
    unfold lkA lkR
    rw [alB_iff]
    constructor
    · intro h i hi i0 j hj j0
      have h1 := h i hi
      rw [decide_eq_false i0, Bool.false_or, alB_iff] at h1
      have h2 := h1 j hj
      rw [decide_eq_false j0, Bool.false_or] at h2
      exact h2
    · intro h i hi
      by_cases i0 : i = 0
      · rw [decide_eq_true i0, Bool.true_or]
      · rw [decide_eq_false i0, Bool.false_or, alB_iff]
        intro j hj
        by_cases j0 : j = 0
        · rw [decide_eq_true j0, Bool.true_or]
        · rw [decide_eq_false j0, Bool.false_or]
          exact h i hi i0 j hj j0
  have k8 : ∀ (A : Nat → Nat → Int) a v, v < 2 ^ n → ∀ j, j < n → kcd n (ccd A a v n j) < 8 := fun A a v hv j _ => kcd_lt n hn4 _ (ccd_lt A j hv)
  constructor
  · rintro ⟨a, b, ha, hb, oa, ob, hl⟩
    have la := ord_lt n hn4 a ha oa
    have lb := ord_lt n hn4 b hb ob
    rw [lkc] at hl
    have hv := bs_lt (fun i => mn A (od a i) (od b 0) ^^ mn B i 0) n
    have hvt : ∀ i, i < n → (bs (fun i => mn A (od a i) (od b 0) ^^ mn B i 0) n).testBit i = (mn A (od a i) (od b 0) ^^ mn B i 0) := fun i hi => by
      rw [bs_tb, decide_eq_true hi, Bool.true_and]
    refine ⟨a, bs (fun i => mn A (od a i) (od b 0) ^^ mn B i 0) n, ha, hv, oa, ?_⟩
    generalize bs (fun i => mn A (od a i) (od b 0) ^^ mn B i 0) n = v at hv hvt
    rw [tl8_iff hn4 (k8 A a v hv) (k8 B 228 0 hp1)]
    intro c
    rw [← ord_cts hn4 hb ob (fun j => decide (kcd n (ccd A a v n j) = c))]
    refine fb_ct_cong (fun j hj => ?_)
    have e : kcd n (ccd A a v n (od b j)) = kcd n (ccd B 228 0 n j) := by
      rw [kcd_iff n hn4 _ (ccd_lt A _ hv) _ (ccd_lt B _ hp1)]
      intro i hi
      rw [ccd_tb A a v n _ hi, ccd_tb A a v n _ h0, hY j i hi, hY j 0 h0, hvt i hi, hvt 0 h0]
      by_cases i0 : i = 0
      · subst i0
        rw [Bool.xor_self, Bool.xor_self]
      · by_cases j0 : j = 0
        · subst j0
          exact xor_c _ _ _ _
        · exact xor_a _ _ _ _ _ _ _ _ ((cond a b la lb i j hi hj).mp (hl i hi i0 j hj j0))
    show decide (kcd n (ccd A a v n (od b j)) = c) = _
    rw [e]
  · rintro ⟨a, v, ha, hv, oa, ht⟩
    have la := ord_lt n hn4 a ha oa
    rw [tl8_iff hn4 (k8 A a v hv) (k8 B 228 0 hp1)] at ht
    obtain ⟨τ, t1, t2, t3⟩ := ct_perm n _ _ ht
    obtain ⟨b, hb, ob⟩ := od_code hn4 τ t1
    have lb : ∀ j, j < n → od b j < n := fun j hj => by rw [ob j hj]; exact t1 j hj
    refine ⟨a, b, ha, hb, oa, ord_inj hn4 hb lb (fun j hj i hi => by rw [ob j hj, ob i (by omega)]; exact t2 j hj i hi), ?_⟩
    rw [lkc]
    intro i hi _ j hj _
    rw [cond a b la lb i j hi hj]
    have e : ∀ j, j < n → ((v.testBit i ^^ mn A (od a i) (od b j)) ^^ (v.testBit 0 ^^ mn A (od a 0) (od b j))) = (mn B i j ^^ mn B 0 j) := by
      intro j hj
      have q := (kcd_iff n hn4 _ (ccd_lt A _ hv) _ (ccd_lt B _ hp1)).mp (t3 j hj) i hi
      rw [ccd_tb A a v n _ hi, ccd_tb A a v n _ h0, hY j i hi, hY j 0 h0, ← ob j hj] at q
      exact q
    exact xor_b _ _ _ _ _ _ _ _ _ _ (e j hj) (e 0 h0)
theorem s_like : so_like RR := by
  intro I J K M h a1 a2
  rcases T_cases h a1 with ⟨e1, e2, e3⟩ | hT1
  · exact ⟨-1, I, K, by simp only [f_X3_like, e1, if_true], by simp only [f_X4_like, f_X4_askedTwo, e2, if_true, Option.bind_some, if_neg v0m1], h⟩
  have q1 : f_X3_isTableNumber a1 = 1 ∧ f_X4_isTable a1 = 1 := by
    rcases hT1 with ⟨t, ht, rfl, e1, e2, _⟩ | ⟨t, n, A, k, ht, rfl, e1, e2, _⟩ <;> exact ⟨e1, e2⟩
  rcases T_cases h a2 with ⟨e1, e2, e3⟩ | hT2
  · exact ⟨-1, I, K, by simp only [f_X3_like, q1.1, e1, if_neg v10, if_true], by simp only [f_X4_like, f_X4_askedTwo, q1.2, e2, if_neg v10, if_true, Option.bind_some, if_neg v0m1], h⟩
  have q2 : f_X3_isTableNumber a2 = 1 ∧ f_X4_isTable a2 = 1 := by
    rcases hT2 with ⟨t, ht, rfl, e1, e2, _⟩ | ⟨t, n, A, k, ht, rfl, e1, e2, _⟩ <;> exact ⟨e1, e2⟩
  obtain ⟨I1, K1, y1, y2, h1⟩ := RR_found h 1 (by simp)
  obtain ⟨I3, K3, z1, z2, h3⟩ := RR_found h 3 (by simp)
  rcases hT1 with ⟨t, ht, rfl, e1, e2, e3, e4, e5, e6, e7⟩ | ⟨t, n, A, k, ht, rfl, e1, e2, e3, e4, e5, e6, e7, h0, hA, hX, hM, hK, k1, k2⟩
  · refine ⟨-3, I1, K1, ?_, ?_, h1⟩
    · rcases hT2 with ⟨u, hu, rfl, g1, g2, g3, g4, g5, g6, g7⟩ | ⟨u, m, B, l, hu, rfl, g1, g2, g3, g4, g5, g6, g7, hT⟩
      · simp only [f_X3_like, q1.1, q2.1, e3, e4, e5, g3, y1, Option.bind_some, if_neg v10, if_true]
      · simp only [f_X3_like, q1.1, q2.1, e3, e4, e5, g3, y1, Option.bind_some, if_neg v10, if_true]
    · simp only [f_X4_like, f_X4_askedTwo, q1.2, q2.2, e3, e4, e6, y2, Option.bind_some, if_neg v10, if_neg v0m3, if_true]
  · rcases hT2 with ⟨u, hu, rfl, g1, g2, g3, g4, g5, g6, g7⟩ | ⟨u, m, B, l, hu, rfl, g1, g2, g3, g4, g5, g6, g7, m0, hB, hY, hN, hL, l1, l2⟩
    · refine ⟨-3, I1, K1, ?_, ?_, h1⟩
      · simp only [f_X3_like, q1.1, q2.1, e3, e4, e5, g3, g4, g5, y1, Option.bind_some, if_neg v10, if_true]
      · simp only [f_X4_like, f_X4_askedTwo, q1.2, q2.2, e3, e4, if_neg e6, g3, g4, g6, y2, Option.bind_some, if_neg v10, if_neg v0m3, if_true]
    · have hn := hX.2.1
      have hm := hY.2.1
      have w1 : I (22 + 3 * t) 2 = nI n := hX.2.2.1
      have w2 : K 5 t = nI n := hM.2.2.1
      have v1 : I (22 + 3 * u) 2 = nI m := hY.2.2.1
      have v2 : K 5 u = nI m := hN.2.2.1
      have nz : ¬ nI n = 0 := nI_ne0 h0 (by omega)
      have mz : ¬ nI m = 0 := nI_ne0 m0 (by omega)
      obtain ⟨b, s1, s2, sq⟩ := sg_both hA hX hM
      cases b
      · refine ⟨-3, I3, K3, ?_, ?_, h3⟩
        · simp only [f_X3_like, q1.1, q2.1, e3, e4, e5, g3, g4, g5, s1, bI_f, z1, Option.bind_some, if_neg v10, if_true]
        · simp only [f_X4_like, f_X4_askedTwo, q1.2, q2.2, e3, e4, if_neg e6, g3, g4, if_neg g6, s2, Bool.not_false, bI_t, z2, Option.bind_some, if_neg v10, if_neg v0m3, if_true]
      · obtain ⟨b, r1, r2, rq⟩ := sg_both hB hY hN
        cases b
        · refine ⟨-3, I3, K3, ?_, ?_, h3⟩
          · simp only [f_X3_like, q1.1, q2.1, e3, e4, e5, g3, g4, g5, s1, bI_t, r1, bI_f, z1, Option.bind_some, if_neg v10, if_true]
          · simp only [f_X4_like, f_X4_askedTwo, q1.2, q2.2, e3, e4, if_neg e6, g3, g4, if_neg g6, s2, Bool.not_true, bI_f, r2, Bool.not_false, bI_t, z2, Option.bind_some, if_neg v10, if_neg v0m3, if_true]
        · have hS := sq.mp rfl
          have hR := rq.mp rfl
          by_cases hnm : n = m
          · subst hnm
            have at2 : f_X4_askedTwo (nI t) (nI u) K = some (0, K) := by
              simp only [f_X4_askedTwo, q1.2, q2.2, e3, e4, w2, if_neg nz, g3, g4, v2, s2, Bool.not_true, bI_f, r2, Option.bind_some, if_neg v10, if_true]
            have hs : I (22 + 3 * t) 2 = nI n := w1
            by_cases hn4 : n < 5
            · have l4 : nI n ≤ 4 := nI_le (b := 4) (by omega) (by omega)
              have iff := like_iff hA hB hS hR h0 hn4
              have cls : ∃ b, f_X2_comesFrom t u I = some (bI b) ∧ f_X4_like_36 fu (nI t) (nI u) (nI n) 0 K = some (bI b, K) := by
                rcases X_comes hX hY hn4 with ⟨c1, a, v, c2, c3, c4, c5⟩ | ⟨c1, c2⟩
                · rcases M_like hM hN hA hB h0 hn4 with ⟨d1, -⟩ | ⟨d1, d2⟩
                  · exact ⟨true, c1, d1⟩
                  · obtain ⟨a', b', q1, q2, q3, q4, q5⟩ := iff.mpr ⟨a, v, c2, c3, c4, c5⟩
                    exact absurd q5 (d2 a' b' q1 q2 q3 q4)
                · rcases M_like hM hN hA hB h0 hn4 with ⟨d1, a, b, d2⟩ | ⟨d1, -⟩
                  · obtain ⟨a', v', q1, q2, q3, q4⟩ := iff.mp ⟨a, b, d2⟩
                    exact absurd q4 (c2 a' v' q1 q2 q3)
                  · exact ⟨false, c1, d1⟩
              obtain ⟨b, c1, d1⟩ := cls
              refine ⟨bI b, I, K, ?_, ?_, h⟩
              · simp only [f_X3_like, q1.1, q2.1, e3, e4, e5, g3, g4, g5, s1, bI_t, r1, w1, v1, if_pos l4, c1, Option.bind_some, if_neg v10, if_true]
                cases b <;> rfl
              · simp only [f_X4_like, at2, e3, e4, w2, if_pos l4, d1, Option.bind_some, if_pos v00, if_true]
            · have l4 : ¬ nI n ≤ 4 := nI_ge (a := 4) (by omega) (by omega)
              obtain ⟨I5, K5, x1, x2, h5⟩ := RR_found h 5 (by simp)
              refine ⟨-3, I5, K5, ?_, ?_, h5⟩
              · simp only [f_X3_like, q1.1, q2.1, e3, e4, e5, g3, g4, g5, s1, bI_t, r1, w1, v1, if_neg l4, x1, Option.bind_some, if_neg v10, if_true]
              · simp only [f_X4_like, at2, e3, e4, w2, if_neg l4, x2, Option.bind_some, if_pos v00, if_true]
          · have ne : ¬ nI n = nI m := fun q => hnm ((nI_eq (by omega) (by omega)).mp q)
            refine ⟨-3, I3, K3, ?_, ?_, h3⟩
            · simp only [f_X3_like, q1.1, q2.1, e3, e4, e5, g3, g4, g5, s1, bI_t, r1, w1, v1, if_neg ne, z1, Option.bind_some, if_neg v10, if_true]
            · simp only [f_X4_like, f_X4_askedTwo, q1.2, q2.2, e3, e4, w2, if_neg nz, g3, g4, v2, if_neg mz, s2, Bool.not_true, bI_f, r2, if_neg ne, z2, Option.bind_some, if_neg v10, if_neg v0m3, if_true]
