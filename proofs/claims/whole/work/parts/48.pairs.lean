-- ===== long numbers =====
abbrev lI (z : Int) : Int64 := Int64.ofInt z
theorem lI_add (a b : Int) : lI a + lI b = lI (a + b) := (Int64.ofInt_add a b).symm
theorem lI_sub (a b : Int) : lI a - lI b = lI (a - b) := (Int64.ofInt_sub a b).symm
theorem lI_mul (a b : Int) : lI a * lI b = lI (a * b) := (Int64.ofInt_mul a b).symm
theorem lI_neg (a : Int) : -lI a = lI (-a) := (Int64.ofInt_neg a).symm
theorem lI_toInt {z : Int} (h1 : -9223372036854775808 ≤ z) (h2 : z < 9223372036854775808) : (lI z).toInt = z := by
  rw [Int64.toInt_ofInt]
  exact fb_bmodL h1 h2
theorem lI_eq {a b : Int} (ha : -9223372036854775808 ≤ a ∧ a < 9223372036854775808) (hb : -9223372036854775808 ≤ b ∧ b < 9223372036854775808) : lI a = lI b ↔ a = b := by
  rw [fa_eq64, lI_toInt ha.1 ha.2, lI_toInt hb.1 hb.2]
theorem sI_l {z : Int} (h1 : -2147483648 ≤ z) (h2 : z < 2147483648) : (sI z).toInt64 = lI z := by
  rw [fa_eq64, Int32.toInt_toInt64, sI_toInt h1 h2, lI_toInt (by omega) (by omega)]
-- ===== pairs =====
def ex (n x s : Nat) : Int := ecI (fun j => x.testBit j) n s
theorem ex_b (n x s : Nat) : -(n : Int) ≤ ex n x s ∧ ex n x s ≤ n := ecI_bound _ n s
def kyI (n x : Nat) : Nat → Int
  | 0 => 0
  | m + 1 => kyI n x m * 32 + ex n x (m + 1)
theorem kyI_b {n : Nat} (hn : n ≤ 8) (x : Nat) : ∀ m, -((32 ^ m : Nat) : Int) < kyI n x m ∧ kyI n x m < ((32 ^ m : Nat) : Int)
  | 0 => by simp [kyI]
  | m + 1 => by
    have ih := kyI_b hn x m
    have := ex_b n x (m + 1)
    rw [Nat.pow_succ, Int.natCast_mul]
    simp only [kyI]
    omega
theorem kyI_8 {n : Nat} (hn : n ≤ 8) (x m : Nat) (hm : m ≤ 7) : -34359738368 < kyI n x m ∧ kyI n x m < 34359738368 := by
  have h1 := kyI_b hn x m
  have h2 : 32 ^ m ≤ 32 ^ 7 := Nat.pow_le_pow_right (by omega) hm
  have h3 : (32 : Nat) ^ 7 = 34359738368 := by decide
  omega
def Zb (n x y : Nat) : Nat → Bool := fun m => alB (fun q => decide (ex n x (q + 1) + ex n y (q + 1) = 0)) m
theorem ky_zero {n : Nat} (hn : n ≤ 8) (x y : Nat) : ∀ m, kyI n x m + kyI n y m = 0 ↔ Zb n x y m = true
  | 0 => by simp [kyI, Zb, alB]
  | m + 1 => by
    have ih := ky_zero hn x y m
    have b1 := ex_b n x (m + 1)
    have b2 := ex_b n y (m + 1)
    unfold Zb at ih ⊢
    simp only [kyI, alB, Bool.and_eq_true, decide_eq_true_iff, ← ih]
    omega
theorem X_key {n x : Nat} (h0 : 0 < n) (hn : n ≤ 8) (hx : x < 2 ^ n) : f_X3_echoKey (nI x) (nI n) = some (lI (kyI n x (n - 1))) := by
  unfold f_X3_echoKey
  refine upF (fun f i (a : Int64) => f_X3_echoKey_5 f (nI x) (nI n) a i) n 1 (by omega) (by rw [fu_val]; omega) (fun s => lI (kyI n x (s - 1))) _ ?_ ?_
  · intro f
    show f_X3_echoKey_5 (f + 1) (nI x) (nI n) _ (nI n) = _
    rw [f_X3_echoKey_5, if_pos (nI_le (Nat.le_refl _) (by omega))]
  · intro f s hs1 hs
    show f_X3_echoKey_5 (f + 1) (nI x) (nI n) _ (nI s) = f_X3_echoKey_5 f (nI x) (nI n) _ (nI (s + 1))
    have e := X_echo0 (fun j => x.testBit j) (n := n) (s := s) (by omega) (by omega)
    rw [bs_self hx] at e
    have b := ex_b n x s
    obtain ⟨m, rfl⟩ : ∃ m, s = m + 1 := ⟨s - 1, by omega⟩
    rw [f_X3_echoKey_5, if_neg (nI_ge hs (by omega)), e, sI_l (by unfold ex at b; omega) (by unfold ex at b; omega), show (32 : Int64) = lI 32 from rfl, lI_mul, lI_add, nI_1]
    rfl
theorem sm_rev : ∀ (h : Nat) (f : Nat → Nat), fb_sm (fun k => f (h - 1 - k)) h = fb_sm f h
  | 0, _ => rfl
  | h + 1, f => by
    have ih := sm_rev h (fun k => f (1 + k))
    rw [fb_sm_succ, Nat.add_comm h 1, fb_sm_split f 1 h]
    have e : fb_sm (fun k => f (1 + h - 1 - k)) h = fb_sm (fun k => f (1 + (h - 1 - k))) h := fb_sm_cong (fun k hk => by congr 1; omega)
    rw [e, ih]
    show fb_sm (fun k => f (1 + k)) h + f (1 + h - 1 - h) = (0 + f 0) + fb_sm (fun k => f (1 + k)) h
    rw [show 1 + h - 1 - h = 0 by omega]
    omega
theorem sm_mirror (f : Nat → Nat) (h : Nat) (hf : ∀ k, k < h → f (h + k) = f (h - 1 - k)) : fb_sm f (h + h) = 2 * fb_sm f h := by
  rw [fb_sm_split, fb_sm_cong hf, sm_rev]
  omega
theorem Z_comp {n x y : Nat} (hy : y < 2 ^ n) (m : Nat) : Zb n x (2 ^ n - 1 - y) m = Zb n x y m := by
  unfold Zb ex
  congr 1
  funext q
  rw [ec_comp _ hy]
theorem Z_comm (n x y m : Nat) : Zb n x y m = Zb n y x m := by
  unfold Zb
  congr 1
  funext q
  rw [Int.add_comm]
theorem s_pairs : so_pairs RR := by
  intro I J K M h a1
  rcases in_1n (a := a1) 8 (by omega) with ⟨i1, i2⟩ | ⟨n, h0, hn, rfl, i1, i2, i3⟩
  · refine ⟨-1, J, K, ?_, by simp only [f_X4_pairs, show f_X4_in a1 1 8 = 0 from i1, if_true], h⟩
    rcases i2 with q | q
    · simp only [f_X3_pairs, if_pos q]
    · have q' : ¬ a1 ≤ 8 := q
      by_cases q2 : a1 < 1
      · simp only [f_X3_pairs, if_pos q2]
      · simp only [f_X3_pairs, if_neg q2, if_neg q']
  have i1' : f_X4_in (nI n) 1 8 = 1 := i1
  have i3' : nI n ≤ 8 := i3
  have hp : 2 ^ n ≤ 256 := Nat.le_trans (Nat.pow_le_pow_right (by omega) hn) (by decide)
  have hpow := pow_half h0
  have hp1 : 1 ≤ 2 ^ (n - 1) := Nat.one_le_two_pow
  have hc : nI n - 1 = nI (n - 1) := pk_sub (b := 1) h0
  -- the class
  have cls : ∃ J', f_X3_pairs_21 fu (nI n) (nI (2 ^ (n - 1))) 0 J = some (4 * nI (fb_sm (fun x => fb_ct (fun y => Zb n x y (n - 1)) (2 ^ (n - 1))) (2 ^ (n - 1))), J') ∧ ∀ a b, a ≠ 8 → J' a b = J a b := by
    refine lp (fun f i J => f_X3_pairs_21 f (nI n) (nI (2 ^ (n - 1))) i J) (2 ^ (n - 1)) 0 (by omega) (by rw [fu_val]; omega) (fun k J' => (∀ x, x < k → J' 8 x = lI (kyI n x (n - 1))) ∧ ∀ a b, a ≠ 8 → J' a b = J a b) (fun res => ∃ J', res = some (4 * nI (fb_sm (fun x => fb_ct (fun y => Zb n x y (n - 1)) (2 ^ (n - 1))) (2 ^ (n - 1))), J') ∧ ∀ a b, a ≠ 8 → J' a b = J a b) ?_ ?_ _ ?_
    · intro f s ⟨s1, s2⟩
      refine ⟨s, ?_, s2⟩
      show f_X3_pairs_21 (f + 1) (nI n) (nI (2 ^ (n - 1))) (nI (2 ^ (n - 1))) s = _
      rw [f_X3_pairs_21, if_pos (nI_le (Nat.le_refl _) (by omega))]
      have inner : ∀ (k48 : Int32 → Int32 → Int32 → zMl → Option (Int32 × zMl)) (x c : Nat), x < 2 ^ (n - 1) → f_X3_pairs_57 k48 fu (nI (2 ^ (n - 1))) (nI c) (nI x) 0 s = k48 (nI (2 ^ (n - 1))) (nI (c + fb_ct (fun y => Zb n x y (n - 1)) (2 ^ (n - 1)))) (nI (x + 1)) s := by
        intro k48 x c hx
        refine up0 (fun f y (a : Int32) => f_X3_pairs_57 k48 f (nI (2 ^ (n - 1))) a (nI x) y s) (2 ^ (n - 1)) (by rw [fu_val]; omega) (fun y => nI (c + fb_ct (fun y => Zb n x y (n - 1)) y)) _ ?_ ?_
        · intro f
          show f_X3_pairs_57 k48 (f + 1) (nI (2 ^ (n - 1))) _ (nI x) (nI (2 ^ (n - 1))) s = _
          rw [f_X3_pairs_57, if_pos (nI_le (Nat.le_refl _) (by omega)), nI_1]
        · intro f y hy
          show f_X3_pairs_57 k48 (f + 1) (nI (2 ^ (n - 1))) _ (nI x) (nI y) s = f_X3_pairs_57 k48 f (nI (2 ^ (n - 1))) _ (nI x) (nI (y + 1)) s
          have b1 := kyI_8 hn x (n - 1) (by omega)
          have b2 := kyI_8 hn y (n - 1) (by omega)
          have z : lg_cmp (lI (kyI n x (n - 1)) + lI (kyI n y (n - 1))) 0 = 0 ↔ Zb n x y (n - 1) = true := by
            rw [lg_cmp_eq, lI_add, show (0 : Int64) = lI 0 from rfl, lI_eq (by omega) (by omega), ky_zero hn]
          rw [f_X3_pairs_57, if_neg (nI_ge hy (by omega)), ix_nI (by omega) (by omega), if_pos rfl, ix_nI (by omega) (by omega), if_pos rfl, nI_clamp (by omega), nI_clamp (by omega), s1 x hx, s1 y hy, nI_1 y, nI_1, fb_ct_succ]
          by_cases g : Zb n x y (n - 1) = true
          · rw [if_pos (z.mpr g), if_pos g]
            rfl
          · rw [if_neg (fun q => g (z.mp q)), if_neg g]
            rfl
      refine up0 (fun f x (a : Int32) => f_X3_pairs_48 f (nI (2 ^ (n - 1))) a x s) (2 ^ (n - 1)) (by rw [fu_val]; omega) (fun x => nI (fb_sm (fun x => fb_ct (fun y => Zb n x y (n - 1)) (2 ^ (n - 1))) x)) _ ?_ ?_
      · intro f
        show f_X3_pairs_48 (f + 1) (nI (2 ^ (n - 1))) _ (nI (2 ^ (n - 1))) s = _
        rw [f_X3_pairs_48, if_pos (nI_le (Nat.le_refl _) (by omega))]
      · intro f x hx
        show f_X3_pairs_48 (f + 1) (nI (2 ^ (n - 1))) _ (nI x) s = f_X3_pairs_48 f (nI (2 ^ (n - 1))) _ (nI (x + 1)) s
        rw [f_X3_pairs_48, if_neg (nI_ge hx (by omega)), inner _ x _ hx, fb_sm_succ]
    · intro f k s _ hk ⟨s1, s2⟩
      left
      refine ⟨wJ s 8 k (lI (kyI n k (n - 1))), ?_, fun x hx => ?_, fun a b ha => by rw [wJ_off (by omega), s2 a b ha]⟩
      · show f_X3_pairs_21 (f + 1) (nI n) (nI (2 ^ (n - 1))) (nI k) s = f_X3_pairs_21 f (nI n) (nI (2 ^ (n - 1))) (nI (k + 1)) _
        rw [f_X3_pairs_21, if_neg (nI_ge hk (by omega)), X_key h0 hn (by omega), Option.bind_some, ix_nI (by omega) (by omega), if_pos rfl, nI_clamp (by omega), nI_1]
      · by_cases g : x = k
        · rw [wJ_here rfl g, g]
        · rw [wJ_off (by omega), s1 x (by omega)]
    · exact ⟨fun x hx => by omega, fun _ _ _ => rfl⟩
  -- the model
  have e8 : ∀ x s : Nat, 8 * nI x + nI s = nI (8 * x + s) := fun x s => by
    rw [show (8 : Int32) = nI 8 from rfl, pk_mul, nI_add]
  have mod : ∃ K', f_X4_pairs_14 fu (nI n) 0 K = some (nI (fb_sm (fun x => fb_ct (fun y => Zb n x y (n - 1)) (2 ^ n)) (2 ^ n)), K') ∧ ∀ a b, a ≠ 13 → K' a b = K a b := by
    refine lp (fun f i K => f_X4_pairs_14 f (nI n) i K) (2 ^ n) 0 (by omega) (by rw [fu_val]; omega) (fun k K' => (∀ x s, x < k → 1 ≤ s → s < n → K' 13 (8 * x + s) = sI (ex n x s)) ∧ ∀ a b, a ≠ 13 → K' a b = K a b) (fun res => ∃ K', res = some (nI (fb_sm (fun x => fb_ct (fun y => Zb n x y (n - 1)) (2 ^ n)) (2 ^ n)), K') ∧ ∀ a b, a ≠ 13 → K' a b = K a b) ?_ ?_ _ ?_
    · intro f s ⟨s1, s2⟩
      refine ⟨s, ?_, s2⟩
      show f_X4_pairs_14 (f + 1) (nI n) (nI (2 ^ n)) s = _
      rw [f_X4_pairs_14, one_shl (by omega), if_pos (nI_le (Nat.le_refl _) (by omega))]
      have in1 : ∀ (k61 : Int32 → Int32 → Int32 → zMi → Option (Int32 × zMi)) (k71 : Int32 → Int32 → Int32 → Int32 → zMi → Option (Int32 × zMi)) (x y c : Nat), x < 2 ^ n → y < 2 ^ n → f_X4_pairs_85 k61 k71 fu (nI n) (nI c) (nI x) (nI y) 1 1 s = k71 (nI n) (nI (c + if Zb n x y (n - 1) then 1 else 0)) (nI x) (nI (y + 1)) s := by
        intro k61 k71 x y c hx hy
        have a0 : nI c + 0 = nI (c + 0) := nI_add c 0
        refine lp (fun f q (a : Int32) => f_X4_pairs_85 k61 k71 f (nI n) (nI c) (nI x) (nI y) a q s) n 1 (by omega) (by rw [fu_val]; omega) (fun q a => a = bI (Zb n x y (q - 1))) (fun res => res = k71 (nI n) (nI (c + if Zb n x y (n - 1) then 1 else 0)) (nI x) (nI (y + 1)) s) ?_ ?_ 1 rfl
        · intro f a ha
          show f_X4_pairs_85 k61 k71 (f + 1) (nI n) (nI c) (nI x) (nI y) a (nI n) s = _
          rw [f_X4_pairs_85, if_pos (nI_le (Nat.le_refl _) (by omega)), ha, a0, nI_1 c, nI_1]
          cases Zb n x y (n - 1) <;> rfl
        · intro f q a hq1 hq ha
          obtain ⟨m, rfl⟩ : ∃ m, q = m + 1 := ⟨q - 1, by omega⟩
          cases hz : Zb n x y m
          · right
            have hzz : Zb n x y (n - 1) = false := by
              cases hb : Zb n x y (n - 1)
              · rfl
              · exfalso
                have : Zb n x y m = true := (alB_iff _ _).mpr (fun i hi => (alB_iff _ _).mp hb i (by omega))
                rw [hz] at this
                cases this
            show f_X4_pairs_85 k61 k71 (f + 1) (nI n) (nI c) (nI x) (nI y) a (nI (m + 1)) s = _
            have ha' : a = 0 := by
              rw [ha, Nat.add_sub_cancel, hz]
              rfl
            rw [f_X4_pairs_85, if_neg (nI_ge hq (by omega)), if_pos ha', if_pos ha', hzz, a0, nI_1]
            rfl
          · left
            refine ⟨bI (Zb n x y (m + 1)), ?_, rfl⟩
            show f_X4_pairs_85 k61 k71 (f + 1) (nI n) (nI c) (nI x) (nI y) a (nI (m + 1)) s = f_X4_pairs_85 k61 k71 f (nI n) (nI c) (nI x) (nI y) _ (nI (m + 1 + 1)) s
            have ha' : ¬ a = 0 := by
              rw [ha, Nat.add_sub_cancel, hz]
              decide
            have b1 := ex_b n x (m + 1)
            have b2 := ex_b n y (m + 1)
            have z : sI (ex n x (m + 1)) + sI (ex n y (m + 1)) = 0 ↔ ex n x (m + 1) + ex n y (m + 1) = 0 := by
              rw [sI_add]
              exact sI_eq (b := 0) (by omega) (by omega)
            rw [f_X4_pairs_85, if_neg (nI_ge hq (by omega)), if_neg ha', e8, ix_nI (by omega) (by omega), if_pos rfl, e8, ix_nI (by omega) (by omega), if_pos rfl, nI_clamp (by omega), nI_clamp (by omega), s1 x (m + 1) hx (by omega) hq, s1 y (m + 1) hy (by omega) hq, nI_1]
            have hzs : Zb n x y (m + 1) = (Zb n x y m && decide (ex n x (m + 1) + ex n y (m + 1) = 0)) := rfl
            rw [hzs, hz, Bool.true_and]
            by_cases g : ex n x (m + 1) + ex n y (m + 1) = 0
            · rw [if_pos (z.mpr g), decide_eq_true g]
              rfl
            · rw [if_neg (fun w => g (z.mp w)), decide_eq_false g]
              rfl
      have in2 : ∀ (k61 : Int32 → Int32 → Int32 → zMi → Option (Int32 × zMi)) (x c : Nat), x < 2 ^ n → f_X4_pairs_71 k61 fu (nI n) (nI c) (nI x) 0 s = k61 (nI n) (nI (c + fb_ct (fun y => Zb n x y (n - 1)) (2 ^ n))) (nI (x + 1)) s := by
        intro k61 x c hx
        refine up0 (fun f y (a : Int32) => f_X4_pairs_71 k61 f (nI n) a (nI x) y s) (2 ^ n) (by rw [fu_val]; omega) (fun y => nI (c + fb_ct (fun y => Zb n x y (n - 1)) y)) _ ?_ ?_
        · intro f
          show f_X4_pairs_71 k61 (f + 1) (nI n) _ (nI x) (nI (2 ^ n)) s = _
          rw [f_X4_pairs_71, one_shl (by omega), if_pos (nI_le (Nat.le_refl _) (by omega)), nI_1]
        · intro f y hy
          show f_X4_pairs_71 k61 (f + 1) (nI n) _ (nI x) (nI y) s = f_X4_pairs_71 k61 f (nI n) _ (nI x) (nI (y + 1)) s
          rw [f_X4_pairs_71, one_shl (by omega), if_neg (nI_ge hy (by omega)), in1 _ _ x y _ hx hy, fb_ct_succ, Nat.add_assoc]
      refine up0 (fun f x (a : Int32) => f_X4_pairs_61 f (nI n) a x s) (2 ^ n) (by rw [fu_val]; omega) (fun x => nI (fb_sm (fun x => fb_ct (fun y => Zb n x y (n - 1)) (2 ^ n)) x)) _ ?_ ?_
      · intro f
        show f_X4_pairs_61 (f + 1) (nI n) _ (nI (2 ^ n)) s = _
        rw [f_X4_pairs_61, one_shl (by omega), if_pos (nI_le (Nat.le_refl _) (by omega))]
      · intro f x hx
        show f_X4_pairs_61 (f + 1) (nI n) _ (nI x) s = f_X4_pairs_61 f (nI n) _ (nI (x + 1)) s
        rw [f_X4_pairs_61, one_shl (by omega), if_neg (nI_ge hx (by omega)), in2 _ x _ hx, fb_sm_succ]
    · intro f k s _ hk ⟨s1, s2⟩
      left
      show ∃ s', f_X4_pairs_14 (f + 1) (nI n) (nI k) s = f_X4_pairs_14 f (nI n) (nI (k + 1)) s' ∧ _
      rw [f_X4_pairs_14, one_shl (by omega), if_neg (nI_ge hk (by omega))]
      refine lp (fun g i K => f_X4_pairs_23 (f_X4_pairs_14 f) g (nI n) (nI k) i K) n 1 (by omega) (by rw [fu_val]; omega) (fun q K' => (∀ x s, (x < k ∨ (x = k ∧ s < q)) → 1 ≤ s → s < n → K' 13 (8 * x + s) = sI (ex n x s)) ∧ ∀ a b, a ≠ 13 → K' a b = K a b) (fun res => ∃ s', res = f_X4_pairs_14 f (nI n) (nI (k + 1)) s' ∧ (∀ x s, x < k + 1 → 1 ≤ s → s < n → s' 13 (8 * x + s) = sI (ex n x s)) ∧ ∀ a b, a ≠ 13 → s' a b = K a b) ?_ ?_ _ ?_
      · intro g s ⟨u1, u2⟩
        refine ⟨s, ?_, fun x q hx h1 h2 => u1 x q (by omega) h1 h2, u2⟩
        show f_X4_pairs_23 (f_X4_pairs_14 f) (g + 1) (nI n) (nI k) (nI n) s = _
        rw [f_X4_pairs_23, if_pos (nI_le (Nat.le_refl _) (by omega)), nI_1]
      · intro g q s hq1 hq ⟨u1, u2⟩
        left
        refine ⟨wI s 13 (8 * k + q) (sI (ex n k q)), ?_, fun x w hx h1 h2 => ?_, fun a b ha => by rw [wI_off (by omega), u2 a b ha]⟩
        · show f_X4_pairs_23 (f_X4_pairs_14 f) (g + 1) (nI n) (nI k) (nI q) s = f_X4_pairs_23 (f_X4_pairs_14 f) g (nI n) (nI k) (nI (q + 1)) _
          rw [f_X4_pairs_23, if_neg (nI_ge hq (by omega)), M_echoOf (by omega) (by omega) (by omega), Option.bind_some, e8, ix_nI (by omega) (by omega), if_pos rfl, nI_clamp (by omega), nI_1]
          rfl
        · by_cases gg : x = k ∧ w = q
          · rw [wI_here rfl (by rw [gg.1, gg.2]), gg.1, gg.2]
          · rw [wI_off (by omega), u1 x w (by omega) h1 h2]
      · exact ⟨fun x q hx h1 h2 => s1 x q (by omega) h1 h2, s2⟩
    · exact ⟨fun x q hx => by omega, fun _ _ _ => rfl⟩
  obtain ⟨J', c1, c2⟩ := cls
  obtain ⟨K', m1, m2⟩ := mod
  have tot : fb_sm (fun x => fb_ct (fun y => Zb n x y (n - 1)) (2 ^ n)) (2 ^ n) = 4 * fb_sm (fun x => fb_ct (fun y => Zb n x y (n - 1)) (2 ^ (n - 1))) (2 ^ (n - 1)) := by
    have inner : ∀ x, fb_ct (fun y => Zb n x y (n - 1)) (2 ^ n) = 2 * fb_ct (fun y => Zb n x y (n - 1)) (2 ^ (n - 1)) := by
      intro x
      rw [ct_sm, ct_sm, hpow]
      refine sm_mirror _ _ (fun k hk => ?_)
      have := Z_comp (n := n) (x := x) (y := 2 ^ (n - 1) - 1 - k) (by omega) (n - 1)
      rw [show 2 ^ n - 1 - (2 ^ (n - 1) - 1 - k) = 2 ^ (n - 1) + k by omega] at this
      rw [this]
    have outer : fb_sm (fun x => fb_ct (fun y => Zb n x y (n - 1)) (2 ^ (n - 1))) (2 ^ n) = 2 * fb_sm (fun x => fb_ct (fun y => Zb n x y (n - 1)) (2 ^ (n - 1))) (2 ^ (n - 1)) := by
      rw [hpow]
      refine sm_mirror _ _ (fun k hk => fb_ct_cong (fun y _ => ?_))
      have := Z_comp (n := n) (x := y) (y := 2 ^ (n - 1) - 1 - k) (by omega) (n - 1)
      rw [show 2 ^ n - 1 - (2 ^ (n - 1) - 1 - k) = 2 ^ (n - 1) + k by omega] at this
      rw [Z_comm n (2 ^ (n - 1) + k), this, Z_comm]
    have e : fb_sm (fun x => fb_ct (fun y => Zb n x y (n - 1)) (2 ^ n)) (2 ^ n) = fb_sm (fun x => fb_ct (fun y => Zb n x y (n - 1)) (2 ^ (n - 1)) + fb_ct (fun y => Zb n x y (n - 1)) (2 ^ (n - 1))) (2 ^ n) := fb_sm_cong (fun x _ => by rw [inner x]; omega)
    rw [e, fb_sm_add, outer]
    omega
  refine ⟨nI (4 * fb_sm (fun x => fb_ct (fun y => Zb n x y (n - 1)) (2 ^ (n - 1))) (2 ^ (n - 1))), J', K', ?_, ?_, ?_⟩
  · simp only [f_X3_pairs, if_neg i2, if_pos i3', hc]
    rw [one_shl (by omega), c1, show (4 : Int32) = nI 4 from rfl, pk_mul]
  · simp only [f_X4_pairs, i1', if_neg v10]
    rw [m1, tot]
  · refine RR_scr h (fun _ _ _ _ _ => rfl) (fun a b ha _ => m2 a b (by omega)) ?_
    rw [c2 _ _ (by omega), c2 _ _ (by omega), c2 _ _ (by omega)]
    exact h.2.2.2.1
