-- ===== common =====
def xr (p : Nat → Bool) : Nat → Bool
  | 0 => false
  | k + 1 => xr p k ^^ p k
theorem xr_cong {p q : Nat → Bool} : ∀ {n : Nat}, (∀ k, k < n → p k = q k) → xr p n = xr q n
  | 0, _ => rfl
  | n + 1, h => by rw [xr, xr, xr_cong (fun k hk => h k (by omega)), h n (by omega)]
def csB (A : Nat → Nat → Int) (n x j : Nat) : Bool := xr (fun i => x.testBit i && mn A i j) n
def csI (A : Nat → Nat → Int) (n x : Nat) : Int := (n : Int) - 2 * (fb_ct (csB A n x) n : Int)
def cmN (A : Nat → Nat → Int) (n x : Nat) : Nat := (csI A n x).natAbs
theorem csI_b (A : Nat → Nat → Int) (n x : Nat) : -(n : Int) ≤ csI A n x ∧ csI A n x ≤ n := by
  have := fb_ct_le (csB A n x) n
  unfold csI
  omega
theorem cmN_le (A : Nat → Nat → Int) (n x : Nat) : cmN A n x ≤ n := by
  have := csI_b A n x
  unfold cmN
  omega
theorem X_commonOf {I : zMi} {T n : Nat} {A : Nat → Nat → Int} (h : XT I T n A) {x : Nat} (hx : x < 2 ^ 31) : f_X2_commonOf T (nI x) I = some (nI (cmN A n x)) := by
  obtain ⟨h1, h2, h3, h4⟩ := h
  have hb := csI_b A n x
  unfold f_X2_commonOf
  have z : bs (fun j => xr (fun i => x.testBit i && mn A i j) 0) n = 0 := bs_false n
  have key : f_X2_commonOf_4 I fu T (nI x) (nI (bs (fun j => xr (fun i => x.testBit i && mn A i j) 0) n)) (nI 0) = some (nI (cmN A n x)) := by
   refine up0 (fun f i (a : Int32) => f_X2_commonOf_4 I f T (nI x) a i) n (by rw [fu_val]; omega) (fun k => nI (bs (fun j => xr (fun i => x.testBit i && mn A i j) k) n)) _ ?_ ?_
   · intro f
     show f_X2_commonOf_4 I (f + 1) T (nI x) _ (nI n) = _
     rw [f_X2_commonOf_4, h3, if_pos (nI_le (Nat.le_refl _) (by omega)), bitCount_bs _ (by omega), ← sI_nI, ← sI_nI, show (2 : Int32) = sI 2 from rfl, sI_mul, sI_sub]
     show some (f_J9_abs (sI (csI A n x))) = _
     rw [(abs_sI (by omega) (by omega)).2]
     rfl
   · intro f k hk
     show f_X2_commonOf_4 I (f + 1) T (nI x) _ (nI k) = f_X2_commonOf_4 I f T (nI x) _ (nI (k + 1))
     rw [f_X2_commonOf_4, h3, if_neg (nI_ge hk (by omega)), bit_nI hx (by omega), ix_nI (by omega) (by omega), if_pos rfl, nI_clamp (by omega), (h4 k hk).2, fb_xorI, bs_xor, nI_1]
     cases hb : x.testBit k
     · rw [if_neg (by decide)]
       have : bs (fun j => xr (fun i => x.testBit i && mn A i j) (k + 1)) n = bs (fun j => xr (fun i => x.testBit i && mn A i j) k) n := bs_cong (fun j _ => by simp [xr, hb])
       rw [this]
     · rw [if_pos (by decide)]
       have : bs (fun j => xr (fun i => x.testBit i && mn A i j) (k + 1)) n = bs (fun j => xr (fun i => x.testBit i && mn A i j) k ^^ mn A k j) n := bs_cong (fun j _ => by simp [xr, hb])
       rw [this]
  rw [z] at key
  exact key
def At (A : Nat → Nat → Int) : Nat → Nat → Int := fun a b => A b a
section CM
variable {K : zMi} {t n : Nat} {A : Nat → Nat → Int}
theorem M_commonSum (hA : tri A) (hS : SG A n) (h : MT K t n A) {x : Nat} (hx : x < 2 ^ 31) (c : Bool) : f_X4_commonSum (nI t) (nI x) (bI c) K = some (nI (cmN (if c then At A else A) n x)) := by
  have hn := h.2.1
  have hb := csI_b (if c then At A else A) n x
  have pm : ∀ i j, i < n → j < n → (if c then At A else A) i j = 1 ∨ (if c then At A else A) i j = -1 := by
    intro i j hi hj
    cases c
    · exact SG_pm hA hS hi hj
    · exact SG_pm hA hS hj hi
  have gt : ∀ i j, i < n → j < n → (if bI c = 0 then f_X4_get (nI t) (nI i) (nI j) K else f_X4_get (nI t) (nI j) (nI i) K) = some (sI ((if c then At A else A) i j)) := by
    intro i j hi hj
    cases c
    · exact MT_get h hi hj
    · exact MT_get h hj hi
  generalize (if c then At A else A) = G at hb pm gt ⊢
  have inner : ∀ (k6 : Int32 → Int32 → Int32 → Int32 → Int32 → Option Int32) (j : Nat) (z : Int), j < n → f_X4_commonSum_23 K k6 fu (nI t) (nI x) (bI c) (sI z) (nI j) 1 0 = k6 (nI t) (nI x) (bI c) (sI (z + (if csB G n x j then -1 else 1))) (nI (j + 1)) := by
    intro k6 j z hj
    refine up0 (fun f i (a : Int32) => f_X4_commonSum_23 K k6 f (nI t) (nI x) (bI c) (sI z) (nI j) a i) n (by rw [fu_val]; omega) (fun k => sI (if xr (fun i => x.testBit i && mn G i j) k then -1 else 1)) _ ?_ ?_
    · intro f
      show f_X4_commonSum_23 K k6 (f + 1) (nI t) (nI x) (bI c) (sI z) (nI j) _ (nI n) = _
      rw [f_X4_commonSum_23, M_ix h, if_pos rfl, M_w h, if_pos (nI_le (Nat.le_refl _) (by omega)), sI_add, nI_1]
      rfl
    · intro f i hi
      show f_X4_commonSum_23 K k6 (f + 1) (nI t) (nI x) (bI c) (sI z) (nI j) _ (nI i) = f_X4_commonSum_23 K k6 f (nI t) (nI x) (bI c) (sI z) (nI j) _ (nI (i + 1))
      rw [f_X4_commonSum_23, M_ix h, if_pos rfl, M_w h, if_neg (nI_ge hi (by omega)), bit_nI hx (by omega), nI_1]
      have g := gt i j hi hj
      cases hb : x.testBit i
      · rw [if_pos (by decide), show (1 : Int32) = sI 1 from rfl, sI_mul, Int.mul_one]
        simp only [xr, hb, Bool.false_and, Bool.xor_false]
      · rw [if_neg (by decide)]
        have v : sI (if xr (fun i => x.testBit i && mn G i j) i then -1 else 1) * sI (G i j) = sI (if xr (fun i => x.testBit i && mn G i j) (i + 1) then -1 else 1) := by
          rw [sI_mul]
          simp only [xr, hb, Bool.true_and]
          rcases pm i j hi hj with e | e <;> cases xr (fun i => x.testBit i && mn G i j) i <;> simp [mn, e]
        by_cases g0 : bI c = 0
        · rw [if_pos g0] at g ⊢
          rw [g, Option.bind_some, v]
        · rw [if_neg g0] at g ⊢
          rw [g, Option.bind_some, v]
  have sm : ∀ k : Nat, fb_si (fun j => if csB G n x j then -1 else 1) k = (k : Int) - 2 * (fb_ct (csB G n x) k : Int) := by
    intro k
    induction k with
    | zero => simp [fb_si, fb_ct]
    | succ k ih =>
      rw [fb_si_succ, fb_ct_succ, ih]
      cases csB G n x k <;> simp <;> omega
  unfold f_X4_commonSum
  refine up0 (fun f j (a : Int32) => f_X4_commonSum_6 K f (nI t) (nI x) (bI c) a j) n (by rw [fu_val]; omega) (fun k => sI (fb_si (fun j => if csB G n x j then -1 else 1) k)) _ ?_ ?_
  · intro f
    show f_X4_commonSum_6 K (f + 1) (nI t) (nI x) (bI c) (sI (fb_si (fun j => if csB G n x j then -1 else 1) n)) (nI n) = _
    rw [f_X4_commonSum_6, M_ix h, if_pos rfl, M_w h, if_pos (nI_le (Nat.le_refl _) (by omega)), sm n]
    show some (f_X4_abs (sI (csI G n x))) = _
    rw [(abs_sI (by omega) (by omega)).1]
    rfl
  · intro f k hk
    show f_X4_commonSum_6 K (f + 1) (nI t) (nI x) (bI c) (sI (fb_si (fun j => if csB G n x j then -1 else 1) k)) (nI k) = f_X4_commonSum_6 K f (nI t) (nI x) (bI c) (sI (fb_si (fun j => if csB G n x j then -1 else 1) (k + 1))) (nI (k + 1))
    rw [f_X4_commonSum_6, M_ix h, if_pos rfl, M_w h, if_neg (nI_ge hk (by omega)), inner _ k _ hk, fb_si_succ]
end CM
/-- tables of signs, both sides -/
theorem sg_both {I K : zMi} {t n : Nat} {A : Nat → Nat → Int} (hA : tri A) (hX : XT I t n A) (hM : MT K t n A) : ∃ b, f_X2_isSigns t I = some (bI b) ∧ f_X4_hasZero (nI t) K = some (bI (!b)) ∧ (b = true ↔ SG A n) := by
  obtain ⟨b1, s1, q1⟩ := X_isSigns hA hX
  obtain ⟨b2, s2, q2⟩ := M_hasZero hA hM
  have hb : b2 = !b1 := by
    cases b1
    · have : ¬ SG A n := fun w => by have := q1.mpr w; cases this
      exact q2.mpr this
    · have : ¬ b2 = true := fun w => (q2.mp w) (q1.mp rfl)
      simpa using this
  subst hb
  exact ⟨b1, s1, s2, q1⟩
theorem s_common : so_common RR := by
  intro I J K M h a1 a2
  rcases T_cases h a1 with ⟨e1, e2, e3⟩ | ⟨t, ht, rfl, e1, e2, e3, e4, e5, e6, e7⟩ | ⟨t, n, A, k, ht, rfl, e1, e2, e3, e4, e5, e6, e7, h0, hA, hX, hM, hK, k1, k2⟩
  · exact ⟨-1, I, K, by simp only [f_X3_common, e1, if_true], by simp only [f_X4_common, e3, Option.bind_some, if_neg v0m1], h⟩
  · obtain ⟨I', K', y1, y2, h'⟩ := RR_found h 1 (by simp)
    refine ⟨-3, I', K', ?_, ?_, h'⟩
    · simp only [f_X3_common, e1, e3, e4, e5, y1, Option.bind_some, if_neg v10, if_true]
    · simp only [f_X4_common, e7, y2, Option.bind_some, if_neg v0m3]
  · have hn := hX.2.1
    have hp := p12 hn
    obtain ⟨b, s1, s2, q⟩ := sg_both hA hX hM
    cases b
    · obtain ⟨I', K', y1, y2, h'⟩ := RR_found h 3 (by simp)
      refine ⟨-3, I', K', ?_, ?_, h'⟩
      · simp only [f_X3_common, e1, e3, e4, e5, s1, bI_f, y1, Option.bind_some, if_neg v10, if_true]
      · simp only [f_X4_common, e7, s2, Bool.not_false, bI_t, y2, Option.bind_some, if_pos v00, if_neg v10]
    · obtain ⟨I', K', y1, y2, h'⟩ := RR_found h 2 (by simp)
      by_cases z : a2 = 0
      · refine ⟨-3, I', K', ?_, ?_, h'⟩
        · simp only [f_X3_common, e1, e3, e4, e5, s1, bI_t, if_pos z, y1, Option.bind_some, if_neg v10, if_true]
        · simp only [f_X4_common, e7, s2, Bool.not_true, bI_f, if_pos z, y2, Option.bind_some, if_pos v00, if_true]
      · rcases set_cases hX.2.2.1 hM.2.2.1 ht hn a2 with ⟨b1, b2⟩ | ⟨x, hx, rfl, b1, b2⟩
        · refine ⟨-3, I', K', ?_, ?_, h'⟩
          · simp only [f_X3_common, e1, e3, e4, e5, s1, bI_t, if_neg z, b1, y1, Option.bind_some, if_neg v10, if_true]
          · simp only [f_X4_common, e7, s2, Bool.not_true, bI_f, if_neg z, b2, y2, Option.bind_some, if_pos v00, if_true]
        · have m := M_commonSum hA (q.mp rfl) hM (x := x) (by omega) false
          have m' : f_X4_commonSum (nI t) (nI x) 0 K = some (nI (cmN A n x)) := m
          refine ⟨nI (cmN A n x), I, K, ?_, ?_, h⟩
          · simp only [f_X3_common, e1, e3, e4, e5, s1, bI_t, if_neg z, b1, X_commonOf hX (show x < 2 ^ 31 by omega), Option.bind_some, if_neg v10, if_true]
          · simp only [f_X4_common, e7, s2, Bool.not_true, bI_f, if_neg z, b2, m', Option.bind_some, if_pos v00, if_neg v10, if_true]
-- ===== profiles =====
theorem bits12 {x : Nat} (hx : x < 2 ^ 12) : fb_ct (fun j => x.testBit j) 32 = fb_ct (fun j => x.testBit j) 12 := by
  have e := fb_ct_split (fun j => x.testBit j) 12 20
  have z : fb_ct (fun k => x.testBit (12 + k)) 20 = 0 := fb_ct_zero.mpr (fun k _ => Nat.testBit_lt_two_pow (Nat.lt_of_lt_of_le hx (Nat.pow_le_pow_right (by omega) (by omega))))
  rw [z, Nat.add_zero] at e
  exact e
theorem M_bits {x : Nat} (hx : x < 2 ^ 12) : f_X4_bits (nI x) = some (nI (fb_ct (fun j => x.testBit j) 12)) := by
  unfold f_X4_bits
  refine up0 (fun f i (a : Int32) => f_X4_bits_4 f (nI x) a i) 12 (by rw [fu_val]; omega) (fun k => nI (fb_ct (fun j => x.testBit j) k)) _ ?_ ?_
  · intro f
    show f_X4_bits_4 (f + 1) (nI x) _ (nI 12) = _
    rw [f_X4_bits_4, if_pos (show (12 : Int32) ≤ nI 12 from nI_le (Nat.le_refl 12) (by omega))]
  · intro f k hk
    show f_X4_bits_4 (f + 1) (nI x) _ (nI k) = f_X4_bits_4 f (nI x) _ (nI (k + 1))
    rw [f_X4_bits_4, if_neg (show ¬ (12 : Int32) ≤ nI k from nI_ge (b := 12) hk (by omega)), bit_nI (by omega) (by omega), nI_add, nI_1]
    rfl
def pc (x : Nat) : Nat := fb_ct (fun j => x.testBit j) 12
def pf (A : Nat → Nat → Int) (n k c m : Nat) : Nat := fb_ct (fun x => decide (pc x = k) && decide (cmN A n x = c)) m
theorem pf_le (A : Nat → Nat → Int) (n k c m : Nat) : pf A n k c m ≤ m := fb_ct_le _ m
theorem X_clearTally (I : zMi) : ∃ I', f_X3_clearTally I = some I' ∧ (∀ c, c < 13 → I' 7 c = 0) ∧ ∀ a b, a ≠ 7 → I' a b = I a b := by
  unfold f_X3_clearTally
  refine lp (fun f i I => f_X3_clearTally_2 f i I) 13 0 (by omega) (by rw [fu_val]; omega) (fun k I' => (∀ c, c < k → I' 7 c = 0) ∧ ∀ a b, a ≠ 7 → I' a b = I a b) (fun res => ∃ I', res = some I' ∧ (∀ c, c < 13 → I' 7 c = 0) ∧ ∀ a b, a ≠ 7 → I' a b = I a b) ?_ ?_ _ ?_
  · intro f s hs
    refine ⟨s, ?_, hs⟩
    show f_X3_clearTally_2 (f + 1) (nI 13) s = _
    rw [f_X3_clearTally_2, if_pos (show (13 : Int32) ≤ nI 13 from nI_le (Nat.le_refl 13) (by omega))]
  · intro f k s _ hk ⟨s1, s2⟩
    left
    refine ⟨wI s 7 k 0, ?_, fun c hc => ?_, fun a b ha => by rw [wI_off (by omega), s2 a b ha]⟩
    · show f_X3_clearTally_2 (f + 1) (nI k) s = f_X3_clearTally_2 f (nI (k + 1)) _
      rw [f_X3_clearTally_2, if_neg (show ¬ (13 : Int32) ≤ nI k from nI_ge (b := 13) hk (by omega)), ix_nI hk (by omega), if_pos rfl, nI_clamp (by omega), nI_1]
    · by_cases g : c = k
      · rw [wI_here rfl g]
      · rw [wI_off (by omega), s1 c (by omega)]
  · exact ⟨fun c hc => by omega, fun _ _ _ => rfl⟩
theorem X_addProfile {I : zMi} {T n k : Nat} {A : Nat → Nat → Int} (h : XT I T n A) (hk : k ≤ 12) (z : Nat → Int) (b : Int) (hz : ∀ c, c < 13 → I 7 c = sI (z c)) : ∃ I', f_X2_addProfile T (nI k) (sI b) I = some I' ∧ (∀ c, c < 13 → I' 7 c = sI (z c + b * (pf A n k c (2 ^ n) : Int))) ∧ ∀ a b, a ≠ 7 → I' a b = I a b := by
  have hn := h.2.1
  have hp := p12 hn
  have hT := h.1
  unfold f_X2_addProfile
  refine lp (fun f i I => f_X2_addProfile_3 f T (nI k) (sI b) i I) (2 ^ n) 0 (Nat.zero_le _) (by rw [fu_val]; omega) (fun m I' => (∀ c, c < 13 → I' 7 c = sI (z c + b * (pf A n k c m : Int))) ∧ ∀ a b, a ≠ 7 → I' a b = I a b) (fun res => ∃ I', res = some I' ∧ (∀ c, c < 13 → I' 7 c = sI (z c + b * (pf A n k c (2 ^ n) : Int))) ∧ ∀ a b, a ≠ 7 → I' a b = I a b) ?_ ?_ _ ?_
  · intro f s ⟨s1, s2⟩
    refine ⟨s, ?_, s1, s2⟩
    show f_X2_addProfile_3 (f + 1) T (nI k) (sI b) (nI (2 ^ n)) s = _
    rw [f_X2_addProfile_3, s2 _ _ (by omega), h.2.2.1, one_shl (by omega), if_pos (nI_le (Nat.le_refl _) (by omega))]
  · intro f x s _ hx ⟨s1, s2⟩
    left
    have hx12 : x < 2 ^ 12 := Nat.lt_of_lt_of_le hx (Nat.pow_le_pow_right (by omega) hn)
    have o : XT s T n A := XT_cong (s2 _ _ (by omega)) (fun b => s2 _ _ (by omega)) (fun b => s2 _ _ (by omega)) h
    have bc : f_J6_bitCount (nI x) = nI (pc x) := by rw [bitCount_nI (by omega), bits12 hx12]; rfl
    have pcl : pc x ≤ 12 := fb_ct_le _ 12
    have cl := cmN_le A n x
    show ∃ s', f_X2_addProfile_3 (f + 1) T (nI k) (sI b) (nI x) s = f_X2_addProfile_3 f T (nI k) (sI b) (nI (x + 1)) s' ∧ _
    rw [f_X2_addProfile_3, o.2.2.1, one_shl (by omega), if_neg (nI_ge hx (by omega)), bc]
    by_cases g : pc x = k
    · rw [if_pos (by rw [g]), X_commonOf o (by omega), Option.bind_some, ix_nI (by omega) (by omega), if_pos rfl, nI_clamp (by omega), nI_1]
      refine ⟨_, rfl, fun c hc => ?_, fun a b ha => by rw [wI_off (by omega), s2 a b ha]⟩
      unfold pf
      rw [fb_ct_succ]
      by_cases gc : cmN A n x = c
      · rw [wI_here rfl gc.symm, gc, s1 c hc, sI_add, if_pos (by simp [g, gc])]
        congr 1
        unfold pf
        grind
      · rw [wI_off (fun _ q => gc q.symm), s1 c hc, if_neg (by simp [gc])]
        rfl
    · rw [if_neg (fun q => g ((nI_eq (by omega) (by omega)).mp q)), nI_1]
      refine ⟨s, rfl, fun c hc => ?_, s2⟩
      unfold pf
      rw [fb_ct_succ, s1 c hc, if_neg (by simp [g])]
      rfl
  · exact ⟨fun c hc => by rw [hz c hc]; simp [pf, fb_ct], fun _ _ _ => rfl⟩
theorem s_profile : so_profile RR := by
  intro I J K M h a1 a2 a3
  rcases T_cases h a1 with ⟨e1, e2, e3⟩ | hT
  · refine ⟨-1, I, K, by simp only [f_X3_profile, e1, if_true], ?_, h⟩
    by_cases g : f_X4_in a2 2 4 = 0
    · simp only [f_X4_profile, g, if_true]
    · by_cases g2 : f_X4_in a3 0 12 = 0
      · simp only [f_X4_profile, if_neg g, g2, if_true]
      · simp only [f_X4_profile, if_neg g, if_neg g2, e3, Option.bind_some, if_neg v0m1]
  have e1' : f_X3_isTableNumber a1 = 1 := by
    rcases hT with ⟨t, ht, rfl, e1, _⟩ | ⟨t, n, A, k, ht, rfl, e1, _⟩ <;> exact e1
  by_cases hk : ∃ k, 2 ≤ k ∧ k ≤ 4 ∧ a2 = nI k
  case neg =>
    refine ⟨-1, I, K, ?_, ?_, h⟩
    · by_cases q1 : a2 < 2
      · simp only [f_X3_profile, e1', if_neg v10, if_pos q1]
      · by_cases q2 : 4 < a2
        · simp only [f_X3_profile, e1', if_neg v10, if_neg q1, if_pos q2]
        · exfalso
          have r1 : ¬ a2.toInt < 2 := fun q => q1 ((fa_lt _ _).mpr q)
          have r2 : ¬ 4 < a2.toInt := fun q => q2 ((fa_lt _ _).mpr q)
          exact hk ⟨a2.toInt.toNat, by omega, by omega, by
            rw [← sI_nI, show ((a2.toInt.toNat : Nat) : Int) = a2.toInt by omega]
            exact (Int32.ofInt_toInt a2).symm⟩
    · have : f_X4_in a2 2 4 = 0 := by
        unfold f_X4_in
        by_cases q1 : a2 < 2
        · rw [if_pos q1]
        · rw [if_neg q1]
          by_cases q2 : 4 < a2
          · rw [if_pos q2]
          · exfalso
            have r1 : ¬ a2.toInt < 2 := fun q => q1 ((fa_lt _ _).mpr q)
            have r2 : ¬ 4 < a2.toInt := fun q => q2 ((fa_lt _ _).mpr q)
            exact hk ⟨a2.toInt.toNat, by omega, by omega, by
              rw [← sI_nI, show ((a2.toInt.toNat : Nat) : Int) = a2.toInt by omega]
              exact (Int32.ofInt_toInt a2).symm⟩
      simp only [f_X4_profile, this, if_true]
  case pos =>
    obtain ⟨k, hk2, hk4, rfl⟩ := hk
    have q1 : ¬ nI k < 2 := nI_nlt (b := 2) hk2 (by omega)
    have q2 : ¬ (4 : Int32) < nI k := nI_nlt (a := 4) hk4 (by omega)
    have q3 : f_X4_in (nI k) 2 4 = 1 := by unfold f_X4_in; rw [if_neg q1, if_neg q2]
    rcases in_0n (a := a3) 12 (by omega) with ⟨n1, n2⟩ | ⟨c, hc, rfl, n1, n2, n3⟩
    · have n1' : f_X4_in a3 0 12 = 0 := n1
      refine ⟨-1, I, K, ?_, by simp only [f_X4_profile, q3, n1', if_neg v10, if_true], h⟩
      by_cases w : a3 < 0
      · simp only [f_X3_profile, e1', if_neg v10, if_neg q1, if_neg q2, if_pos w]
      · have w' : ¬ a3 ≤ 12 := n2.resolve_left w
        simp only [f_X3_profile, e1', if_neg v10, if_neg q1, if_neg q2, if_neg w, if_neg w']
    · have n1' : f_X4_in (nI c) 0 12 = 1 := n1
      have n3' : nI c ≤ 12 := n3
      rcases hT with ⟨t, ht, rfl, e1, e2, e3, e4, e5, e6, e7⟩ | ⟨t, n, A, kk, ht, rfl, e1, e2, e3, e4, e5, e6, e7, h0, hA, hX, hM, hK, k1, k2⟩
      · obtain ⟨I', K', y1, y2, h'⟩ := RR_found h 1 (by simp)
        refine ⟨-3, I', K', ?_, ?_, h'⟩
        · simp only [f_X3_profile, e1, e3, e4, e5, y1, Option.bind_some, if_neg v10, if_true, if_neg q1, if_neg q2, if_neg n2, if_pos n3']
        · simp only [f_X4_profile, q3, n1', e7, y2, Option.bind_some, if_neg v0m3, if_neg v10]
      · have hn := hX.2.1
        have hp := p12 hn
        obtain ⟨b, s1, s2, q⟩ := sg_both hA hX hM
        cases b
        · obtain ⟨I', K', y1, y2, h'⟩ := RR_found h 3 (by simp)
          refine ⟨-3, I', K', ?_, ?_, h'⟩
          · simp only [f_X3_profile, e1, e3, e4, e5, s1, bI_f, y1, Option.bind_some, if_neg v10, if_true, if_neg q1, if_neg q2, if_neg n2, if_pos n3']
          · simp only [f_X4_profile, q3, n1', e7, s2, Bool.not_false, bI_t, y2, Option.bind_some, if_pos v00, if_neg v10]
        · have hS := q.mp rfl
          obtain ⟨Ia, x1, x2, x3⟩ := X_clearTally I
          have o : XT Ia t n A := XT_cong (x3 _ _ (by omega)) (fun b => x3 _ _ (by omega)) (fun b => x3 _ _ (by omega)) hX
          obtain ⟨Ib, y1, y2, y3⟩ := X_addProfile o (k := k) (by omega) (fun _ => 0) 1 (fun c hc => by rw [x2 c hc]; rfl)
          have y1' : f_X2_addProfile t (nI k) 1 Ia = some Ib := y1
          have v : Ib 7 c = nI (pf A n k c (2 ^ n)) := by
            rw [y2 c (by omega), ← sI_nI]
            congr 1
            omega
          have m : f_X4_profileOf (nI t) (nI k) (nI c) 0 K = some (nI (pf A n k c (2 ^ n))) := by
            unfold f_X4_profileOf
            refine up0 (fun f x (a : Int32) => f_X4_profileOf_6 K f (nI t) (nI k) (nI c) 0 a x) (2 ^ n) (by rw [fu_val]; omega) (fun x => nI (pf A n k c x)) _ ?_ ?_
            · intro f
              show f_X4_profileOf_6 K (f + 1) (nI t) (nI k) (nI c) 0 _ (nI (2 ^ n)) = _
              rw [f_X4_profileOf_6, M_ix hM, if_pos rfl, M_w hM, one_shl (by omega), if_pos (nI_le (Nat.le_refl _) (by omega))]
            · intro f x hx
              show f_X4_profileOf_6 K (f + 1) (nI t) (nI k) (nI c) 0 _ (nI x) = f_X4_profileOf_6 K f (nI t) (nI k) (nI c) 0 _ (nI (x + 1))
              have hx12 : x < 2 ^ 12 := Nat.lt_of_lt_of_le hx (Nat.pow_le_pow_right (by omega) hn)
              have pcl : pc x ≤ 12 := fb_ct_le _ 12
              have cl := cmN_le A n x
              have cs : f_X4_commonSum (nI t) (nI x) 0 K = some (nI (cmN A n x)) := M_commonSum hA hS hM (x := x) (by omega) false
              have a0 : nI (pf A n k c x) + 0 = nI (pf A n k c x + 0) := nI_add _ 0
              rw [f_X4_profileOf_6, M_ix hM, if_pos rfl, M_w hM, one_shl (by omega), if_neg (nI_ge hx (by omega)), M_bits hx12, Option.bind_some, cs, Option.bind_some, a0, nI_1 (pf A n k c x), nI_1]
              have e : pf A n k c (x + 1) = pf A n k c x + (if (decide (pc x = k) && decide (cmN A n x = c)) = true then 1 else 0) := rfl
              rw [e]
              by_cases g : pc x = k
              · rw [if_pos (show nI (fb_ct (fun j => x.testBit j) 12) = nI k by rw [← g]; rfl)]
                by_cases gc : cmN A n x = c
                · rw [if_pos (by rw [gc]), if_pos (by simp [g, gc])]
                · rw [if_neg (fun w => gc ((nI_eq (by omega) (by omega)).mp w)), if_neg (by simp [gc])]
              · rw [if_neg (fun w => g ((nI_eq (show fb_ct (fun j => x.testBit j) 12 < 2 ^ 31 by unfold pc at pcl; omega) (by omega)).mp w)), if_neg (by simp [g])]
          refine ⟨nI (pf A n k c (2 ^ n)), Ib, K, ?_, ?_, ?_⟩
          · simp only [f_X3_profile, e1, e3, e4, e5, s1, bI_t, x1, y1', Option.bind_some, if_neg v10, if_true, if_neg q1, if_neg q2, if_neg n2, if_pos n3', ix_nI (show c < 13 by omega) (show 13 < 2 ^ 31 by omega), nI_clamp (show c < 2 ^ 31 by omega), v]
          · simp only [f_X4_profile, q3, n1', e7, s2, Bool.not_true, bI_f, m, Option.bind_some, if_pos v00, if_neg v10, if_true]
          · refine RR_scr h (fun a b _ _ h7 => by rw [y3 a b h7, x3 a b h7]) (fun _ _ _ _ => rfl) h.2.2.2.1
