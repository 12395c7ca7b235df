-- ===== echoes =====
def ecI (p : Nat → Bool) (n s : Nat) : Int := ((n - s : Nat) : Int) - 2 * (fb_ct (fun j => p j ^^ p (j + s)) (n - s) : Int)
def ecR (p : Nat → Bool) (n s : Nat) : Int := (n : Int) - 2 * (fb_ct (fun j => p j ^^ p ((j + s) % n)) n : Int)
def sv (p : Nat → Bool) (j : Nat) : Int := if p j then -1 else 1
theorem sv_mul (p : Nat → Bool) (i j : Nat) : sv p i * sv p j = 1 - 2 * ((if (p i ^^ p j) then 1 else 0 : Nat) : Int) := by
  unfold sv
  cases p i <;> cases p j <;> decide
theorem sv_sum (p : Nat → Bool) (g : Nat → Nat) : ∀ m, fb_si (fun i => sv p i * sv p (g i)) m = (m : Int) - 2 * (fb_ct (fun i => p i ^^ p (g i)) m : Int)
  | 0 => by simp [fb_si, fb_ct]
  | m + 1 => by
    rw [fb_si_succ, fb_ct_succ, sv_sum p g m, sv_mul]
    generalize (if (p m ^^ p (g m)) = true then 1 else 0 : Nat) = y
    omega
theorem ecI_bound (p : Nat → Bool) (n s : Nat) : -(n : Int) ≤ ecI p n s ∧ ecI p n s ≤ n := by
  have := fb_ct_le (fun j => p j ^^ p (j + s)) (n - s)
  unfold ecI
  omega
theorem ecR_bound (p : Nat → Bool) (n s : Nat) : -(n : Int) ≤ ecR p n s ∧ ecR p n s ≤ n := by
  have := fb_ct_le (fun j => p j ^^ p ((j + s) % n)) n
  unfold ecR
  omega
theorem shl_any {x j : Nat} (hj : j < 32) : nI x <<< (nI j &&& 31) = nI (x * 2 ^ j) := by
  apply Int32.toBitVec_inj.mp
  apply BitVec.eq_of_toNat_eq
  rw [pk_shl _ _ j (s_l j hj)]
  have e : ∀ y : Nat, (nI y).toBitVec.toNat = y % 2 ^ 32 := fun y => by
    show (BitVec.ofNat 32 y).toNat = _
    rw [BitVec.toNat_ofNat]
  rw [e, e, Nat.mod_mul_mod]
theorem X_echo0 (p : Nat → Bool) {n s : Nat} (hn : n ≤ 24) (hs : s ≤ n) : f_X3_echoOf (nI (bs p n)) (nI n) (nI s) 0 = sI (ecI p n s) := by
  have hb : bs p n < 2 ^ 24 := Nat.lt_of_lt_of_le (bs_lt p n) (Nat.pow_le_pow_right (by omega) hn)
  unfold f_X3_echoOf
  rw [if_pos rfl, pk_sub hs, shr_nI (by omega) (by omega), allBits_nI (by omega), fb_xorI, fa_and]
  have e : (bs p n ^^^ bs p n / 2 ^ s) &&& (2 ^ (n - s) - 1) = bs (fun j => p j ^^ p (j + s)) (n - s) := by
    apply Nat.eq_of_testBit_eq
    intro j
    rw [Nat.testBit_and, Nat.testBit_xor, Nat.testBit_div_two_pow, bs_tb, bs_tb, bs_tb, Nat.testBit_two_pow_sub_one]
    by_cases g : j < n - s
    · rw [decide_eq_true g, decide_eq_true (show j < n by omega), decide_eq_true (show j + s < n by omega)]
      simp
    · rw [decide_eq_false g]
      simp
  rw [e, bitCount_bs _ (by omega), ← sI_nI, ← sI_nI, show (2 : Int32) = sI 2 from rfl, sI_mul, sI_sub]
  rfl
theorem X_echo1 (p : Nat → Bool) {n s : Nat} (hn : n ≤ 24) (hs : s < n) : f_X3_echoOf (nI (bs p n)) (nI n) (nI s) 1 = sI (ecR p n s) := by
  have hb : bs p n < 2 ^ 24 := Nat.lt_of_lt_of_le (bs_lt p n) (Nat.pow_le_pow_right (by omega) hn)
  unfold f_X3_echoOf
  rw [if_neg v10, pk_sub (show s ≤ n by omega), shr_nI (by omega) (by omega), shl_any (by omega), allBits_nI (by omega), fa_or, fb_xorI, fa_and]
  have e : (bs p n ^^^ (bs p n / 2 ^ s ||| bs p n * 2 ^ (n - s))) &&& (2 ^ n - 1) = bs (fun j => p j ^^ p ((j + s) % n)) n := by
    apply Nat.eq_of_testBit_eq
    intro j
    rw [Nat.testBit_and, Nat.testBit_xor, Nat.testBit_or, Nat.testBit_div_two_pow, Nat.mul_comm (bs p n), Nat.testBit_two_pow_mul, bs_tb, bs_tb, bs_tb, bs_tb, Nat.testBit_two_pow_sub_one]
    by_cases g : j < n
    · rw [decide_eq_true g]
      by_cases g2 : j + s < n
      · rw [decide_eq_true g2, decide_eq_false (show ¬ n - s ≤ j by omega), Nat.mod_eq_of_lt g2]
        simp
      · rw [decide_eq_false g2, decide_eq_true (show n - s ≤ j by omega), decide_eq_true (show j - (n - s) < n by omega)]
        have : (j + s) % n = j - (n - s) := by
          rw [show j + s = (j - (n - s)) + n by omega, Nat.add_mod_right, Nat.mod_eq_of_lt (by omega)]
        rw [this]
        simp
    · rw [decide_eq_false g]
      simp
  rw [e, bitCount_bs _ (by omega), ← sI_nI, ← sI_nI, show (2 : Int32) = sI 2 from rfl, sI_mul, sI_sub]
  rfl
-- rows of signs, on both sides
section SR
variable {I K : zMi} {r n : Nat} {p : Nat → Bool}
theorem X_rowSigns (hn : n ≤ 24) (hs : I (10 + 2 * r) 1 = nI n) : ∃ b, f_X1_isSigns r I = some (bI b) ∧ (b = true ↔ ∀ j, j < n → I (11 + 2 * r) j = 1 ∨ I (11 + 2 * r) j = -1) := by
  have := up_all (fun f i (_ : Unit) => f_X1_isSigns_2 I f r i) n (fun _ => ()) (some 1) (some 0) (fun j => I (11 + 2 * r) j = 1 ∨ I (11 + 2 * r) j = -1) 0 (by omega) (by rw [fu_val]; omega)
    (fun _ f => by
      show f_X1_isSigns_2 I (f + 1) r (nI n) = _
      rw [f_X1_isSigns_2, hs, if_pos (nI_le (Nat.le_refl _) (by omega))])
    (fun f k _ hk hp => by
      show f_X1_isSigns_2 I (f + 1) r (nI k) = f_X1_isSigns_2 I f r (nI (k + 1))
      rw [f_X1_isSigns_2, hs, if_neg (nI_ge hk (by omega)), ix_nI (by omega) (by omega), if_pos rfl, nI_clamp (by omega), nI_1]
      by_cases g : I (11 + 2 * r) k = 1
      · rw [if_pos g]
      · rw [if_neg g, if_pos (hp.resolve_left g)])
    (fun f k _ hk hp => by
      show f_X1_isSigns_2 I (f + 1) r (nI k) = _
      rw [f_X1_isSigns_2, hs, if_neg (nI_ge hk (by omega)), ix_nI (by omega) (by omega), if_pos rfl, nI_clamp (by omega), if_neg (fun q => hp (Or.inl q)), if_neg (fun q => hp (Or.inr q))])
  rcases this with ⟨e, hp⟩ | ⟨e, k, _, hk, hp⟩
  · exact ⟨true, e, fun _ j hj => hp j (by omega) hj, fun _ => rfl⟩
  · exact ⟨false, e, fun q => by simp at q, fun q => absurd (q k hk) hp⟩
theorem M_areSigns (hr : r < 6) (hn : n ≤ 24) (hs : K 2 r = nI n) : f_X4_areSigns (nI r) K = some (bI (alB (fun j => decide (K 3 (24 * r + j) = 1 ∨ K 3 (24 * r + j) = -1)) n)) := by
  unfold f_X4_areSigns
  refine up0 (fun f i (a : Int32) => f_X4_areSigns_4 K f (nI r) a i) n (by rw [fu_val]; omega) (fun k => bI (alB (fun j => decide (K 3 (24 * r + j) = 1 ∨ K 3 (24 * r + j) = -1)) k)) _ ?_ ?_
  · intro f
    show f_X4_areSigns_4 K (f + 1) (nI r) _ (nI n) = _
    rw [f_X4_areSigns_4, ix_nI hr (by omega), if_pos rfl, nI_clamp (by omega), hs, if_pos (nI_le (Nat.le_refl _) (by omega))]
  · intro f k hk
    show f_X4_areSigns_4 K (f + 1) (nI r) (bI _) (nI k) = f_X4_areSigns_4 K f (nI r) (bI _) (nI (k + 1))
    rw [f_X4_areSigns_4, ix_nI hr (by omega), if_pos rfl, nI_clamp (by omega), hs, if_neg (nI_ge hk (by omega)), e24, ix_nI (by omega) (by omega), if_pos rfl, nI_clamp (by omega), nI_1]
    have e : f_X4_isSign (K 3 (24 * r + k)) = bI (decide (K 3 (24 * r + k) = 1 ∨ K 3 (24 * r + k) = -1)) := by
      unfold f_X4_isSign
      by_cases g1 : K 3 (24 * r + k) = 1
      · rw [if_pos g1, decide_eq_true (Or.inl g1)]; rfl
      · rw [if_neg g1]
        by_cases g2 : K 3 (24 * r + k) = -1
        · rw [if_pos g2, decide_eq_true (Or.inr g2)]; rfl
        · rw [if_neg g2, decide_eq_false (by simp [g1, g2])]; rfl
    rw [e]
    simp only [alB]
    cases alB (fun j => decide (K 3 (24 * r + j) = 1 ∨ K 3 (24 * r + j) = -1)) k
    · rfl
    · cases decide (K 3 (24 * r + k) = 1 ∨ K 3 (24 * r + k) = -1) <;> rfl
/-- a row of signs p, both sides -/
def SGN (I K : zMi) (r n : Nat) (p : Nat → Bool) : Prop := r < 6 ∧ n ≤ 24 ∧ I (10 + 2 * r) 1 = nI n ∧ K 2 r = nI n ∧ (∀ j, j < n → I (11 + 2 * r) j = sI (sv p j)) ∧ ∀ j, j < n → K 3 (24 * r + j) = sI (sv p j)
theorem signs_of (hr : r < 6) (hn : n ≤ 24) (x1 : I (10 + 2 * r) 1 = nI n) (x2 : K 2 r = nI n) (x3 : ∀ j, j < n → I (11 + 2 * r) j = K 3 (24 * r + j)) : ∃ b, f_X1_isSigns r I = some (bI b) ∧ f_X4_areSigns (nI r) K = some (bI b) ∧ (b = true → ∃ p, SGN I K r n p) := by
  obtain ⟨b, e, q⟩ := X_rowSigns (I := I) (r := r) hn x1
  have e2 := M_areSigns (K := K) hr hn x2
  have hb : b = alB (fun j => decide (K 3 (24 * r + j) = 1 ∨ K 3 (24 * r + j) = -1)) n := by
    rw [Bool.eq_iff_iff, q, alB_iff]
    refine forall_congr' (fun j => forall_congr' (fun hj => ?_))
    rw [x3 j hj, decide_eq_true_iff]
  refine ⟨b, e, by rw [e2, hb], fun hb => ⟨fun j => decide (I (11 + 2 * r) j = -1), hr, hn, x1, x2, ?_⟩⟩
  have key : ∀ j, j < n → I (11 + 2 * r) j = sI (sv (fun j => decide (I (11 + 2 * r) j = -1)) j) := by
    intro j hj
    show _ = sI (if decide (I (11 + 2 * r) j = -1) = true then -1 else 1)
    rcases q.mp hb j hj with g | g
    · rw [g]; decide
    · rw [g]; decide
  exact ⟨key, fun j hj => by rw [← x3 j hj]; exact key j hj⟩
theorem X_minusBits (h : SGN I K r n p) : f_X1_minusBits r I = some (nI (bs p n)) := by
  obtain ⟨hr, hn, x1, x2, x3, x4⟩ := h
  unfold f_X1_minusBits
  refine up0 (fun f i (a : Int32) => f_X1_minusBits_4 I f r a i) n (by rw [fu_val]; omega) (fun k => nI (bs p k)) _ ?_ ?_
  · intro f
    show f_X1_minusBits_4 I (f + 1) r _ (nI n) = _
    rw [f_X1_minusBits_4, x1, if_pos (nI_le (Nat.le_refl _) (by omega))]
  · intro f k hk
    show f_X1_minusBits_4 I (f + 1) r _ (nI k) = f_X1_minusBits_4 I f r _ (nI (k + 1))
    rw [f_X1_minusBits_4, x1, if_neg (nI_ge hk (by omega)), ix_nI (by omega) (by omega), if_pos rfl, nI_clamp (by omega), x3 k hk, nI_1]
    have bp := bs_push p (i := k) (by omega)
    unfold sv
    cases hp : p k
    · rw [if_pos (show (0 : Int32) ≤ sI (if false = true then -1 else 1) by decide)]
      have : bs p (k + 1) = bs p k := by simp [bs, hp]
      rw [this]
    · rw [if_neg (show ¬ (0 : Int32) ≤ sI (if true = true then -1 else 1) by decide)]
      rw [hp] at bp
      rw [← bp]
      rfl
theorem M_plainEcho (h : SGN I K r n p) {s : Nat} (hs : s ≤ n) : f_X4_plainEcho (nI r) (nI s) K = some (sI (ecI p n s)) := by
  obtain ⟨hr, hn, x1, x2, x3, x4⟩ := h
  unfold f_X4_plainEcho
  refine up0 (fun f i (a : Int32) => f_X4_plainEcho_5 K f (nI r) (nI s) a i) (n - s) (by rw [fu_val]; omega) (fun k => sI (fb_si (fun i => sv p i * sv p (i + s)) k)) _ ?_ ?_
  · intro f
    show f_X4_plainEcho_5 K (f + 1) (nI r) (nI s) _ (nI (n - s)) = _
    rw [f_X4_plainEcho_5, ix_nI hr (by omega), if_pos rfl, nI_clamp (by omega), x2, nI_add, if_pos (nI_le (by omega) (by omega)), sv_sum p (fun i => i + s)]
    rfl
  · intro f k hk
    show f_X4_plainEcho_5 K (f + 1) (nI r) (nI s) _ (nI k) = f_X4_plainEcho_5 K f (nI r) (nI s) _ (nI (k + 1))
    rw [f_X4_plainEcho_5, ix_nI hr (by omega), if_pos rfl, nI_clamp (by omega), x2, nI_add, if_neg (nI_ge (by omega) (by omega)), e24, ix_nI (by omega) (by omega), if_pos rfl, nI_add, ix_nI (by omega) (by omega), if_pos rfl, nI_clamp (by omega), nI_clamp (by omega), x4 k (by omega), show 24 * r + k + s = 24 * r + (k + s) by omega, x4 (k + s) (by omega), sI_mul, sI_add, nI_1]
    rfl
theorem M_roundEcho (h : SGN I K r n p) (h0 : 0 < n) {s : Nat} (hs : s < n) : f_X4_roundEcho (nI r) (nI s) K = some (sI (ecR p n s)) := by
  obtain ⟨hr, hn, x1, x2, x3, x4⟩ := h
  unfold f_X4_roundEcho
  rw [ix_nI hr (by omega), if_pos rfl, nI_clamp (by omega), x2]
  refine up0 (fun f i (a : Int32) => f_X4_roundEcho_13 K f (nI r) (nI s) (nI n) a i) n (by rw [fu_val]; omega) (fun k => sI (fb_si (fun i => sv p i * sv p ((i + s) % n)) k)) _ ?_ ?_
  · intro f
    show f_X4_roundEcho_13 K (f + 1) (nI r) (nI s) (nI n) _ (nI n) = _
    rw [f_X4_roundEcho_13, if_pos (nI_le (Nat.le_refl _) (by omega)), sv_sum p (fun i => (i + s) % n)]
    rfl
  · intro f k hk
    show f_X4_roundEcho_13 K (f + 1) (nI r) (nI s) (nI n) _ (nI k) = f_X4_roundEcho_13 K f (nI r) (nI s) (nI n) _ (nI (k + 1))
    have hm : (k + s) % n < n := Nat.mod_lt _ h0
    rw [f_X4_roundEcho_13, if_neg (nI_ge hk (by omega)), e24, ix_nI (by omega) (by omega), if_pos rfl, if_neg (nI_ne0 h0 (by omega)), nI_add, pk_rem (by omega) h0 (by omega), e24, ix_nI (by omega) (by omega), if_pos rfl, nI_clamp (by omega), nI_clamp (by omega), x4 k hk, x4 _ hm, sI_mul, sI_add, nI_1]
    rfl
end SR
/-- a call on one row of signs -/
theorem S_cases {I K : zMi} {J M : zMl} (h : RR I J K M) (a : Int32) :
    (f_X3_isRowNumber a = 0 ∧ f_X4_askedSigns a K = some (-1, K))
    ∨ (∃ r, r < 6 ∧ a = nI r ∧ f_X3_isRowNumber (nI r) = 1 ∧ ix (nI r) 6 = true ∧ (nI r).toNatClampNeg = r ∧ ∃ v I' K', f_X3_findingOfSigns r I = some v ∧ ¬ v = 0 ∧ f_X3_found v I = some (-3, I') ∧ f_X4_askedSigns (nI r) K = some (-3, K') ∧ RR I' J K' M)
    ∨ (∃ r n p, r < 6 ∧ a = nI r ∧ f_X3_isRowNumber (nI r) = 1 ∧ ix (nI r) 6 = true ∧ (nI r).toNatClampNeg = r ∧ f_X3_findingOfSigns r I = some 0 ∧ f_X4_askedSigns (nI r) K = some (0, K) ∧ 0 < n ∧ SGN I K r n p) := by
  rcases R_cases h a with ⟨e1, e2, e3⟩ | ⟨r, hr, rfl, e1, e2, e3, e4, e5, e6, e7⟩ | ⟨r, n, hr, rfl, e1, e2, e3, e4, e5, e6, e7, hn, x1, x2, x3⟩
  · left
    exact ⟨e1, by simp only [f_X4_askedSigns, e3, Option.bind_some, if_neg v0m1]⟩
  · right; left
    obtain ⟨I', K', y1, y2, h'⟩ := RR_found h 1 (by simp)
    exact ⟨r, hr, rfl, e1, e3, e4, 1, I', K', by simp only [f_X3_findingOfSigns, e5, if_neg v10], v10, y1, by simp only [f_X4_askedSigns, e7, y2, Option.bind_some, if_neg v0m3], h'⟩
  · right
    by_cases h0 : n = 0
    · left
      subst h0
      obtain ⟨I', K', y1, y2, h'⟩ := RR_found h 5 (by simp)
      refine ⟨r, hr, rfl, e1, e3, e4, 5, I', K', ?_, by decide, y1, ?_, h'⟩
      · simp only [f_X3_findingOfSigns, e5, x1, nI_0, if_true]
      · simp only [f_X4_askedSigns, e7, e3, e4, x2, nI_0, y2, Option.bind_some, if_pos v00, if_true]
    · have n0 : ¬ nI n = 0 := nI_ne0 (by omega) (by omega)
      obtain ⟨b, s1, s2, s3⟩ := signs_of hr hn x1 x2 x3
      cases b
      · left
        obtain ⟨I', K', y1, y2, h'⟩ := RR_found h 3 (by simp)
        refine ⟨r, hr, rfl, e1, e3, e4, 3, I', K', ?_, by decide, y1, ?_, h'⟩
        · simp only [f_X3_findingOfSigns, e5, x1, if_neg n0, s1, bI_f, Option.bind_some, if_true]
        · simp only [f_X4_askedSigns, e7, e3, e4, x2, if_neg n0, s2, bI_f, y2, Option.bind_some, if_pos v00, if_true]
      · right
        obtain ⟨p, hp⟩ := s3 rfl
        refine ⟨r, n, p, hr, rfl, e1, e3, e4, ?_, ?_, by omega, hp⟩
        · simp only [f_X3_findingOfSigns, e5, x1, if_neg n0, s1, bI_t, Option.bind_some, if_neg v10, if_true]
        · simp only [f_X4_askedSigns, e7, e3, e4, x2, if_neg n0, s2, bI_t, Option.bind_some, if_pos v00, if_neg v10, if_true]
theorem s_echo : so_echo RR := by
  intro I J K M h a1 a2 a3 h3
  rcases S_cases h a1 with ⟨e1, e2⟩ | ⟨r, hr, rfl, e1, e3, e4, v, I', K', f1, f0, y1, y2, h'⟩ | ⟨r, n, p, hr, rfl, e1, e3, e4, f1, f2, h0, hp⟩
  · exact ⟨-1, I, K, by simp only [f_X3_echo, e1, if_true], by simp only [f_X4_echo, e2, Option.bind_some, if_neg v0m1], h⟩
  · refine ⟨-3, I', K', ?_, ?_, h'⟩
    · simp only [f_X3_echo, e1, e3, e4, f1, Option.bind_some, if_neg f0, y1, if_neg v10, if_true]
    · simp only [f_X4_echo, y2, Option.bind_some, if_neg v0m3]
  · have hn := hp.2.1
    have x1 : I (10 + 2 * r) 1 = nI n := hp.2.2.1
    have x2 : K 2 r = nI n := hp.2.2.2.1
    rcases in_cases a2 h0 (by omega) with ⟨q1, q2⟩ | ⟨s, hs, rfl, q1⟩
    · obtain ⟨I', K', y1, y2, h'⟩ := RR_found h 2 (by simp)
      refine ⟨-3, I', K', ?_, ?_, h'⟩
      · by_cases g : a2 < 0
        · simp only [f_X3_echo, e1, e3, e4, f1, Option.bind_some, if_pos g, y1, if_neg v10, if_true]
        · have g2 : ¬ a2 < nI n := fun w => by
            have w1 := (fa_le _ _).mp (q2.resolve_left g)
            have w2 := (fa_lt _ _).mp w
            omega
          simp only [f_X3_echo, e1, e3, e4, f1, x1, Option.bind_some, if_neg g, if_neg g2, y1, if_neg v10, if_true]
      · simp only [f_X4_echo, f2, e3, e4, x2, q1, y2, Option.bind_some, if_pos v00, if_true]
    · have g1 : ¬ nI s < 0 := nI_pos (by omega)
      have g2 : nI s < nI n := nI_lt hs (by omega)
      have mb := X_minusBits hp
      rcases h3 with rfl | rfl
      · refine ⟨1, _, _, ?_, ?_, RR_ask h (sI (ecI p n s))⟩
        · simp only [f_X3_echo, e1, e3, e4, f1, x1, Option.bind_some, if_neg g1, if_pos g2, mb, X_echo0 p hn (show s ≤ n by omega), if_neg v10, if_true]
        · simp only [f_X4_echo, f2, e3, e4, x2, q1, M_plainEcho hp (show s ≤ n by omega), Option.bind_some, if_pos v00, if_neg v10, if_true, f_X4_ask]
      · refine ⟨1, _, _, ?_, ?_, RR_ask h (sI (ecR p n s))⟩
        · simp only [f_X3_echo, e1, e3, e4, f1, x1, Option.bind_some, if_neg g1, if_pos g2, mb, X_echo1 p hn hs, if_neg v10, if_true]
        · simp only [f_X4_echo, f2, e3, e4, x2, q1, M_roundEcho hp h0 hs, Option.bind_some, if_pos v00, if_neg v10, if_true, f_X4_ask]
-- ===== side =====
def sd (p : Nat → Bool) (n : Nat) : Nat := gm (fun q => (ecI p n (q + 1)).natAbs) (n - 1)
theorem ecI_lt (p : Nat → Bool) {n q : Nat} (h : q + 1 ≤ n) : (ecI p n (q + 1)).natAbs ≤ n - 1 := by
  have := fb_ct_le (fun j => p j ^^ p (j + (q + 1))) (n - (q + 1))
  unfold ecI
  omega
theorem sd_lt (p : Nat → Bool) {n : Nat} (h : 0 < n) : sd p n < n := by
  have : sd p n ≤ n - 1 := gm_le (fun q hq => ecI_lt p (by omega))
  omega
theorem X_sideOf (p : Nat → Bool) {n : Nat} (h0 : 0 < n) (hn : n ≤ 24) (e : Nat) (he : e < 2 ^ 31) : ∃ v, f_X3_sideOf (nI (bs p n)) (nI n) (nI e) = some (nI v) ∧ v ≤ 24 ∧ (v = sd p n ∨ (e ≤ v ∧ v ≤ sd p n)) := by
  unfold f_X3_sideOf
  refine lp (fun f i (a : Int32) => f_X3_sideOf_5 f (nI (bs p n)) (nI n) (nI e) a i) n 1 (by omega) (by rw [fu_val]; omega) (fun k a => a = nI (gm (fun q => (ecI p n (q + 1)).natAbs) (k - 1))) (fun res => ∃ v, res = some (nI v) ∧ v ≤ 24 ∧ (v = sd p n ∨ (e ≤ v ∧ v ≤ sd p n))) ?_ ?_ _ rfl
  · intro f a ha
    have := sd_lt p h0
    refine ⟨sd p n, ?_, by omega, Or.inl rfl⟩
    show f_X3_sideOf_5 (f + 1) (nI (bs p n)) (nI n) (nI e) a (nI n) = _
    rw [f_X3_sideOf_5, if_pos (nI_le (Nat.le_refl _) (by omega)), ha]
    rfl
  · intro f k a hk1 hk ha
    have b1 : gm (fun q => (ecI p n (q + 1)).natAbs) (k - 1) ≤ n - 1 := gm_le (fun q hq => ecI_lt p (by omega))
    have hb := ecI_bound p n k
    by_cases g : e ≤ gm (fun q => (ecI p n (q + 1)).natAbs) (k - 1)
    · right
      refine ⟨gm (fun q => (ecI p n (q + 1)).natAbs) (k - 1), ?_, by omega, Or.inr ⟨g, ?_⟩⟩
      · show f_X3_sideOf_5 (f + 1) (nI (bs p n)) (nI n) (nI e) a (nI k) = _
        rw [f_X3_sideOf_5, if_neg (nI_ge hk (by omega)), ha, if_pos (nI_le g (by omega))]
      · have := gm_mono (fun q => (ecI p n (q + 1)).natAbs) (k - 1) (n - k)
        rw [show k - 1 + (n - k) = n - 1 by omega] at this
        exact this
    · left
      refine ⟨nI (gm (fun q => (ecI p n (q + 1)).natAbs) (k + 1 - 1)), ?_, rfl⟩
      show f_X3_sideOf_5 (f + 1) (nI (bs p n)) (nI n) (nI e) a (nI k) = f_X3_sideOf_5 f (nI (bs p n)) (nI n) (nI e) _ (nI (k + 1))
      rw [f_X3_sideOf_5, if_neg (nI_ge hk (by omega)), ha, if_neg (nI_ge (by omega) he), X_echo0 p hn (by omega), (abs_sI (by omega) (by omega)).2, nI_1, J_max _ _ (by omega) (by omega)]
      obtain ⟨m, rfl⟩ : ∃ m, k = m + 1 := ⟨k - 1, by omega⟩
      rfl
theorem M_side (I : zMi) {K : zMi} {r n : Nat} {p : Nat → Bool} (h : SGN I K r n p) (h0 : 0 < n) : f_X4_side_17 fu (nI r) 0 1 K = some (nI (sd p n), K) := by
  have hn := h.2.1
  have hr := h.1
  have x2 : K 2 r = nI n := h.2.2.2.1
  refine upF (fun f i (a : Int32) => f_X4_side_17 f (nI r) a i K) n 1 (by omega) (by rw [fu_val]; omega) (fun k => nI (gm (fun q => (ecI p n (q + 1)).natAbs) (k - 1))) _ ?_ ?_
  · intro f
    show f_X4_side_17 (f + 1) (nI r) _ (nI n) K = _
    rw [f_X4_side_17, ix_nI hr (by omega), if_pos rfl, nI_clamp (by omega), x2, if_pos (nI_le (Nat.le_refl _) (by omega))]
    rfl
  · intro f k hk1 hk
    show f_X4_side_17 (f + 1) (nI r) _ (nI k) K = f_X4_side_17 f (nI r) _ (nI (k + 1)) K
    have b1 : gm (fun q => (ecI p n (q + 1)).natAbs) (k - 1) ≤ n - 1 := gm_le (fun q hq => ecI_lt p (by omega))
    have hb := ecI_bound p n k
    rw [f_X4_side_17, ix_nI hr (by omega), if_pos rfl, nI_clamp (by omega), x2, if_neg (nI_ge hk (by omega)), M_plainEcho h (by omega), Option.bind_some, (abs_sI (by omega) (by omega)).1, nI_1]
    obtain ⟨m, rfl⟩ : ∃ m, k = m + 1 := ⟨k - 1, by omega⟩
    simp only [Nat.add_sub_cancel, gm] at b1 ⊢
    by_cases g : gm (fun q => (ecI p n (q + 1)).natAbs) m < (ecI p n (m + 1)).natAbs
    · rw [if_neg (nI_ge g (by omega)), if_pos g]
    · rw [if_pos (nI_le (by omega) (by omega)), if_neg g]
theorem s_side : so_side RR := by
  intro I J K M h a1
  rcases S_cases h a1 with ⟨e1, e2⟩ | ⟨r, hr, rfl, e1, e3, e4, v, I', K', f1, f0, y1, y2, h'⟩ | ⟨r, n, p, hr, rfl, e1, e3, e4, f1, f2, h0, hp⟩
  · exact ⟨-1, I, K, by simp only [f_X3_side, e1, if_true], by simp only [f_X4_side, e2, Option.bind_some, if_neg v0m1], h⟩
  · refine ⟨-3, I', K', ?_, ?_, h'⟩
    · simp only [f_X3_side, e1, e3, e4, f1, Option.bind_some, if_neg f0, y1, if_neg v10, if_true]
    · simp only [f_X4_side, y2, Option.bind_some, if_neg v0m3]
  · have hn := hp.2.1
    have x1 : I (10 + 2 * r) 1 = nI n := hp.2.2.1
    obtain ⟨v, w1, w2, w3⟩ := X_sideOf p h0 hn n (by omega)
    have hl := sd_lt p h0
    have hv : v = sd p n := by
      rcases w3 with q | q
      · exact q
      · omega
    subst hv
    refine ⟨nI (sd p n), I, K, ?_, ?_, h⟩
    · simp only [f_X3_side, e1, e3, e4, f1, x1, X_minusBits hp, w1, Option.bind_some, if_neg v10, if_true]
    · simp only [f_X4_side, f2, Option.bind_some, if_pos v00]
      exact M_side I hp h0
-- ===== pairs of rows =====
theorem P_cases {I K : zMi} {J M : zMl} (h : RR I J K M) {a b : Int32} {most : Nat} (hm : most ≤ 24) (q1 : f_X3_isRowNumber a = 1) (q2 : f_X3_isRowNumber b = 1) :
    (∃ r u v I' K', r < 6 ∧ u < 6 ∧ a = nI r ∧ b = nI u ∧ f_X3_findingOfPair r u (nI most) I = some v ∧ ¬ v = 0 ∧ f_X3_found v I = some (-3, I') ∧ f_X4_askedPair a b (nI most) K = some (-3, K') ∧ RR I' J K' M)
    ∨ (∃ r u n p q, r < 6 ∧ u < 6 ∧ a = nI r ∧ b = nI u ∧ f_X3_findingOfPair r u (nI most) I = some 0 ∧ f_X4_askedPair a b (nI most) K = some (0, K) ∧ 0 < n ∧ n ≤ most ∧ SGN I K r n p ∧ SGN I K u n q) := by
  obtain ⟨I1, K1, y1, y2, h1⟩ := RR_found h 1 (by simp)
  obtain ⟨I3, K3, z1, z2, h3⟩ := RR_found h 3 (by simp)
  obtain ⟨I5, K5, w1, w2, h5⟩ := RR_found h 5 (by simp)
  rcases R_cases h a with ⟨e1, -, -⟩ | ⟨r, hr, rfl, e1, e2, e3, e4, e5, e6, e7⟩ | ⟨r, n, hr, rfl, e1, e2, e3, e4, e5, e6, e7, hn, x1, x2, x3⟩
  · rw [e1] at q1; exact absurd q1.symm v10
  · rcases R_cases h b with ⟨g1, -, -⟩ | ⟨u, hu, rfl, g1, g2, g3, g4, g5, g6, g7⟩ | ⟨u, m, hu, rfl, g1, g2, g3, g4, g5, g6, g7, hm', u1, u2, u3⟩
    · rw [g1] at q2; exact absurd q2.symm v10
    · left
      refine ⟨r, u, 1, I1, K1, hr, hu, rfl, rfl, by simp only [f_X3_findingOfPair, e5, if_neg v10], v10, y1, ?_, h1⟩
      simp only [f_X4_askedPair, e2, g2, e3, e4, if_pos e6, y2, Option.bind_some, if_neg v10, if_true]
    · left
      refine ⟨r, u, 1, I1, K1, hr, hu, rfl, rfl, by simp only [f_X3_findingOfPair, e5, if_neg v10], v10, y1, ?_, h1⟩
      simp only [f_X4_askedPair, e2, g2, e3, e4, if_pos e6, y2, Option.bind_some, if_neg v10, if_true]
  · rcases R_cases h b with ⟨g1, -, -⟩ | ⟨u, hu, rfl, g1, g2, g3, g4, g5, g6, g7⟩ | ⟨u, m, hu, rfl, g1, g2, g3, g4, g5, g6, g7, hm', u1, u2, u3⟩
    · rw [g1] at q2; exact absurd q2.symm v10
    · left
      have g6' : ¬ 0 ≤ K 2 u := fun q => by rw [fa_lt] at g6; rw [fa_le] at q; omega
      refine ⟨r, u, 1, I1, K1, hr, hu, rfl, rfl, by simp only [f_X3_findingOfPair, e5, g5, if_neg v10, if_true], v10, y1, ?_, h1⟩
      simp only [f_X4_askedPair, e2, g2, e3, e4, if_neg e6, g3, g4, if_neg g6', y2, Option.bind_some, if_neg v10, if_true]
    · have n6 : ¬ nI n < 0 := nI_pos (by omega)
      have m6 : 0 ≤ nI m := nI_pos' (by omega)
      by_cases h0 : n = 0
      · subst h0
        left
        refine ⟨r, u, 5, I5, K5, hr, hu, rfl, rfl, ?_, by decide, w1, ?_, h5⟩
        · simp only [f_X3_findingOfPair, e5, g5, x1, nI_0, if_true]
        · simp only [f_X4_askedPair, e2, g2, e3, e4, x2, g3, g4, u2, if_neg n6, if_pos m6, if_pos nI_0, w2, Option.bind_some, if_neg v10, if_true]
      · have n0 : ¬ nI n = 0 := nI_ne0 (by omega) (by omega)
        by_cases hnm : n = m
        · subst hnm
          by_cases hmo : n ≤ most
          · have lm : nI n ≤ nI most := nI_le hmo (by omega)
            obtain ⟨b1, s1, s2, s3⟩ := signs_of hr hn x1 x2 x3
            obtain ⟨b2, t1, t2, t3⟩ := signs_of hu hm' u1 u2 u3
            cases b1
            · left
              refine ⟨r, u, 3, I3, K3, hr, hu, rfl, rfl, ?_, by decide, z1, ?_, h3⟩
              · simp only [f_X3_findingOfPair, e5, g5, x1, u1, if_neg n0, if_pos lm, s1, bI_f, Option.bind_some, if_true]
              · simp only [f_X4_askedPair, e2, g2, e3, e4, x2, g3, g4, u2, if_neg n6, if_pos m6, if_neg n0, if_pos lm, s2, bI_f, z2, Option.bind_some, if_neg v10, if_true]
            · cases b2
              · left
                refine ⟨r, u, 3, I3, K3, hr, hu, rfl, rfl, ?_, by decide, z1, ?_, h3⟩
                · simp only [f_X3_findingOfPair, e5, g5, x1, u1, if_neg n0, if_pos lm, s1, t1, bI_t, bI_f, Option.bind_some, if_neg v10, if_true]
                · simp only [f_X4_askedPair, e2, g2, e3, e4, x2, g3, g4, u2, if_neg n6, if_pos m6, if_neg n0, if_pos lm, s2, t2, bI_t, bI_f, z2, Option.bind_some, if_neg v10, if_true]
              · right
                obtain ⟨p, hp⟩ := s3 rfl
                obtain ⟨q, hq⟩ := t3 rfl
                refine ⟨r, u, n, p, q, hr, hu, rfl, rfl, ?_, ?_, by omega, hmo, hp, hq⟩
                · simp only [f_X3_findingOfPair, e5, g5, x1, u1, if_neg n0, if_pos lm, s1, t1, bI_t, Option.bind_some, if_neg v10, if_true]
                · simp only [f_X4_askedPair, e2, g2, e3, e4, x2, g3, g4, u2, if_neg n6, if_pos m6, if_neg n0, if_pos lm, s2, t2, bI_t, Option.bind_some, if_neg v10, if_true]
          · left
            have lm : ¬ nI n ≤ nI most := nI_ge (by omega) (by omega)
            refine ⟨r, u, 5, I5, K5, hr, hu, rfl, rfl, ?_, by decide, w1, ?_, h5⟩
            · simp only [f_X3_findingOfPair, e5, g5, x1, u1, if_neg n0, if_neg lm, if_true]
            · simp only [f_X4_askedPair, e2, g2, e3, e4, x2, g3, g4, u2, if_neg n6, if_pos m6, if_neg n0, if_neg lm, w2, Option.bind_some, if_neg v10, if_true]
        · left
          have ne : ¬ nI n = nI m := fun q => hnm ((nI_eq (by omega) (by omega)).mp q)
          refine ⟨r, u, 5, I5, K5, hr, hu, rfl, rfl, ?_, by decide, w1, ?_, h5⟩
          · simp only [f_X3_findingOfPair, e5, g5, x1, u1, if_neg n0, if_neg ne, if_true]
          · simp only [f_X4_askedPair, e2, g2, e3, e4, x2, g3, g4, u2, if_neg n6, if_pos m6, if_neg n0, if_neg ne, w2, Option.bind_some, if_neg v10, if_true]
def ecB (p : Nat → Bool) (n s : Nat) (c : Bool) : Int := if c then ecR p n s else ecI p n s
theorem ecB_bound (p : Nat → Bool) (n s : Nat) (c : Bool) : -(n : Int) ≤ ecB p n s c ∧ ecB p n s c ≤ n := by
  unfold ecB
  cases c
  · exact ecI_bound p n s
  · exact ecR_bound p n s
theorem X_echoB (p : Nat → Bool) {n s : Nat} (hn : n ≤ 24) (hs : s < n) (c : Bool) : f_X3_echoOf (nI (bs p n)) (nI n) (nI s) (bI c) = sI (ecB p n s c) := by
  cases c
  · exact X_echo0 p hn (by omega)
  · exact X_echo1 p hn hs
theorem cancel_eq {I K : zMi} {r u n : Nat} {p q : Nat → Bool} (h : SGN I K r n p) (h' : SGN I K u n q) (h0 : 0 < n) (c : Bool) : ∃ b, f_X3_pairCancels r u (bI c) I = some (bI b) ∧ f_X4_areZero (nI r) (nI u) (bI c) K = some (bI b) := by
  have hn := h.2.1
  have hr := h.1
  have x1 : I (10 + 2 * r) 1 = nI n := h.2.2.1
  have x2 : K 2 r = nI n := h.2.2.2.1
  have z : ∀ s, sI (ecB p n s c + ecB q n s c) = 0 ↔ ecB p n s c + ecB q n s c = 0 := fun s => by
    have b1 := ecB_bound p n s c
    have b2 := ecB_bound q n s c
    exact sI_eq (b := 0) (by omega) (by omega)
  refine ⟨alB (fun s => decide (ecB p n (s + 1) c + ecB q n (s + 1) c = 0)) (n - 1), ?_, ?_⟩
  · unfold f_X3_pairCancels
    rw [X_minusBits h, Option.bind_some, X_minusBits h', Option.bind_some, x1]
    have := up_all (fun f i (_ : Unit) => f_X3_pairCancels_20 I f (bI c) (nI n) (nI (bs p n)) (nI (bs q n)) i) n (fun _ => ()) (some 1) (some 0) (fun s => ecB p n s c + ecB q n s c = 0) 1 (by omega) (by rw [fu_val]; omega)
      (fun _ f => by
        show f_X3_pairCancels_20 I (f + 1) (bI c) (nI n) (nI (bs p n)) (nI (bs q n)) (nI n) = _
        rw [f_X3_pairCancels_20, if_pos (nI_le (Nat.le_refl _) (by omega))])
      (fun f s hs1 hs hp => by
        show f_X3_pairCancels_20 I (f + 1) (bI c) (nI n) (nI (bs p n)) (nI (bs q n)) (nI s) = f_X3_pairCancels_20 I f (bI c) (nI n) (nI (bs p n)) (nI (bs q n)) (nI (s + 1))
        rw [f_X3_pairCancels_20, if_neg (nI_ge hs (by omega)), X_echoB p hn hs, X_echoB q hn hs, sI_add, if_pos ((z s).mpr hp), nI_1])
      (fun f s hs1 hs hp => by
        show f_X3_pairCancels_20 I (f + 1) (bI c) (nI n) (nI (bs p n)) (nI (bs q n)) (nI s) = _
        rw [f_X3_pairCancels_20, if_neg (nI_ge hs (by omega)), X_echoB p hn hs, X_echoB q hn hs, sI_add, if_neg (fun w => hp ((z s).mp w))])
    rcases this with ⟨e, hp⟩ | ⟨e, k, hk1, hk, hp⟩
    · rw [show alB (fun s => decide (ecB p n (s + 1) c + ecB q n (s + 1) c = 0)) (n - 1) = true from (alB_iff _ _).mpr (fun s hs => decide_eq_true (hp (s + 1) (by omega) (by omega)))]
      exact e
    · have : alB (fun s => decide (ecB p n (s + 1) c + ecB q n (s + 1) c = 0)) (n - 1) = false := by
        cases hb : alB (fun s => decide (ecB p n (s + 1) c + ecB q n (s + 1) c = 0)) (n - 1)
        · rfl
        · exfalso
          have := (alB_iff _ _).mp hb (k - 1) (by omega)
          rw [show k - 1 + 1 = k by omega] at this
          exact hp (of_decide_eq_true this)
      rw [this]
      exact e
  · unfold f_X4_areZero
    refine upF (fun f i (a : Int32) => f_X4_areZero_6 K f (nI r) (nI u) (bI c) a i) n 1 (by omega) (by rw [fu_val]; omega) (fun k => bI (alB (fun s => decide (ecB p n (s + 1) c + ecB q n (s + 1) c = 0)) (k - 1))) _ ?_ ?_
    · intro f
      show f_X4_areZero_6 K (f + 1) (nI r) (nI u) (bI c) _ (nI n) = _
      rw [f_X4_areZero_6, ix_nI hr (by omega), if_pos rfl, nI_clamp (by omega), x2, if_pos (nI_le (Nat.le_refl _) (by omega))]
    · intro f k hk1 hk
      show f_X4_areZero_6 K (f + 1) (nI r) (nI u) (bI c) (bI _) (nI k) = f_X4_areZero_6 K f (nI r) (nI u) (bI c) (bI _) (nI (k + 1))
      rw [f_X4_areZero_6, ix_nI hr (by omega), if_pos rfl, nI_clamp (by omega), x2, if_neg (nI_ge hk (by omega)), M_plainEcho h (show k ≤ n by omega), Option.bind_some, M_plainEcho h' (show k ≤ n by omega), Option.bind_some, M_roundEcho h h0 hk, Option.bind_some, M_roundEcho h' h0 hk, Option.bind_some, nI_1]
      obtain ⟨m, rfl⟩ : ∃ m, k = m + 1 := ⟨k - 1, by omega⟩
      simp only [Nat.add_sub_cancel, alB]
      have zz := z (m + 1)
      have nx : ∀ x : Int32, x = sI (ecB p n (m + 1) c + ecB q n (m + 1) c) → (if x = 0 then f_X4_areZero_6 K f (nI r) (nI u) (bI c) 1 (nI (m + 1 + 1)) else f_X4_areZero_6 K f (nI r) (nI u) (bI c) 0 (nI (m + 1 + 1))) = f_X4_areZero_6 K f (nI r) (nI u) (bI c) (bI (decide (ecB p n (m + 1) c + ecB q n (m + 1) c = 0))) (nI (m + 1 + 1)) := by
        intro x hx
        rw [hx]
        by_cases g : ecB p n (m + 1) c + ecB q n (m + 1) c = 0
        · rw [if_pos (zz.mpr g), decide_eq_true g]; rfl
        · rw [if_neg (fun w => g (zz.mp w)), decide_eq_false g]; rfl
      cases alB (fun s => decide (ecB p n (s + 1) c + ecB q n (s + 1) c = 0)) m
      · rw [if_pos (show bI false = 0 from rfl), Bool.false_and]; rfl
      · rw [if_neg (show ¬ bI true = 0 by decide), Bool.true_and]
        cases c
        · rw [if_pos (show bI false = 0 from rfl)]
          exact nx _ (sI_add _ _)
        · rw [if_neg (show ¬ bI true = 0 by decide)]
          exact nx _ (sI_add _ _)
theorem s_cancels : so_cancels RR := by
  intro I J K M h a1 a2 a3 h3
  obtain ⟨c, rfl⟩ : ∃ c, a3 = bI c := by
    rcases h3 with rfl | rfl
    · exact ⟨false, rfl⟩
    · exact ⟨true, rfl⟩
  rcases rn_cases a1 with ⟨e1, e2⟩ | ⟨r0, hr0, hra, e1, e2, e3, e4⟩
  · exact ⟨-1, I, K, by simp only [f_X3_cancels, e1, if_true], by simp only [f_X4_cancels, f_X4_askedPair, e2, if_true, Option.bind_some, if_neg v0m1], h⟩
  rcases rn_cases a2 with ⟨g1, g2⟩ | ⟨u0, hu0, hua, g1, g2, g3, g4⟩
  · rw [← hra] at e1 e2
    exact ⟨-1, I, K, by simp only [f_X3_cancels, e1, g1, if_neg v10, if_true], by simp only [f_X4_cancels, f_X4_askedPair, e2, g2, if_neg v10, if_true, Option.bind_some, if_neg v0m1], h⟩
  subst hra hua
  rcases P_cases h (most := 24) (by omega) e1 g1 with ⟨r, u, v, I', K', hr, hu, hra, hua, f1, f0, y1, y2, h'⟩ | ⟨r, u, n, p, q, hr, hu, hra, hua, f1, f2, h0, hno, hp, hq⟩
  · have er : r0 = r := (nI_eq (by omega) (by omega)).mp hra
    have eu : u0 = u := (nI_eq (by omega) (by omega)).mp hua
    subst er eu
    have f1' : f_X3_findingOfPair r0 u0 24 I = some v := f1
    have y2' : f_X4_askedPair (nI r0) (nI u0) 24 K = some (-3, K') := y2
    refine ⟨-3, I', K', ?_, ?_, h'⟩
    · simp only [f_X3_cancels, e1, g1, e3, e4, g3, g4, f1', Option.bind_some, if_neg f0, y1, if_neg v10, if_true]
    · simp only [f_X4_cancels, y2', Option.bind_some, if_neg v0m3]
  · have er : r0 = r := (nI_eq (by omega) (by omega)).mp hra
    have eu : u0 = u := (nI_eq (by omega) (by omega)).mp hua
    subst er eu
    have f1' : f_X3_findingOfPair r0 u0 24 I = some 0 := f1
    have f2' : f_X4_askedPair (nI r0) (nI u0) 24 K = some (0, K) := f2
    obtain ⟨b, c1, c2⟩ := cancel_eq hp hq h0 c
    refine ⟨bI b, I, K, ?_, ?_, h⟩
    · simp only [f_X3_cancels, e1, g1, e3, e4, g3, g4, f1', c1, Option.bind_some, if_neg v10, if_true]
      cases b <;> rfl
    · simp only [f_X4_cancels, f2', c2, Option.bind_some, if_pos v00]
      cases b <;> rfl
