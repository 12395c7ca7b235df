-- ===== four rounds =====
def p4 (a b c d k : Nat) : Nat := if k = 0 then a else if k = 1 then b else if k = 2 then c else d
def fp (q : Nat) : Nat := ([0, 1, 2, 3, 1, 0, 3, 2, 2, 3, 0, 1, 3, 2, 1, 0] : List Nat).getD q 0
def fs (q : Nat) : Int := ([1, 1, 1, 1, -1, 1, -1, 1, -1, 1, 1, -1, -1, -1, 1, 1] : List Int).getD q 0
theorem fp_lt : ∀ q, q < 16 → fp q < 4 := by decide
theorem fs_pm : ∀ q, q < 16 → fs q = 1 ∨ fs q = -1 := by decide
theorem zFP_eq : ∀ q, q < 16 → zFPi q = nI (fp q) := by decide +kernel
theorem zFS_eq : ∀ q, q < 16 → zFSi q = sI (fs q) := by decide +kernel
theorem part_eq : ∀ q, q < 16 → f_X4_abs (f_X4_partAt (nI (q / 4)) (nI (q % 4))) - 1 = nI (fp q) ∧ (if 0 ≤ f_X4_partAt (nI (q / 4)) (nI (q % 4)) then (1 : Int32) else -1) = sI (fs q) := by decide +kernel
theorem X_both {I : zMi} {r n : Nat} (hn : n ≤ 24) (h0 : 0 < n) (hs : I (10 + 2 * r) 1 = nI n) : ∃ b, f_X1_isSignsBothWays r I = some (bI b) ∧ (b = true ↔ (∀ i, 1 ≤ i → i < n → I (11 + 2 * r) i = I (11 + 2 * r) (n - i)) ∧ ∀ j, j < n → I (11 + 2 * r) j = 1 ∨ I (11 + 2 * r) j = -1) := by
  obtain ⟨b, e, q⟩ := X_rowSigns (I := I) (r := r) hn hs
  unfold f_X1_isSignsBothWays
  have := up_all (fun f i (_ : Unit) => f_X1_isSignsBothWays_2 I f r i) n (fun _ => ()) (some (bI b)) (some 0) (fun i => I (11 + 2 * r) i = I (11 + 2 * r) (n - i)) 1 (by omega) (by rw [fu_val]; omega)
    (fun _ f => by
      show f_X1_isSignsBothWays_2 I (f + 1) r (nI n) = _
      rw [f_X1_isSignsBothWays_2, hs, if_pos (nI_le (Nat.le_refl _) (by omega)), e]
      rfl)
    (fun f k hk1 hk hp => by
      show f_X1_isSignsBothWays_2 I (f + 1) r (nI k) = f_X1_isSignsBothWays_2 I f r (nI (k + 1))
      rw [f_X1_isSignsBothWays_2, hs, if_neg (nI_ge hk (by omega)), ix_nI (by omega) (by omega), if_pos rfl, pk_sub (by omega), ix_nI (by omega) (by omega), if_pos rfl, nI_clamp (by omega), nI_clamp (by omega), if_pos hp, nI_1])
    (fun f k hk1 hk hp => by
      show f_X1_isSignsBothWays_2 I (f + 1) r (nI k) = _
      rw [f_X1_isSignsBothWays_2, hs, if_neg (nI_ge hk (by omega)), ix_nI (by omega) (by omega), if_pos rfl, pk_sub (by omega), ix_nI (by omega) (by omega), if_pos rfl, nI_clamp (by omega), nI_clamp (by omega), if_neg hp])
  rcases this with ⟨e, hp⟩ | ⟨e, k, hk1, hk, hp⟩
  · exact ⟨b, e, ⟨fun w => ⟨fun i h1 h2 => hp i h1 h2, q.mp w⟩, fun w => q.mpr w.2⟩⟩
  · exact ⟨false, e, ⟨fun w => (by cases w), fun w => absurd (w.1 k hk1 hk) hp⟩⟩
/-- the table that four rounds make -/
def frG (pp : Nat → Nat → Bool) (m : Nat) : Nat → Nat → Int := fun a b => fs (4 * (a / m) + b / m) * sv (pp (fp (4 * (a / m) + b / m))) ((b % m + m - a % m) % m)
theorem sv_pm (p : Nat → Bool) (j : Nat) : sv p j = 1 ∨ sv p j = -1 := by
  unfold sv
  cases p j
  · exact Or.inl rfl
  · exact Or.inr rfl
theorem fr_pm {q : Nat} (hq : q < 16) (p : Nat → Bool) (j : Nat) : fs q * sv p j = 1 ∨ fs q * sv p j = 0 ∨ fs q * sv p j = -1 := by
  rcases fs_pm q hq with e | e <;> rcases sv_pm p j with e' | e' <;> rw [e, e'] <;> decide
def frI (pp : Nat → Nat → Bool) (m q i k : Nat) : Nat → Nat → Int := fun a b => if 4 * (a / m) + b / m < q ∨ (4 * (a / m) + b / m = q ∧ (a % m < i ∨ (a % m = i ∧ b % m < k))) then frG pp m a b else 1
theorem X_round {I0 I : zMi} {T r m q : Nat} {p : Nat → Bool} {pp : Nat → Nat → Bool} (hm1 : 1 ≤ m) (hm3 : m ≤ 3) (hq : q < 16) (hp : pp (fp q) = p) (hs : I (10 + 2 * r) 1 = nI m) (hv : ∀ j, j < m → I (11 + 2 * r) j = sI (sv p j)) (hr : r < 6) (h : XT I T (4 * m) (frI pp m q 0 0)) (hf : ∀ a b, a ≠ 23 + 3 * T → a ≠ 24 + 3 * T → I a b = I0 a b) : ∃ I', f_X3_writeRound T (nI q) r I = some I' ∧ XT I' T (4 * m) (frI pp m (q + 1) 0 0) ∧ ∀ a b, a ≠ 23 + 3 * T → a ≠ 24 + 3 * T → I' a b = I0 a b := by
  have hrow : ∀ s : zMi, (∀ a b, a ≠ 23 + 3 * T → a ≠ 24 + 3 * T → s a b = I0 a b) → ∀ a b, a < 22 → s a b = I a b := fun s hs a b ha => by rw [hs a b (by omega) (by omega), hf a b (by omega) (by omega)]
  have e4 : nI q / 4 * nI m = nI (q / 4 * m) := by rw [show (4 : Int32) = nI 4 from rfl, pk_div (by omega) (by omega) (by omega), pk_mul]
  have e5 : (nI q - nI q / 4 * 4) * nI m = nI (q % 4 * m) := by rw [show (4 : Int32) = nI 4 from rfl, pk_rem (by omega) (by omega) (by omega), pk_mul]
  unfold f_X3_writeRound
  rw [hs, e4, e5]
  refine lp (fun f i I => f_X3_writeRound_22 f T (nI q) r (nI m) (nI (q / 4 * m)) (nI (q % 4 * m)) i I) m 0 (by omega) (by rw [fu_val]; omega) (fun i I' => XT I' T (4 * m) (frI pp m q i 0) ∧ ∀ a b, a ≠ 23 + 3 * T → a ≠ 24 + 3 * T → I' a b = I0 a b) (fun res => ∃ I', res = some I' ∧ XT I' T (4 * m) (frI pp m (q + 1) 0 0) ∧ ∀ a b, a ≠ 23 + 3 * T → a ≠ 24 + 3 * T → I' a b = I0 a b) ?_ ?_ _ ⟨h, hf⟩
  · intro f s ⟨s1, s2⟩
    refine ⟨s, ?_, XT_congA s1 (fun a b ha hb => ?_), s2⟩
    · show f_X3_writeRound_22 (f + 1) T (nI q) r (nI m) _ _ (nI m) s = _
      rw [f_X3_writeRound_22, if_pos (nI_le (Nat.le_refl _) (by omega))]
    · have hmod : a % m < m := Nat.mod_lt _ (by omega)
      unfold frI
      by_cases g : 4 * (a / m) + b / m < q ∨ (4 * (a / m) + b / m = q ∧ (a % m < m ∨ (a % m = m ∧ b % m < 0)))
      · rw [if_pos g, if_pos (by omega)]
      · rw [if_neg g, if_neg (by omega)]
  · intro f i s _ hi ⟨s1, s2⟩
    left
    show ∃ s', f_X3_writeRound_22 (f + 1) T (nI q) r (nI m) (nI (q / 4 * m)) (nI (q % 4 * m)) (nI i) s = f_X3_writeRound_22 f T (nI q) r (nI m) (nI (q / 4 * m)) (nI (q % 4 * m)) (nI (i + 1)) s' ∧ _
    rw [f_X3_writeRound_22, if_neg (nI_ge hi (by omega))]
    refine lp (fun g j I => f_X3_writeRound_31 (f_X3_writeRound_22 f) g T (nI q) r (nI m) (nI (q / 4 * m)) (nI (q % 4 * m)) (nI i) j I) m 0 (by omega) (by rw [fu_val]; omega) (fun k I' => XT I' T (4 * m) (frI pp m q i k) ∧ ∀ a b, a ≠ 23 + 3 * T → a ≠ 24 + 3 * T → I' a b = I0 a b) (fun res => ∃ s', res = f_X3_writeRound_22 f T (nI q) r (nI m) (nI (q / 4 * m)) (nI (q % 4 * m)) (nI (i + 1)) s' ∧ XT s' T (4 * m) (frI pp m q (i + 1) 0) ∧ ∀ a b, a ≠ 23 + 3 * T → a ≠ 24 + 3 * T → s' a b = I0 a b) ?_ ?_ _ ⟨s1, s2⟩
    · intro g s ⟨u1, u2⟩
      refine ⟨s, ?_, XT_congA u1 (fun a b ha hb => ?_), u2⟩
      · show f_X3_writeRound_31 (f_X3_writeRound_22 f) (g + 1) T (nI q) r (nI m) _ _ (nI i) (nI m) s = _
        rw [f_X3_writeRound_31, if_pos (nI_le (Nat.le_refl _) (by omega)), nI_1]
      · have hmod : b % m < m := Nat.mod_lt _ (by omega)
        unfold frI
        by_cases g : 4 * (a / m) + b / m < q ∨ (4 * (a / m) + b / m = q ∧ (a % m < i ∨ (a % m = i ∧ b % m < m)))
        · rw [if_pos g, if_pos (by omega)]
        · rw [if_neg g, if_neg (by omega)]
    · intro g k s _ hk ⟨u1, u2⟩
      left
      have hq4 : q / 4 < 4 := by omega
      have hq5 : q % 4 < 4 := by omega
      have ha : q / 4 * m + i < 4 * m := by
        have : (q / 4 + 1) * m ≤ 4 * m := Nat.mul_le_mul_right m hq4
        rw [Nat.succ_mul] at this
        omega
      have hb : q % 4 * m + k < 4 * m := by
        have : (q % 4 + 1) * m ≤ 4 * m := Nat.mul_le_mul_right m hq5
        rw [Nat.succ_mul] at this
        omega
      have da : (q / 4 * m + i) / m = q / 4 ∧ (q / 4 * m + i) % m = i := by
        rw [Nat.mul_comm]
        exact ⟨by rw [Nat.mul_add_div (by omega), Nat.div_eq_of_lt hi, Nat.add_zero], by rw [Nat.mul_add_mod, Nat.mod_eq_of_lt hi]⟩
      have db : (q % 4 * m + k) / m = q % 4 ∧ (q % 4 * m + k) % m = k := by
        rw [Nat.mul_comm]
        exact ⟨by rw [Nat.mul_add_div (by omega), Nat.div_eq_of_lt hk, Nat.add_zero], by rw [Nat.mul_add_mod, Nat.mod_eq_of_lt hk]⟩
      have hval : frG pp m (q / 4 * m + i) (q % 4 * m + k) = fs q * sv p ((k + m - i) % m) := by
        unfold frG
        rw [da.1, da.2, db.1, db.2, show 4 * (q / 4) + q % 4 = q by omega, hp]
      obtain ⟨s', r1, r2, r3⟩ := X_write u1 ha hb (z := fs q * sv p ((k + m - i) % m)) (fr_pm hq p _)
      refine ⟨s', ?_, XT_congA r2 (fun a b ha' hb' => ?_), fun a b h1 h2 => by rw [r3 a b h1 h2, u2 a b h1 h2]⟩
      · show f_X3_writeRound_31 (f_X3_writeRound_22 f) (g + 1) T (nI q) r (nI m) (nI (q / 4 * m)) (nI (q % 4 * m)) (nI i) (nI k) s = f_X3_writeRound_31 (f_X3_writeRound_22 f) g T (nI q) r (nI m) (nI (q / 4 * m)) (nI (q % 4 * m)) (nI i) (nI (k + 1)) s'
        have qv : (nI q).toNatClampNeg = q := nI_clamp (by omega)
        rw [f_X3_writeRound_31, if_neg (nI_ge hk (by omega)), qv, zFS_eq q hq, ix_nI hq (by omega), nI_add, nI_add, nI_1]
        by_cases hki : k < i
        · have e : nI k - nI i + nI m = nI (k + m - i) := by
            rw [← sI_nI, ← sI_nI, ← sI_nI, ← sI_nI, sI_sub, sI_add]
            congr 1
            omega
          have md : (k + m - i) % m = k + m - i := Nat.mod_eq_of_lt (by omega)
          rw [if_pos (nI_lt hki (by omega)), if_pos rfl, e, ix_nI (by omega) (by omega), if_pos rfl, nI_clamp (by omega), hrow s u2 _ _ (by omega), hv _ (by omega), sI_mul, ← md, r1]
          rfl
        · have e : nI k - nI i = nI (k - i) := pk_sub (by omega)
          have md : (k + m - i) % m = k - i := by
            rw [show k + m - i = (k - i) + m by omega, Nat.add_mod_right, Nat.mod_eq_of_lt (by omega)]
          rw [if_neg (nI_nlt (by omega) (by omega)), if_pos rfl, e, ix_nI (by omega) (by omega), if_pos rfl, nI_clamp (by omega), hrow s u2 _ _ (by omega), hv _ (by omega), sI_mul, ← md, r1]
          rfl
      · simp only [up2]
        by_cases g1 : a = q / 4 * m + i ∧ b = q % 4 * m + k
        · rw [if_pos g1, g1.1, g1.2, ← hval]
          unfold frI
          rw [da.1, da.2, db.1, db.2, if_pos (by omega)]
        · rw [if_neg g1]
          unfold frI
          have hne : ¬ (4 * (a / m) + b / m = q ∧ a % m = i ∧ b % m = k) := by
            rintro ⟨w1, w2, w3⟩
            have bm : b / m < 4 := Nat.div_lt_of_lt_mul (by rw [Nat.mul_comm]; exact hb')
            have t1 : a / m = q / 4 := (by clear g1 da db hval ha hb; generalize a / m = x at *; generalize b / m = y at *; omega)
            have t2 : b / m = q % 4 := (by clear g1 da db hval ha hb t1; generalize a / m = x at *; generalize b / m = y at *; omega)
            have t3 := Nat.div_add_mod a m
            have t4 := Nat.div_add_mod b m
            rw [t1, w2, Nat.mul_comm] at t3
            rw [t2, w3, Nat.mul_comm] at t4
            exact g1 ⟨t3.symm, t4.symm⟩
          by_cases g : 4 * (a / m) + b / m < q ∨ (4 * (a / m) + b / m = q ∧ (a % m < i ∨ (a % m = i ∧ b % m < k)))
          · rw [if_pos g, if_pos (by omega)]
          · rw [if_neg g, if_neg (by omega)]
