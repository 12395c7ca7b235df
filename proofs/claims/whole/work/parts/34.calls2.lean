-- ===== put =====
theorem isNum_eq (v : Int32) : f_X4_isNumber v = bI (decide (-1 ≤ v.toInt ∧ v.toInt ≤ 1)) := by
  rcases num_cases v with ⟨a, b⟩ | ⟨z, hz, rfl, a, b, c⟩
  · rw [a, decide_eq_false]
    · rfl
    · rintro ⟨q1, q2⟩
      rcases b with b | b
      · rw [fa_lt] at b
        have : v.toInt < -1 := b
        omega
      · exact b ((fa_le _ _).mpr q2)
  · rw [a, decide_eq_true]
    · rfl
    · rw [sI_toInt (by omega) (by omega)]
      omega
theorem X_isNumbers {I : zMi} {r n : Nat} (hn : n ≤ 24) (hs : I (10 + 2 * r) 1 = nI n) : ∃ b, f_X1_isNumbers r I = some (bI b) ∧ (b = true ↔ ∀ j, j < n → -1 ≤ (I (11 + 2 * r) j).toInt ∧ (I (11 + 2 * r) j).toInt ≤ 1) := by
  have lo : ∀ v : Int32, v < -1 ↔ v.toInt < -1 := fun v => fa_lt _ _
  have hi : ∀ v : Int32, v ≤ 1 ↔ v.toInt ≤ 1 := fun v => fa_le _ _
  have := up_all (fun f i (_ : Unit) => f_X1_isNumbers_2 I f r i) n (fun _ => ()) (some 1) (some 0) (fun j => -1 ≤ (I (11 + 2 * r) j).toInt ∧ (I (11 + 2 * r) j).toInt ≤ 1) 0 (by omega) (by rw [fu_val]; omega)
    (fun _ f => by
      show f_X1_isNumbers_2 I (f + 1) r (nI n) = _
      rw [f_X1_isNumbers_2, hs, if_pos (nI_le (Nat.le_refl _) (by omega))])
    (fun f k _ hk hp => by
      show f_X1_isNumbers_2 I (f + 1) r (nI k) = f_X1_isNumbers_2 I f r (nI (k + 1))
      rw [f_X1_isNumbers_2, hs, if_neg (nI_ge hk (by omega)), ix_nI (by omega) (by omega), if_pos rfl, nI_clamp (by omega), if_neg (fun q => by have := (lo _).mp q; omega), if_pos ((hi _).mpr hp.2), nI_1])
    (fun f k _ hk hp => by
      show f_X1_isNumbers_2 I (f + 1) r (nI k) = _
      rw [f_X1_isNumbers_2, hs, if_neg (nI_ge hk (by omega)), ix_nI (by omega) (by omega), if_pos rfl, nI_clamp (by omega)]
      by_cases g : I (11 + 2 * r) k < -1
      · rw [if_pos g]
      · rw [if_neg g, if_neg (fun q => hp ⟨Int.not_lt.mp (fun w => g ((lo _).mpr w)), (hi _).mp q⟩)])
  rcases this with ⟨e, hp⟩ | ⟨e, k, _, hk, hp⟩
  · exact ⟨true, e, fun _ j hj => hp j (by omega) hj, fun _ => rfl⟩
  · exact ⟨false, e, fun q => by simp at q, fun q => absurd (q k hk) hp⟩
theorem e24 (r k : Nat) : 24 * nI r + nI k = nI (24 * r + k) := by
  rw [show (24 : Int32) = nI 24 from rfl, pk_mul, nI_add]
theorem M_put_89 {K : zMi} {t n : Nat} {A : Nat → Nat → Int} (h : MT K t n A) {r : Nat} (hr : r < 6) (a2 : Int32) : f_X4_put_89 fu (nI t) a2 (nI r) 1 0 K = if alB (fun j => decide (-1 ≤ (K 3 (24 * r + j)).toInt ∧ (K 3 (24 * r + j)).toInt ≤ 1)) n then f_X4_put_150 fu (nI t) a2 (nI r) 0 K else (f_X4_meets 3 K).bind (fun x4 => some (x4.1, x4.2)) := by
  have hn := h.2.1
  refine up0 (fun f j (a : Int32) => f_X4_put_89 f (nI t) a2 (nI r) a j K) n (by rw [fu_val]; omega) (fun k => bI (alB (fun j => decide (-1 ≤ (K 3 (24 * r + j)).toInt ∧ (K 3 (24 * r + j)).toInt ≤ 1)) k)) _ ?_ ?_
  · intro f
    show f_X4_put_89 (f + 1) (nI t) a2 (nI r) (bI _) (nI n) K = _
    rw [f_X4_put_89, M_ix h, if_pos rfl, M_w h, if_pos (nI_le (Nat.le_refl _) (by omega))]
    cases alB (fun j => decide (-1 ≤ (K 3 (24 * r + j)).toInt ∧ (K 3 (24 * r + j)).toInt ≤ 1)) n
    · rfl
    · rfl
  · intro f k hk
    show f_X4_put_89 (f + 1) (nI t) a2 (nI r) (bI _) (nI k) K = f_X4_put_89 f (nI t) a2 (nI r) (bI _) (nI (k + 1)) K
    rw [f_X4_put_89, M_ix h, if_pos rfl, M_w h, if_neg (nI_ge hk (by omega)), e24, ix_nI (by omega) (by omega), if_pos rfl, nI_clamp (by omega), nI_1, isNum_eq]
    simp only [alB]
    cases alB (fun j => decide (-1 ≤ (K 3 (24 * r + j)).toInt ∧ (K 3 (24 * r + j)).toInt ≤ 1)) k
    · rfl
    · cases decide (-1 ≤ (K 3 (24 * r + k)).toInt ∧ (K 3 (24 * r + k)).toInt ≤ 1)
      · rfl
      · rfl
def prow (A : Nat → Nat → Int) (i : Nat) (z : Nat → Int) (k : Nat) : Nat → Nat → Int := fun a b => if a = i ∧ b < k then z b else A a b
theorem prow_step (A : Nat → Nat → Int) (i : Nat) (z : Nat → Int) (k : Nat) : up2 (prow A i z k) i k (z k) = prow A i z (k + 1) := by
  funext a b
  simp only [up2, prow]
  grind
theorem prow_0 (A : Nat → Nat → Int) (i : Nat) (z : Nat → Int) : prow A i z 0 = A := by
  funext a b
  simp [prow]
theorem s_put : so_put RR := by
  intro I J K M h a1 a2 a3
  rcases T_cases h a1 with ⟨e1, e2, e3⟩ | hT
  · exact ⟨-1, I, K, by simp only [f_X3_put, e1, if_true], by simp only [f_X4_put, e2, if_true], h⟩
  have e1' : f_X3_isTableNumber a1 = 1 ∧ f_X4_isTable a1 = 1 := by
    rcases hT with ⟨t, ht, rfl, e1, e2, _⟩ | ⟨t, n, A, k, ht, rfl, e1, e2, _⟩ <;> exact ⟨e1, e2⟩
  rcases R_cases h a3 with ⟨g1, g2, g3⟩ | hR
  · exact ⟨-1, I, K, by simp only [f_X3_put, e1'.1, g1, if_neg v10, if_true], by simp only [f_X4_put, e1'.2, g2, if_neg v10, if_true], h⟩
  obtain ⟨I1, K1, y1, y2, h1⟩ := RR_found h 1 (by simp)
  obtain ⟨I2, K2, b1, b2, h2⟩ := RR_found h 2 (by simp)
  rcases hT with ⟨t, ht, rfl, e1, e2, e3, e4, e5, e6, e7⟩ | ⟨t, n, A, k, ht, rfl, e1, e2, e3, e4, e5, e6, e7, h0, hA, hX, hM, hK, k1, k2⟩
  · refine ⟨-3, I1, K1, ?_, ?_, h1⟩
    · rcases hR with ⟨r, hr, rfl, g1, g2, g3, g4, g5, g6, g7⟩ | ⟨r, m, hr, rfl, g1, g2, g3, g4, g5, g6, g7, hm, x1, x2, x3⟩
      · simp only [f_X3_put, e1, e3, e4, e5, g1, g3, g4, g5, y1, Option.bind_some, if_neg v10, if_true]
      · simp only [f_X3_put, e1, e3, e4, e5, g1, g3, g4, g5, y1, Option.bind_some, if_neg v10, if_true]
    · rcases hR with ⟨r, hr, rfl, g1, g2, g3, g4, g5, g6, g7⟩ | ⟨r, m, hr, rfl, g1, g2, g3, g4, g5, g6, g7, hm, x1, x2, x3⟩
      · simp only [f_X4_put, e2, e3, e4, e6, g2, y2, Option.bind_some, if_neg v10, if_true]
      · simp only [f_X4_put, e2, e3, e4, e6, g2, y2, Option.bind_some, if_neg v10, if_true]
  · rcases hR with ⟨r, hr, rfl, g1, g2, g3, g4, g5, g6, g7⟩ | ⟨r, m, hr, rfl, g1, g2, g3, g4, g5, g6, g7, hm, x1, x2, x3⟩
    · have g6' : ¬ 0 ≤ K 2 r := fun q => by rw [fa_lt] at g6; rw [fa_le] at q; omega
      refine ⟨-3, I1, K1, ?_, ?_, h1⟩
      · simp only [f_X3_put, e1, e3, e4, e5, g1, g3, g4, g5, y1, Option.bind_some, if_neg v10, if_true]
      · simp only [f_X4_put, e2, e3, e4, if_neg e6, g2, g3, g4, if_neg g6', y2, Option.bind_some, if_neg v10, if_true]
    · have hn := hX.2.1
      have w1 : I (22 + 3 * t) 2 = nI n := hX.2.2.1
      have w2 : K 5 t = nI n := hM.2.2.1
      have n0 : ¬ nI n = 0 := nI_ne0 h0 (by omega)
      have m0 : 0 ≤ nI m := nI_pos' (by omega)
      rcases in_cases a2 h0 (by omega) with ⟨q1, q2⟩ | ⟨i, hi, rfl, q1⟩
      · refine ⟨-3, I2, K2, ?_, ?_, h2⟩
        · simp only [f_X3_put, e1, e3, e4, e5, g1, g3, g4, g5, hasLine_cases w1 hn a2 q2, b1, Option.bind_some, if_neg v10, if_true]
        · simp only [f_X4_put, e2, e3, e4, w2, if_neg n0, g2, g3, g4, x2, if_pos m0, q1, b2, Option.bind_some, if_neg v10, if_true]
      · by_cases hmn : m = n
        · subst hmn
          obtain ⟨b, c1, c2⟩ := X_isNumbers (I := I) (r := r) hm x1
          have c3 := M_put_89 hM hr (nI i)
          have hb : b = alB (fun j => decide (-1 ≤ (K 3 (24 * r + j)).toInt ∧ (K 3 (24 * r + j)).toInt ≤ 1)) m := by
            rw [Bool.eq_iff_iff, c2, alB_iff]
            refine forall_congr' (fun j => forall_congr' (fun hj => ?_))
            rw [x3 j hj, decide_eq_true_iff]
          rw [← hb] at c3
          by_cases hg : b = true
          · subst hg
            have hz : ∀ j, j < m → ((I (11 + 2 * r) j).toInt = 1 ∨ (I (11 + 2 * r) j).toInt = 0 ∨ (I (11 + 2 * r) j).toInt = -1) := fun j hj => by
              have := c2.mp rfl j hj
              omega
            have loopX : ∃ I', f_X3_put_105 fu (nI i) t r 0 I = (f_X2_judged t I').bind (fun x2 => some (x2.1, x2.2)) ∧ XT I' t m (prow A i (fun j => (I (11 + 2 * r) j).toInt) m) ∧ ∀ a b, a ≠ 23 + 3 * t → a ≠ 24 + 3 * t → I' a b = I a b := by
              refine lp (fun f j I => f_X3_put_105 f (nI i) t r j I) m 0 (by omega) (by rw [fu_val]; omega) (fun k I' => XT I' t m (prow A i (fun j => (I (11 + 2 * r) j).toInt) k) ∧ ∀ a b, a ≠ 23 + 3 * t → a ≠ 24 + 3 * t → I' a b = I a b) (fun res => ∃ I', res = (f_X2_judged t I').bind (fun x2 => some (x2.1, x2.2)) ∧ XT I' t m (prow A i (fun j => (I (11 + 2 * r) j).toInt) m) ∧ ∀ a b, a ≠ 23 + 3 * t → a ≠ 24 + 3 * t → I' a b = I a b) ?_ ?_ _ ?_
              · intro f s ⟨s1, s2⟩
                refine ⟨s, ?_, s1, s2⟩
                show f_X3_put_105 (f + 1) (nI i) t r (nI m) s = _
                rw [f_X3_put_105, s1.2.2.1, if_pos (nI_le (Nat.le_refl _) (by omega))]
              · intro f k s _ hk ⟨s1, s2⟩
                left
                obtain ⟨s', t1, t2, t3⟩ := X_write s1 hi hk (hz k hk)
                refine ⟨s', ?_, ?_, fun a b ha hb => by rw [t3 a b ha hb, s2 a b ha hb]⟩
                · show f_X3_put_105 (f + 1) (nI i) t r (nI k) s = f_X3_put_105 f (nI i) t r (nI (k + 1)) s'
                  rw [f_X3_put_105, s1.2.2.1, if_neg (nI_ge hk (by omega)), ix_nI (by omega) (by omega), if_pos rfl, nI_clamp (by omega), s2 _ _ (by omega) (by omega)]
                  rw [show sI (I (11 + 2 * r) k).toInt = I (11 + 2 * r) k from Int32.ofInt_toInt _] at t1
                  rw [t1, nI_1]
                  rfl
                · rw [prow_step A i (fun j => (I (11 + 2 * r) j).toInt) k] at t2
                  exact t2
              · rw [prow_0]
                exact ⟨hX, fun _ _ _ _ => rfl⟩
            have loopM : ∃ K', f_X4_put_150 fu (nI t) (nI i) (nI r) 0 K = (f_X4_setKind (nI t) K').bind (fun x2 => some (x2.1, x2.2)) ∧ MT K' t m (prow A i (fun j => (I (11 + 2 * r) j).toInt) m) ∧ mfr t K K' := by
              refine lp (fun f j K => f_X4_put_150 f (nI t) (nI i) (nI r) j K) m 0 (by omega) (by rw [fu_val]; omega) (fun k K' => MT K' t m (prow A i (fun j => (I (11 + 2 * r) j).toInt) k) ∧ mfr t K K') (fun res => ∃ K', res = (f_X4_setKind (nI t) K').bind (fun x2 => some (x2.1, x2.2)) ∧ MT K' t m (prow A i (fun j => (I (11 + 2 * r) j).toInt) m) ∧ mfr t K K') ?_ ?_ _ ?_
              · intro f s ⟨s1, s2⟩
                refine ⟨s, ?_, s1, s2⟩
                show f_X4_put_150 (f + 1) (nI t) (nI i) (nI r) (nI m) s = _
                rw [f_X4_put_150, M_ix s1, if_pos rfl, M_w s1, if_pos (nI_le (Nat.le_refl _) (by omega))]
              · intro f k s _ hk ⟨s1, s2⟩
                left
                obtain ⟨t1, t2⟩ := M_let s1 hi hk (I (11 + 2 * r) k).toInt
                refine ⟨_, ?_, ?_, mfr_let s2 (show i < 12 by omega) (show k < 12 by omega) (sI (I (11 + 2 * r) k).toInt)⟩
                · show f_X4_put_150 (f + 1) (nI t) (nI i) (nI r) (nI k) s = f_X4_put_150 f (nI t) (nI i) (nI r) (nI (k + 1)) _
                  rw [f_X4_put_150, M_ix s1, if_pos rfl, M_w s1, if_neg (nI_ge hk (by omega)), e24, ix_nI (by omega) (by omega), if_pos rfl, nI_clamp (by omega), s2 _ _ (by omega), ← x3 k hk]
                  rw [show sI (I (11 + 2 * r) k).toInt = I (11 + 2 * r) k from Int32.ofInt_toInt _] at t1 ⊢
                  rw [t1, nI_1]
                  rfl
                · rw [prow_step A i (fun j => (I (11 + 2 * r) j).toInt) k] at t2
                  exact t2
              · rw [prow_0]
                exact ⟨hM, fun _ _ _ => rfl⟩
            obtain ⟨I', l1, l2, l3⟩ := loopX
            obtain ⟨K', m1, m2, m3⟩ := loopM
            have hA' : ∀ a b, a < m → b < m → (prow A i (fun j => (I (11 + 2 * r) j).toInt) m) a b = (fun a b => if b < m then (prow A i (fun j => (I (11 + 2 * r) j).toInt) m) a b else 1) a b := fun a b _ hb => by simp [hb]
            have tri' : tri (fun a b => if b < m then (prow A i (fun j => (I (11 + 2 * r) j).toInt) m) a b else 1) := by
              intro a b
              simp only [prow]
              by_cases g : b < m
              · rw [if_pos g]
                by_cases g2 : a = i
                · rw [if_pos ⟨g2, g⟩]
                  exact hz b g
                · rw [if_neg (fun q => g2 q.1)]
                  exact hA a b
              · rw [if_neg g]
                exact Or.inl rfl
            obtain ⟨k, I'', K'', z1, z2, z3⟩ := fin_tab h ht h0 tri' (XT_congA l2 hA') (MT_congA m2 hA') (fun a b _ _ _ q1 q2 q3 => l3 a b q2 q3) (fun a b _ _ q1 q2 q3 => m3 a b q3)
            refine ⟨k, I'', K'', ?_, ?_, z3⟩
            · simp only [f_X3_put, e1, e3, e4, e5, g1, g3, g4, g5, hasLine_ok w1 hn hi, x1, w1, c1, bI_t, l1, z1, Option.bind_some, if_neg v10, if_true]
            · simp only [f_X4_put, e2, e3, e4, w2, if_neg n0, g2, g3, g4, x2, if_pos m0, q1, Option.bind_some, if_neg v10, if_true]
              rw [c3, m1, z2]
              rfl
          · obtain ⟨I3, K3, d1, d2, h3⟩ := RR_found h 3 (by simp)
            have hb' : b = false := by simpa using hg
            subst hb'
            refine ⟨-3, I3, K3, ?_, ?_, h3⟩
            · simp only [f_X3_put, e1, e3, e4, e5, g1, g3, g4, g5, hasLine_ok w1 hn hi, x1, w1, c1, bI_f, d1, Option.bind_some, if_neg v10, if_true]
            · simp only [f_X4_put, e2, e3, e4, w2, if_neg n0, g2, g3, g4, x2, if_pos m0, q1, Option.bind_some, if_neg v10, if_true]
              rw [c3, d2]
              rfl
        · obtain ⟨I3, K3, d1, d2, h3⟩ := RR_found h 5 (by simp)
          have hne : ¬ nI m = nI n := fun q => hmn ((nI_eq (by omega) (by omega)).mp q)
          refine ⟨-3, I3, K3, ?_, ?_, h3⟩
          · simp only [f_X3_put, e1, e3, e4, e5, g1, g3, g4, g5, hasLine_ok w1 hn hi, x1, w1, if_neg hne, d1, Option.bind_some, if_neg v10, if_true]
          · simp only [f_X4_put, e2, e3, e4, w2, if_neg n0, g2, g3, g4, x2, if_pos m0, q1, if_neg hne, d2, Option.bind_some, if_neg v10, if_true]
