-- ===== normal =====
theorem sI_neg0 {A : Nat → Nat → Int} (hA : tri A) (i j : Nat) : (0 : Int32) ≤ sI (A i j) ↔ mn A i j = false := by
  rcases hA i j with e | e | e <;> rw [e] <;> simp [mn, e] <;> decide
theorem s_normal : so_normal RR := by
  intro I J K M h a1
  rcases T_cases h a1 with ⟨e1, e2, e3⟩ | ⟨t, ht, rfl, e1, e2, e3, e4, e5, e6, e7⟩ | ⟨t, n, A, k, ht, rfl, e1, e2, e3, e4, e5, e6, e7, h0, hA, hX, hM, hK, k1, k2⟩
  · exact ⟨-1, I, K, by simp only [f_X3_normal, e1, if_true], by simp only [f_X4_normal, e3, Option.bind_some, if_neg v0m1], h⟩
  · obtain ⟨I', K', y1, y2, h'⟩ := RR_found h 1 (by simp)
    refine ⟨-3, I', K', ?_, ?_, h'⟩
    · simp only [f_X3_normal, e1, e3, e4, e5, y1, Option.bind_some, if_neg v10, if_true]
    · simp only [f_X4_normal, e7, y2, Option.bind_some, if_neg v0m3]
  · have hn := hX.2.1
    have hp := p12 hn
    obtain ⟨b1, s1, q1⟩ := X_isSigns hA hX
    obtain ⟨b2, s2, q2⟩ := M_hasZero hA hM
    have hb : b2 = !b1 := by
      cases b1
      · have : ¬ SG A n := fun w => by have := q1.mpr w; cases this
        exact q2.mpr this
      · have : ¬ b2 = true := fun w => (q2.mp w) (q1.mp rfl)
        simpa using this
    subst hb
    cases b1
    · obtain ⟨I', K', y1, y2, h'⟩ := RR_found h 3 (by simp)
      refine ⟨-3, I', K', ?_, ?_, h'⟩
      · simp only [f_X3_normal, e1, e3, e4, e5, s1, bI_f, y1, Option.bind_some, if_neg v10, if_true]
      · simp only [f_X4_normal, e7, s2, Bool.not_false, bI_t, y2, Option.bind_some, if_pos v00, if_neg v10]
    · have hc := bs12 (mn A 0) hn
      obtain ⟨I1, x1, x2, x3⟩ := X_turnColumns hA hX (bs (mn A 0) n)
      have hc2 := bs12 (fun i => mn (tnC A (fun b => (bs (mn A 0) n).testBit b)) i 0) hn
      obtain ⟨I2, w1, w2, w3⟩ := X_turnRows (tri_C hA _) x2 (x := bs (fun i => mn (tnC A (fun b => (bs (mn A 0) n).testBit b)) i 0) n) (by omega)
      have col := X_minusOfColumn x2 h0
      -- in words of A
      have eqC : ∀ a b, a < n → b < n → tnC A (fun b => (bs (mn A 0) n).testBit b) a b = tnC A (mn A 0) a b := fun a b _ hb => by simp [tnC, bs_tb, hb]
      have eqR : ∀ a b, a < n → b < n → tnR (tnC A (fun b => (bs (mn A 0) n).testBit b)) (fun b => (bs (fun i => mn (tnC A (fun b => (bs (mn A 0) n).testBit b)) i 0) n).testBit b) a b = tnR (tnC A (mn A 0)) (fun a => mn (tnC A (mn A 0)) a 0) a b := fun a b ha hb => by
        have e1 : tnC A (fun b => (bs (mn A 0) n).testBit b) a 0 = tnC A (mn A 0) a 0 := eqC a 0 ha h0
        have e2 : mn (tnC A (fun b => (bs (mn A 0) n).testBit b)) a 0 = mn (tnC A (mn A 0)) a 0 := by simp only [mn, e1]
        show ng ((bs (fun i => mn (tnC A (fun b => (bs (mn A 0) n).testBit b)) i 0) n).testBit a) (tnC A (fun b => (bs (mn A 0) n).testBit b) a b) = _
        rw [bs_tb, decide_eq_true ha, Bool.true_and, e2, eqC a b ha hb]
        rfl
      have w2' := XT_congA w2 eqR
      have ct2 : fb_ct (fun i => mn (tnC A (fun b => (bs (mn A 0) n).testBit b)) i 0) n = fb_ct (fun a => mn (tnC A (mn A 0)) a 0) n := fb_ct_cong (fun a ha => by
        have e1 : tnC A (fun b => (bs (mn A 0) n).testBit b) a 0 = tnC A (mn A 0) a 0 := eqC a 0 ha h0
        simp only [mn, e1])
      have mod : ∃ K', f_X4_normal_31 fu (nI t) 0 0 K = (f_X4_setKind (nI t) K').bind (fun x3 => some (nI (fb_ct (mn A 0) n + fb_ct (fun a => mn (tnC A (mn A 0)) a 0) n), x3.2)) ∧ MT K' t n (tnR (tnC A (mn A 0)) (fun a => mn (tnC A (mn A 0)) a 0)) ∧ mfr t K K' := by
        refine lp (fun f j (s : Int32 × zMi) => f_X4_normal_31 f (nI t) s.1 j s.2) n 0 (by omega) (by rw [fu_val]; omega) (fun k s => s.1 = nI (fb_ct (mn A 0) k) ∧ MT s.2 t n (tnC A (fun b => mn A 0 b && decide (b < k))) ∧ mfr t K s.2) (fun res => ∃ K', res = (f_X4_setKind (nI t) K').bind (fun x3 => some (nI (fb_ct (mn A 0) n + fb_ct (fun a => mn (tnC A (mn A 0)) a 0) n), x3.2)) ∧ MT K' t n (tnR (tnC A (mn A 0)) (fun a => mn (tnC A (mn A 0)) a 0)) ∧ mfr t K K') ?_ ?_ (0, K) ?_
        · intro f s ⟨p1, p2, p3⟩
          show ∃ K', f_X4_normal_31 (f + 1) (nI t) s.1 (nI n) s.2 = _ ∧ _
          have p2' : MT s.2 t n (tnC A (mn A 0)) := MT_congA p2 (fun a b _ hb => by simp [tnC, hb])
          rw [f_X4_normal_31, M_ix p2, if_pos rfl, M_w p2, if_pos (nI_le (Nat.le_refl _) (by omega)), p1]
          have hA' := tri_C hA (mn A 0)
          refine lp (fun f j (s : Int32 × zMi) => f_X4_normal_72 f (nI t) s.1 j s.2) n 0 (by omega) (by rw [fu_val]; omega) (fun k s => s.1 = nI (fb_ct (mn A 0) n + fb_ct (fun a => mn (tnC A (mn A 0)) a 0) k) ∧ MT s.2 t n (tnR (tnC A (mn A 0)) (fun a => mn (tnC A (mn A 0)) a 0 && decide (a < k))) ∧ mfr t K s.2) (fun res => ∃ K', res = (f_X4_setKind (nI t) K').bind (fun x3 => some (nI (fb_ct (mn A 0) n + fb_ct (fun a => mn (tnC A (mn A 0)) a 0) n), x3.2)) ∧ MT K' t n (tnR (tnC A (mn A 0)) (fun a => mn (tnC A (mn A 0)) a 0)) ∧ mfr t K K') ?_ ?_ (nI (fb_ct (mn A 0) n), s.2) ?_
          · intro f s ⟨r1, r2, r3⟩
            refine ⟨s.2, ?_, MT_congA r2 (fun a b ha _ => by simp [tnR, ha]), r3⟩
            show f_X4_normal_72 (f + 1) (nI t) s.1 (nI n) s.2 = _
            rw [f_X4_normal_72, M_ix r2, if_pos rfl, M_w r2, if_pos (nI_le (Nat.le_refl _) (by omega)), r1]
          · intro f k s _ hk ⟨r1, r2, r3⟩
            left
            show ∃ s' : Int32 × zMi, f_X4_normal_72 (f + 1) (nI t) s.1 (nI k) s.2 = f_X4_normal_72 f (nI t) s'.1 (nI (k + 1)) s'.2 ∧ _
            have g0 : f_X4_get (nI t) (nI k) 0 s.2 = some (sI (tnC A (mn A 0) k 0)) := by
              have := MT_get r2 hk h0
              rw [show tnR (tnC A (mn A 0)) (fun a => mn (tnC A (mn A 0)) a 0 && decide (a < k)) k 0 = tnC A (mn A 0) k 0 from by simp [tnR, ng]] at this
              exact this
            rw [f_X4_normal_72, M_ix r2, if_pos rfl, M_w r2, if_neg (nI_ge hk (by omega)), g0, Option.bind_some, r1, nI_1, nI_1, fb_ct_succ]
            have up : ∀ a b, a < n → b < n → tnR (tnR (tnC A (mn A 0)) (fun a => mn (tnC A (mn A 0)) a 0 && decide (a < k))) (fun a => mn (tnC A (mn A 0)) k 0 && decide (a = k)) a b = tnR (tnC A (mn A 0)) (fun a => mn (tnC A (mn A 0)) a 0 && decide (a < k + 1)) a b := fun a b _ _ => by
              simp only [tnR, ng_ng, lt_succ_b]
              apply ng_cong
              by_cases g : a = k
              · subst g; simp
              · simp [g]
            have st := MT_n0 r2 (mn (tnC A (mn A 0)) k 0) hk
            by_cases g : mn (tnC A (mn A 0)) k 0 = true
            · obtain ⟨s', u1, u2, u3⟩ := st.1 g
              rw [if_neg (fun q => by rw [(sI_neg0 hA' k 0).mp q] at g; cases g), u1, if_pos g]
              exact ⟨(_, s'), rfl, rfl, MT_congA u2 up, mfr_trans r3 u3⟩
            · have g' : mn (tnC A (mn A 0)) k 0 = false := by simpa using g
              rw [if_pos ((sI_neg0 hA' k 0).mpr g'), if_neg g]
              exact ⟨(_, s.2), rfl, rfl, MT_congA (st.2.1 g') up, r3⟩
          · exact ⟨rfl, MT_congA p2' (fun a b _ _ => by simp [tnR, ng]), p3⟩
        · intro f k s _ hk ⟨r1, r2, r3⟩
          left
          show ∃ s' : Int32 × zMi, f_X4_normal_31 (f + 1) (nI t) s.1 (nI k) s.2 = f_X4_normal_31 f (nI t) s'.1 (nI (k + 1)) s'.2 ∧ _
          have g0 : f_X4_get (nI t) 0 (nI k) s.2 = some (sI (A 0 k)) := by
            have := MT_get r2 h0 hk
            rw [show tnC A (fun b => mn A 0 b && decide (b < k)) 0 k = A 0 k from by simp [tnC, ng]] at this
            exact this
          rw [f_X4_normal_31, M_ix r2, if_pos rfl, M_w r2, if_neg (nI_ge hk (by omega)), g0, Option.bind_some, r1, nI_1, nI_1, fb_ct_succ]
          have up : ∀ a b, a < n → b < n → tnC (tnC A (fun b => mn A 0 b && decide (b < k))) (fun b => mn A 0 k && decide (b = k)) a b = tnC A (fun b => mn A 0 b && decide (b < k + 1)) a b := fun a b _ _ => by
            simp only [tnC, ng_ng, lt_succ_b]
            apply ng_cong
            by_cases g : b = k
            · subst g; simp
            · simp [g]
          have st := MT_n0 r2 (mn A 0 k) hk
          by_cases g : mn A 0 k = true
          · obtain ⟨s', u1, u2, u3⟩ := st.2.2.1 g
            rw [if_neg (fun q => by rw [(sI_neg0 hA 0 k).mp q] at g; cases g), u1, if_pos g]
            exact ⟨(_, s'), rfl, rfl, MT_congA u2 up, mfr_trans r3 u3⟩
          · have g' : mn A 0 k = false := by simpa using g
            rw [if_pos ((sI_neg0 hA 0 k).mpr g'), if_neg g]
            exact ⟨(_, s.2), rfl, rfl, MT_congA (st.2.2.2 g') up, r3⟩
        · exact ⟨rfl, MT_congA hM (fun a b _ _ => by simp [tnC, ng]), fun _ _ _ => rfl⟩
      obtain ⟨K', m1, m2, m3⟩ := mod
      obtain ⟨k, I'', K'', z1, z2, z3⟩ := fin_tab h ht h0 (tri_R (tri_C hA _) _) w2' m2 (fun a b _ _ _ q1 q2 q3 => by rw [w3 a b q2 q3, x3 a b q2 q3]) (fun a b _ _ q1 q2 q3 => m3 a b q3)
      refine ⟨nI (fb_ct (mn A 0) n + fb_ct (fun a => mn (tnC A (mn A 0)) a 0) n), I'', K'', ?_, ?_, z3⟩
      · have r0 : I (24 + 3 * t) (0 : Int32).toNatClampNeg = nI (bs (mn A 0) n) := (hX.2.2.2 0 h0).2
        have col' : f_X2_minusOfColumn t 0 I1 = _ := col
        simp only [f_X3_normal, e1, e3, e4, e5, s1, bI_t, r0, x1, col', w1, z1, Option.bind_some, if_neg v10, if_true]
        rw [bitCount_bs _ (by omega), bitCount_bs _ (by omega), nI_add, ct2]
      · simp only [f_X4_normal, e7, s2, Bool.not_true, bI_f, Option.bind_some, if_pos v00, if_true]
        rw [m1, z2]
        rfl
-- ===== swap =====
def tr (i j a : Nat) : Nat := if a = i then j else if a = j then i else a
theorem s_swap : so_swap RR := by
  intro I J K M h a1 a2 a3 a4 _
  rcases T_cases h a1 with ⟨e1, e2, e3⟩ | ⟨t, ht, rfl, e1, e2, e3, e4, e5, e6, e7⟩ | ⟨t, n, A, k, ht, rfl, e1, e2, e3, e4, e5, e6, e7, h0, hA, hX, hM, hK, k1, k2⟩
  · exact ⟨-1, I, K, by simp only [f_X3_swap, e1, if_true], by simp only [f_X4_swap, e3, Option.bind_some, if_neg v0m1], h⟩
  · obtain ⟨I', K', y1, y2, h'⟩ := RR_found h 1 (by simp)
    refine ⟨-3, I', K', ?_, ?_, h'⟩
    · simp only [f_X3_swap, e1, e3, e4, e5, y1, Option.bind_some, if_neg v10, if_true]
    · simp only [f_X4_swap, e7, y2, Option.bind_some, if_neg v0m3]
  · rcases isPlace_cases hX.2.2.1 hM.2.2.1 ht h0 hX.2.1 a3 a4 with ⟨p1, p2⟩ | ⟨i, j, hi, hj, rfl, rfl, p1, p2, p3⟩
    · obtain ⟨I', K', y1, y2, h'⟩ := RR_found h 2 (by simp)
      refine ⟨-3, I', K', ?_, ?_, h'⟩
      · rcases p2 with q | ⟨q, q'⟩
        · simp only [f_X3_swap, e1, e3, e4, e5, q, y1, Option.bind_some, if_neg v10, if_true]
        · simp only [f_X3_swap, e1, e3, e4, e5, q, q', y1, Option.bind_some, if_neg v10, if_true]
      · simp only [f_X4_swap, e7, p1, y2, Option.bind_some, if_pos v00, if_true]
    · have hn := hX.2.1
      by_cases hc : a2 = 0
      · -- rows
        have cls : ∃ I', f_X2_exchangeRows t (nI i) (nI j) I = some I' ∧ XT I' t n (fun a b => A (tr i j a) b) ∧ ∀ a b, a ≠ 23 + 3 * t → a ≠ 24 + 3 * t → I' a b = I a b := by
          unfold f_X2_exchangeRows
          rw [ix_nI (by omega) (by omega), if_pos rfl, ix_nI (by omega) (by omega), if_pos rfl, nI_clamp (by omega), nI_clamp (by omega), wI_off (a := 24 + 3 * t) (by omega)]
          refine ⟨_, rfl, ⟨hX.1, hn, ?_, fun q hq => ?_⟩, fun a b ha hb => ?_⟩
          · rw [wI_off (by omega), wI_off (by omega), wI_off (by omega), wI_off (by omega)]
            exact hX.2.2.1
          · have r1 := hX.2.2.2 i hi
            have r2 := hX.2.2.2 j hj
            have r3 := hX.2.2.2 q hq
            have re : ∀ q', tr i j q = q' → pl (fun a b => A (tr i j a) b) q = pl A q' ∧ mn (fun a b => A (tr i j a) b) q = mn A q' := fun q' e => by subst e; exact ⟨rfl, rfl⟩
            by_cases g2 : q = j
            · have e : tr i j q = i := by unfold tr; split <;> omega
              rw [(re i e).1, (re i e).2]
              refine ⟨?_, ?_⟩
              · rw [wI_off (by omega), wI_here rfl g2]
                exact r1.1
              · rw [wI_here rfl g2]
                exact r1.2
            · by_cases g : q = i
              · have e : tr i j q = j := by unfold tr; rw [if_pos g]
                rw [(re j e).1, (re j e).2]
                refine ⟨?_, ?_⟩
                · rw [wI_off (by omega), wI_off (by omega), wI_off (by omega), wI_here rfl g]
                  exact r2.1
                · rw [wI_off (by omega), wI_off (by omega), wI_here rfl g]
                  exact r2.2
              · have e : tr i j q = q := by unfold tr; rw [if_neg g, if_neg g2]
                rw [(re q e).1, (re q e).2]
                refine ⟨?_, ?_⟩
                · rw [wI_off (by omega), wI_off (by omega), wI_off (by omega), wI_off (by omega)]
                  exact r3.1
                · rw [wI_off (by omega), wI_off (by omega), wI_off (by omega), wI_off (by omega)]
                  exact r3.2
          · rw [wI_off (by omega), wI_off (by omega), wI_off (by omega), wI_off (by omega)]
        have mod : ∃ K', f_X4_swap_35 fu (nI t) a2 (nI i) (nI j) 0 K = (f_X4_setKind (nI t) K').bind (fun x3 => some (x3.1, x3.2)) ∧ MT K' t n (fun a b => A (tr i j a) b) ∧ mfr t K K' := by
          refine lp (fun f q K => f_X4_swap_35 f (nI t) a2 (nI i) (nI j) q K) n 0 (by omega) (by rw [fu_val]; omega) (fun k K' => MT K' t n (fun a b => A (if b < k then tr i j a else a) b) ∧ mfr t K K') (fun res => ∃ K', res = (f_X4_setKind (nI t) K').bind (fun x3 => some (x3.1, x3.2)) ∧ MT K' t n (fun a b => A (tr i j a) b) ∧ mfr t K K') ?_ ?_ _ ?_
          · intro f s ⟨s1, s2⟩
            refine ⟨s, ?_, MT_congA s1 (fun a b _ hb => by simp [hb]), s2⟩
            show f_X4_swap_35 (f + 1) (nI t) a2 (nI i) (nI j) (nI n) s = _
            rw [f_X4_swap_35, M_ix s1, if_pos rfl, M_w s1, if_pos (nI_le (Nat.le_refl _) (by omega))]
          · intro f k s _ hk ⟨s1, s2⟩
            left
            have g1 := MT_get s1 hi hk
            have g2 := MT_get s1 hj hk
            simp only [Nat.lt_irrefl, if_false] at g1 g2
            obtain ⟨l1, l2⟩ := M_let s1 hi hk (A j k)
            obtain ⟨m1, m2⟩ := M_let l2 hj hk (A i k)
            refine ⟨_, ?_, ?_, mfr_let (mfr_let s2 (show i < 12 by omega) (show k < 12 by omega) (sI (A j k))) (show j < 12 by omega) (show k < 12 by omega) (sI (A i k))⟩
            · show f_X4_swap_35 (f + 1) (nI t) a2 (nI i) (nI j) (nI k) s = f_X4_swap_35 f (nI t) a2 (nI i) (nI j) (nI (k + 1)) _
              rw [f_X4_swap_35, M_ix s1, if_pos rfl, M_w s1, if_neg (nI_ge hk (by omega)), if_pos hc, g1, Option.bind_some]
              unfold f_X4_swap_69
              rw [if_pos hc, g2, Option.bind_some, if_pos hc, if_pos hc]
              unfold f_X4_swap_120
              rw [l1, Option.bind_some, if_pos hc, if_pos hc, m1, Option.bind_some, nI_1]
            · refine MT_congA m2 (fun a b _ _ => ?_)
              simp only [up2, tr]
              grind
          · exact ⟨MT_congA hM (fun a b _ _ => by simp), fun _ _ _ => rfl⟩
        obtain ⟨I', x1, x2, x3⟩ := cls
        obtain ⟨K', m1, m2, m3⟩ := mod
        obtain ⟨k, I'', K'', z1, z2, z3⟩ := fin_tab h ht h0 (fun a b => hA (tr i j a) b) x2 m2 (fun a b _ _ _ q1 q2 q3 => x3 a b q2 q3) (fun a b _ _ q1 q2 q3 => m3 a b q3)
        refine ⟨k, I'', K'', ?_, ?_, z3⟩
        · simp only [f_X3_swap, e1, e3, e4, e5, p2, p3, if_pos hc, x1, z1, Option.bind_some, if_neg v10, if_true]
        · simp only [f_X4_swap, e7, p1, m1, z2, Option.bind_some, if_pos v00, if_neg v10]
      · -- columns
        have cls : ∃ I', f_X2_exchangeColumns t (nI i) (nI j) I = some I' ∧ XT I' t n (fun a b => A a (tr i j b)) ∧ ∀ a b, a ≠ 23 + 3 * t → a ≠ 24 + 3 * t → I' a b = I a b := by
          unfold f_X2_exchangeColumns
          refine lp (fun f q I => f_X2_exchangeColumns_2 f t (nI i) (nI j) q I) n 0 (by omega) (by rw [fu_val]; omega) (fun k I' => XT I' t n (fun a b => A a (if a < k then tr i j b else b)) ∧ ∀ a b, a ≠ 23 + 3 * t → a ≠ 24 + 3 * t → I' a b = I a b) (fun res => ∃ I', res = some I' ∧ XT I' t n (fun a b => A a (tr i j b)) ∧ ∀ a b, a ≠ 23 + 3 * t → a ≠ 24 + 3 * t → I' a b = I a b) ?_ ?_ _ ?_
          · intro f s ⟨s1, s2⟩
            refine ⟨s, ?_, XT_congA s1 (fun a b ha _ => by simp [ha]), s2⟩
            show f_X2_exchangeColumns_2 (f + 1) t (nI i) (nI j) (nI n) s = _
            rw [f_X2_exchangeColumns_2, s1.2.2.1, if_pos (nI_le (Nat.le_refl _) (by omega))]
          · intro f k s _ hk ⟨s1, s2⟩
            left
            have hA' : tri (fun a b => A a (if a < k then tr i j b else b)) := fun a b => hA _ _
            have g1 := XT_number hA' s1 hk hi
            have g2 := XT_number hA' s1 hk hj
            simp only [Nat.lt_irrefl, if_false] at g1 g2
            obtain ⟨s', l1, l2, l3⟩ := X_write s1 hk hi (hA k j)
            obtain ⟨s'', m1, m2, m3⟩ := X_write l2 hk hj (hA k i)
            refine ⟨s'', ?_, ?_, fun a b ha hb => by rw [m3 a b ha hb, l3 a b ha hb, s2 a b ha hb]⟩
            · show f_X2_exchangeColumns_2 (f + 1) t (nI i) (nI j) (nI k) s = f_X2_exchangeColumns_2 f t (nI i) (nI j) (nI (k + 1)) _
              rw [f_X2_exchangeColumns_2, s1.2.2.1, if_neg (nI_ge hk (by omega)), g1, Option.bind_some, g2, Option.bind_some, l1, Option.bind_some, m1, Option.bind_some, nI_1]
            · refine XT_congA m2 (fun a b _ _ => ?_)
              simp only [up2, tr]
              grind
          · exact ⟨XT_congA hX (fun a b _ _ => by simp), fun _ _ _ _ => rfl⟩
        have mod : ∃ K', f_X4_swap_35 fu (nI t) a2 (nI i) (nI j) 0 K = (f_X4_setKind (nI t) K').bind (fun x3 => some (x3.1, x3.2)) ∧ MT K' t n (fun a b => A a (tr i j b)) ∧ mfr t K K' := by
          refine lp (fun f q K => f_X4_swap_35 f (nI t) a2 (nI i) (nI j) q K) n 0 (by omega) (by rw [fu_val]; omega) (fun k K' => MT K' t n (fun a b => A a (if a < k then tr i j b else b)) ∧ mfr t K K') (fun res => ∃ K', res = (f_X4_setKind (nI t) K').bind (fun x3 => some (x3.1, x3.2)) ∧ MT K' t n (fun a b => A a (tr i j b)) ∧ mfr t K K') ?_ ?_ _ ?_
          · intro f s ⟨s1, s2⟩
            refine ⟨s, ?_, MT_congA s1 (fun a b ha _ => by simp [ha]), s2⟩
            show f_X4_swap_35 (f + 1) (nI t) a2 (nI i) (nI j) (nI n) s = _
            rw [f_X4_swap_35, M_ix s1, if_pos rfl, M_w s1, if_pos (nI_le (Nat.le_refl _) (by omega))]
          · intro f k s _ hk ⟨s1, s2⟩
            left
            have g1 := MT_get s1 hk hi
            have g2 := MT_get s1 hk hj
            simp only [Nat.lt_irrefl, if_false] at g1 g2
            obtain ⟨l1, l2⟩ := M_let s1 hk hi (A k j)
            obtain ⟨m1, m2⟩ := M_let l2 hk hj (A k i)
            refine ⟨_, ?_, ?_, mfr_let (mfr_let s2 (show k < 12 by omega) (show i < 12 by omega) (sI (A k j))) (show k < 12 by omega) (show j < 12 by omega) (sI (A k i))⟩
            · show f_X4_swap_35 (f + 1) (nI t) a2 (nI i) (nI j) (nI k) s = f_X4_swap_35 f (nI t) a2 (nI i) (nI j) (nI (k + 1)) _
              rw [f_X4_swap_35, M_ix s1, if_pos rfl, M_w s1, if_neg (nI_ge hk (by omega)), if_neg hc, g1, Option.bind_some]
              unfold f_X4_swap_69
              rw [if_neg hc, g2, Option.bind_some, if_neg hc, if_neg hc]
              unfold f_X4_swap_120
              rw [l1, Option.bind_some, if_neg hc, if_neg hc, m1, Option.bind_some, nI_1]
            · refine MT_congA m2 (fun a b _ _ => ?_)
              simp only [up2, tr]
              grind
          · exact ⟨MT_congA hM (fun a b _ _ => by simp), fun _ _ _ => rfl⟩
        obtain ⟨I', x1, x2, x3⟩ := cls
        obtain ⟨K', m1, m2, m3⟩ := mod
        obtain ⟨k, I'', K'', z1, z2, z3⟩ := fin_tab h ht h0 (fun a b => hA a (tr i j b)) x2 m2 (fun a b _ _ _ q1 q2 q3 => x3 a b q2 q3) (fun a b _ _ q1 q2 q3 => m3 a b q3)
        refine ⟨k, I'', K'', ?_, ?_, z3⟩
        · simp only [f_X3_swap, e1, e3, e4, e5, p2, p3, if_neg hc, x1, z1, Option.bind_some, if_neg v10, if_true]
        · simp only [f_X4_swap, e7, p1, m1, z2, Option.bind_some, if_pos v00, if_neg v10]
-- ===== flip =====
theorem X_beginFlipped {I : zMi} {W T n : Nat} {A : Nat → Nat → Int} (hW : W < 12) (hWT : W ≠ T) (hA : tri A) (h : XT I T n A) : ∃ I', f_X2_beginFlipped W T I = some I' ∧ XT I' W n (fun a b => A b a) ∧ ∀ a b, a ≠ 22 + 3 * W → a ≠ 23 + 3 * W → a ≠ 24 + 3 * W → I' a b = I a b := by
  have hn := h.2.1
  unfold f_X2_beginFlipped
  rw [h.2.2.1]
  obtain ⟨I0, b1, b2, b3⟩ := X_begin hW hn I
  rw [b1, Option.bind_some]
  have old : ∀ s : zMi, (∀ a b, a ≠ 22 + 3 * W → a ≠ 23 + 3 * W → a ≠ 24 + 3 * W → s a b = I a b) → XT s T n A := fun s hs => XT_cong (hs _ _ (by omega) (by omega) (by omega)) (fun b => hs _ _ (by omega) (by omega) (by omega)) (fun b => hs _ _ (by omega) (by omega) (by omega)) h
  refine lp (fun f i I => f_X2_beginFlipped_10 f W T i I) n 0 (by omega) (by rw [fu_val]; omega) (fun i I' => XT I' W n (fil (fun a b => A b a) (fun _ _ => 1) i 0) ∧ ∀ a b, a ≠ 22 + 3 * W → a ≠ 23 + 3 * W → a ≠ 24 + 3 * W → I' a b = I a b) (fun res => ∃ I', res = some I' ∧ XT I' W n (fun a b => A b a) ∧ ∀ a b, a ≠ 22 + 3 * W → a ≠ 23 + 3 * W → a ≠ 24 + 3 * W → I' a b = I a b) ?_ ?_ _ ?_
  · intro f s ⟨s1, s2⟩
    refine ⟨s, ?_, XT_congA s1 fil_all, s2⟩
    show f_X2_beginFlipped_10 (f + 1) W T (nI n) s = _
    rw [f_X2_beginFlipped_10, s1.2.2.1, if_pos (nI_le (Nat.le_refl _) (by omega))]
  · intro f i s _ hi ⟨s1, s2⟩
    left
    show ∃ s', f_X2_beginFlipped_10 (f + 1) W T (nI i) s = f_X2_beginFlipped_10 f W T (nI (i + 1)) s' ∧ _
    rw [f_X2_beginFlipped_10, s1.2.2.1, if_neg (nI_ge hi (by omega))]
    refine lp (fun g j I => f_X2_beginFlipped_20 (f_X2_beginFlipped_10 f) g W T (nI i) j I) n 0 (by omega) (by rw [fu_val]; omega) (fun k I' => XT I' W n (fil (fun a b => A b a) (fun _ _ => 1) i k) ∧ ∀ a b, a ≠ 22 + 3 * W → a ≠ 23 + 3 * W → a ≠ 24 + 3 * W → I' a b = I a b) (fun res => ∃ s', res = f_X2_beginFlipped_10 f W T (nI (i + 1)) s' ∧ XT s' W n (fil (fun a b => A b a) (fun _ _ => 1) (i + 1) 0) ∧ ∀ a b, a ≠ 22 + 3 * W → a ≠ 23 + 3 * W → a ≠ 24 + 3 * W → s' a b = I a b) ?_ ?_ _ ⟨s1, s2⟩
    · intro g s ⟨u1, u2⟩
      refine ⟨s, ?_, XT_congA u1 fil_next, u2⟩
      show f_X2_beginFlipped_20 (f_X2_beginFlipped_10 f) (g + 1) W T (nI i) (nI n) s = _
      rw [f_X2_beginFlipped_20, u1.2.2.1, if_pos (nI_le (Nat.le_refl _) (by omega)), nI_1]
    · intro g k s _ hk ⟨u1, u2⟩
      left
      obtain ⟨s', l1, l2, l3⟩ := X_write u1 hi hk (hA k i)
      refine ⟨s', ?_, ?_, fun a b ha hb hc => by rw [l3 a b hb hc, u2 a b ha hb hc]⟩
      · show f_X2_beginFlipped_20 (f_X2_beginFlipped_10 f) (g + 1) W T (nI i) (nI k) s = f_X2_beginFlipped_20 (f_X2_beginFlipped_10 f) g W T (nI i) (nI (k + 1)) s'
        rw [f_X2_beginFlipped_20, u1.2.2.1, if_neg (nI_ge hk (by omega)), XT_number hA (old s u2) hk hi, Option.bind_some, l1, Option.bind_some, nI_1]
      · have := fil_step (fun a b => A b a) (fun _ _ => 1) i k
        rw [this] at l2
        exact l2
  · rw [fil_0]
    exact ⟨b2, b3⟩
theorem s_flip : so_flip RR := by
  intro I J K M h a1
  rcases T_cases h a1 with ⟨e1, e2, e3⟩ | ⟨t, ht, rfl, e1, e2, e3, e4, e5, e6, e7⟩ | ⟨t, n, A, k, ht, rfl, e1, e2, e3, e4, e5, e6, e7, h0, hA, hX, hM, hK, k1, k2⟩
  · exact ⟨-1, I, K, by simp only [f_X3_flip, e1, if_true], by simp only [f_X4_flip, e3, Option.bind_some, if_neg v0m1], h⟩
  · obtain ⟨I', K', y1, y2, h'⟩ := RR_found h 1 (by simp)
    refine ⟨-3, I', K', ?_, ?_, h'⟩
    · simp only [f_X3_flip, e1, e3, e4, e5, y1, Option.bind_some, if_neg v10, if_true]
    · simp only [f_X4_flip, e7, y2, Option.bind_some, if_neg v0m3]
  · have hn := hX.2.1
    obtain ⟨I1, x1, x2, x3⟩ := X_beginFlipped (W := 10) (by omega) (by omega) hA hX
    obtain ⟨I2, w1, w2, w3⟩ := X_take (T := t) (U := 10) (by omega) (by omega) x2
    have mod : ∃ K', f_X4_flip_14 fu (nI t) 0 K = (f_X4_setKind (nI t) K').bind (fun x3 => some (x3.1, x3.2)) ∧ MT K' t n (fun a b => A b a) ∧ mfr t K K' := by
      refine lp (fun f i K => f_X4_flip_14 f (nI t) i K) n 0 (by omega) (by rw [fu_val]; omega) (fun i K' => MT K' t n (fun a b => if a < i ∧ b < i then A b a else A a b) ∧ mfr t K K') (fun res => ∃ K', res = (f_X4_setKind (nI t) K').bind (fun x3 => some (x3.1, x3.2)) ∧ MT K' t n (fun a b => A b a) ∧ mfr t K K') ?_ ?_ _ ?_
      · intro f s ⟨s1, s2⟩
        refine ⟨s, ?_, MT_congA s1 (fun a b ha hb => by rw [if_pos ⟨ha, hb⟩]), s2⟩
        show f_X4_flip_14 (f + 1) (nI t) (nI n) s = _
        rw [f_X4_flip_14, M_ix s1, if_pos rfl, M_w s1, if_pos (nI_le (Nat.le_refl _) (by omega))]
      · intro f i s _ hi ⟨s1, s2⟩
        left
        show ∃ s', f_X4_flip_14 (f + 1) (nI t) (nI i) s = f_X4_flip_14 f (nI t) (nI (i + 1)) s' ∧ _
        rw [f_X4_flip_14, M_ix s1, if_pos rfl, M_w s1, if_neg (nI_ge hi (by omega))]
        refine lp (fun g j K => f_X4_flip_27 (f_X4_flip_14 f) g (nI t) (nI i) j K) i 0 (by omega) (by rw [fu_val]; omega) (fun k K' => MT K' t n (fun a b => if (a < i ∧ b < i) ∨ (a = i ∧ b < k) ∨ (b = i ∧ a < k) then A b a else A a b) ∧ mfr t K K') (fun res => ∃ s', res = f_X4_flip_14 f (nI t) (nI (i + 1)) s' ∧ MT s' t n (fun a b => if a < i + 1 ∧ b < i + 1 then A b a else A a b) ∧ mfr t K s') ?_ ?_ _ ⟨MT_congA s1 (fun a b _ _ => by simp), s2⟩
        · intro g s ⟨u1, u2⟩
          refine ⟨s, ?_, MT_congA u1 (fun a b _ _ => ?_), u2⟩
          · show f_X4_flip_27 (f_X4_flip_14 f) (g + 1) (nI t) (nI i) (nI i) s = _
            rw [f_X4_flip_27, if_pos (nI_le (Nat.le_refl _) (by omega)), nI_1]
          · grind
        · intro g k s _ hk ⟨u1, u2⟩
          left
          have hkn : k < n := by omega
          have g1 := MT_get u1 hi hkn
          have g2 := MT_get u1 hkn hi
          have c1 : ¬ ((i < i ∧ k < i) ∨ (i = i ∧ k < k) ∨ (k = i ∧ i < k)) := by omega
          have c2 : ¬ ((k < i ∧ i < i) ∨ (k = i ∧ i < k) ∨ (i = i ∧ k < k)) := by omega
          rw [if_neg c1] at g1
          rw [if_neg c2] at g2
          obtain ⟨l1, l2⟩ := M_let u1 hi hkn (A k i)
          obtain ⟨m1, m2⟩ := M_let l2 hkn hi (A i k)
          refine ⟨_, ?_, ?_, mfr_let (mfr_let u2 (show i < 12 by omega) (show k < 12 by omega) (sI (A k i))) (show k < 12 by omega) (show i < 12 by omega) (sI (A i k))⟩
          · show f_X4_flip_27 (f_X4_flip_14 f) (g + 1) (nI t) (nI i) (nI k) s = f_X4_flip_27 (f_X4_flip_14 f) g (nI t) (nI i) (nI (k + 1)) _
            rw [f_X4_flip_27, if_neg (nI_ge hk (by omega)), g1, Option.bind_some, g2, Option.bind_some, l1, Option.bind_some, m1, Option.bind_some, nI_1]
          · refine MT_congA m2 (fun a b _ _ => ?_)
            simp only [up2]
            grind
      · exact ⟨MT_congA hM (fun a b _ _ => by simp), fun _ _ _ => rfl⟩
    obtain ⟨K', m1, m2, m3⟩ := mod
    obtain ⟨k, I'', K'', z1, z2, z3⟩ := fin_tab h ht h0 (fun a b => hA b a) w2 m2 (fun a b q0 _ _ q1 q2 q3 => by rw [w3 a b q1 q2 q3, x3 a b (by omega) (by omega) (by omega)]) (fun a b _ _ q1 q2 q3 => m3 a b q3)
    refine ⟨k, I'', K'', ?_, ?_, z3⟩
    · simp only [f_X3_flip, e1, e3, e4, e5, x1, w1, z1, Option.bind_some, if_neg v10, if_true]
    · simp only [f_X4_flip, e7, m1, z2, Option.bind_some, if_pos v00]
