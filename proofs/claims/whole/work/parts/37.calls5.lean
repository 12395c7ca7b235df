-- ===== count =====
theorem row_there {I K : zMi} {r : Nat} (h : RW I K r) : f_X1_isMissing r I = bI (decide (K 2 r < 0)) := by
  unfold f_X1_isMissing
  rcases h with ⟨a, b⟩ | ⟨n, hn, a, b, -⟩
  · rw [a, b]
    decide
  · rw [a, b, if_pos (nI_pos' (by omega)), decide_eq_false (nI_pos (by omega))]
    rfl
def tB (K : zMi) (w t : Nat) : Bool := !decide (K 5 t ≤ 0) && (decide (w = 1) || (decide (w = 2) && (decide (K 7 t = 1) || decide (K 7 t = 2))) || (decide (w = 3) && (decide (K 7 t = 3) || decide (K 7 t = 4))))
theorem s_count : so_count RR := by
  intro I J K M h a1
  have hR := h.2.2.2.2.1
  have hT := h.2.2.2.2.2
  -- the class's rows
  have xr : f_X3_countRows I = some (nI (fb_ct (fun r => !decide (K 2 r < 0)) 6)) := by
    unfold f_X3_countRows
    refine up0 (fun f i (a : Int32) => f_X3_countRows_4 I f a i) 6 (by rw [fu_val]; omega) (fun k => nI (fb_ct (fun r => !decide (K 2 r < 0)) k)) _ ?_ ?_
    · intro f
      show f_X3_countRows_4 I (f + 1) _ (nI 6) = _
      rw [f_X3_countRows_4]
      rfl
    · intro f k hk
      show f_X3_countRows_4 I (f + 1) _ (nI k) = f_X3_countRows_4 I f _ (nI (k + 1))
      rw [f_X3_countRows_4, if_neg (show ¬ (6 : Int32) ≤ nI k from nI_ge (b := 6) hk (by omega)), ix_nI hk (by omega), if_pos rfl, nI_clamp (by omega), row_there (hR k hk), nI_1 k, fb_ct_succ]
      by_cases g : K 2 k < 0
      · rw [decide_eq_true g]
        rfl
      · rw [decide_eq_false g, if_pos (show bI false = 0 from rfl), nI_1]
        rfl
  -- the class's tables
  have xt : ∀ w, (w = 1 ∨ w = 2 ∨ w = 3) → f_X3_countTables (nI (if w = 1 then 0 else if w = 2 then 1 else 3)) I = some (nI (fb_ct (tB K w) 10)) := by
    intro w hw
    unfold f_X3_countTables
    refine up0 (fun f i (a : Int32) => f_X3_countTables_4 I f (nI (if w = 1 then 0 else if w = 2 then 1 else 3)) a i) 10 (by rw [fu_val]; omega) (fun k => nI (fb_ct (tB K w) k)) _ ?_ ?_
    · intro f
      show f_X3_countTables_4 I (f + 1) _ _ (nI 10) = _
      rw [f_X3_countTables_4]
      rfl
    · intro f k hk
      show f_X3_countTables_4 I (f + 1) _ _ (nI k) = f_X3_countTables_4 I f _ _ (nI (k + 1))
      rw [f_X3_countTables_4, if_neg (show ¬ (10 : Int32) ≤ nI k from nI_ge (b := 10) hk (by omega)), ix_nI hk (by omega), if_pos rfl, nI_clamp (by omega), nI_1, nI_1, fb_ct_succ]
      rcases hT k hk with ⟨a, b⟩ | ⟨n, A, q, h0, hA, hX, hM, hK, k1, k2⟩
      · have e1 : f_X2_isMissing k I = 1 := by unfold f_X2_isMissing; rw [a, if_pos rfl]
        have e2 : tB K w k = false := by unfold tB; rw [b]; rfl
        rw [e1, e2, if_neg v10]
        rfl
      · have hn := hX.2.1
        have e1 : f_X2_isMissing k I = 0 := by unfold f_X2_isMissing; rw [hX.2.2.1, if_neg (nI_ne0 h0 (by omega))]
        have e2 : ¬ K 5 k ≤ 0 := by rw [hM.2.2.1]; exact nI_nle h0 (by omega)
        have hq := KD_le hK
        rw [e1, if_pos rfl]
        unfold tB
        rw [decide_eq_false e2, k2]
        unfold f_X2_isOfKind
        rw [k1]
        rcases hw with rfl | rfl | rfl <;> rcases (show q = 0 ∨ q = 1 ∨ q = 2 ∨ q = 3 ∨ q = 4 by omega) with rfl | rfl | rfl | rfl | rfl <;> rfl
  -- the model's
  have mt : ∀ (w b0 : Nat), w ≤ 3 → f_X4_count_39 K fu (nI w) (nI b0) 0 = some (nI (b0 + fb_ct (tB K w) 10)) := by
    intro w b0 hw
    refine up0 (fun f i (a : Int32) => f_X4_count_39 K f (nI w) a i) 10 (by rw [fu_val]; omega) (fun k => nI (b0 + fb_ct (tB K w) k)) _ ?_ ?_
    · intro f
      show f_X4_count_39 K (f + 1) (nI w) _ (nI 10) = _
      rw [f_X4_count_39]
      rcases (show w = 0 ∨ w = 1 ∨ w = 2 ∨ w = 3 by omega) with rfl | rfl | rfl | rfl <;> rfl
    · intro f k hk
      show f_X4_count_39 K (f + 1) (nI w) _ (nI k) = f_X4_count_39 K f (nI w) _ (nI (k + 1))
      rw [f_X4_count_39, if_neg (show ¬ (10 : Int32) ≤ nI k from nI_ge (b := 10) hk (by omega)), ix_nI hk (by omega), if_pos rfl, nI_clamp (by omega), fb_ct_succ]
      have add0 : nI (b0 + fb_ct (tB K w) k) + 0 = nI (b0 + (fb_ct (tB K w) k + 0)) := nI_add _ 0
      have add1 : nI (b0 + fb_ct (tB K w) k) + 1 = nI (b0 + (fb_ct (tB K w) k + 1)) := nI_add _ 1
      rcases hT k hk with ⟨a, b⟩ | ⟨n, A, q, h0, hA, hX, hM, hK, k1, k2⟩
      · have e2 : tB K w k = false := by unfold tB; rw [b]; rfl
        rw [b, if_pos v00, e2]
        unfold f_X4_count_59
        rw [if_pos rfl, add0, nI_1]
        rfl
      · have hn := hX.2.1
        have e2 : ¬ K 5 k ≤ 0 := by rw [hM.2.2.1]; exact nI_nle h0 (by omega)
        have hq := KD_le hK
        rw [if_neg e2]
        unfold f_X4_count_59 f_X4_count_86 f_X4_is
        rw [if_neg v10, ix_nI hk (by omega), nI_clamp (by omega), add0, add1, nI_1, k2]
        unfold tB
        rw [decide_eq_false e2, k2]
        rcases (show w = 0 ∨ w = 1 ∨ w = 2 ∨ w = 3 by omega) with rfl | rfl | rfl | rfl <;> rcases (show q = 0 ∨ q = 1 ∨ q = 2 ∨ q = 3 ∨ q = 4 by omega) with rfl | rfl | rfl | rfl | rfl <;> rfl
  have mr0 : f_X4_count 0 K = some (nI (fb_ct (fun r => !decide (K 2 r < 0)) 6)) := by
    unfold f_X4_count
    refine up0 (fun f i (a : Int32) => f_X4_count_4 K f 0 a i) 6 (by rw [fu_val]; omega) (fun k => nI (fb_ct (fun r => !decide (K 2 r < 0)) k)) _ ?_ ?_
    · intro f
      show f_X4_count_4 K (f + 1) 0 _ (nI 6) = _
      rw [f_X4_count_4, if_pos (show (6 : Int32) ≤ nI 6 from nI_le (Nat.le_refl 6) (by omega))]
      have z : fb_ct (tB K 0) 10 = 0 := fb_ct_zero.mpr (fun k _ => by simp [tB])
      have := mt 0 (fb_ct (fun r => !decide (K 2 r < 0)) 6) (by omega)
      rw [z] at this
      exact this
    · intro f k hk
      show f_X4_count_4 K (f + 1) 0 _ (nI k) = f_X4_count_4 K f 0 _ (nI (k + 1))
      rw [f_X4_count_4, if_neg (show ¬ (6 : Int32) ≤ nI k from nI_ge (b := 6) hk (by omega)), if_pos rfl, ix_nI hk (by omega), if_pos rfl, nI_clamp (by omega), fb_ct_succ, nI_1, nI_1]
      by_cases g : K 2 k < 0
      · rw [if_pos g, decide_eq_true g, show (0 : Int32) = nI 0 from rfl, nI_add]
        rfl
      · rw [if_neg g, decide_eq_false g]
        rfl
  have mr : ∀ a : Int32, ¬ a = 0 → f_X4_count a K = f_X4_count_39 K fu a 0 0 := by
    intro a ha
    unfold f_X4_count
    refine up0 (fun f i (b : Int32) => f_X4_count_4 K f a b i) 6 (by rw [fu_val]; omega) (fun _ => 0) _ ?_ ?_
    · intro f
      show f_X4_count_4 K (f + 1) a _ (nI 6) = _
      rw [f_X4_count_4]
      rfl
    · intro f k hk
      show f_X4_count_4 K (f + 1) a _ (nI k) = f_X4_count_4 K f a _ (nI (k + 1))
      rw [f_X4_count_4, if_neg (show ¬ (6 : Int32) ≤ nI k from nI_ge (b := 6) hk (by omega)), if_neg ha, nI_1]
      rfl
  rcases in_0n (a := a1) 3 (by omega) with ⟨n1, n2⟩ | ⟨w, hw, rfl, n1, n2, n3⟩
  · have ne : ∀ w : Nat, w ≤ 3 → ¬ a1 = nI w := by
      intro w hw q
      rw [q] at n2
      rcases n2 with q' | q'
      · exact nI_pos (by omega) q'
      · exact q' (nI_le (by omega) (by omega))
    refine ⟨-1, ?_, ?_, h⟩
    · unfold f_X3_count
      rw [if_neg (show ¬ a1 = 0 from ne 0 (by omega)), if_neg (show ¬ a1 = 1 from ne 1 (by omega)), if_neg (show ¬ a1 = 2 from ne 2 (by omega)), if_neg (show ¬ a1 = 3 from ne 3 (by omega))]
    · rw [mr a1 (ne 0 (by omega))]
      refine up0 (fun f i (b : Int32) => f_X4_count_39 K f a1 b i) 10 (by rw [fu_val]; omega) (fun _ => 0) _ ?_ ?_
      · intro f
        show f_X4_count_39 K (f + 1) a1 _ (nI 10) = _
        rw [f_X4_count_39, if_pos (show (10 : Int32) ≤ nI 10 from nI_le (Nat.le_refl 10) (by omega)), if_pos (show f_X4_in a1 0 3 = 0 from n1)]
      · intro f k hk
        show f_X4_count_39 K (f + 1) a1 _ (nI k) = f_X4_count_39 K f a1 _ (nI (k + 1))
        have c1 := ne 1 (by omega)
        have c2 := ne 2 (by omega)
        have c3 := ne 3 (by omega)
        have f59 : ∀ s, f_X4_count_59 K (f_X4_count_39 K f) a1 0 (nI k) s = f_X4_count_39 K f a1 0 (nI (k + 1)) := by
          intro s
          unfold f_X4_count_59 f_X4_count_86
          rw [if_neg (show ¬ a1 = 1 from c1), if_neg (show ¬ a1 = 2 from c2), if_neg (show ¬ a1 = 3 from c3), nI_1]
          split <;> rfl
        rw [f_X4_count_39, if_neg (show ¬ (10 : Int32) ≤ nI k from nI_ge (b := 10) hk (by omega)), ix_nI hk (by omega), if_pos rfl, f59, f59]
        split <;> rfl
  · rcases (show w = 0 ∨ w = 1 ∨ w = 2 ∨ w = 3 by omega) with rfl | rfl | rfl | rfl
    · exact ⟨_, by unfold f_X3_count; rw [if_pos nI_0, xr]; rfl, mr0, h⟩
    · refine ⟨_, ?_, by rw [mr (nI 1) (by decide)]; exact mt 1 0 (by omega), h⟩
      have := xt 1 (by omega)
      unfold f_X3_count
      rw [if_neg (by decide), if_pos (show nI 1 = 1 from rfl), show (f_X3_countTables 0 I) = _ from this, Nat.zero_add]
      rfl
    · refine ⟨_, ?_, by rw [mr (nI 2) (by decide)]; exact mt 2 0 (by omega), h⟩
      have := xt 2 (by omega)
      unfold f_X3_count
      rw [if_neg (by decide), if_neg (by decide), if_pos (show nI 2 = 2 from rfl), show (f_X3_countTables 1 I) = _ from this, Nat.zero_add]
      rfl
    · refine ⟨_, ?_, by rw [mr (nI 3) (by decide)]; exact mt 3 0 (by omega), h⟩
      have := xt 3 (by omega)
      unfold f_X3_count
      rw [if_neg (by decide), if_neg (by decide), if_neg (by decide), if_pos (show nI 3 = 3 from rfl), show (f_X3_countTables 3 I) = _ from this, Nat.zero_add]
      rfl
-- ===== digest =====
theorem wJ_twice (M : zMl) (k j : Nat) (a b : Int64) : wJ (wJ M k j a) k j b = wJ M k j b := by
  funext x y
  simp only [wJ]
  split <;> rfl
def dgR (v : Nat → Int32) : Nat → Int64 → Int64
  | 0, h => h
  | j + 1, h => 31 * dgR v j h + (v j).toInt64
theorem dgR_cong {v w : Nat → Int32} : ∀ {n : Nat} {h : Int64}, (∀ j, j < n → v j = w j) → dgR v n h = dgR w n h
  | 0, _, _ => rfl
  | n + 1, h, e => by rw [dgR, dgR, dgR_cong (fun j hj => e j (by omega)), e n (by omega)]
def dgT (A : Nat → Nat → Int) (n : Nat) : Nat → Int64 → Int64
  | 0, h => h
  | i + 1, h => dgR (fun j => sI (A i j)) n (dgT A n i h)
theorem dig_tab {I K : zMi} {t : Nat} (ht : t < 10) (h : TB I K t) : ∃ g : Int64 → Int64, (∀ x, f_X2_addedTo t x I = some (g x)) ∧ ∀ (f : Nat) (M : zMl), f_X4_digest_9 K (f + 1) (nI t) M = f_X4_digest_9 K f (nI (t + 1)) (wJ M 0 22 (g (M 0 22))) := by
  rcases h with ⟨a, b⟩ | ⟨n, A, k, h0, hA, hX, hM, hK, k1, k2⟩
  · refine ⟨fun x => 31 * x - 1, fun x => ?_, fun f M => ?_⟩
    · unfold f_X2_addedTo f_X2_isMissing
      rw [a, if_pos rfl, if_neg v10]
    · rw [f_X4_digest_9, if_neg (show ¬ (10 : Int32) ≤ nI t from nI_ge (b := 10) ht (by omega)), ix_nI ht (by omega), if_pos rfl, nI_clamp (by omega), b, if_pos rfl, nI_1]
      unfold f_X4_mix
      rw [show (-1 : Int32).toInt64 = -1 from by decide, ← Int64.sub_eq_add_neg]
  · have hn := hX.2.1
    refine ⟨fun x => dgT A n n (31 * (31 * x + (nI k).toInt64) + (nI n).toInt64), fun x => ?_, fun f M => ?_⟩
    · unfold f_X2_addedTo f_X2_isMissing
      rw [hX.2.2.1, if_neg (nI_ne0 h0 (by omega)), if_pos rfl, k1]
      refine up0 (fun f i (a : Int64) => f_X2_addedTo_40 I f t a i) n (by rw [fu_val]; omega) (fun i => dgT A n i (31 * (31 * x + (nI k).toInt64) + (nI n).toInt64)) _ ?_ ?_
      · intro f
        show f_X2_addedTo_40 I (f + 1) t _ (nI n) = _
        rw [f_X2_addedTo_40, hX.2.2.1, if_pos (nI_le (Nat.le_refl _) (by omega))]
      · intro f i hi
        show f_X2_addedTo_40 I (f + 1) t _ (nI i) = f_X2_addedTo_40 I f t _ (nI (i + 1))
        rw [f_X2_addedTo_40, hX.2.2.1, if_neg (nI_ge hi (by omega))]
        refine up0 (fun g j (a : Int64) => f_X2_addedTo_52 I (f_X2_addedTo_40 I f) g t a (nI i) j) n (by rw [fu_val]; omega) (fun j => dgR (fun j => sI (A i j)) j (dgT A n i (31 * (31 * x + (nI k).toInt64) + (nI n).toInt64))) _ ?_ ?_
        · intro g
          show f_X2_addedTo_52 I (f_X2_addedTo_40 I f) (g + 1) t _ (nI i) (nI n) = _
          rw [f_X2_addedTo_52, hX.2.2.1, if_pos (nI_le (Nat.le_refl _) (by omega)), nI_1]
          rfl
        · intro g j hj
          show f_X2_addedTo_52 I (f_X2_addedTo_40 I f) (g + 1) t _ (nI i) (nI j) = f_X2_addedTo_52 I (f_X2_addedTo_40 I f) g t _ (nI i) (nI (j + 1))
          rw [f_X2_addedTo_52, hX.2.2.1, if_neg (nI_ge hj (by omega)), XT_number hA hX hi hj, nI_1]
          rfl
    · rw [f_X4_digest_9, if_neg (show ¬ (10 : Int32) ≤ nI t from nI_ge (b := 10) ht (by omega)), ix_nI ht (by omega), if_pos rfl, nI_clamp (by omega), hM.2.2.1, if_neg (nI_ne0 h0 (by omega)), k2]
      have start : f_X4_mix (nI n) (f_X4_mix (nI k) M) = wJ M 0 22 (31 * (31 * M 0 22 + (nI k).toInt64) + (nI n).toInt64) := by
        unfold f_X4_mix
        rw [wJ_twice, wJ_here rfl rfl]
      rw [start]
      show _ = f_X4_digest_9 K f (nI (t + 1)) (wJ M 0 22 (dgT A n n (31 * (31 * M 0 22 + (nI k).toInt64) + (nI n).toInt64)))
      generalize 31 * (31 * M 0 22 + (nI k).toInt64) + (nI n).toInt64 = x
      refine up0 (fun g i (a : Int64) => f_X4_digest_54 K (f_X4_digest_9 K f) g (nI t) i (wJ M 0 22 a)) n (by rw [fu_val]; omega) (fun i => dgT A n i x) _ ?_ ?_
      · intro g
        show f_X4_digest_54 K (f_X4_digest_9 K f) (g + 1) (nI t) (nI n) _ = _
        rw [f_X4_digest_54, M_ix hM, if_pos rfl, M_w hM, if_pos (nI_le (Nat.le_refl _) (by omega)), nI_1]
      · intro g i hi
        show f_X4_digest_54 K (f_X4_digest_9 K f) (g + 1) (nI t) (nI i) _ = f_X4_digest_54 K (f_X4_digest_9 K f) g (nI t) (nI (i + 1)) _
        rw [f_X4_digest_54, M_ix hM, if_pos rfl, M_w hM, if_neg (nI_ge hi (by omega))]
        refine up0 (fun g2 j (a : Int64) => f_X4_digest_66 K (f_X4_digest_9 K f) (f_X4_digest_54 K (f_X4_digest_9 K f) g) g2 (nI t) (nI i) j (wJ M 0 22 a)) n (by rw [fu_val]; omega) (fun j => dgR (fun j => sI (A i j)) j (dgT A n i x)) _ ?_ ?_
        · intro g2
          show f_X4_digest_66 K (f_X4_digest_9 K f) (f_X4_digest_54 K (f_X4_digest_9 K f) g) (g2 + 1) (nI t) (nI i) (nI n) _ = _
          rw [f_X4_digest_66, M_ix hM, if_pos rfl, M_w hM, if_pos (nI_le (Nat.le_refl _) (by omega)), nI_1]
          rfl
        · intro g2 j hj
          show f_X4_digest_66 K (f_X4_digest_9 K f) (f_X4_digest_54 K (f_X4_digest_9 K f) g) (g2 + 1) (nI t) (nI i) (nI j) _ = f_X4_digest_66 K (f_X4_digest_9 K f) (f_X4_digest_54 K (f_X4_digest_9 K f) g) g2 (nI t) (nI i) (nI (j + 1)) _
          rw [f_X4_digest_66, M_ix hM, if_pos rfl, M_w hM, if_neg (nI_ge hj (by omega)), MT_get hM hi hj, nI_1, Option.bind_some]
          unfold f_X4_mix
          rw [wJ_twice, wJ_here rfl rfl]
          rfl
theorem dig_row {I K : zMi} {r : Nat} (hr : r < 6) (h : RW I K r) : ∃ g : Int64 → Int64, (∀ x, f_X1_addedTo r x I = some (g x)) ∧ ∀ (f : Nat) (M : zMl), f_X4_digest_107 K (f + 1) (nI r) M = f_X4_digest_107 K f (nI (r + 1)) (wJ M 0 22 (g (M 0 22))) := by
  rcases h with ⟨a, b⟩ | ⟨n, hn, a, b, c⟩
  · refine ⟨fun x => 31 * x + (-1 : Int32).toInt64, fun x => ?_, fun f M => ?_⟩
    · unfold f_X1_addedTo
      rw [a, show fu = 4999 + 1 from rfl, f_X1_addedTo_15, a, if_pos (by decide)]
    · rw [f_X4_digest_107, if_neg (show ¬ (6 : Int32) ≤ nI r from nI_ge (b := 6) hr (by omega)), ix_nI hr (by omega), if_pos rfl, nI_clamp (by omega), b, if_neg (by decide), show fu = 4999 + 1 from rfl, f_X4_digest_138, ix_nI hr (by omega), if_pos rfl, nI_clamp (by omega), b, if_pos (by decide), nI_1]
      rfl
  · refine ⟨fun x => dgR (I (11 + 2 * r)) n (31 * x + (nI n).toInt64), fun x => ?_, fun f M => ?_⟩
    · unfold f_X1_addedTo
      rw [a]
      refine up0 (fun f i (q : Int64) => f_X1_addedTo_15 I f r q i) n (by rw [fu_val]; omega) (fun i => dgR (I (11 + 2 * r)) i (31 * x + (nI n).toInt64)) _ ?_ ?_
      · intro f
        show f_X1_addedTo_15 I (f + 1) r _ (nI n) = _
        rw [f_X1_addedTo_15, a, if_pos (nI_le (Nat.le_refl _) (by omega))]
      · intro f i hi
        show f_X1_addedTo_15 I (f + 1) r _ (nI i) = f_X1_addedTo_15 I f r _ (nI (i + 1))
        rw [f_X1_addedTo_15, a, if_neg (nI_ge hi (by omega)), ix_nI (by omega) (by omega), if_pos rfl, nI_clamp (by omega), nI_1]
        rfl
    · rw [f_X4_digest_107, if_neg (show ¬ (6 : Int32) ≤ nI r from nI_ge (b := 6) hr (by omega)), ix_nI hr (by omega), if_pos rfl, nI_clamp (by omega), b, if_pos (nI_pos' (by omega))]
      unfold f_X4_mix
      have e : ∀ x, dgR (I (11 + 2 * r)) n x = dgR (fun j => K 3 (24 * r + j)) n x := fun x => dgR_cong c
      show _ = f_X4_digest_107 K f (nI (r + 1)) (wJ M 0 22 (dgR (I (11 + 2 * r)) n (31 * M 0 22 + (nI n).toInt64)))
      rw [e]
      generalize 31 * M 0 22 + (nI n).toInt64 = x
      refine up0 (fun g i (q : Int64) => f_X4_digest_138 K (f_X4_digest_107 K f) g (nI r) i (wJ M 0 22 q)) n (by rw [fu_val]; omega) (fun i => dgR (fun j => K 3 (24 * r + j)) i x) _ ?_ ?_
      · intro g
        show f_X4_digest_138 K (f_X4_digest_107 K f) (g + 1) (nI r) (nI n) _ = _
        rw [f_X4_digest_138, ix_nI hr (by omega), if_pos rfl, nI_clamp (by omega), b, if_pos (nI_le (Nat.le_refl _) (by omega)), nI_1]
      · intro g i hi
        show f_X4_digest_138 K (f_X4_digest_107 K f) (g + 1) (nI r) (nI i) _ = f_X4_digest_138 K (f_X4_digest_107 K f) g (nI r) (nI (i + 1)) _
        rw [f_X4_digest_138, ix_nI hr (by omega), if_pos rfl, nI_clamp (by omega), b, if_neg (nI_ge hi (by omega)), e24, ix_nI (by omega) (by omega), if_pos rfl, nI_clamp (by omega), nI_1]
        unfold f_X4_mix
        rw [wJ_twice, wJ_here rfl rfl]
        rfl
def it (G : Nat → Int64 → Int64) : Nat → Int64 → Int64
  | 0, h => h
  | i + 1, h => G i (it G i h)
theorem s_digest : so_digest RR := by
  intro I J K M h
  have t1 : ∀ t, ∃ g : Int64 → Int64, t < 10 → (∀ x, f_X2_addedTo t x I = some (g x)) ∧ ∀ (f : Nat) (M : zMl), f_X4_digest_9 K (f + 1) (nI t) M = f_X4_digest_9 K f (nI (t + 1)) (wJ M 0 22 (g (M 0 22))) := fun t => by
    by_cases ht : t < 10
    · obtain ⟨g, h1, h2⟩ := dig_tab ht (h.2.2.2.2.2 t ht)
      exact ⟨g, fun _ => ⟨h1, h2⟩⟩
    · exact ⟨id, fun q => absurd q ht⟩
  have r1 : ∀ r, ∃ g : Int64 → Int64, r < 6 → (∀ x, f_X1_addedTo r x I = some (g x)) ∧ ∀ (f : Nat) (M : zMl), f_X4_digest_107 K (f + 1) (nI r) M = f_X4_digest_107 K f (nI (r + 1)) (wJ M 0 22 (g (M 0 22))) := fun r => by
    by_cases hr : r < 6
    · obtain ⟨g, h1, h2⟩ := dig_row hr (h.2.2.2.2.1 r hr)
      exact ⟨g, fun _ => ⟨h1, h2⟩⟩
    · exact ⟨id, fun q => absurd q hr⟩
  obtain ⟨G, hG⟩ := Classical.axiomOfChoice t1
  obtain ⟨H, hH⟩ := Classical.axiomOfChoice r1
  refine ⟨it H 6 (it G 10 17), wJ M 0 22 (it H 6 (it G 10 17)), ?_, ?_, ?_⟩
  · unfold f_X3_digest
    refine up0 (fun f i (a : Int64) => f_X3_digest_6 I f a i) 10 (by rw [fu_val]; omega) (fun i => it G i 17) _ ?_ ?_
    · intro f
      show f_X3_digest_6 I (f + 1) _ (nI 10) = _
      rw [f_X3_digest_6, if_pos (show (10 : Int32) ≤ nI 10 from nI_le (Nat.le_refl 10) (by omega))]
      refine up0 (fun f i (a : Int64) => f_X3_digest_31 I f a i) 6 (by rw [fu_val]; omega) (fun i => it H i (it G 10 17)) _ ?_ ?_
      · intro f
        show f_X3_digest_31 I (f + 1) _ (nI 6) = _
        rw [f_X3_digest_31, if_pos (show (6 : Int32) ≤ nI 6 from nI_le (Nat.le_refl 6) (by omega))]
      · intro f i hi
        show f_X3_digest_31 I (f + 1) _ (nI i) = f_X3_digest_31 I f _ (nI (i + 1))
        rw [f_X3_digest_31, if_neg (show ¬ (6 : Int32) ≤ nI i from nI_ge (b := 6) hi (by omega)), ix_nI hi (by omega), if_pos rfl, nI_clamp (by omega), (hH i hi).1, nI_1]
        rfl
    · intro f i hi
      show f_X3_digest_6 I (f + 1) _ (nI i) = f_X3_digest_6 I f _ (nI (i + 1))
      rw [f_X3_digest_6, if_neg (show ¬ (10 : Int32) ≤ nI i from nI_ge (b := 10) hi (by omega)), ix_nI hi (by omega), if_pos rfl, nI_clamp (by omega), (hG i hi).1, nI_1]
      rfl
  · unfold f_X4_digest
    refine up0 (fun f i (a : Int64) => f_X4_digest_9 K f i (wJ M 0 22 a)) 10 (by rw [fu_val]; omega) (fun i => it G i 17) _ ?_ ?_
    · intro f
      show f_X4_digest_9 K (f + 1) (nI 10) _ = _
      rw [f_X4_digest_9, if_pos (show (10 : Int32) ≤ nI 10 from nI_le (Nat.le_refl 10) (by omega))]
      refine up0 (fun f i (a : Int64) => f_X4_digest_107 K f i (wJ M 0 22 a)) 6 (by rw [fu_val]; omega) (fun i => it H i (it G 10 17)) _ ?_ ?_
      · intro f
        show f_X4_digest_107 K (f + 1) (nI 6) _ = _
        rw [f_X4_digest_107, if_pos (show (6 : Int32) ≤ nI 6 from nI_le (Nat.le_refl 6) (by omega)), wJ_here rfl rfl]
      · intro f i hi
        show f_X4_digest_107 K (f + 1) (nI i) _ = f_X4_digest_107 K f (nI (i + 1)) _
        rw [(hH i hi).2, wJ_twice, wJ_here rfl rfl]
        rfl
    · intro f i hi
      show f_X4_digest_9 K (f + 1) (nI i) _ = f_X4_digest_9 K f (nI (i + 1)) _
      rw [(hG i hi).2, wJ_twice, wJ_here rfl rfl]
      rfl
  · refine RR_scr h (fun _ _ _ _ _ => rfl) (fun _ _ _ _ => rfl) ?_
    rw [wJ_off (by omega), wJ_off (by omega), wJ_off (by omega)]
    exact h.2.2.2.1
