-- ===== the model's polynomial =====
def KT (s : zMl) (c n : Nat) (G : Nat → Nat → Int) (i k : Nat) : Prop := ∀ a b, a < n → b < n → (a < i ∨ (a = i ∧ b < k)) → s c (12 * a + b) = lI (G a b)
theorem KT_put {s : zMl} {c n i k : Nat} {G : Nat → Nat → Int} (h : KT s c n G i k) (hn : n ≤ 12) (hk : k < n) {v : Int64} (hv : v = lI (G i k)) : KT (wJ s c (12 * i + k) v) c n G i (k + 1) := by
  intro a b ha hb hab
  by_cases g : a = i ∧ b = k
  · rw [wJ_here rfl (by rw [g.1, g.2]), hv, g.1, g.2]
  · rw [wJ_off (by omega), h a b ha hb (by omega)]
theorem KT_next {s : zMl} {c n i : Nat} {G : Nat → Nat → Int} (h : KT s c n G i n) : KT s c n G (i + 1) 0 := fun a b ha hb hab => h a b ha hb (by omega)
theorem KT_0 (s : zMl) (c n : Nat) (G : Nat → Nat → Int) : KT s c n G 0 0 := fun a b _ _ hab => by omega
/-- what the model's polynomial may write -/
def pfr (M M' : zMl) : Prop := ∀ a b, a ≠ 14 → a ≠ 15 → a ≠ 16 → M' a b = M a b
theorem M_setForm {K : zMi} {t n : Nat} {A : Nat → Nat → Int} (hA : tri A) (hM : MT K t n A) (h0 : 0 < n) (M : zMl) : ∃ M', f_X4_setForm (nI t) K M = some M' ∧ (∀ k, k ≤ n → M' 16 k = lI (pol n A k)) ∧ pfr M M' := by
  have hn := hM.2.1
  unfold f_X4_setForm
  rw [M_ix hM, if_pos rfl, M_w hM]
  -- the powers' start
  refine lp (fun f k (J : zMl) => f_X4_setForm_9 K f (nI t) (nI n) k J) 144 0 (by omega) (by rw [fu_val]; omega) (fun k J' => (∀ q, q < k → J' 14 q = lI (if q % 13 = 0 then 1 else 0)) ∧ pfr M J') (fun res => ∃ M', res = some M' ∧ (∀ k, k ≤ n → M' 16 k = lI (pol n A k)) ∧ pfr M M') ?_ ?_ _ ⟨fun q hq => by omega, fun _ _ _ _ _ => rfl⟩
  · intro f s ⟨s1, s2⟩
    show ∃ M', f_X4_setForm_9 K (f + 1) (nI t) (nI n) (nI 144) s = some M' ∧ _
    rw [f_X4_setForm_9, if_pos (show (144 : Int32) ≤ nI 144 from nI_le (Nat.le_refl 144) (by omega)), ix_nI (by omega) (by omega), if_pos rfl, if_pos rfl, nI_clamp (by omega), show (2 : Int32) = nI 2 from rfl, pk_rem (by omega) (by omega) (by omega)]
    have st : KT s 14 n dl n 0 := fun a b ha hb _ => by
      rw [s1 _ (by omega)]
      unfold dl
      by_cases g : a = b
      · rw [if_pos g, if_pos (by omega)]
      · rw [if_neg g, if_neg (by omega)]
    -- the loop over k
    have main : ∀ J0 : zMl, KT J0 14 n dl n 0 → J0 16 n = lI (sgn n) → pfr M J0 → ∃ M', f_X4_setForm_64 K fu (nI t) (nI n) (lI (sgn n)) 1 J0 = some M' ∧ (∀ k, k ≤ n → M' 16 k = lI (pol n A k)) ∧ pfr M M' := by
      intro J0 z1 z2 z3
      refine lp (fun f k (J : zMl) => f_X4_setForm_64 K f (nI t) (nI n) (lI (sgn n)) k J) (n + 1) 1 (by omega) (by rw [fu_val]; omega) (fun k J' => KT J' 14 n (Bc n A (k - 1)) n 0 ∧ (∀ q, q < k → J' 16 (n - q) = lI (sgn n * qc n A q)) ∧ pfr M J') (fun res => ∃ M', res = some M' ∧ (∀ k, k ≤ n → M' 16 k = lI (pol n A k)) ∧ pfr M M') ?_ ?_ _ ?_
      · intro f s ⟨u1, u2, u3⟩
        refine ⟨s, ?_, fun k hk => ?_, u3⟩
        · show f_X4_setForm_64 K (f + 1) (nI t) (nI n) (lI (sgn n)) (nI (n + 1)) s = _
          rw [f_X4_setForm_64, if_pos (nI_lt (by omega) (by omega))]
        · have := u2 (n - k) (by omega)
          rw [show n - (n - k) = k by omega] at this
          exact this
      · intro f k s hk1 hk ⟨u1, u2, u3⟩
        left
        obtain ⟨m, rfl⟩ : ∃ m, k = m + 1 := ⟨k - 1, by omega⟩
        rw [Nat.add_sub_cancel] at u1
        show ∃ s', f_X4_setForm_64 K (f + 1) (nI t) (nI n) (lI (sgn n)) (nI (m + 1)) s = f_X4_setForm_64 K f (nI t) (nI n) (lI (sgn n)) (nI (m + 1 + 1)) s' ∧ _
        rw [f_X4_setForm_64, if_neg (nI_nlt (by omega) (by omega))]
        -- the product and its trace
        refine lp (fun g i (x : Int64 × zMl) => f_X4_setForm_76 K (f_X4_setForm_64 K f) g (nI t) (nI n) (lI (sgn n)) (nI (m + 1)) x.1 i x.2) n 0 (by omega) (by rw [fu_val]; omega) (fun i x => x.1 = lI (fb_si (fun i => fb_si (fun c => A i c * Bc n A m c i) n) i) ∧ KT x.2 15 n (fun i j => fb_si (fun l => A i l * Bc n A m l j) n) i 0 ∧ ∀ a b, a ≠ 15 → x.2 a b = s a b) (fun res => ∃ s', res = f_X4_setForm_64 K f (nI t) (nI n) (lI (sgn n)) (nI (m + 1 + 1)) s' ∧ KT s' 14 n (Bc n A (m + 1 + 1 - 1)) n 0 ∧ (∀ q, q < m + 1 + 1 → s' 16 (n - q) = lI (sgn n * qc n A q)) ∧ pfr M s') ?_ ?_ (0, s) ⟨rfl, KT_0 s 15 n _, fun _ _ _ => rfl⟩
        · intro g x ⟨x1, x2, x3⟩
          show ∃ s', f_X4_setForm_76 K (f_X4_setForm_64 K f) (g + 1) (nI t) (nI n) (lI (sgn n)) (nI (m + 1)) x.1 (nI n) x.2 = _ ∧ _
          have d0 : ¬ (nI (m + 1)).toInt64 = 0 := fun q => nI_ne0 (by omega) (by omega) ((fa_wide_eq (nI (m + 1)) 0).mp q)
          rw [f_X4_setForm_76, if_pos (nI_le (Nat.le_refl _) (by omega)), if_neg d0, pk_sub (by omega), ix_nI (by omega) (by omega), if_pos rfl, nI_clamp (by omega), x1, q_div hA hn (by omega), lI_mul]
          have y2 : KT (wJ x.2 16 (n - (m + 1)) (lI (sgn n * qc n A (m + 1)))) 15 n (fun i j => fb_si (fun l => A i l * Bc n A m l j) n) n 0 := fun a b ha hb hab => by rw [wJ_off (by omega), x2 a b ha hb hab]
          have y16 : ∀ q, q < m + 1 + 1 → (wJ x.2 16 (n - (m + 1)) (lI (sgn n * qc n A (m + 1)))) 16 (n - q) = lI (sgn n * qc n A q) := by
            intro q hq
            by_cases gg : q = m + 1
            · rw [wJ_here rfl (by rw [gg]), gg]
            · rw [wJ_off (by omega), x3 _ _ (by omega), u2 q (by omega)]
          have yf : pfr M (wJ x.2 16 (n - (m + 1)) (lI (sgn n * qc n A (m + 1)))) := fun a b h1 h2 h3 => by rw [wJ_off (by omega), x3 a b h2, u3 a b h1 h2 h3]
          generalize wJ x.2 16 (n - (m + 1)) (lI (sgn n * qc n A (m + 1))) = y at y2 y16 yf
          refine lp (fun g i (J : zMl) => f_X4_setForm_208 K (f_X4_setForm_64 K f) g (nI t) (nI n) (lI (sgn n)) (nI (m + 1)) (lI (qc n A (m + 1))) i J) n 0 (by omega) (by rw [fu_val]; omega) (fun i J' => KT J' 14 n (Bc n A (m + 1)) i 0 ∧ ∀ a b, a ≠ 14 → J' a b = y a b) (fun res => ∃ s', res = f_X4_setForm_64 K f (nI t) (nI n) (lI (sgn n)) (nI (m + 1 + 1)) s' ∧ KT s' 14 n (Bc n A (m + 1 + 1 - 1)) n 0 ∧ (∀ q, q < m + 1 + 1 → s' 16 (n - q) = lI (sgn n * qc n A q)) ∧ pfr M s') ?_ ?_ _ ⟨KT_0 y 14 n _, fun _ _ _ => rfl⟩
          · intro g w ⟨w1, w2⟩
            refine ⟨w, ?_, w1, fun q hq => by rw [w2 _ _ (by omega), y16 q hq], fun a b h1 h2 h3 => by rw [w2 a b h1, yf a b h1 h2 h3]⟩
            show f_X4_setForm_208 K (f_X4_setForm_64 K f) (g + 1) (nI t) (nI n) (lI (sgn n)) (nI (m + 1)) (lI (qc n A (m + 1))) (nI n) w = _
            rw [f_X4_setForm_208, if_pos (nI_le (Nat.le_refl _) (by omega)), nI_1]
          · intro g i w _ hi ⟨w1, w2⟩
            left
            show ∃ s', f_X4_setForm_208 K (f_X4_setForm_64 K f) (g + 1) (nI t) (nI n) (lI (sgn n)) (nI (m + 1)) (lI (qc n A (m + 1))) (nI i) w = f_X4_setForm_208 K (f_X4_setForm_64 K f) g (nI t) (nI n) (lI (sgn n)) (nI (m + 1)) (lI (qc n A (m + 1))) (nI (i + 1)) s' ∧ _
            rw [f_X4_setForm_208, if_neg (nI_ge hi (by omega))]
            refine lp (fun g2 j (J : zMl) => f_X4_setForm_217 K (f_X4_setForm_64 K f) (f_X4_setForm_208 K (f_X4_setForm_64 K f) g) g2 (nI t) (nI n) (lI (sgn n)) (nI (m + 1)) (lI (qc n A (m + 1))) (nI i) j J) n 0 (by omega) (by rw [fu_val]; omega) (fun k J' => KT J' 14 n (Bc n A (m + 1)) i k ∧ ∀ a b, a ≠ 14 → J' a b = y a b) (fun res => ∃ s', res = f_X4_setForm_208 K (f_X4_setForm_64 K f) g (nI t) (nI n) (lI (sgn n)) (nI (m + 1)) (lI (qc n A (m + 1))) (nI (i + 1)) s' ∧ KT s' 14 n (Bc n A (m + 1)) (i + 1) 0 ∧ ∀ a b, a ≠ 14 → s' a b = y a b) ?_ ?_ _ ⟨w1, w2⟩
            · intro g2 z ⟨z1, z2⟩
              refine ⟨z, ?_, KT_next z1, z2⟩
              show f_X4_setForm_217 K (f_X4_setForm_64 K f) (f_X4_setForm_208 K (f_X4_setForm_64 K f) g) (g2 + 1) (nI t) (nI n) (lI (sgn n)) (nI (m + 1)) (lI (qc n A (m + 1))) (nI i) (nI n) z = _
              rw [f_X4_setForm_217, if_pos (nI_le (Nat.le_refl _) (by omega)), nI_1]
            · intro g2 j z _ hj ⟨z1, z2⟩
              left
              refine ⟨wJ z 14 (12 * i + j) (lI (Bc n A (m + 1) i j)), ?_, KT_put z1 hn hj rfl, fun a b ha => by rw [wJ_off (by omega), z2 a b ha]⟩
              show f_X4_setForm_217 K (f_X4_setForm_64 K f) (f_X4_setForm_208 K (f_X4_setForm_64 K f) g) (g2 + 1) (nI t) (nI n) (lI (sgn n)) (nI (m + 1)) (lI (qc n A (m + 1))) (nI i) (nI j) z = f_X4_setForm_217 K (f_X4_setForm_64 K f) (f_X4_setForm_208 K (f_X4_setForm_64 K f) g) g2 (nI t) (nI n) (lI (sgn n)) (nI (m + 1)) (lI (qc n A (m + 1))) (nI i) (nI (j + 1)) _
              rw [f_X4_setForm_217, if_neg (nI_ge hj (by omega)), e12, ix_nI (by omega) (by omega), if_pos rfl, nI_clamp (by omega), z2 15 _ (by omega), y2 i j hi hj (Or.inl hi), nI_1, show (0 : Int64) = lI 0 from rfl, lI_add, lI_add, B_step A m hi hj]
              by_cases gg : i = j
              · rw [if_pos (by rw [gg]), if_pos gg]
              · rw [if_neg (fun q => gg ((nI_eq (by omega) (by omega)).mp q)), if_neg gg]
        · intro g i x _ hi ⟨x1, x2, x3⟩
          left
          show ∃ s' : Int64 × zMl, f_X4_setForm_76 K (f_X4_setForm_64 K f) (g + 1) (nI t) (nI n) (lI (sgn n)) (nI (m + 1)) x.1 (nI i) x.2 = f_X4_setForm_76 K (f_X4_setForm_64 K f) g (nI t) (nI n) (lI (sgn n)) (nI (m + 1)) s'.1 (nI (i + 1)) s'.2 ∧ _
          rw [f_X4_setForm_76, if_neg (nI_ge hi (by omega)), x1]
          refine lp (fun g2 j (w : Int64 × zMl) => f_X4_setForm_85 K (f_X4_setForm_64 K f) (f_X4_setForm_76 K (f_X4_setForm_64 K f) g) g2 (nI t) (nI n) (lI (sgn n)) (nI (m + 1)) w.1 (nI i) j w.2) n 0 (by omega) (by rw [fu_val]; omega) (fun j w => w.1 = lI (fb_si (fun i => fb_si (fun c => A i c * Bc n A m c i) n) i + (if i < j then fb_si (fun c => A i c * Bc n A m c i) n else 0)) ∧ KT w.2 15 n (fun i j => fb_si (fun l => A i l * Bc n A m l j) n) i j ∧ ∀ a b, a ≠ 15 → w.2 a b = s a b) (fun res => ∃ s' : Int64 × zMl, res = f_X4_setForm_76 K (f_X4_setForm_64 K f) g (nI t) (nI n) (lI (sgn n)) (nI (m + 1)) s'.1 (nI (i + 1)) s'.2 ∧ s'.1 = lI (fb_si (fun i => fb_si (fun c => A i c * Bc n A m c i) n) (i + 1)) ∧ KT s'.2 15 n (fun i j => fb_si (fun l => A i l * Bc n A m l j) n) (i + 1) 0 ∧ ∀ a b, a ≠ 15 → s'.2 a b = s a b) ?_ ?_ (lI (fb_si (fun i => fb_si (fun c => A i c * Bc n A m c i) n) i), x.2) ⟨by rw [if_neg (by omega), Int.add_zero], x2, x3⟩
          · intro g2 w ⟨w1, w2, w3⟩
            refine ⟨w, ?_, by rw [w1, if_pos hi]; rfl, KT_next w2, w3⟩
            show f_X4_setForm_85 K (f_X4_setForm_64 K f) (f_X4_setForm_76 K (f_X4_setForm_64 K f) g) (g2 + 1) (nI t) (nI n) (lI (sgn n)) (nI (m + 1)) w.1 (nI i) (nI n) w.2 = _
            rw [f_X4_setForm_85, if_pos (nI_le (Nat.le_refl _) (by omega)), nI_1]
          · intro g2 j w _ hj ⟨w1, w2, w3⟩
            left
            refine ⟨(lI (fb_si (fun i => fb_si (fun c => A i c * Bc n A m c i) n) i + (if i < j + 1 then fb_si (fun c => A i c * Bc n A m c i) n else 0)), wJ w.2 15 (12 * i + j) (lI (fb_si (fun l => A i l * Bc n A m l j) n))), ?_, rfl, KT_put w2 hn hj rfl, fun a b ha => by
              show wJ w.2 15 (12 * i + j) _ a b = _
              rw [wJ_off (by omega), w3 a b ha]⟩
            show f_X4_setForm_85 K (f_X4_setForm_64 K f) (f_X4_setForm_76 K (f_X4_setForm_64 K f) g) (g2 + 1) (nI t) (nI n) (lI (sgn n)) (nI (m + 1)) w.1 (nI i) (nI j) w.2 = f_X4_setForm_85 K (f_X4_setForm_64 K f) (f_X4_setForm_76 K (f_X4_setForm_64 K f) g) g2 (nI t) (nI n) (lI (sgn n)) (nI (m + 1)) (lI (fb_si (fun i => fb_si (fun c => A i c * Bc n A m c i) n) i + (if i < j + 1 then fb_si (fun c => A i c * Bc n A m c i) n else 0))) (nI i) (nI (j + 1)) (wJ w.2 15 (12 * i + j) (lI (fb_si (fun l => A i l * Bc n A m l j) n)))
            rw [f_X4_setForm_85, if_neg (nI_ge hj (by omega)), w1]
            refine up0 (fun g3 l (a : Int64) => f_X4_setForm_97 K (f_X4_setForm_64 K f) (f_X4_setForm_76 K (f_X4_setForm_64 K f) g) (f_X4_setForm_85 K (f_X4_setForm_64 K f) (f_X4_setForm_76 K (f_X4_setForm_64 K f) g) g2) g3 (nI t) (nI n) (lI (sgn n)) (nI (m + 1)) (lI (fb_si (fun i => fb_si (fun c => A i c * Bc n A m c i) n) i + (if i < j then fb_si (fun c => A i c * Bc n A m c i) n else 0))) (nI i) (nI j) a l w.2) n (by rw [fu_val]; omega) (fun q => lI (fb_si (fun l => A i l * Bc n A m l j) q)) _ ?_ ?_
            · intro g3
              show f_X4_setForm_97 K (f_X4_setForm_64 K f) (f_X4_setForm_76 K (f_X4_setForm_64 K f) g) (f_X4_setForm_85 K (f_X4_setForm_64 K f) (f_X4_setForm_76 K (f_X4_setForm_64 K f) g) g2) (g3 + 1) (nI t) (nI n) (lI (sgn n)) (nI (m + 1)) _ (nI i) (nI j) _ (nI n) w.2 = _
              rw [f_X4_setForm_97, if_pos (nI_le (Nat.le_refl _) (by omega)), e12, ix_nI (by omega) (by omega), if_pos rfl, nI_clamp (by omega), nI_1, show (0 : Int64) = lI 0 from rfl, lI_add, lI_add]
              by_cases gg : i = j
              · subst gg
                rw [if_pos rfl, if_neg (by omega), if_pos (by omega), Int.add_zero]
              · rw [if_neg (fun q => gg ((nI_eq (by omega) (by omega)).mp q))]
                by_cases g4 : i < j
                · rw [if_pos g4, if_pos (by omega), Int.add_zero]
                · rw [if_neg g4, if_neg (by omega), Int.add_zero]
            · intro g3 l hl
              show f_X4_setForm_97 K (f_X4_setForm_64 K f) (f_X4_setForm_76 K (f_X4_setForm_64 K f) g) (f_X4_setForm_85 K (f_X4_setForm_64 K f) (f_X4_setForm_76 K (f_X4_setForm_64 K f) g) g2) (g3 + 1) (nI t) (nI n) (lI (sgn n)) (nI (m + 1)) _ (nI i) (nI j) _ (nI l) w.2 = f_X4_setForm_97 K (f_X4_setForm_64 K f) (f_X4_setForm_76 K (f_X4_setForm_64 K f) g) (f_X4_setForm_85 K (f_X4_setForm_64 K f) (f_X4_setForm_76 K (f_X4_setForm_64 K f) g) g2) g3 (nI t) (nI n) (lI (sgn n)) (nI (m + 1)) _ (nI i) (nI j) _ (nI (l + 1)) w.2
              have tb := tri_b hA i l
              rw [f_X4_setForm_97, if_neg (nI_ge hl (by omega)), MT_get hM hi hl, Option.bind_some, e12, ix_nI (by omega) (by omega), if_pos rfl, nI_clamp (by omega), w3 14 _ (by omega), u1 l j hl hj (Or.inl hl), sI_l (by omega) (by omega), lI_mul, lI_add, nI_1]
              rfl
      · refine ⟨fun a b ha hb hab => ?_, fun q hq => ?_, z3⟩
        · rw [z1 a b ha hb hab, B_zero A ha hb]
        · have : q = 0 := by omega
          subst this
          rw [Nat.sub_zero, z2]
          unfold qc
          rw [dt_one, Int.mul_one]
    have put : ∀ v : Int64, v = lI (sgn n) → ∃ M', f_X4_setForm_64 K fu (nI t) (nI n) v 1 (wJ s 16 n v) = some M' ∧ (∀ k, k ≤ n → M' 16 k = lI (pol n A k)) ∧ pfr M M' := by
      intro v hv
      subst hv
      exact main _ (fun a b ha hb hab => by rw [wJ_off (by omega), st a b ha hb hab]) (wJ_here rfl rfl) (fun a b h1 h2 h3 => by rw [wJ_off (by omega), s2 a b h1 h2 h3])
    by_cases hev : n % 2 = 0
    · rw [if_pos (show nI (n % 2) = 0 by rw [hev]; rfl)]
      exact put 1 (by unfold sgn; rw [if_pos hev]; rfl)
    · rw [if_neg (show ¬ nI (n % 2) = 0 by rw [show n % 2 = 1 by omega]; decide)]
      exact put (-1) (by unfold sgn; rw [if_neg hev]; decide)
  · intro f k s _ hk ⟨s1, s2⟩
    left
    refine ⟨wJ s 14 k (lI (if k % 13 = 0 then 1 else 0)), ?_, fun q hq => ?_, fun a b h1 h2 h3 => by rw [wJ_off (by omega), s2 a b h1 h2 h3]⟩
    · show f_X4_setForm_9 K (f + 1) (nI t) (nI n) (nI k) s = f_X4_setForm_9 K f (nI t) (nI n) (nI (k + 1)) _
      rw [f_X4_setForm_9, if_neg (show ¬ (144 : Int32) ≤ nI k from nI_ge (b := 144) hk (by omega)), ix_nI hk (by omega), if_pos rfl, if_pos rfl, nI_clamp (by omega), show (13 : Int32) = nI 13 from rfl, pk_rem (by omega) (by omega) (by omega), nI_1]
      by_cases g : k % 13 = 0
      · rw [if_pos (show nI (k % 13) = 0 by rw [g]; rfl), if_pos g]
        rfl
      · rw [if_neg (nI_ne0 (by omega) (by omega)), if_neg g]
        rfl
    · by_cases g : q = k
      · rw [wJ_here rfl g, g]
      · rw [wJ_off (by omega), s1 q (by omega)]
theorem s_form : so_form RR := by
  intro I J K M h a1 a2
  rcases T_cases h a1 with ⟨e1, e2, e3⟩ | hT
  · refine ⟨-1, I, J, K, M, by simp only [f_X3_form, e1, if_true], ?_, h⟩
    by_cases g : 0 ≤ a2
    · simp only [f_X4_form, if_pos g, e3, Option.bind_some, if_neg v0m1]
    · simp only [f_X4_form, if_neg g]
  have e1' : f_X3_isTableNumber a1 = 1 := by
    rcases hT with ⟨t, ht, rfl, e1, _⟩ | ⟨t, n, A, k, ht, rfl, e1, _⟩ <;> exact e1
  by_cases g : 0 ≤ a2
  case neg => exact ⟨-1, I, J, K, M, by simp only [f_X3_form, e1', if_neg v10, if_neg g], by simp only [f_X4_form, if_neg g], h⟩
  case pos =>
    rcases hT with ⟨t, ht, rfl, e1, e2, e3, e4, e5, e6, e7⟩ | ⟨t, n, A, k, ht, rfl, e1, e2, e3, e4, e5, e6, e7, h0, hA, hX, hM, hK, k1, k2⟩
    · obtain ⟨I', K', y1, y2, h'⟩ := RR_found h 1 (by simp)
      refine ⟨-3, I', J, K', M, ?_, ?_, h'⟩
      · simp only [f_X3_form, e1, e3, e4, e5, y1, Option.bind_some, if_pos g, if_neg v10, if_true]
      · simp only [f_X4_form, e7, y2, Option.bind_some, if_pos g, if_neg v0m3]
    · have hn := hX.2.1
      have w1 : I (22 + 3 * t) 2 = nI n := hX.2.2.1
      have w2 : K 5 t = nI n := hM.2.2.1
      by_cases gn : a2 ≤ nI n
      · obtain ⟨k, hk, rfl⟩ : ∃ k, k ≤ n ∧ a2 = nI k := by
          obtain ⟨k, hk, rfl⟩ := nI_of (x := a2) (fun q => by rw [fa_lt] at q; rw [fa_le] at g; omega)
          rw [fa_le, nI_toInt hk, nI_toInt (by omega)] at gn
          exact ⟨k, by omega, rfl⟩
        obtain ⟨J', x1, x2, x3⟩ := X_tellOf hA hX h0 J
        obtain ⟨M', y1, y2, y3⟩ := M_setForm hA hM h0 M
        refine ⟨1, wI I 3 3 (nI n), wJ J' 0 10 (J' 4 k), K, wJ M' 0 3 (M' 16 k), ?_, ?_, ?_⟩
        · simp only [f_X3_form, e1, e3, e4, e5, w1, if_pos g, if_pos gn, x1, Option.bind_some, ix_nI (show k < 13 by omega) (show 13 < 2 ^ 31 by omega), nI_clamp (show k < 2 ^ 31 by omega), if_neg v10, if_true]
        · simp only [f_X4_form, e7, e3, e4, w2, if_pos g, if_pos gn, y1, Option.bind_some, ix_nI (show k < 13 by omega) (show 13 < 2 ^ 31 by omega), nI_clamp (show k < 2 ^ 31 by omega), if_pos v00, if_true]
        · refine RR_scr h (fun a b _ h3 _ => wI_off (by omega)) (fun _ _ _ _ => rfl) ⟨?_, ?_, ?_⟩
          · rw [wJ_here rfl rfl, wJ_here rfl rfl, x2 k hk, y2 k hk]
          · rw [wJ_off (by omega), wJ_off (by omega), x3 _ _ (by omega) (by omega) (by omega), y3 _ _ (by omega) (by omega) (by omega)]
            exact h.2.2.2.1.2.1
          · rw [wJ_off (by omega), wJ_off (by omega), x3 _ _ (by omega) (by omega) (by omega), y3 _ _ (by omega) (by omega) (by omega)]
            exact h.2.2.2.1.2.2
      · obtain ⟨I', K', y1, y2, h'⟩ := RR_found h 2 (by simp)
        refine ⟨-3, I', J, K', M, ?_, ?_, h'⟩
        · simp only [f_X3_form, e1, e3, e4, e5, w1, if_pos g, if_neg gn, y1, Option.bind_some, if_neg v10, if_true]
        · simp only [f_X4_form, e7, e3, e4, w2, if_pos g, if_neg gn, y2, Option.bind_some, if_pos v00, if_true]
