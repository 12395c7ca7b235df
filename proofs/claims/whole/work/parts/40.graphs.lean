-- ===== graphs =====
theorem G_cases {I K : zMi} {J M : zMl} (h : RR I J K M) (a : Int32) :
    (f_X3_isTableNumber a = 0 ∧ f_X4_askedGraph a K = some (-1, K))
    ∨ (∃ t, t < 10 ∧ a = nI t ∧ f_X3_isTableNumber (nI t) = 1 ∧ ix (nI t) 10 = true ∧ (nI t).toNatClampNeg = t ∧ ¬ f_X3_findingOfGraph t I = 0 ∧ ∃ I' K', f_X3_found (f_X3_findingOfGraph t I) I = some (-3, I') ∧ f_X4_askedGraph (nI t) K = some (-3, K') ∧ RR I' J K' M)
    ∨ (∃ t n A k, t < 10 ∧ a = nI t ∧ f_X3_isTableNumber (nI t) = 1 ∧ ix (nI t) 10 = true ∧ (nI t).toNatClampNeg = t ∧ f_X3_findingOfGraph t I = 0 ∧ f_X4_askedGraph (nI t) K = some (0, K) ∧ TOK I K t n A k ∧ GR A n) := by
  rcases T_cases h a with ⟨e1, e2, e3⟩ | ⟨t, ht, rfl, e1, e2, e3, e4, e5, e6, e7⟩ | ⟨t, n, A, k, ht, rfl, e1, e2, e3, e4, e5, e6, e7, hT⟩
  · left
    exact ⟨e1, by simp only [f_X4_askedGraph, e3, Option.bind_some, if_pos vm1]⟩
  · right; left
    obtain ⟨I', K', y1, y2, h'⟩ := RR_found h 1 (by simp)
    have f1 : f_X3_findingOfGraph t I = 1 := by simp only [f_X3_findingOfGraph, e5, if_neg v10]
    refine ⟨t, ht, rfl, e1, e3, e4, by rw [f1]; exact v10, I', K', by rw [f1]; exact y1, ?_, h'⟩
    simp only [f_X4_askedGraph, e7, y2, Option.bind_some, if_pos vm3]
  · right
    have hT' := hT
    obtain ⟨h0, hA, hX, hM, hK, k1, k2⟩ := hT
    obtain ⟨b, i1, i2, i3⟩ := is_eq (I := I) (K := K) ht k1 k2 (KD_le hK) (a := 3) (by omega) (by omega)
    have i1' : f_X2_isOfKind t 3 I = bI b := i1
    have i2' : f_X4_is (nI t) 3 K = some (bI b) := i2
    cases b
    · left
      obtain ⟨I', K', y1, y2, h'⟩ := RR_found h 3 (by simp)
      have f1 : f_X3_findingOfGraph t I = 3 := by simp only [f_X3_findingOfGraph, e5, i1', bI_f, if_true]
      refine ⟨t, ht, rfl, e1, e3, e4, by rw [f1]; decide, I', K', by rw [f1]; exact y1, ?_, h'⟩
      simp only [f_X4_askedGraph, e7, i2', bI_f, y2, Option.bind_some, if_neg v0n, if_true]
    · right
      refine ⟨t, n, A, k, ht, rfl, e1, e3, e4, ?_, ?_, hT', KD_graph hK ?_⟩
      · simp only [f_X3_findingOfGraph, e5, i1', bI_t, if_true, if_neg v10]
      · simp only [f_X4_askedGraph, e7, i2', bI_t, Option.bind_some, if_neg v0n, if_neg v10]
      · have := i3.mp rfl
        omega
def nsB (A : Nat → Nat → Int) (x i b : Nat) : Bool := mn A i b ^^ (x.testBit i ^^ x.testBit b)
theorem comp_bits {n x : Nat} (hn : n ≤ 12) : (2 ^ n - 1) &&& (x ^^^ (2 ^ 32 - 1)) = bs (fun b => !x.testBit b) n := by
  apply Nat.eq_of_testBit_eq
  intro i
  rw [Nat.testBit_and, Nat.testBit_xor, Nat.testBit_two_pow_sub_one, Nat.testBit_two_pow_sub_one, bs_tb]
  by_cases g : i < n
  · have : i < 32 := by omega
    simp [g, this]
  · simp [g]
theorem bs_but {n k : Nat} (hk : k < n) : 2 ^ n - 1 - 2 ^ k = bs (fun j => !decide (j = k)) n := by
  have key : ∀ m, bs (fun j => !decide (j = k)) m + (if k < m then 2 ^ k else 0) = bs (fun _ => true) m := by
    intro m
    induction m with
    | zero => simp [bs]
    | succ m ih =>
      simp only [bs]
      rcases Nat.lt_trichotomy m k with g | g | g
      · have g1 : ¬ k < m := by omega
        have g2 : ¬ k < m + 1 := by omega
        have g3 : ¬ m = k := by omega
        simp only [g1, g2, if_false] at ih ⊢
        simp [g3]
        omega
      · subst g
        simp at ih ⊢
        omega
      · have g2 : k < m + 1 := by omega
        have g3 : ¬ m = k := by omega
        simp only [g, g2, if_true] at ih ⊢
        simp [g3]
        omega
  have := key n
  rw [if_pos hk, bs_true] at this
  rw [← this, Nat.add_sub_cancel]
theorem X_ns {I : zMi} {T n : Nat} {A : Nat → Nat → Int} (h : XT I T n A) {i x : Nat} (hi : i < n) (hx : x < 2 ^ n) : f_X2_neighboursSwitched T (nI i) (nI x) I = some (nI (bs (nsB A x i) n)) := by
  obtain ⟨h1, h2, h3, h4⟩ := h
  have hp := p12 h2
  unfold f_X2_neighboursSwitched
  rw [bit_nI (by omega) (by omega), ix_nI (by omega) (by omega), nI_clamp (by omega), (h4 i hi).2, h3, allBits_nI (by omega), xor_m1, fa_and, fb_xorI, fb_xorI, comp_bits h2, bs_xor]
  have hs : x = bs (fun b => x.testBit b) n := (bs_self hx).symm
  cases hb : x.testBit i
  · rw [if_neg (by decide), if_pos rfl]
    have : bs (mn A i) n ^^^ x = bs (nsB A x i) n := by
      have e : bs (mn A i) n ^^^ x = bs (mn A i) n ^^^ bs (fun b => x.testBit b) n := by rw [← hs]
      rw [e, bs_xor]
      exact bs_cong (fun b _ => by simp [nsB, hb])
    rw [this]
  · rw [if_pos (show nI (if true = true then 1 else 0) = 1 from rfl), if_pos rfl]
    have : bs (fun j => mn A i j ^^ !x.testBit j) n = bs (nsB A x i) n := bs_cong (fun b _ => by simp [nsB, hb])
    rw [this]
theorem ns_A {A : Nat → Nat → Int} (hA : tri A) {n : Nat} (hG : GR A n) (x : Nat) {i b : Nat} (hi : i < n) (hb : b < n) : mn (tnR (tnC A (fun b => x.testBit b)) (fun a => x.testBit a)) i b = nsB A x i b ∧ pl (tnR (tnC A (fun b => x.testBit b)) (fun a => x.testBit a)) i b = (!decide (b = i) && !nsB A x i b) := by
  by_cases g : i = b
  · subst g
    have z := (hG i i hi hi).1 rfl
    cases h1 : x.testBit i <;> simp [mn, pl, nsB, tnR, tnC, ng, z, h1]
  · have z := ((hG i b hi hb).2 g).1
    have g' : ¬ b = i := fun q => g q.symm
    rcases hA i b with e | e | e
    · cases h1 : x.testBit i <;> cases h2 : x.testBit b <;> simp [mn, pl, nsB, tnR, tnC, ng, e, h1, h2, g']
    · exact absurd e z
    · cases h1 : x.testBit i <;> cases h2 : x.testBit b <;> simp [mn, pl, nsB, tnR, tnC, ng, e, h1, h2, g']
theorem s_switched : so_switched RR := by
  intro I J K M h a1 a2
  rcases G_cases h a1 with ⟨e1, e2⟩ | ⟨t, ht, rfl, e1, e3, e4, e5, I', K', y1, y2, h'⟩ | ⟨t, n, A, k, ht, rfl, e1, e3, e4, e5, e6, ⟨h0, hA, hX, hM, hK, k1, k2⟩, hG⟩
  · exact ⟨-1, I, K, by simp only [f_X3_switched, e1, if_true], by simp only [f_X4_switched, e2, Option.bind_some, if_neg v0m1], h⟩
  · refine ⟨-3, I', K', ?_, ?_, h'⟩
    · simp only [f_X3_switched, e1, e3, e4, if_neg e5, y1, Option.bind_some, if_neg v10, if_true]
    · simp only [f_X4_switched, y2, Option.bind_some, if_neg v0m3]
  · have hn := hX.2.1
    have hp := p12 hn
    rcases set_cases hX.2.2.1 hM.2.2.1 ht hn a2 with ⟨b1, b2⟩ | ⟨x, hx, rfl, b1, b2⟩
    · obtain ⟨I', K', y1, y2, h'⟩ := RR_found h 2 (by simp)
      refine ⟨-3, I', K', ?_, ?_, h'⟩
      · simp only [f_X3_switched, e1, e3, e4, e5, b1, y1, Option.bind_some, if_neg v10, if_true]
      · simp only [f_X4_switched, e6, b2, y2, Option.bind_some, if_pos v00, if_true]
    · have cls : ∃ I', f_X2_switchBy t (nI x) I = some I' ∧ XT I' t n (tnR (tnC A (fun b => x.testBit b)) (fun a => x.testBit a)) ∧ ∀ a b, a ≠ 23 + 3 * t → a ≠ 24 + 3 * t → I' a b = I a b := by
        obtain ⟨h1, h2, h3, h4⟩ := hX
        unfold f_X2_switchBy
        refine lp (fun f i I => f_X2_switchBy_2 f t (nI x) i I) n 0 (by omega) (by rw [fu_val]; omega) (fun k I' => (∀ i, i < k → I' (23 + 3 * t) i = nI (bs (pl (tnR (tnC A (fun b => x.testBit b)) (fun a => x.testBit a)) i) n) ∧ I' (24 + 3 * t) i = nI (bs (mn (tnR (tnC A (fun b => x.testBit b)) (fun a => x.testBit a)) i) n)) ∧ (∀ i, k ≤ i → i < n → I' (23 + 3 * t) i = I (23 + 3 * t) i ∧ I' (24 + 3 * t) i = I (24 + 3 * t) i) ∧ ∀ a b, a ≠ 23 + 3 * t → a ≠ 24 + 3 * t → I' a b = I a b) (fun res => ∃ I', res = some I' ∧ XT I' t n (tnR (tnC A (fun b => x.testBit b)) (fun a => x.testBit a)) ∧ ∀ a b, a ≠ 23 + 3 * t → a ≠ 24 + 3 * t → I' a b = I a b) ?_ ?_ _ ?_
        · intro f s ⟨s1, _, s2⟩
          refine ⟨s, ?_, ⟨h1, h2, by rw [s2 _ _ (by omega) (by omega), h3], s1⟩, s2⟩
          show f_X2_switchBy_2 (f + 1) t (nI x) (nI n) s = _
          rw [f_X2_switchBy_2, s2 _ _ (by omega) (by omega), h3, if_pos (nI_le (Nat.le_refl _) (by omega))]
        · intro f k s _ hk ⟨s1, s3, s2⟩
          left
          have ns : f_X2_neighboursSwitched t (nI k) (nI x) s = some (nI (bs (nsB A x k) n)) := by
            have o : f_X2_neighboursSwitched t (nI k) (nI x) s = f_X2_neighboursSwitched t (nI k) (nI x) I := by
              unfold f_X2_neighboursSwitched
              rw [nI_clamp (show k < 2 ^ 31 by omega), (s3 k (Nat.le_refl _) hk).2, s2 _ _ (by omega) (by omega)]
            rw [o]
            exact X_ns ⟨h1, h2, h3, h4⟩ hk hx
          have pv : (nI (2 ^ n - 1) - ((1 : Int32) <<< (nI k &&& 31))) &&& (nI (bs (nsB A x k) n) ^^^ (-1)) = nI (bs (pl (tnR (tnC A (fun b => x.testBit b)) (fun a => x.testBit a)) k) n) := by
            have h5 : 2 ^ k < 2 ^ n := Nat.pow_lt_pow_right (by omega) hk
            have e := bs_but hk
            rw [one_shl (by omega), pk_sub (by omega), e, xor_m1, fa_and]
            congr 1
            apply Nat.eq_of_testBit_eq
            intro j
            rw [Nat.testBit_and, Nat.testBit_xor, bs_tb, bs_tb, bs_tb, Nat.testBit_two_pow_sub_one]
            by_cases g : j < n
            · have g32 : j < 32 := by omega
              rw [(ns_A hA hG x hk g).2]
              simp [g, g32]
            · simp [g]
          refine ⟨wI (wI s (24 + 3 * t) k (nI (bs (nsB A x k) n))) (23 + 3 * t) k (nI (bs (pl (tnR (tnC A (fun b => x.testBit b)) (fun a => x.testBit a)) k) n)), ?_, fun i hi => ?_, fun i hi1 hi2 => ?_, fun a b ha hb => by rw [wI_off (by omega), wI_off (by omega), s2 a b ha hb]⟩
          · show f_X2_switchBy_2 (f + 1) t (nI x) (nI k) s = f_X2_switchBy_2 f t (nI x) (nI (k + 1)) _
            rw [f_X2_switchBy_2, s2 (22 + 3 * t) 2 (by omega) (by omega), h3, if_neg (nI_ge hk (by omega)), ns, Option.bind_some, ix_nI (by omega) (by omega), if_pos rfl, nI_clamp (by omega), nI_1, wI_off (a := 22 + 3 * t) (by omega), s2 (22 + 3 * t) 2 (by omega) (by omega), h3, wI_here rfl rfl, allBits_nI (by omega), pv]
          · by_cases g : i = k
            · subst g
              rw [wI_here rfl rfl, wI_off (by omega), wI_here rfl rfl]
              exact ⟨rfl, congrArg nI (bs_cong (fun b hb => (ns_A hA hG x hk hb).1.symm))⟩
            · rw [wI_off (by omega), wI_off (by omega), wI_off (by omega), wI_off (by omega)]
              exact s1 i (by omega)
          · rw [wI_off (by omega), wI_off (by omega), wI_off (by omega), wI_off (by omega)]
            exact s3 i (by omega) hi2
        · exact ⟨fun i hi => by omega, fun _ _ _ => ⟨rfl, rfl⟩, fun _ _ _ _ => rfl⟩
      have mod : ∃ K', f_X4_switched_30 fu (nI t) (nI x) 0 K = (f_X4_setKind (nI t) K').bind (fun x3 => some (x3.1, x3.2)) ∧ MT K' t n (tnk A (fun a => x.testBit a) (fun b => x.testBit b) n) ∧ mfr t K K' := by
        refine lp (fun f j K => f_X4_switched_30 f (nI t) (nI x) j K) n 0 (by omega) (by rw [fu_val]; omega) (fun k K' => MT K' t n (tnk A (fun a => x.testBit a) (fun b => x.testBit b) k) ∧ mfr t K K') (fun res => ∃ K', res = (f_X4_setKind (nI t) K').bind (fun x3 => some (x3.1, x3.2)) ∧ MT K' t n (tnk A (fun a => x.testBit a) (fun b => x.testBit b) n) ∧ mfr t K K') ?_ ?_ _ ?_
        · intro f s ⟨s1, s2⟩
          refine ⟨s, ?_, s1, s2⟩
          show f_X4_switched_30 (f + 1) (nI t) (nI x) (nI n) s = _
          rw [f_X4_switched_30, M_ix s1, if_pos rfl, M_w s1, if_pos (nI_le (Nat.le_refl _) (by omega))]
        · intro f k s _ hk ⟨s1, s2⟩
          left
          show ∃ s', f_X4_switched_30 (f + 1) (nI t) (nI x) (nI k) s = f_X4_switched_30 f (nI t) (nI x) (nI (k + 1)) s' ∧ _
          rw [f_X4_switched_30, M_ix s1, if_pos rfl, M_w s1, if_neg (nI_ge hk (by omega)), bit_nI (by omega) (by omega), nI_1, tnk_step]
          have q1 := MT_n0 s1 (x.testBit k) hk
          by_cases bx : x.testBit k = true
          · obtain ⟨s', r1, r2, r3⟩ := q1.1 bx
            have q2 := MT_n0 r2 (x.testBit k) hk
            obtain ⟨s'', u1, u2, u3⟩ := q2.2.2.1 bx
            simp only [bx, if_true, show nI 1 = (1 : Int32) from rfl, r1, u1, Option.bind_some]
            refine ⟨s'', rfl, ?_, mfr_trans s2 (mfr_trans r3 u3)⟩
            simpa [bx] using u2
          · have bx2 : x.testBit k = false := by simpa using bx
            have q2 := MT_n0 (q1.2.1 bx2) (x.testBit k) hk
            simp only [bx2]
            rw [if_neg (by decide)]
            refine ⟨s, rfl, ?_, s2⟩
            have := q2.2.2.2 bx2
            simpa [bx2] using this
        · exact ⟨MT_congA hM (fun a b _ _ => by simp [tnk, ng]), fun _ _ _ => rfl⟩
      obtain ⟨I', x1, x2, x3⟩ := cls
      obtain ⟨K', m1, m2, m3⟩ := mod
      have eqA : ∀ a b, a < n → b < n → tnk A (fun a => x.testBit a) (fun b => x.testBit b) n a b = tnR (tnC A (fun b => x.testBit b)) (fun a => x.testBit a) a b := fun a b ha hb => by simp [tnk, tnR, tnC, ha, hb]
      obtain ⟨k, I'', K'', z1, z2, z3⟩ := fin_tab h ht h0 (tri_R (tri_C hA _) _) x2 (MT_congA m2 eqA) (fun a b _ _ _ q1 q2 q3 => x3 a b q2 q3) (fun a b _ _ q1 q2 q3 => m3 a b q3)
      refine ⟨k, I'', K'', ?_, ?_, z3⟩
      · simp only [f_X3_switched, e1, e3, e4, e5, b1, x1, z1, Option.bind_some, if_neg v10, if_true]
      · simp only [f_X4_switched, e6, b2, m1, z2, Option.bind_some, if_pos v00, if_neg v10]
