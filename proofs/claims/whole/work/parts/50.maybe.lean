-- ===== mayBeLike =====
theorem X_haveOne {I : zMi} {T U n k : Nat} {A B : Nat → Nat → Int} (hX : XT I T n A) (hY : XT I U n B) (hk : k ≤ 12) : ∃ I' b, f_X3_haveOneProfile T U (nI k) I = some (bI b, I') ∧ (b = true ↔ ∀ c, c < 13 → pf A n k c (2 ^ n) = pf B n k c (2 ^ n)) ∧ ∀ a b, a ≠ 7 → I' a b = I a b := by
  have hn := hX.2.1
  have hp := p12 hn
  obtain ⟨Ia, x1, x2, x3⟩ := X_clearTally I
  have mv : ∀ {s : zMi} {V : Nat} {C : Nat → Nat → Int}, XT I V n C → (∀ a b, a ≠ 7 → s a b = I a b) → XT s V n C := fun h hs => XT_cong (hs _ _ (by omega)) (fun b => hs _ _ (by omega)) (fun b => hs _ _ (by omega)) h
  obtain ⟨Ib, y1, y2, y3⟩ := X_addProfile (mv hX x3) (k := k) hk (fun _ => 0) 1 (fun c hc => by rw [x2 c hc]; rfl)
  have f2 : ∀ a b, a ≠ 7 → Ib a b = I a b := fun a b h => by rw [y3 a b h, x3 a b h]
  obtain ⟨Ic, z1, z2, z3⟩ := X_addProfile (mv hY f2) (k := k) hk (fun c => 0 + 1 * (pf A n k c (2 ^ n) : Int)) (-1) y2
  have f3 : ∀ a b, a ≠ 7 → Ic a b = I a b := fun a b h => by rw [z3 a b h, f2 a b h]
  have y1' : f_X2_addProfile T (nI k) 1 Ia = some Ib := y1
  have z1' : f_X2_addProfile U (nI k) (-1) Ib = some Ic := by
    rw [show (-1 : Int32) = sI (-1) from by decide]
    exact z1
  have zz : ∀ c, c < 13 → (Ic 7 c = 0 ↔ pf A n k c (2 ^ n) = pf B n k c (2 ^ n)) := by
    intro c hc
    have l1 := pf_le A n k c (2 ^ n)
    have l2 := pf_le B n k c (2 ^ n)
    rw [z2 c hc, show (0 : Int32) = sI 0 from rfl, sI_eq (by omega) (by omega)]
    omega
  unfold f_X3_haveOneProfile
  rw [x1, Option.bind_some, y1', Option.bind_some, z1', Option.bind_some]
  have := up_all (fun f i (_ : Unit) => f_X3_haveOneProfile_27 f i Ic) 13 (fun _ => ()) (some (1, Ic)) (some (0, Ic)) (fun c => pf A n k c (2 ^ n) = pf B n k c (2 ^ n)) 0 (by omega) (by rw [fu_val]; omega)
    (fun _ f => by
      show f_X3_haveOneProfile_27 (f + 1) (nI 13) Ic = _
      rw [f_X3_haveOneProfile_27, if_pos (show (13 : Int32) ≤ nI 13 from nI_le (Nat.le_refl 13) (by omega))])
    (fun f c _ hc hp => by
      show f_X3_haveOneProfile_27 (f + 1) (nI c) Ic = f_X3_haveOneProfile_27 f (nI (c + 1)) Ic
      rw [f_X3_haveOneProfile_27, if_neg (show ¬ (13 : Int32) ≤ nI c from nI_ge (b := 13) hc (by omega)), ix_nI hc (by omega), if_pos rfl, nI_clamp (by omega), if_pos ((zz c hc).mpr hp), nI_1])
    (fun f c _ hc hp => by
      show f_X3_haveOneProfile_27 (f + 1) (nI c) Ic = _
      rw [f_X3_haveOneProfile_27, if_neg (show ¬ (13 : Int32) ≤ nI c from nI_ge (b := 13) hc (by omega)), ix_nI hc (by omega), if_pos rfl, nI_clamp (by omega), if_neg (fun q => hp ((zz c hc).mp q))])
  rcases this with ⟨e, hp⟩ | ⟨e, c, _, hc, hp⟩
  · exact ⟨Ic, true, e, ⟨fun _ c hc => hp c (by omega) hc, fun _ => rfl⟩, f3⟩
  · exact ⟨Ic, false, e, ⟨fun q => by simp at q, fun q => absurd (q c hc) hp⟩, f3⟩
def hit (A : Nat → Nat → Int) (n q x : Nat) : Bool := (decide (pc x = 2) || decide (pc x = 4)) && (decide (q = 13 * (pc x - 2) + cmN A n x) || decide (q = 39 + 13 * (pc x - 2) + cmN (At A) n x))
def opN (A : Nat → Nat → Int) (n q m : Nat) : Nat := fb_ct (hit A n q) m
theorem op_reg (A : Nat → Nat → Int) {n : Nat} (hn : n ≤ 12) (q m : Nat) : (q < 13 → opN A n q m = pf A n 2 q m) ∧ (13 ≤ q → q < 26 → opN A n q m = 0) ∧ (26 ≤ q → q < 39 → opN A n q m = pf A n 4 (q - 26) m) ∧ (39 ≤ q → q < 52 → opN A n q m = pf (At A) n 2 (q - 39) m) ∧ (52 ≤ q → q < 65 → opN A n q m = 0) ∧ (65 ≤ q → q < 78 → opN A n q m = pf (At A) n 4 (q - 65) m) := by
  have b1 := fun x => cmN_le A n x
  have b2 := fun x => cmN_le (At A) n x
  have eqb : ∀ (k : Nat) (B : Nat → Nat → Int) (c : Nat), (∀ x, (((pc x = 2 ∨ pc x = 4) ∧ (q = 13 * (pc x - 2) + cmN A n x ∨ q = 39 + 13 * (pc x - 2) + cmN (At A) n x)) ↔ (pc x = k ∧ cmN B n x = c))) → opN A n q m = pf B n k c m := by
    intro k B c hh
    refine fb_ct_cong (fun x _ => ?_)
    unfold hit
    rw [Bool.eq_iff_iff]
    simp only [Bool.and_eq_true, Bool.or_eq_true, decide_eq_true_iff]
    exact hh x
  have eq0 : (∀ x, ¬ ((pc x = 2 ∨ pc x = 4) ∧ (q = 13 * (pc x - 2) + cmN A n x ∨ q = 39 + 13 * (pc x - 2) + cmN (At A) n x))) → opN A n q m = 0 := by
    intro hh
    refine fb_ct_zero.mpr (fun x _ => ?_)
    cases hb : hit A n q x
    · rfl
    · exfalso
      unfold hit at hb
      simp only [Bool.and_eq_true, Bool.or_eq_true, decide_eq_true_iff] at hb
      exact hh x hb
  refine ⟨fun h => eqb 2 A q (fun x => ?_), fun h1 h2 => eq0 (fun x => ?_), fun h1 h2 => eqb 4 A _ (fun x => ?_), fun h1 h2 => eqb 2 (At A) _ (fun x => ?_), fun h1 h2 => eq0 (fun x => ?_), fun h1 h2 => eqb 4 (At A) _ (fun x => ?_)⟩ <;> have := b1 x <;> have := b2 x <;> omega
theorem M_setProfile {K : zMi} {t n : Nat} {A : Nat → Nat → Int} (hA : tri A) (hS : SG A n) (hM : MT K t n A) : ∃ K', f_X4_setProfile (nI t) K = some K' ∧ (∀ q, q < 78 → K' 11 q = nI (opN A n q (2 ^ n))) ∧ ∀ a b, a ≠ 11 → K' a b = K a b := by
  have hn := hM.2.1
  have hp := p12 hn
  unfold f_X4_setProfile
  refine lp (fun f i K => f_X4_setProfile_2 f (nI t) i K) 78 0 (by omega) (by rw [fu_val]; omega) (fun k K' => (∀ q, q < k → K' 11 q = 0) ∧ ∀ a b, a ≠ 11 → K' a b = K a b) (fun res => ∃ K', res = some K' ∧ (∀ q, q < 78 → K' 11 q = nI (opN A n q (2 ^ n))) ∧ ∀ a b, a ≠ 11 → K' a b = K a b) ?_ ?_ _ ?_
  · intro f s ⟨s1, s2⟩
    show ∃ K', f_X4_setProfile_2 (f + 1) (nI t) (nI 78) s = some K' ∧ _
    rw [f_X4_setProfile_2, if_pos (show (78 : Int32) ≤ nI 78 from nI_le (Nat.le_refl 78) (by omega))]
    refine lp (fun f i K => f_X4_setProfile_23 f (nI t) i K) (2 ^ n) 0 (Nat.zero_le _) (by rw [fu_val]; omega) (fun m K' => (∀ q, q < 78 → K' 11 q = nI (opN A n q m)) ∧ ∀ a b, a ≠ 11 → K' a b = K a b) (fun res => ∃ K', res = some K' ∧ (∀ q, q < 78 → K' 11 q = nI (opN A n q (2 ^ n))) ∧ ∀ a b, a ≠ 11 → K' a b = K a b) ?_ ?_ _ ?_
    · intro f s ⟨u1, u2⟩
      have o : MT s t n A := MT_cong (u2 _ _ (by omega)) (fun q _ => u2 _ _ (by omega)) hM
      refine ⟨s, ?_, u1, u2⟩
      show f_X4_setProfile_23 (f + 1) (nI t) (nI (2 ^ n)) s = _
      rw [f_X4_setProfile_23, M_ix o, if_pos rfl, M_w o, one_shl (by omega), if_pos (nI_le (Nat.le_refl _) (by omega))]
    · intro f x s _ hx ⟨u1, u2⟩
      left
      have o : MT s t n A := MT_cong (u2 _ _ (by omega)) (fun q _ => u2 _ _ (by omega)) hM
      have hx12 : x < 2 ^ 12 := Nat.lt_of_lt_of_le hx (Nat.pow_le_pow_right (by omega) hn)
      have pcl : pc x ≤ 12 := fb_ct_le _ 12
      have mb : f_X4_bits (nI x) = some (nI (pc x)) := M_bits hx12
      show ∃ s', f_X4_setProfile_23 (f + 1) (nI t) (nI x) s = f_X4_setProfile_23 f (nI t) (nI (x + 1)) s' ∧ _
      rw [f_X4_setProfile_23, M_ix o, if_pos rfl, M_w o, one_shl (by omega), if_neg (nI_ge hx (by omega)), mb, Option.bind_some]
      by_cases g : pc x = 2 ∨ pc x = 4
      · have c1 := cmN_le A n x
        have c2 := cmN_le (At A) n x
        have s50 : ∃ s', f_X4_setProfile_50 (f_X4_setProfile_23 f) (nI t) (nI x) (nI (pc x)) s = f_X4_setProfile_23 f (nI t) (nI (x + 1)) s' ∧ (∀ q, q < 78 → s' 11 q = nI (opN A n q (x + 1))) ∧ ∀ a b, a ≠ 11 → s' a b = K a b := by
          unfold f_X4_setProfile_50
          have cs1 : f_X4_commonSum (nI t) (nI x) 0 s = some (nI (cmN A n x)) := M_commonSum hA hS o (x := x) (by omega) false
          have e1 : 13 * (nI (pc x) - 2) + nI (cmN A n x) = nI (13 * (pc x - 2) + cmN A n x) := by
            rw [show (2 : Int32) = nI 2 from rfl, pk_sub (by omega), show (13 : Int32) = nI 13 from rfl, pk_mul, nI_add]
          have e3 : 39 + 13 * (nI (pc x) - 2) + nI (cmN (At A) n x) = nI (39 + 13 * (pc x - 2) + cmN (At A) n x) := by
            rw [show (2 : Int32) = nI 2 from rfl, pk_sub (by omega), show (13 : Int32) = nI 13 from rfl, show (39 : Int32) = nI 39 from rfl, pk_mul, nI_add, nI_add]
          rw [cs1, Option.bind_some, e1, ix_nI (by omega) (by omega), if_pos rfl, nI_clamp (by omega)]
          have o2 : MT (wI s 11 (13 * (pc x - 2) + cmN A n x) (s 11 (13 * (pc x - 2) + cmN A n x) + 1)) t n A := MT_cong (by rw [wI_off (by omega)]) (fun q _ => by rw [wI_off (by omega)]) o
          have cs2 := M_commonSum hA hS o2 (x := x) (by omega) true
          rw [show f_X4_commonSum (nI t) (nI x) 1 (wI s 11 (13 * (pc x - 2) + cmN A n x) (s 11 (13 * (pc x - 2) + cmN A n x) + 1)) = some (nI (cmN (At A) n x)) from cs2, Option.bind_some, e3, ix_nI (by omega) (by omega), if_pos rfl, nI_clamp (by omega), nI_1 x, wI_off (a := 11) (b := 39 + 13 * (pc x - 2) + cmN (At A) n x) (by omega)]
          refine ⟨_, rfl, fun q hq => ?_, fun a b ha => by rw [wI_off (by omega), wI_off (by omega), u2 a b ha]⟩
          have hs : opN A n q (x + 1) = opN A n q x + (if hit A n q x = true then 1 else 0) := rfl
          rw [hs]
          have hh : hit A n q x = true ↔ (q = 13 * (pc x - 2) + cmN A n x ∨ q = 39 + 13 * (pc x - 2) + cmN (At A) n x) := by
            unfold hit
            simp only [Bool.and_eq_true, Bool.or_eq_true, decide_eq_true_iff, g, true_and]
          by_cases q3 : q = 39 + 13 * (pc x - 2) + cmN (At A) n x
          · rw [wI_here rfl q3, ← q3, u1 q hq, nI_1, if_pos (hh.mpr (Or.inr q3))]
          · rw [wI_off (fun _ w => q3 w)]
            by_cases q1 : q = 13 * (pc x - 2) + cmN A n x
            · rw [wI_here rfl q1, ← q1, u1 q hq, nI_1, if_pos (hh.mpr (Or.inl q1))]
            · rw [wI_off (fun _ w => q1 w), u1 q hq, if_neg (fun w => (hh.mp w).elim q1 q3)]
              rfl
        rcases g with g | g
        · rw [if_pos (show nI (pc x) = 2 by rw [g]; rfl)]
          exact s50
        · rw [if_neg (show ¬ nI (pc x) = 2 by rw [g]; decide), if_pos (show nI (pc x) = 4 by rw [g]; rfl)]
          exact s50
      · have n2 : ¬ nI (pc x) = 2 := fun w => g (Or.inl ((nI_eq (a := pc x) (b := 2) (by omega) (by omega)).mp w))
        have n4 : ¬ nI (pc x) = 4 := fun w => g (Or.inr ((nI_eq (a := pc x) (b := 4) (by omega) (by omega)).mp w))
        rw [if_neg n2, if_neg n4, nI_1]
        refine ⟨s, rfl, fun q hq => ?_, u2⟩
        have hs : opN A n q (x + 1) = opN A n q x + (if hit A n q x = true then 1 else 0) := rfl
        rw [hs, u1 q hq, if_neg]
        · rfl
        · unfold hit
          simp only [Bool.and_eq_true, Bool.or_eq_true, decide_eq_true_iff]
          exact fun w => g w.1
    · exact ⟨fun q hq => by rw [s1 q hq]; rfl, s2⟩
  · intro f k s _ hk ⟨s1, s2⟩
    left
    refine ⟨wI s 11 k 0, ?_, fun q hq => ?_, fun a b ha => by rw [wI_off (by omega), s2 a b ha]⟩
    · show f_X4_setProfile_2 (f + 1) (nI t) (nI k) s = f_X4_setProfile_2 f (nI t) (nI (k + 1)) _
      rw [f_X4_setProfile_2, if_neg (show ¬ (78 : Int32) ≤ nI k from nI_ge (b := 78) hk (by omega)), ix_nI hk (by omega), if_pos rfl, nI_clamp (by omega), nI_1]
    · by_cases g : q = k
      · rw [wI_here rfl g]
      · rw [wI_off (by omega), s1 q (by omega)]
  · exact ⟨fun q hq => by omega, fun _ _ _ => rfl⟩
theorem opN_le (A : Nat → Nat → Int) (n q m : Nat) : opN A n q m ≤ m := fb_ct_le _ m
theorem M_may {K : zMi} {t u n : Nat} {A B : Nat → Nat → Int} (hA : tri A) (hS : SG A n) (hM : MT K t n A) (hB : tri B) (hT : SG B n) (hN : MT K u n B) : ∃ K', (f_X4_setProfile (nI t) K).bind (fun x3 => f_X4_mayBeLike_21 fu (nI u) 0 x3) = some (bI (alB (fun q => decide (opN A n q (2 ^ n) = opN B n q (2 ^ n))) 78), K') ∧ ∀ a b, a < 8 → a ≠ 4 → K' a b = K a b := by
  have hn := hM.2.1
  have hp := p12 hn
  obtain ⟨Ka, x1, x2, x3⟩ := M_setProfile hA hS hM
  rw [x1, Option.bind_some]
  refine lp (fun f i K => f_X4_mayBeLike_21 f (nI u) i K) 78 0 (by omega) (by rw [fu_val]; omega) (fun k K' => (∀ q, q < k → K' 12 q = nI (opN A n q (2 ^ n))) ∧ ∀ a b, a ≠ 12 → K' a b = Ka a b) (fun res => ∃ K', res = some (bI (alB (fun q => decide (opN A n q (2 ^ n) = opN B n q (2 ^ n))) 78), K') ∧ ∀ a b, a < 8 → a ≠ 4 → K' a b = K a b) ?_ ?_ _ ?_
  · intro f s ⟨s1, s2⟩
    show ∃ K', f_X4_mayBeLike_21 (f + 1) (nI u) (nI 78) s = some (_, K') ∧ _
    have o : MT s u n B := MT_cong (by rw [s2 _ _ (by omega), x3 _ _ (by omega)]) (fun q _ => by rw [s2 _ _ (by omega), x3 _ _ (by omega)]) hN
    obtain ⟨Kb, y1, y2, y3⟩ := M_setProfile hB hT o
    rw [f_X4_mayBeLike_21, if_pos (show (78 : Int32) ≤ nI 78 from nI_le (Nat.le_refl 78) (by omega)), y1, Option.bind_some]
    refine ⟨Kb, ?_, fun a b h1 h2 => by rw [y3 a b (by omega), s2 a b (by omega), x3 a b (by omega)]⟩
    refine up0 (fun f q (a : Int32) => f_X4_mayBeLike_59 f a q Kb) 78 (by rw [fu_val]; omega) (fun k => bI (alB (fun q => decide (opN A n q (2 ^ n) = opN B n q (2 ^ n))) k)) _ ?_ ?_
    · intro f
      show f_X4_mayBeLike_59 (f + 1) _ (nI 78) Kb = _
      rw [f_X4_mayBeLike_59, if_pos (show (78 : Int32) ≤ nI 78 from nI_le (Nat.le_refl 78) (by omega))]
      cases alB (fun q => decide (opN A n q (2 ^ n) = opN B n q (2 ^ n))) 78 <;> rfl
    · intro f k hk
      show f_X4_mayBeLike_59 (f + 1) (bI _) (nI k) Kb = f_X4_mayBeLike_59 f (bI _) (nI (k + 1)) Kb
      have l1 := opN_le A n k (2 ^ n)
      have l2 := opN_le B n k (2 ^ n)
      rw [f_X4_mayBeLike_59, if_neg (show ¬ (78 : Int32) ≤ nI k from nI_ge (b := 78) hk (by omega)), ix_nI hk (by omega), if_pos rfl, nI_clamp (by omega), y3 12 k (by omega), s1 k hk, y2 k hk, nI_1]
      simp only [alB]
      have e : nI (opN A n k (2 ^ n)) = nI (opN B n k (2 ^ n)) ↔ opN A n k (2 ^ n) = opN B n k (2 ^ n) := nI_eq (by omega) (by omega)
      by_cases g : opN A n k (2 ^ n) = opN B n k (2 ^ n)
      · rw [if_pos (e.mpr g), decide_eq_true g]
        cases alB (fun q => decide (opN A n q (2 ^ n) = opN B n q (2 ^ n))) k <;> rfl
      · rw [if_neg (fun w => g (e.mp w)), decide_eq_false g]
        cases alB (fun q => decide (opN A n q (2 ^ n) = opN B n q (2 ^ n))) k <;> rfl
  · intro f k s _ hk ⟨s1, s2⟩
    left
    refine ⟨wI s 12 k (nI (opN A n k (2 ^ n))), ?_, fun q hq => ?_, fun a b ha => by rw [wI_off (by omega), s2 a b ha]⟩
    · show f_X4_mayBeLike_21 (f + 1) (nI u) (nI k) s = f_X4_mayBeLike_21 f (nI u) (nI (k + 1)) _
      rw [f_X4_mayBeLike_21, if_neg (show ¬ (78 : Int32) ≤ nI k from nI_ge (b := 78) hk (by omega)), ix_nI hk (by omega), if_pos rfl, nI_clamp (by omega), s2 _ _ (by omega), x2 k hk, nI_1]
    · by_cases g : q = k
      · rw [wI_here rfl g, g]
      · rw [wI_off (by omega), s1 q (by omega)]
  · exact ⟨fun q hq => by omega, fun _ _ _ => rfl⟩
theorem s_mayBeLike : so_mayBeLike RR := by
  intro I J K M h a1 a2
  rcases T_cases h a1 with ⟨e1, e2, e3⟩ | hT1
  · exact ⟨-1, I, K, by simp only [f_X3_mayBeLike, e1, if_true], by simp only [f_X4_mayBeLike, f_X4_askedTwo, e2, if_true, Option.bind_some, if_neg v0m1], h⟩
  have q1 : f_X3_isTableNumber a1 = 1 ∧ f_X4_isTable a1 = 1 := by
    rcases hT1 with ⟨t, ht, rfl, e1, e2, _⟩ | ⟨t, n, A, k, ht, rfl, e1, e2, _⟩ <;> exact ⟨e1, e2⟩
  rcases T_cases h a2 with ⟨e1, e2, e3⟩ | hT2
  · exact ⟨-1, I, K, by simp only [f_X3_mayBeLike, q1.1, e1, if_neg v10, if_true], by simp only [f_X4_mayBeLike, f_X4_askedTwo, q1.2, e2, if_neg v10, if_true, Option.bind_some, if_neg v0m1], h⟩
  have q2 : f_X3_isTableNumber a2 = 1 ∧ f_X4_isTable a2 = 1 := by
    rcases hT2 with ⟨t, ht, rfl, e1, e2, _⟩ | ⟨t, n, A, k, ht, rfl, e1, e2, _⟩ <;> exact ⟨e1, e2⟩
  obtain ⟨I1, K1, y1, y2, h1⟩ := RR_found h 1 (by simp)
  obtain ⟨I3, K3, z1, z2, h3⟩ := RR_found h 3 (by simp)
  rcases hT1 with ⟨t, ht, rfl, e1, e2, e3, e4, e5, e6, e7⟩ | ⟨t, n, A, k, ht, rfl, e1, e2, e3, e4, e5, e6, e7, h0, hA, hX, hM, hK, k1, k2⟩
  · refine ⟨-3, I1, K1, ?_, ?_, h1⟩
    · rcases hT2 with ⟨u, hu, rfl, g1, g2, g3, g4, g5, g6, g7⟩ | ⟨u, m, B, l, hu, rfl, g1, g2, g3, g4, g5, g6, g7, hT⟩
      · simp only [f_X3_mayBeLike, q1.1, q2.1, e3, e4, e5, g3, y1, Option.bind_some, if_neg v10, if_true]
      · simp only [f_X3_mayBeLike, q1.1, q2.1, e3, e4, e5, g3, y1, Option.bind_some, if_neg v10, if_true]
    · simp only [f_X4_mayBeLike, f_X4_askedTwo, q1.2, q2.2, e3, e4, e6, y2, Option.bind_some, if_neg v10, if_neg v0m3, if_true]
  · rcases hT2 with ⟨u, hu, rfl, g1, g2, g3, g4, g5, g6, g7⟩ | ⟨u, m, B, l, hu, rfl, g1, g2, g3, g4, g5, g6, g7, m0, hB, hY, hN, hL, l1, l2⟩
    · refine ⟨-3, I1, K1, ?_, ?_, h1⟩
      · simp only [f_X3_mayBeLike, q1.1, q2.1, e3, e4, e5, g3, g4, g5, y1, Option.bind_some, if_neg v10, if_true]
      · simp only [f_X4_mayBeLike, f_X4_askedTwo, q1.2, q2.2, e3, e4, if_neg e6, g3, g4, g6, y2, Option.bind_some, if_neg v10, if_neg v0m3, if_true]
    · have hn := hX.2.1
      have hm := hY.2.1
      have w1 : I (22 + 3 * t) 2 = nI n := hX.2.2.1
      have w2 : K 5 t = nI n := hM.2.2.1
      have v1 : I (22 + 3 * u) 2 = nI m := hY.2.2.1
      have v2 : K 5 u = nI m := hN.2.2.1
      have nz : ¬ nI n = 0 := nI_ne0 h0 (by omega)
      have mz : ¬ nI m = 0 := nI_ne0 m0 (by omega)
      obtain ⟨b, s1, s2, sq⟩ := sg_both hA hX hM
      cases b
      · refine ⟨-3, I3, K3, ?_, ?_, h3⟩
        · simp only [f_X3_mayBeLike, q1.1, q2.1, e3, e4, e5, g3, g4, g5, s1, bI_f, z1, Option.bind_some, if_neg v10, if_true]
        · simp only [f_X4_mayBeLike, f_X4_askedTwo, q1.2, q2.2, e3, e4, if_neg e6, g3, g4, if_neg g6, s2, Bool.not_false, bI_t, z2, Option.bind_some, if_neg v10, if_neg v0m3, if_true]
      · obtain ⟨b, r1, r2, rq⟩ := sg_both hB hY hN
        cases b
        · refine ⟨-3, I3, K3, ?_, ?_, h3⟩
          · simp only [f_X3_mayBeLike, q1.1, q2.1, e3, e4, e5, g3, g4, g5, s1, bI_t, r1, bI_f, z1, Option.bind_some, if_neg v10, if_true]
          · simp only [f_X4_mayBeLike, f_X4_askedTwo, q1.2, q2.2, e3, e4, if_neg e6, g3, g4, if_neg g6, s2, Bool.not_true, bI_f, r2, Bool.not_false, bI_t, z2, Option.bind_some, if_neg v10, if_neg v0m3, if_true]
        · have hS := sq.mp rfl
          have hR := rq.mp rfl
          by_cases hnm : n = m
          · subst hnm
            have at2 : f_X4_askedTwo (nI t) (nI u) K = some (0, K) := by
              simp only [f_X4_askedTwo, q1.2, q2.2, e3, e4, w2, if_neg nz, g3, g4, v2, s2, Bool.not_true, bI_f, r2, Option.bind_some, if_neg v10, if_true]
            obtain ⟨Ia, a1, a2, a3⟩ := X_beginFlipped (W := 10) (by omega) (by omega) hA hX
            have ks : ∀ {s s' : zMi} {V c : Nat} {C : Nat → Nat → Int}, (∀ a b, a ≠ 22 + 3 * c → a ≠ 23 + 3 * c → a ≠ 24 + 3 * c → s' a b = s a b) → V ≠ c → XT s V n C → XT s' V n C := fun hs hv hx => XT_cong (hs _ _ (by omega) (by omega) (by omega)) (fun b => hs _ _ (by omega) (by omega) (by omega)) (fun b => hs _ _ (by omega) (by omega) (by omega)) hx
            obtain ⟨Ib, b1, b2, b3⟩ := X_beginFlipped (W := 11) (by omega) (by omega) hB (ks a3 (by omega) hY)
            have k7 : ∀ {s s' : zMi} {V : Nat} {C : Nat → Nat → Int}, (∀ a b, a ≠ 7 → s' a b = s a b) → XT s V n C → XT s' V n C := fun hs hx => XT_cong (hs _ _ (by omega)) (fun b => hs _ _ (by omega)) (fun b => hs _ _ (by omega)) hx
            have tA : XT Ib t n A := ks b3 (by omega) (ks a3 (by omega) hX)
            have tB : XT Ib u n B := ks b3 (by omega) (ks a3 (by omega) hY)
            have fA : XT Ib 10 n (At A) := ks b3 (by omega) a2
            have fB : XT Ib 11 n (At B) := b2
            obtain ⟨J1, c1, x1, o1, f1⟩ := X_haveOne tA tB (k := 2) (by omega)
            obtain ⟨J2, c2, x2, o2, f2⟩ := X_haveOne (k7 f1 tA) (k7 f1 tB) (k := 4) (by omega)
            obtain ⟨J3, c3, x3, o3, f3⟩ := X_haveOne (k7 f2 (k7 f1 fA)) (k7 f2 (k7 f1 fB)) (k := 2) (by omega)
            obtain ⟨J4, c4, x4, o4, f4⟩ := X_haveOne (k7 f3 (k7 f2 (k7 f1 fA))) (k7 f3 (k7 f2 (k7 f1 fB))) (k := 4) (by omega)
            have x1' : f_X3_haveOneProfile t u 2 Ib = some (bI c1, J1) := x1
            have x2' : f_X3_haveOneProfile t u 4 J1 = some (bI c2, J2) := x2
            have x3' : f_X3_haveOneProfile 10 11 2 J2 = some (bI c3, J3) := x3
            have x4' : f_X3_haveOneProfile 10 11 4 J3 = some (bI c4, J4) := x4
            obtain ⟨K', m1, m2⟩ := M_may hA hS hM hB hR hN
            have key : (c1 && c2 && c3 && c4) = alB (fun q => decide (opN A n q (2 ^ n) = opN B n q (2 ^ n))) 78 := by
              rw [Bool.eq_iff_iff, alB_iff]
              simp only [Bool.and_eq_true, o1, o2, o3, o4, decide_eq_true_iff]
              constructor
              · rintro ⟨⟨⟨p1, p2⟩, p3⟩, p4⟩ q hq
                have ra := op_reg A hn q (2 ^ n)
                have rb := op_reg B hn q (2 ^ n)
                rcases (show q < 13 ∨ (13 ≤ q ∧ q < 26) ∨ (26 ≤ q ∧ q < 39) ∨ (39 ≤ q ∧ q < 52) ∨ (52 ≤ q ∧ q < 65) ∨ (65 ≤ q ∧ q < 78) by omega) with g | ⟨g, g'⟩ | ⟨g, g'⟩ | ⟨g, g'⟩ | ⟨g, g'⟩ | ⟨g, g'⟩
                · rw [ra.1 g, rb.1 g, p1 q g]
                · rw [ra.2.1 g g', rb.2.1 g g']
                · rw [ra.2.2.1 g g', rb.2.2.1 g g', p2 _ (by omega)]
                · rw [ra.2.2.2.1 g g', rb.2.2.2.1 g g', p3 _ (by omega)]
                · rw [ra.2.2.2.2.1 g g', rb.2.2.2.2.1 g g']
                · rw [ra.2.2.2.2.2 g g', rb.2.2.2.2.2 g g', p4 _ (by omega)]
              · intro q
                refine ⟨⟨⟨fun c hc => ?_, fun c hc => ?_⟩, fun c hc => ?_⟩, fun c hc => ?_⟩
                · have := q c (by omega)
                  rw [(op_reg A hn c (2 ^ n)).1 hc, (op_reg B hn c (2 ^ n)).1 hc] at this
                  exact this
                · have := q (26 + c) (by omega)
                  rw [(op_reg A hn (26 + c) (2 ^ n)).2.2.1 (by omega) (by omega), (op_reg B hn (26 + c) (2 ^ n)).2.2.1 (by omega) (by omega), Nat.add_sub_cancel_left] at this
                  exact this
                · have := q (39 + c) (by omega)
                  rw [(op_reg A hn (39 + c) (2 ^ n)).2.2.2.1 (by omega) (by omega), (op_reg B hn (39 + c) (2 ^ n)).2.2.2.1 (by omega) (by omega), Nat.add_sub_cancel_left] at this
                  exact this
                · have := q (65 + c) (by omega)
                  rw [(op_reg A hn (65 + c) (2 ^ n)).2.2.2.2.2 (by omega) (by omega), (op_reg B hn (65 + c) (2 ^ n)).2.2.2.2.2 (by omega) (by omega), Nat.add_sub_cancel_left] at this
                  exact this
            rw [← key] at m1
            have g1f : ∀ a b, a < 52 → a ≠ 7 → Ib a b = I a b := fun a b h1 h2 => by rw [b3 a b (by omega) (by omega) (by omega), a3 a b (by omega) (by omega) (by omega)]
            have fin : ∀ s : zMi, (∀ a b, a ≠ 7 → s a b = Ib a b) → RR s J K' M := fun s hs => RR_scr h (fun a b h1 _ h7 => by rw [hs a b h7, g1f a b h1 h7]) m2 h.2.2.2.1
            have r1f := fin J1 f1
            have r2f := fin J2 (fun a b h7 => by rw [f2 a b h7, f1 a b h7])
            have r3f := fin J3 (fun a b h7 => by rw [f3 a b h7, f2 a b h7, f1 a b h7])
            have r4f := fin J4 (fun a b h7 => by rw [f4 a b h7, f3 a b h7, f2 a b h7, f1 a b h7])
            have mm : f_X4_mayBeLike (nI t) (nI u) K = some (bI (c1 && c2 && c3 && c4), K') := by
              simp only [f_X4_mayBeLike, at2, Option.bind_some, if_pos v00]
              exact m1
            have pre : f_X3_mayBeLike (nI t) (nI u) I = (if bI c1 = 0 then (f_X3_mayBeLike_160 J1) else (if bI c2 = 0 then (f_X3_mayBeLike_160 J2) else (if bI c3 = 0 then (f_X3_mayBeLike_160 J3) else (if bI c4 = 0 then (f_X3_mayBeLike_160 J4) else (if (1 : Int32) = 0 then (some (0, J4)) else (some (1, J4))))))) := by
              simp only [f_X3_mayBeLike, q1.1, q2.1, e3, e4, e5, g3, g4, g5, s1, bI_t, r1, w1, v1, a1, b1, x1', x2', x3', x4', Option.bind_some, if_neg v10, if_true]
            cases c1
            · exact ⟨0, J1, K', by rw [pre]; rfl, mm, r1f⟩
            · cases c2
              · exact ⟨0, J2, K', by rw [pre]; rfl, mm, r2f⟩
              · cases c3
                · exact ⟨0, J3, K', by rw [pre]; rfl, mm, r3f⟩
                · cases c4
                  · exact ⟨0, J4, K', by rw [pre]; rfl, mm, r4f⟩
                  · exact ⟨1, J4, K', by rw [pre]; rfl, mm, r4f⟩
          · have ne : ¬ nI n = nI m := fun q => hnm ((nI_eq (by omega) (by omega)).mp q)
            refine ⟨-3, I3, K3, ?_, ?_, h3⟩
            · simp only [f_X3_mayBeLike, q1.1, q2.1, e3, e4, e5, g3, g4, g5, s1, bI_t, r1, w1, v1, if_neg ne, z1, Option.bind_some, if_neg v10, if_true]
            · simp only [f_X4_mayBeLike, f_X4_askedTwo, q1.2, q2.2, e3, e4, w2, if_neg nz, g3, g4, v2, if_neg mz, s2, Bool.not_true, bI_f, r2, if_neg ne, z2, Option.bind_some, if_neg v10, if_neg v0m3, if_true]
