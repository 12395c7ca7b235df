theorem nI_b (b : Bool) : nI (if b then 1 else 0) = bI b := by cases b <;> rfl
theorem bI_inj {a b : Bool} : bI a = bI b ↔ a = b := by cases a <;> cases b <;> decide
theorem up_find {σ R : Type} (F : Nat → Int32 → σ → Option R) (n : Nat) (S : Nat → σ) (good : Option R) (bad : Nat → Option R) (p : Nat → Prop) (hn : n < fu) (hex : ∀ f, F (f + 1) (nI n) (S n) = good) (hst : ∀ f k, k < n → p k → F (f + 1) (nI k) (S k) = F f (nI (k + 1)) (S (k + 1))) (hbad : ∀ f k, k < n → ¬ p k → F (f + 1) (nI k) (S k) = bad k) : (F fu (nI 0) (S 0) = good ∧ ∀ k, k < n → p k) ∨ ∃ k, k < n ∧ ¬ p k ∧ (∀ j, j < k → p j) ∧ F fu (nI 0) (S 0) = bad k := by
  have key : ∀ (d k fuel : Nat), k + d = n → d < fuel → (∀ j, j < k → p j) → (F fuel (nI k) (S k) = good ∧ ∀ j, j < n → p j) ∨ ∃ k', k' < n ∧ ¬ p k' ∧ (∀ j, j < k' → p j) ∧ F fuel (nI k) (S k) = bad k' := by
    intro d
    induction d with
    | zero =>
      intro k fuel hk hf hp
      obtain ⟨f, rfl⟩ : ∃ f, fuel = f + 1 := ⟨fuel - 1, by omega⟩
      have e : k = n := by omega
      subst e
      exact Or.inl ⟨hex f, hp⟩
    | succ d ih =>
      intro k fuel hk hf hp
      obtain ⟨f, rfl⟩ : ∃ f, fuel = f + 1 := ⟨fuel - 1, by omega⟩
      by_cases hq : p k
      · rw [hst f k (by omega) hq]
        exact ih (k + 1) f (by omega) (by omega) (fun j h2 => by
          by_cases e : j = k
          · subst e; exact hq
          · exact hp j (by omega))
      · exact Or.inr ⟨k, by omega, hq, hp, hbad f k (by omega) hq⟩
  exact key n 0 fu (by omega) hn (fun j h2 => by omega)
theorem ic_bits (A : Nat → Nat → Int) {n : Nat} (hn : n ≤ 12) (i k : Nat) : f_J6_bitCount (nI (bs (mn A i) n) &&& nI (bs (mn A k) n)) = nI (icN A n i k) := by
  rw [fa_and, bs_and, bitCount_bs _ (by omega)]
  rfl
theorem X_neighbours {I : zMi} {T n : Nat} {A : Nat → Nat → Int} (h : XT I T n A) {i : Nat} (hi : i < n) : f_X2_neighbours T (nI i) I = some (nI (nbN A n i)) := by
  obtain ⟨h1, h2, h3, h4⟩ := h
  unfold f_X2_neighbours
  rw [ix_nI (by omega) (by omega), if_pos rfl, nI_clamp (by omega), (h4 i hi).2, bitCount_bs _ (by omega)]
  rfl
theorem X_common1 {I : zMi} {T n : Nat} {A : Nat → Nat → Int} (h : XT I T n A) (jb : Bool) : (f_X2_commonOfFirstPair T (bI jb) I = some (-9) ∧ ∀ i k, k < i → i < n → mn A i k ≠ jb) ∨ ∃ i k, k < i ∧ i < n ∧ mn A i k = jb ∧ f_X2_commonOfFirstPair T (bI jb) I = some (nI (icN A n i k)) := by
  obtain ⟨h1, h2, h3, h4⟩ := h
  have inner : ∀ (k2 : Nat → Int32 → Int32 → Option Int32) (i : Nat), i < n → (f_X2_commonOfFirstPair_12 I k2 fu T (bI jb) (nI i) 0 = k2 T (bI jb) (nI (i + 1)) ∧ ∀ k, k < i → mn A i k ≠ jb) ∨ ∃ k, k < i ∧ ¬ mn A i k ≠ jb ∧ (∀ j, j < k → mn A i j ≠ jb) ∧ f_X2_commonOfFirstPair_12 I k2 fu T (bI jb) (nI i) 0 = some (nI (icN A n i k)) := by
    intro k2 i hi
    refine up_find (fun f j (_ : Unit) => f_X2_commonOfFirstPair_12 I k2 f T (bI jb) (nI i) j) i (fun _ => ()) (k2 T (bI jb) (nI (i + 1))) (fun k => some (nI (icN A n i k))) (fun k => mn A i k ≠ jb) (by rw [fu_val]; omega) ?_ ?_ ?_
    · intro f
      show f_X2_commonOfFirstPair_12 I k2 (f + 1) T (bI jb) (nI i) (nI i) = _
      rw [f_X2_commonOfFirstPair_12, if_pos (nI_le (Nat.le_refl _) (by omega)), nI_1]
    · intro f k hk hp
      show f_X2_commonOfFirstPair_12 I k2 (f + 1) T (bI jb) (nI i) (nI k) = f_X2_commonOfFirstPair_12 I k2 f T (bI jb) (nI i) (nI (k + 1))
      rw [f_X2_commonOfFirstPair_12, if_neg (nI_ge hk (by omega)), ix_nI (by omega) (by omega), if_pos rfl, nI_clamp (by omega), (h4 i hi).2, bit_bs (by omega) (by omega), nI_b, if_neg (fun q => hp (bI_inj.mp q)), nI_1]
    · intro f k hk hp
      show f_X2_commonOfFirstPair_12 I k2 (f + 1) T (bI jb) (nI i) (nI k) = _
      have hp' : mn A i k = jb := Decidable.not_not.mp hp
      rw [f_X2_commonOfFirstPair_12, if_neg (nI_ge hk (by omega)), ix_nI (by omega) (by omega), if_pos rfl, nI_clamp (by omega), (h4 i hi).2, bit_bs (by omega) (by omega), nI_b, if_pos (bI_inj.mpr hp'), ix_nI (by omega) (by omega), if_pos rfl, nI_clamp (by omega), (h4 k (by omega)).2, ic_bits A h2]
  have key : ∀ (d i fuel : Nat), i + d = n → d < fuel → (∀ a k, k < a → a < i → mn A a k ≠ jb) → (f_X2_commonOfFirstPair_2 I fuel T (bI jb) (nI i) = some (-9) ∧ ∀ a k, k < a → a < n → mn A a k ≠ jb) ∨ ∃ a k, k < a ∧ a < n ∧ mn A a k = jb ∧ f_X2_commonOfFirstPair_2 I fuel T (bI jb) (nI i) = some (nI (icN A n a k)) := by
    intro d
    induction d with
    | zero =>
      intro i fuel hk hf hp
      obtain ⟨f, rfl⟩ : ∃ f, fuel = f + 1 := ⟨fuel - 1, by omega⟩
      have e : i = n := by omega
      subst e
      refine Or.inl ⟨?_, hp⟩
      rw [f_X2_commonOfFirstPair_2, h3, if_pos (nI_le (Nat.le_refl _) (by omega))]
    | succ d ih =>
      intro i fuel hk hf hp
      obtain ⟨f, rfl⟩ : ∃ f, fuel = f + 1 := ⟨fuel - 1, by omega⟩
      rw [f_X2_commonOfFirstPair_2, h3, if_neg (nI_ge (show i < n by omega) (by omega))]
      rcases inner (f_X2_commonOfFirstPair_2 I f) i (by omega) with ⟨e, hq⟩ | ⟨k, hk', hq, -, e⟩
      · rw [e]
        exact ih (i + 1) f (by omega) (by omega) (fun a k h5 h6 => by
          by_cases g : a = i
          · subst g; exact hq k h5
          · exact hp a k h5 (by omega))
      · exact Or.inr ⟨i, k, hk', by omega, Decidable.not_not.mp hq, e⟩
  exact key n 0 fu (by omega) (by rw [fu_val]; omega) (fun a k _ h6 => by omega)
theorem icN_le (A : Nat → Nat → Int) (n i k : Nat) : icN A n i k ≤ n := fb_ct_le _ n
theorem X_isEven {I : zMi} {T n : Nat} {A : Nat → Nat → Int} (hA : tri A) (h : XT I T n A) (h0 : 0 < n) (hG : GR A n) : ∃ b, f_X2_isEven T I = some (bI b) ∧ (b = true ↔ EV A n) := by
  have c1 := X_common1 h true
  have c2 := X_common1 h false
  have hnb := fun (i : Nat) (hi : i < n) => X_neighbours h hi
  obtain ⟨h1, h2, h3, h4⟩ := h
  -- what the two first pairs tell
  obtain ⟨v1, e1, p1⟩ : ∃ v1, f_X2_commonOfFirstPair T 1 I = some v1 ∧ ((∀ i k, k < i → i < n → mn A i k = true → nI (icN A n i k) = v1) ↔ EQC A n (-1)) := by
    rcases c1 with ⟨e, hp⟩ | ⟨i, k, hk, hi, hm, e⟩
    · refine ⟨_, e, fun _ i k i' k' a1 a2 a3 a4 a5 a6 => absurd (decide_eq_true a5) (hp i k a1 a2), fun _ i k a1 a2 a3 => absurd a3 (hp i k a1 a2)⟩
    · refine ⟨_, e, fun q i' k' i'' k'' a1 a2 a3 a4 a5 a6 => ?_, fun q i' k' a1 a2 a3 => ?_⟩
      · have b1 := q i' k' a1 a2 (decide_eq_true a5)
        have b2 := q i'' k'' a3 a4 (decide_eq_true a6)
        have l1 := icN_le A n i' k'
        have l2 := icN_le A n i'' k''
        exact (nI_eq (by omega) (by omega)).mp (b1.trans b2.symm)
      · rw [q i' k' i k a1 a2 hk hi (of_decide_eq_true a3) (of_decide_eq_true hm)]
  obtain ⟨v2, e2, p2⟩ : ∃ v2, f_X2_commonOfFirstPair T 0 I = some v2 ∧ ((∀ i k, k < i → i < n → mn A i k = false → nI (icN A n i k) = v2) ↔ EQC A n 1) := by
    have hm1 : ∀ i k, k < i → i < n → (mn A i k = false ↔ A i k = 1) := by
      intro i k a1 a2
      have := ((hG i k a2 (by omega)).2 (by omega)).1
      rcases hA i k with e | e | e <;> simp [mn, e] at this ⊢
    rcases c2 with ⟨e, hp⟩ | ⟨i, k, hk, hi, hm, e⟩
    · refine ⟨_, e, fun _ i k i' k' a1 a2 a3 a4 a5 a6 => absurd ((hm1 i k a1 a2).mpr a5) (hp i k a1 a2), fun _ i k a1 a2 a3 => absurd a3 (hp i k a1 a2)⟩
    · refine ⟨_, e, fun q i' k' i'' k'' a1 a2 a3 a4 a5 a6 => ?_, fun q i' k' a1 a2 a3 => ?_⟩
      · have b1 := q i' k' a1 a2 ((hm1 _ _ a1 a2).mpr a5)
        have b2 := q i'' k'' a3 a4 ((hm1 _ _ a3 a4).mpr a6)
        have l1 := icN_le A n i' k'
        have l2 := icN_le A n i'' k''
        exact (nI_eq (by omega) (by omega)).mp (b1.trans b2.symm)
      · rw [q i' k' i k a1 a2 hk hi ((hm1 _ _ a1 a2).mp a3) ((hm1 _ _ hk hi).mp hm)]
  -- the inner loop
  have inner : ∀ (k14 : Nat → Int32 → Int32 → Int32 → Option Int32) (i : Nat), i < n → (f_X2_isEven_40 I k14 fu T v1 v2 (nI i) 0 = k14 T v1 v2 (nI (i + 1)) ∧ ∀ k, 0 ≤ k → k < i → nI (icN A n i k) = (if mn A i k then v1 else v2)) ∨ (f_X2_isEven_40 I k14 fu T v1 v2 (nI i) 0 = some 0 ∧ ∃ k, 0 ≤ k ∧ k < i ∧ ¬ nI (icN A n i k) = (if mn A i k then v1 else v2)) := by
    intro k14 i hi
    refine up_all (fun f j (_ : Unit) => f_X2_isEven_40 I k14 f T v1 v2 (nI i) j) i (fun _ => ()) (k14 T v1 v2 (nI (i + 1))) (some 0) (fun k => nI (icN A n i k) = (if mn A i k then v1 else v2)) 0 (by omega) (by rw [fu_val]; omega) ?_ ?_ ?_
    · intro _ f
      show f_X2_isEven_40 I k14 (f + 1) T v1 v2 (nI i) (nI i) = _
      rw [f_X2_isEven_40, if_pos (nI_le (Nat.le_refl _) (by omega)), nI_1]
    · intro f k _ hk hp
      show f_X2_isEven_40 I k14 (f + 1) T v1 v2 (nI i) (nI k) = f_X2_isEven_40 I k14 f T v1 v2 (nI i) (nI (k + 1))
      rw [f_X2_isEven_40, if_neg (nI_ge hk (by omega)), ix_nI (by omega) (by omega), if_pos rfl, nI_clamp (by omega), (h4 i hi).2, bit_bs (by omega) (by omega), nI_b, ix_nI (by omega) (by omega), if_pos rfl, if_pos rfl, nI_clamp (by omega), (h4 k (by omega)).2, ic_bits A h2]
      by_cases g : mn A i k = true
      · rw [if_pos (bI_1.mpr g), if_pos (by rw [hp, if_pos g]), nI_1]
      · rw [if_neg (fun q => g (bI_1.mp q)), if_pos (by rw [hp, if_neg g]), nI_1]
    · intro f k _ hk hp
      show f_X2_isEven_40 I k14 (f + 1) T v1 v2 (nI i) (nI k) = _
      rw [f_X2_isEven_40, if_neg (nI_ge hk (by omega)), ix_nI (by omega) (by omega), if_pos rfl, nI_clamp (by omega), (h4 i hi).2, bit_bs (by omega) (by omega), nI_b, ix_nI (by omega) (by omega), if_pos rfl, if_pos rfl, nI_clamp (by omega), (h4 k (by omega)).2, ic_bits A h2]
      by_cases g : mn A i k = true
      · rw [if_pos (bI_1.mpr g), if_neg (fun q => hp (by rw [q, if_pos g]))]
      · rw [if_neg (fun q => g (bI_1.mp q)), if_neg (fun q => hp (by rw [q, if_neg g]))]
  have nbl : ∀ i, nbN A n i ≤ n := fun i => fb_ct_le _ n
  have outer := up_all (fun f i (_ : Unit) => f_X2_isEven_14 I f T v1 v2 i) n (fun _ => ()) (some 1) (some 0) (fun i => nbN A n i = nbN A n 0 ∧ ∀ k, 0 ≤ k → k < i → nI (icN A n i k) = (if mn A i k then v1 else v2)) 0 (by omega) (by rw [fu_val]; omega)
    (fun _ f => by
      show f_X2_isEven_14 I (f + 1) T v1 v2 (nI n) = _
      rw [f_X2_isEven_14, h3, if_pos (nI_le (Nat.le_refl _) (by omega))])
    (fun f i _ hi hp => by
      show f_X2_isEven_14 I (f + 1) T v1 v2 (nI i) = f_X2_isEven_14 I f T v1 v2 (nI (i + 1))
      rw [f_X2_isEven_14, h3, if_neg (nI_ge hi (by omega)), hnb i hi, show (0 : Int32) = nI 0 from rfl, hnb 0 h0]
      show (if nI _ = nI _ then _ else _) = _
      rw [if_pos (by rw [hp.1])]
      rcases inner (f_X2_isEven_14 I f) i hi with ⟨e, -⟩ | ⟨-, k, a1, a2, a3⟩
      · exact e
      · exact absurd (hp.2 k a1 a2) a3)
    (fun f i _ hi hp => by
      show f_X2_isEven_14 I (f + 1) T v1 v2 (nI i) = _
      rw [f_X2_isEven_14, h3, if_neg (nI_ge hi (by omega)), hnb i hi, show (0 : Int32) = nI 0 from rfl, hnb 0 h0]
      show (if nI _ = nI _ then _ else _) = _
      have l1 := nbl i
      have l2 := nbl 0
      by_cases g : nbN A n i = nbN A n 0
      · rw [if_pos (by rw [g])]
        rcases inner (f_X2_isEven_14 I f) i hi with ⟨-, e⟩ | ⟨e, -⟩
        · exact absurd ⟨g, e⟩ hp
        · exact e
      · rw [if_neg (fun q => g ((nI_eq (by omega) (by omega)).mp q))])
  have hrun : f_X2_isEven T I = f_X2_isEven_14 I fu T v1 v2 (nI 0) := by
    unfold f_X2_isEven
    rw [e1]
    show (f_X2_commonOfFirstPair T 0 I).bind _ = _
    rw [e2]
    rfl
  rcases outer with ⟨e, hp⟩ | ⟨e, i, _, hi, hp⟩
  · refine ⟨true, hrun.trans e, fun _ => ⟨fun i hi => (hp i (by omega) hi).1, p1.mp (fun i k a1 a2 a3 => ?_), p2.mp (fun i k a1 a2 a3 => ?_)⟩, fun _ => rfl⟩
    · rw [(hp i (by omega) a2).2 k (by omega) a1, if_pos a3]
    · rw [(hp i (by omega) a2).2 k (by omega) a1, if_neg (by rw [a3]; decide)]
  · refine ⟨false, hrun.trans e, fun q => by simp at q, fun q => absurd ⟨q.1 i hi, fun k _ a1 => ?_⟩ hp⟩
    by_cases g : mn A i k = true
    · rw [if_pos g]
      exact p1.mpr q.2.1 i k a1 hi g
    · rw [if_neg g]
      exact p2.mpr q.2.2 i k a1 hi (by simpa using g)
def KD (A : Nat → Nat → Int) (n k : Nat) : Prop := ((SG A n ∧ 2 * bpN A n = n * (n - 1)) ∧ ((RD A n ∧ k = 2) ∨ (¬ RD A n ∧ k = 1))) ∨ (¬ (SG A n ∧ 2 * bpN A n = n * (n - 1)) ∧ ((GR A n ∧ ((EV A n ∧ k = 4) ∨ (¬ EV A n ∧ k = 3))) ∨ (¬ GR A n ∧ k = 0)))
theorem KD_one {A : Nat → Nat → Int} {n k k' : Nat} (h : KD A n k) (h' : KD A n k') : k = k' := by
  rcases h with ⟨a, h⟩ | ⟨a, h⟩ <;> rcases h' with ⟨a', h'⟩ | ⟨a', h'⟩
  · rcases h with ⟨b, h⟩ | ⟨b, h⟩ <;> rcases h' with ⟨b', h'⟩ | ⟨b', h'⟩ <;> first | omega | contradiction
  · contradiction
  · contradiction
  · rcases h with ⟨b, h⟩ | ⟨b, h⟩ <;> rcases h' with ⟨b', h'⟩ | ⟨b', h'⟩
    · rcases h with ⟨c, h⟩ | ⟨c, h⟩ <;> rcases h' with ⟨c', h'⟩ | ⟨c', h'⟩ <;> first | omega | contradiction
    · contradiction
    · contradiction
    · omega
theorem KD_le {A : Nat → Nat → Int} {n k : Nat} (h : KD A n k) : k ≤ 4 := by
  rcases h with ⟨-, h⟩ | ⟨-, h⟩
  · rcases h with ⟨-, h⟩ | ⟨-, h⟩ <;> omega
  · rcases h with ⟨-, h⟩ | ⟨-, h⟩
    · rcases h with ⟨-, h⟩ | ⟨-, h⟩ <;> omega
    · omega
theorem wI_same (I : zMi) (k j : Nat) (v : Int32) : wI I k j v k j = v := by simp [wI]
theorem X_judged {I : zMi} {T n : Nat} {A : Nat → Nat → Int} (hA : tri A) (h : XT I T n A) (h0 : 0 < n) : ∃ k, f_X2_judged T I = some (nI k, wI I (22 + 3 * T) 3 (nI k)) ∧ KD A n k := by
  obtain ⟨b1, e1, q1⟩ := X_isSigns hA h
  have e2 := X_rowsBalance hA h h0
  obtain ⟨b3, e3, q3⟩ := X_isGraph hA h
  have rest : ¬ (SG A n ∧ 2 * bpN A n = n * (n - 1)) → ∃ k, f_X2_judged_33 T I = some (nI k, wI I (22 + 3 * T) 3 (nI k)) ∧ KD A n k := by
    intro hno
    unfold f_X2_judged_33
    rw [e3]
    show ∃ k, (if bI b3 = 0 then _ else _) = _ ∧ _
    by_cases g : b3 = true
    · obtain ⟨b4, e4, q4⟩ := X_isEven hA h h0 (q3.mp g)
      rw [if_neg (fun q => by rw [bI_0.mp q] at g; cases g), e4]
      show ∃ k, (if bI b4 = 0 then _ else _) = _ ∧ _
      by_cases g4 : b4 = true
      · rw [if_neg (fun q => by rw [bI_0.mp q] at g4; cases g4), wI_same]
        exact ⟨4, rfl, Or.inr ⟨hno, Or.inl ⟨q3.mp g, Or.inl ⟨q4.mp g4, rfl⟩⟩⟩⟩
      · rw [if_pos (bI_0.mpr (by simpa using g4)), wI_same]
        exact ⟨3, rfl, Or.inr ⟨hno, Or.inl ⟨q3.mp g, Or.inr ⟨fun q => g4 (q4.mpr q), rfl⟩⟩⟩⟩
    · rw [if_pos (bI_0.mpr (by simpa using g)), wI_same]
      exact ⟨0, rfl, Or.inr ⟨hno, Or.inr ⟨fun q => g (q3.mpr q), rfl⟩⟩⟩
  unfold f_X2_judged
  rw [e1]
  show ∃ k, (if bI b1 = 0 then _ else _) = _ ∧ _
  by_cases g : b1 = true
  · rw [if_neg (fun q => by rw [bI_0.mp q] at g; cases g), e2]
    show ∃ k, (if bI (decide (2 * bpN A n = n * (n - 1))) = 0 then _ else _) = _ ∧ _
    by_cases g2 : 2 * bpN A n = n * (n - 1)
    · obtain ⟨b5, e5, q5⟩ := X_rowsMoveOn hA h h0 (q1.mp g)
      rw [if_neg (fun q => by rw [bI_0] at q; simp [g2] at q), e5]
      show ∃ k, (if bI b5 = 0 then _ else _) = _ ∧ _
      by_cases g5 : b5 = true
      · rw [if_neg (fun q => by rw [bI_0.mp q] at g5; cases g5), wI_same]
        exact ⟨2, rfl, Or.inl ⟨⟨q1.mp g, g2⟩, Or.inl ⟨q5.mp g5, rfl⟩⟩⟩
      · rw [if_pos (bI_0.mpr (by simpa using g5)), wI_same]
        exact ⟨1, rfl, Or.inl ⟨⟨q1.mp g, g2⟩, Or.inr ⟨fun q => g5 (q5.mpr q), rfl⟩⟩⟩
    · rw [if_pos (by rw [bI_0]; simp [g2])]
      exact rest (fun q => g2 q.2)
  · rw [if_pos (bI_0.mpr (by simpa using g))]
    exact rest (fun q => g (q1.mpr q.1))
