section MJ
variable {K : zMi} {t n : Nat} {A : Nat → Nat → Int}
/-- what the running 'many' tells of the pairs that P names -/
def CI (A : Nat → Nat → Int) (n : Nat) (v : Int) (P : Nat → Nat → Prop) (r : Int32) : Prop :=
  (r = -9 ∧ ∀ i k, P i k → A i k ≠ v) ∨ (∃ i k, P i k ∧ A i k = v ∧ r = nI (icN A n i k) ∧ ∀ i' k', P i' k' → A i' k' = v → icN A n i' k' = icN A n i k) ∨ (r = -1 ∧ ∃ i k i' k', P i k ∧ P i' k' ∧ A i k = v ∧ A i' k' = v ∧ icN A n i k ≠ icN A n i' k')
theorem nI_m9 {x : Nat} (h : x ≤ 12) : nI x ≠ -9 := by
  intro q
  have : (nI x).toInt = -9 := by rw [q]; decide
  rw [nI_toInt (by omega)] at this
  omega
theorem nI_m1 {x : Nat} (h : x ≤ 12) : nI x ≠ -1 := by
  intro q
  have : (nI x).toInt = -1 := by rw [q]; decide
  rw [nI_toInt (by omega)] at this
  omega
theorem M_common (hA : tri A) (h : MT K t n A) {v : Int} (hv : -1 ≤ v ∧ v ≤ 1) : ∃ r, f_X4_commonOf (nI t) (sI v) K = some r ∧ CI A n v (fun i k => k < i ∧ i < n) r := by
  have hn := h.2.1
  have icl : ∀ i k, icN A n i k ≤ 12 := fun i k => Nat.le_trans (icN_le A n i k) hn
  have inner : ∀ (k6 : Int32 → Int32 → Int32 → Int32 → Option Int32) (i : Nat), i < n → ∀ (d k fuel : Nat) (r : Int32), k + d = i → d < fuel → CI A n v (fun a b => b < a ∧ (a < i ∨ (a = i ∧ b < k))) r → ∃ r', f_X4_commonOf_20 K k6 fuel (nI t) (sI v) r (nI i) (nI k) = k6 (nI t) (sI v) r' (nI (i + 1)) ∧ CI A n v (fun a b => b < a ∧ a < i + 1) r' := by
    intro k6 i hi d
    induction d with
    | zero =>
      intro k fuel r hk hf hC
      obtain ⟨f, rfl⟩ : ∃ f, fuel = f + 1 := ⟨fuel - 1, by omega⟩
      have e : k = i := by omega
      subst e
      refine ⟨r, ?_, ?_⟩
      · rw [f_X4_commonOf_20, if_pos (nI_le (Nat.le_refl _) (by omega)), nI_1]
      · have e : (fun a b : Nat => b < a ∧ (a < k ∨ (a = k ∧ b < k))) = (fun a b => b < a ∧ a < k + 1) := by
          funext a b
          apply propext
          constructor
          · rintro ⟨h1, h2⟩; omega
          · rintro ⟨h1, h2⟩; omega
        rw [← e]
        exact hC
    | succ d ih =>
      intro k fuel r hk hf hC
      obtain ⟨f, rfl⟩ : ∃ f, fuel = f + 1 := ⟨fuel - 1, by omega⟩
      have hki : k < i := by omega
      rw [f_X4_commonOf_20, if_neg (nI_ge hki (by omega)), MT_get h hi (show k < n by omega)]
      show ∃ r', (if sI (A i k) = sI v then _ else _) = _ ∧ _
      have hadd : ∀ a b, (b < a ∧ (a < i ∨ (a = i ∧ b < k + 1))) → (b < a ∧ (a < i ∨ (a = i ∧ b < k))) ∨ (a = i ∧ b = k) := by
        intro a b hab; omega
      have hold : ∀ a b, (b < a ∧ (a < i ∨ (a = i ∧ b < k))) → (b < a ∧ (a < i ∨ (a = i ∧ b < k + 1))) := by
        intro a b hab; omega
      by_cases g : A i k = v
      · rw [if_pos ((tri_eq hA i k hv.1 hv.2).mpr g), M_inCommon hA h hi (show k < n by omega)]
        show ∃ r', (if r = -9 then _ else _) = _ ∧ _
        rcases hC with ⟨e, hno⟩ | ⟨a, b, hP, hab, e, hall⟩ | ⟨e, a, b, a', b', hP, hP', hab, hab', hne⟩
        · rw [if_pos e, nI_1]
          refine ih (k + 1) f _ (by omega) (by omega) (Or.inr (Or.inl ⟨i, k, by omega, g, rfl, fun i' k' hp hv' => ?_⟩))
          rcases hadd i' k' hp with hp' | ⟨rfl, rfl⟩
          · exact absurd hv' (hno i' k' hp')
          · rfl
        · rw [if_neg (fun q => nI_m9 (icl a b) (e ▸ q))]
          by_cases g2 : icN A n a b = icN A n i k
          · rw [if_pos (by rw [e, g2]), nI_1]
            refine ih (k + 1) f _ (by omega) (by omega) (Or.inr (Or.inl ⟨i, k, by omega, g, rfl, fun i' k' hp hv' => ?_⟩))
            rcases hadd i' k' hp with hp' | ⟨rfl, rfl⟩
            · rw [hall i' k' hp' hv', g2]
            · rfl
          · have l1 := icl a b
            have l2 := icl i k
            rw [if_neg (fun q => g2 ((nI_eq (by omega) (by omega)).mp (e ▸ q))), nI_1]
            exact ih (k + 1) f _ (by omega) (by omega) (Or.inr (Or.inr ⟨rfl, a, b, i, k, hold a b hP, by omega, hab, g, g2⟩))
        · rw [if_neg (by rw [e]; decide), if_neg (show ¬ r = nI (icN A n i k) from fun q => nI_m1 (icl i k) (q.symm.trans e)), nI_1]
          exact ih (k + 1) f _ (by omega) (by omega) (Or.inr (Or.inr ⟨rfl, a, b, a', b', hold a b hP, hold a' b' hP', hab, hab', hne⟩))
      · rw [if_neg (fun q => g ((tri_eq hA i k hv.1 hv.2).mp q)), nI_1]
        refine ih (k + 1) f r (by omega) (by omega) ?_
        rcases hC with ⟨e, hno⟩ | ⟨a, b, hP, hab, e, hall⟩ | ⟨e, a, b, a', b', hP, hP', hab, hab', hne⟩
        · refine Or.inl ⟨e, fun i' k' hp => ?_⟩
          rcases hadd i' k' hp with hp' | ⟨rfl, rfl⟩
          · exact hno i' k' hp'
          · exact g
        · refine Or.inr (Or.inl ⟨a, b, hold a b hP, hab, e, fun i' k' hp hv' => ?_⟩)
          rcases hadd i' k' hp with hp' | ⟨rfl, rfl⟩
          · exact hall i' k' hp' hv'
          · exact absurd hv' g
        · exact Or.inr (Or.inr ⟨e, a, b, a', b', hold a b hP, hold a' b' hP', hab, hab', hne⟩)
  have outer : ∀ (d i fuel : Nat) (r : Int32), i + d = n → d < fuel → CI A n v (fun a b => b < a ∧ a < i) r → ∃ r', f_X4_commonOf_6 K fuel (nI t) (sI v) r (nI i) = some r' ∧ CI A n v (fun a b => b < a ∧ a < n) r' := by
    intro d
    induction d with
    | zero =>
      intro i fuel r hk hf hC
      obtain ⟨f, rfl⟩ : ∃ f, fuel = f + 1 := ⟨fuel - 1, by omega⟩
      have e : i = n := by omega
      subst e
      refine ⟨r, ?_, hC⟩
      rw [f_X4_commonOf_6, M_ix h, if_pos rfl, M_w h, if_pos (nI_le (Nat.le_refl _) (by omega))]
    | succ d ih =>
      intro i fuel r hk hf hC
      obtain ⟨f, rfl⟩ : ∃ f, fuel = f + 1 := ⟨fuel - 1, by omega⟩
      rw [f_X4_commonOf_6, M_ix h, if_pos rfl, M_w h, if_neg (nI_ge (show i < n by omega) (by omega))]
      have e0 : (fun a b : Nat => b < a ∧ (a < i ∨ (a = i ∧ b < 0))) = (fun a b => b < a ∧ a < i) := by
        funext a b
        apply propext
        constructor
        · rintro ⟨h1, h2⟩; omega
        · rintro ⟨h1, h2⟩; omega
      obtain ⟨r', e1, hC'⟩ := inner (f_X4_commonOf_6 K f) i (by omega) i 0 fu r (by omega) (by rw [fu_val]; omega) (by rw [e0]; exact hC)
      rw [show (0 : Int32) = nI 0 from rfl, e1]
      exact ih (i + 1) f r' (by omega) (by omega) hC'
  exact outer n 0 fu (-9) (by omega) (by rw [fu_val]; omega) (Or.inl ⟨rfl, fun i k hp => by omega⟩)
theorem CI_ne {v : Int} {r : Int32} (hn : n ≤ 12) (h : CI A n v (fun i k => k < i ∧ i < n) r) : r ≠ -1 ↔ EQC A n v := by
  have icl : ∀ i k, icN A n i k ≤ 12 := fun i k => Nat.le_trans (icN_le A n i k) hn
  rcases h with ⟨e, hno⟩ | ⟨a, b, hP, hab, e, hall⟩ | ⟨e, a, b, a', b', hP, hP', hab, hab', hne⟩
  · refine ⟨fun _ i k i' k' a1 a2 a3 a4 a5 a6 => absurd a5 (hno i k ⟨a1, a2⟩), fun _ => by rw [e]; decide⟩
  · refine ⟨fun _ i k i' k' a1 a2 a3 a4 a5 a6 => ?_, fun _ => by rw [e]; exact nI_m1 (icl a b)⟩
    rw [hall i k ⟨a1, a2⟩ a5, hall i' k' ⟨a3, a4⟩ a6]
  · exact ⟨fun q => absurd e q, fun q => absurd (q a b a' b' hP.1 hP.2 hP'.1 hP'.2 hab hab') hne⟩
theorem M_isEven (hA : tri A) (h : MT K t n A) (h0 : 0 < n) : ∃ b, f_X4_isEven (nI t) K = some (bI b) ∧ (b = true ↔ EV A n) := by
  have hn := h.2.1
  have nbl : ∀ i, nbN A n i ≤ 12 := fun i => Nat.le_trans (fb_ct_le _ n) hn
  have loop : ∀ b : Bool, f_X4_isEven_28 K fu (nI t) (bI b) (nI 1) = some (bI (b && alB (fun i => decide (nbN A n (i + 1) = nbN A n 0)) (n - 1))) := by
    intro b
    have := upF (fun f i (a : Int32) => f_X4_isEven_28 K f (nI t) a i) n 1 (by omega) (by rw [fu_val]; omega) (fun k => bI (b && alB (fun i => decide (nbN A n (i + 1) = nbN A n 0)) (k - 1))) (some (bI (b && alB (fun i => decide (nbN A n (i + 1) = nbN A n 0)) (n - 1)))) ?_ ?_
    · simpa [alB] using this
    · intro f
      show f_X4_isEven_28 K (f + 1) (nI t) _ (nI n) = _
      rw [f_X4_isEven_28, M_ix h, if_pos rfl, M_w h, if_pos (nI_le (Nat.le_refl _) (by omega))]
    · intro f k hk1 hk
      show f_X4_isEven_28 K (f + 1) (nI t) (bI _) (nI k) = f_X4_isEven_28 K f (nI t) (bI _) (nI (k + 1))
      rw [f_X4_isEven_28, M_ix h, if_pos rfl, M_w h, if_neg (nI_ge hk (by omega)), M_neighbours hA h hk, show f_X4_neighbours (nI t) 0 K = some (nI (nbN A n 0)) from M_neighbours hA h h0, nI_1]
      obtain ⟨m, rfl⟩ : ∃ m, k = m + 1 := ⟨k - 1, by omega⟩
      simp only [Nat.add_sub_cancel, alB]
      by_cases g : (b && alB (fun i => decide (nbN A n (i + 1) = nbN A n 0)) m) = true
      · rw [if_neg (fun q => by rw [bI_0.mp q] at g; cases g), ← Bool.and_assoc, g, Bool.true_and]
        show (if nI _ = nI _ then _ else _) = _
        have l1 := nbl (m + 1)
        have l2 := nbl 0
        by_cases g2 : nbN A n (m + 1) = nbN A n 0
        · rw [if_pos (by rw [g2]), decide_eq_true g2]
          rfl
        · rw [if_neg (fun q => g2 ((nI_eq (by omega) (by omega)).mp q)), decide_eq_false g2]
          rfl
      · have g' : (b && alB (fun i => decide (nbN A n (i + 1) = nbN A n 0)) m) = false := by simpa using g
        rw [if_pos (bI_0.mpr g'), ← Bool.and_assoc, g', Bool.false_and]
        rfl
  have hal : alB (fun i => decide (nbN A n (i + 1) = nbN A n 0)) (n - 1) = true ↔ ∀ i, i < n → nbN A n i = nbN A n 0 := by
    rw [alB_iff]
    constructor
    · intro q i hi
      by_cases g : i = 0
      · rw [g]
      · have := of_decide_eq_true (q (i - 1) (by omega))
        rw [show i - 1 + 1 = i by omega] at this
        exact this
    · intro q i hi
      exact decide_eq_true (q (i + 1) (by omega))
  obtain ⟨r1, e1, c1⟩ := M_common hA h (v := -1) (by omega)
  obtain ⟨r2, e2, c2⟩ := M_common hA h (v := 1) (by omega)
  have n1 := CI_ne hn c1
  have n2 := CI_ne hn c2
  unfold f_X4_isEven
  rw [show f_X4_commonOf (nI t) (-1) K = some r1 from e1]
  show ∃ b, (if r1 = -1 then _ else _) = _ ∧ _
  by_cases g1 : r1 = -1
  · rw [if_pos g1]
    exact ⟨_, loop false, by simp only [Bool.false_and]; exact ⟨fun q => (by cases q), fun q => absurd g1 (n1.mpr q.2.1)⟩⟩
  · rw [if_neg g1, show f_X4_commonOf (nI t) 1 K = some r2 from e2]
    show ∃ b, (if r2 = -1 then _ else _) = _ ∧ _
    by_cases g2 : r2 = -1
    · rw [if_pos g2]
      exact ⟨_, loop false, by simp only [Bool.false_and]; exact ⟨fun q => (by cases q), fun q => absurd g2 (n2.mpr q.2.2)⟩⟩
    · rw [if_neg g2]
      refine ⟨_, loop true, ?_⟩
      rw [Bool.true_and, hal]
      exact ⟨fun q => ⟨q, n1.mp g1, n2.mp g2⟩, fun q => q.1⟩
theorem M_setKind (hA : tri A) (h : MT K t n A) (h0 : 0 < n) : ∃ k, f_X4_setKind (nI t) K = some (nI k, wI K 7 t (nI k)) ∧ KD A n k := by
  have hn := h.2.1
  have ht := h.1
  have hc : (nI t).toNatClampNeg = t := nI_clamp (by omega)
  obtain ⟨b1, e1, q1⟩ := M_hasZero hA h
  have e2 := M_pairs hA h
  obtain ⟨b3, e3, q3⟩ := M_isGraph hA h
  obtain ⟨b4, e4, q4⟩ := M_isEven hA h h0
  obtain ⟨b5, e5, q5⟩ := M_isRound hA h h0
  have rest : ¬ (SG A n ∧ 2 * bpN A n = n * (n - 1)) → ∃ k, f_X4_setKind_52 (nI t) K = some (nI k, wI K 7 t (nI k)) ∧ KD A n k := by
    intro hno
    unfold f_X4_setKind_52
    rw [e3, M_ix h, hc]
    show ∃ k, (if bI b3 = 0 then _ else _) = _ ∧ _
    by_cases g : b3 = true
    · rw [if_neg (fun q => by rw [bI_0.mp q] at g; cases g), e4]
      show ∃ k, (if bI b4 = 0 then _ else _) = _ ∧ _
      by_cases g4 : b4 = true
      · rw [if_neg (fun q => by rw [bI_0.mp q] at g4; cases g4), wI_same]
        exact ⟨4, rfl, Or.inr ⟨hno, Or.inl ⟨q3.mp g, Or.inl ⟨q4.mp g4, rfl⟩⟩⟩⟩
      · rw [if_pos (bI_0.mpr (by simpa using g4)), wI_same]
        exact ⟨3, rfl, Or.inr ⟨hno, Or.inl ⟨q3.mp g, Or.inr ⟨fun q => g4 (q4.mpr q), rfl⟩⟩⟩⟩
    · rw [if_pos (bI_0.mpr (by simpa using g)), wI_same]
      exact ⟨0, rfl, Or.inr ⟨hno, Or.inr ⟨fun q => g (q3.mpr q), rfl⟩⟩⟩
  have hle := sm_ct_le (fun i k => decide (dotI A n i k = 0)) n n (Nat.le_refl n)
  have hle' : bpN A n ≤ n * n := hle
  have hnn : n * n ≤ 12 * 12 := Nat.mul_le_mul hn hn
  have hnm : n * (n - 1) ≤ 12 * 12 := Nat.mul_le_mul hn (by omega)
  have hcmp : (2 * nI (bpN A n) = nI n * (nI n - 1)) ↔ 2 * bpN A n = n * (n - 1) := by
    rw [show (2 : Int32) = nI 2 from rfl, show nI n - 1 = nI (n - 1) from pk_sub (b := 1) h0, pk_mul, pk_mul, nI_eq (by omega) (by omega)]
  unfold f_X4_setKind
  rw [M_ix h, if_pos rfl, e1]
  show ∃ k, (if bI b1 = 0 then _ else _) = _ ∧ _
  by_cases g : b1 = true
  · rw [if_neg (fun q => by rw [bI_0.mp q] at g; cases g)]
    exact rest (fun q => q1.mp g q.1)
  · have hsg : SG A n := Classical.byContradiction (fun q => g (q1.mpr q))
    rw [if_pos (bI_0.mpr (by simpa using g)), e2]
    show ∃ k, (if 2 * nI (bpN A n) = _ then _ else _) = _ ∧ _
    rw [M_w h]
    by_cases g2 : 2 * bpN A n = n * (n - 1)
    · rw [if_pos (hcmp.mpr g2), e5, hc]
      show ∃ k, (if bI b5 = 0 then _ else _) = _ ∧ _
      by_cases g5 : b5 = true
      · rw [if_neg (fun q => by rw [bI_0.mp q] at g5; cases g5), wI_same]
        exact ⟨2, rfl, Or.inl ⟨⟨hsg, g2⟩, Or.inl ⟨q5.mp g5, rfl⟩⟩⟩
      · rw [if_pos (bI_0.mpr (by simpa using g5)), wI_same]
        exact ⟨1, rfl, Or.inl ⟨⟨hsg, g2⟩, Or.inr ⟨fun q => g5 (q5.mpr q), rfl⟩⟩⟩
    · rw [if_neg (fun q => g2 (hcmp.mp q))]
      exact rest (fun q => g2 q.2)
end MJ
