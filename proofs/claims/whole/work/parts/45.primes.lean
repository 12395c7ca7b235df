-- ===== squares modulo a prime =====
def sqb (p : Nat) : Nat := if p = 3 then 2 else if p = 5 then 18 else if p = 7 then 22 else 570
def df (p i j : Nat) : Nat := if i ≤ j then j - i else j + p - i
def rsd (p d : Nat) : Int := if d = 0 then 0 else if (sqb p).testBit d then 1 else -1
theorem rsd_tri (p d : Nat) : rsd p d = 1 ∨ rsd p d = 0 ∨ rsd p d = -1 := by
  unfold rsd
  split
  · exact Or.inr (Or.inl rfl)
  · split
    · exact Or.inl rfl
    · exact Or.inr (Or.inr rfl)
theorem sq3 : f_X3_squaresModulo (nI 3) = some (nI (sqb 3)) := by decide +kernel
theorem sq5 : f_X3_squaresModulo (nI 5) = some (nI (sqb 5)) := by decide +kernel
theorem sq7 : f_X3_squaresModulo (nI 7) = some (nI (sqb 7)) := by decide +kernel
theorem sq11 : f_X3_squaresModulo (nI 11) = some (nI (sqb 11)) := by decide +kernel
theorem re3 : ∀ i, i < 3 → ∀ j, j < 3 → f_X4_residue (nI j - nI i) (nI 3) = some (sI (rsd 3 (df 3 i j))) := by decide +kernel
theorem re5 : ∀ i, i < 5 → ∀ j, j < 5 → f_X4_residue (nI j - nI i) (nI 5) = some (sI (rsd 5 (df 5 i j))) := by decide +kernel
theorem re7 : ∀ i, i < 7 → ∀ j, j < 7 → f_X4_residue (nI j - nI i) (nI 7) = some (sI (rsd 7 (df 7 i j))) := by decide +kernel
theorem re11 : ∀ i, i < 11 → ∀ j, j < 11 → f_X4_residue (nI j - nI i) (nI 11) = some (sI (rsd 11 (df 11 i j))) := by decide +kernel
def PR (p : Nat) : Prop := p = 3 ∨ p = 5 ∨ p = 7 ∨ p = 11
theorem PR_sq {p : Nat} (h : PR p) : f_X3_squaresModulo (nI p) = some (nI (sqb p)) := by
  rcases h with rfl | rfl | rfl | rfl
  · exact sq3
  · exact sq5
  · exact sq7
  · exact sq11
theorem PR_re {p : Nat} (h : PR p) {i j : Nat} (hi : i < p) (hj : j < p) : f_X4_residue (nI j - nI i) (nI p) = some (sI (rsd p (df p i j))) := by
  rcases h with rfl | rfl | rfl | rfl
  · exact re3 i hi j hj
  · exact re5 i hi j hj
  · exact re7 i hi j hj
  · exact re11 i hi j hj
theorem PR_b {p : Nat} (h : PR p) : 3 ≤ p ∧ p ≤ 11 ∧ sqb p < 4096 := by
  rcases h with rfl | rfl | rfl | rfl <;> decide
def wrG (A : Nat → Nat → Int) (p fr i k : Nat) : Nat → Nat → Int := fun a b => if fr ≤ a ∧ fr ≤ b ∧ (a < fr + i ∨ (a = fr + i ∧ b < fr + k)) then rsd p (df p (a - fr) (b - fr)) else A a b
theorem X_writeResidues {I : zMi} {T p fr : Nat} {A : Nat → Nat → Int} (hp : PR p) (hfr : fr ≤ 1) (h : XT I T (p + fr) A) : ∃ I', f_X3_writeResidues T (nI fr) (nI p) I = some I' ∧ XT I' T (p + fr) (wrG A p fr p 0) ∧ ∀ a b, a ≠ 23 + 3 * T → a ≠ 24 + 3 * T → I' a b = I a b := by
  obtain ⟨hp3, hp11, hsq⟩ := PR_b hp
  unfold f_X3_writeResidues
  rw [PR_sq hp, Option.bind_some]
  refine lp (fun f i I => f_X3_writeResidues_8 f T (nI fr) (nI p) (nI (sqb p)) i I) p 0 (by omega) (by rw [fu_val]; omega) (fun i I' => XT I' T (p + fr) (wrG A p fr i 0) ∧ ∀ a b, a ≠ 23 + 3 * T → a ≠ 24 + 3 * T → I' a b = I a b) (fun res => ∃ I', res = some I' ∧ XT I' T (p + fr) (wrG A p fr p 0) ∧ ∀ a b, a ≠ 23 + 3 * T → a ≠ 24 + 3 * T → I' a b = I a b) ?_ ?_ _ ?_
  · intro f s ⟨s1, s2⟩
    refine ⟨s, ?_, s1, s2⟩
    show f_X3_writeResidues_8 (f + 1) T (nI fr) (nI p) (nI (sqb p)) (nI p) s = _
    rw [f_X3_writeResidues_8, if_pos (nI_le (Nat.le_refl _) (by omega))]
  · intro f i s _ hi ⟨s1, s2⟩
    left
    show ∃ s', f_X3_writeResidues_8 (f + 1) T (nI fr) (nI p) (nI (sqb p)) (nI i) s = f_X3_writeResidues_8 f T (nI fr) (nI p) (nI (sqb p)) (nI (i + 1)) s' ∧ _
    rw [f_X3_writeResidues_8, if_neg (nI_ge hi (by omega))]
    refine lp (fun g j I => f_X3_writeResidues_17 (f_X3_writeResidues_8 f) g T (nI fr) (nI p) (nI (sqb p)) (nI i) j I) p 0 (by omega) (by rw [fu_val]; omega) (fun k I' => XT I' T (p + fr) (wrG A p fr i k) ∧ ∀ a b, a ≠ 23 + 3 * T → a ≠ 24 + 3 * T → I' a b = I a b) (fun res => ∃ s', res = f_X3_writeResidues_8 f T (nI fr) (nI p) (nI (sqb p)) (nI (i + 1)) s' ∧ XT s' T (p + fr) (wrG A p fr (i + 1) 0) ∧ ∀ a b, a ≠ 23 + 3 * T → a ≠ 24 + 3 * T → s' a b = I a b) ?_ ?_ _ ⟨s1, s2⟩
    · intro g s ⟨u1, u2⟩
      refine ⟨s, ?_, XT_congA u1 (fun a b ha hb => ?_), u2⟩
      · show f_X3_writeResidues_17 (f_X3_writeResidues_8 f) (g + 1) T (nI fr) (nI p) (nI (sqb p)) (nI i) (nI p) s = _
        rw [f_X3_writeResidues_17, if_pos (nI_le (Nat.le_refl _) (by omega)), nI_1]
      · unfold wrG
        by_cases g2 : fr ≤ a ∧ fr ≤ b ∧ (a < fr + i ∨ (a = fr + i ∧ b < fr + p))
        · rw [if_pos g2, if_pos (by omega)]
        · rw [if_neg g2, if_neg (by omega)]
    · intro g k s _ hk ⟨u1, u2⟩
      left
      obtain ⟨s', r1, r2, r3⟩ := X_write u1 (show fr + i < p + fr by omega) (show fr + k < p + fr by omega) (rsd_tri p (df p i k))
      refine ⟨s', ?_, XT_congA r2 (fun a b ha hb => ?_), fun a b ha hb => by rw [r3 a b ha hb, u2 a b ha hb]⟩
      · show f_X3_writeResidues_17 (f_X3_writeResidues_8 f) (g + 1) T (nI fr) (nI p) (nI (sqb p)) (nI i) (nI k) s = f_X3_writeResidues_17 (f_X3_writeResidues_8 f) g T (nI fr) (nI p) (nI (sqb p)) (nI i) (nI (k + 1)) s'
        have w71 : ∀ v : Int32, v = sI (rsd p (df p i k)) → f_X3_writeResidues_71 (f_X3_writeResidues_8 f) (f_X3_writeResidues_17 (f_X3_writeResidues_8 f) g) T (nI fr) (nI p) (nI (sqb p)) (nI i) (nI k) v s = f_X3_writeResidues_17 (f_X3_writeResidues_8 f) g T (nI fr) (nI p) (nI (sqb p)) (nI i) (nI (k + 1)) s' := by
          intro v hv
          unfold f_X3_writeResidues_71
          rw [hv, nI_add, nI_add, r1, Option.bind_some, nI_1]
        have hd : df p i k < p := by unfold df; split <;> omega
        have pick : ∀ X : Option zMi, (∀ v : Int32, v = sI (rsd p (df p i k)) → f_X3_writeResidues_71 (f_X3_writeResidues_8 f) (f_X3_writeResidues_17 (f_X3_writeResidues_8 f) g) T (nI fr) (nI p) (nI (sqb p)) (nI i) (nI k) v s = X) → (if nI (df p i k) = 0 then f_X3_writeResidues_71 (f_X3_writeResidues_8 f) (f_X3_writeResidues_17 (f_X3_writeResidues_8 f) g) T (nI fr) (nI p) (nI (sqb p)) (nI i) (nI k) 0 s else if ((nI (sqb p) >>> (nI (df p i k) &&& 31)) &&& 1) = 1 then f_X3_writeResidues_71 (f_X3_writeResidues_8 f) (f_X3_writeResidues_17 (f_X3_writeResidues_8 f) g) T (nI fr) (nI p) (nI (sqb p)) (nI i) (nI k) 1 s else f_X3_writeResidues_71 (f_X3_writeResidues_8 f) (f_X3_writeResidues_17 (f_X3_writeResidues_8 f) g) T (nI fr) (nI p) (nI (sqb p)) (nI i) (nI k) (-1) s) = X := by
          intro X w
          by_cases d0 : df p i k = 0
          · rw [if_pos (by rw [d0]; rfl)]
            exact w 0 (by unfold rsd; rw [if_pos d0]; rfl)
          · rw [if_neg (nI_ne0 (by omega) (by omega)), bit_nI (by omega) (by omega)]
            cases hb : (sqb p).testBit (df p i k)
            · rw [if_neg (by decide)]
              exact w (-1) (by unfold rsd; rw [if_neg d0, hb]; decide)
            · rw [if_pos (by decide)]
              exact w 1 (by unfold rsd; rw [if_neg d0, hb]; rfl)
        rw [f_X3_writeResidues_17, if_neg (nI_ge hk (by omega))]
        by_cases hik : k < i
        · have e : nI k - nI i + nI p = nI (df p i k) := by
            unfold df
            rw [if_neg (by omega), ← sI_nI, ← sI_nI, ← sI_nI, sI_sub, sI_add, ← sI_nI]
            congr 1
            omega
          rw [if_pos (nI_lt hik (by omega)), e]
          exact pick _ w71
        · have e : nI k - nI i = nI (df p i k) := by
            unfold df
            rw [if_pos (by omega), pk_sub (by omega)]
          rw [if_neg (nI_nlt (by omega) (by omega)), e]
          exact pick _ w71
      · simp only [up2, wrG]
        by_cases g1 : a = fr + i ∧ b = fr + k
        · rw [if_pos g1, if_pos (by omega), g1.1, g1.2, Nat.add_sub_cancel_left, Nat.add_sub_cancel_left]
        · rw [if_neg g1]
          by_cases g2 : fr ≤ a ∧ fr ≤ b ∧ (a < fr + i ∨ (a = fr + i ∧ b < fr + k))
          · rw [if_pos g2, if_pos (by omega)]
          · rw [if_neg g2, if_neg (by omega)]
  · refine ⟨XT_congA h (fun a b _ _ => ?_), fun _ _ _ _ => rfl⟩
    unfold wrG
    rw [if_neg (by omega)]
theorem s_residues : so_residues RR := by
  intro I J K M h a1 a2
  rcases tn_cases a1 with ⟨e1, e2⟩ | ⟨t, ht, rfl, e1, e2, e3, e4⟩
  · exact ⟨-1, I, K, by simp only [f_X3_residues, e1, if_true], by simp only [f_X4_residues, e2, if_true], h⟩
  by_cases hp : ∃ p, PR p ∧ a2 = nI p
  · obtain ⟨p, hp, rfl⟩ := hp
    obtain ⟨hp3, hp11, hsq⟩ := PR_b hp
    have pick : ∀ {α : Type} (X Y : α), (if nI p = 3 then X else if nI p = 5 then X else if nI p = 7 then X else if nI p = 11 then X else Y) = X := by
      intro α X Y
      rcases hp with rfl | rfl | rfl | rfl <;> rfl
    obtain ⟨I0, b1, b2, b3⟩ := X_begin (T := t) (n := p) (by omega) (by omega) I
    obtain ⟨I1, x1, x2, x3⟩ := X_writeResidues (fr := 0) hp (by omega) b2
    have mod : ∃ K', f_X4_residues_33 fu (nI t) (nI p) 0 K = (f_X4_take (nI t) (nI p) K').bind (fun x2 => some (x2.1, x2.2)) ∧ (∀ a b, a < p → b < p → K' 8 (12 * a + b) = sI (rsd p (df p a b))) ∧ ∀ a b, a ≠ 8 → K' a b = K a b := by
      refine lp (fun f i K => f_X4_residues_33 f (nI t) (nI p) i K) p 0 (by omega) (by rw [fu_val]; omega) (fun i K' => (∀ a b, a < p → b < p → (a < i ∨ (a = i ∧ b < 0)) → K' 8 (12 * a + b) = sI (rsd p (df p a b))) ∧ ∀ a b, a ≠ 8 → K' a b = K a b) (fun res => ∃ K', res = (f_X4_take (nI t) (nI p) K').bind (fun x2 => some (x2.1, x2.2)) ∧ (∀ a b, a < p → b < p → K' 8 (12 * a + b) = sI (rsd p (df p a b))) ∧ ∀ a b, a ≠ 8 → K' a b = K a b) ?_ ?_ _ ?_
      · intro f s ⟨s1, s2⟩
        refine ⟨s, ?_, fun a b ha hb => s1 a b ha hb (Or.inl ha), s2⟩
        show f_X4_residues_33 (f + 1) (nI t) (nI p) (nI p) s = _
        rw [f_X4_residues_33, if_pos (nI_le (Nat.le_refl _) (by omega))]
      · intro f i s _ hi ⟨s1, s2⟩
        left
        show ∃ s', f_X4_residues_33 (f + 1) (nI t) (nI p) (nI i) s = f_X4_residues_33 f (nI t) (nI p) (nI (i + 1)) s' ∧ _
        rw [f_X4_residues_33, if_neg (nI_ge hi (by omega))]
        refine lp (fun g j K => f_X4_residues_41 (f_X4_residues_33 f) g (nI t) (nI p) (nI i) j K) p 0 (by omega) (by rw [fu_val]; omega) (fun k K' => (∀ a b, a < p → b < p → (a < i ∨ (a = i ∧ b < k)) → K' 8 (12 * a + b) = sI (rsd p (df p a b))) ∧ ∀ a b, a ≠ 8 → K' a b = K a b) (fun res => ∃ s', res = f_X4_residues_33 f (nI t) (nI p) (nI (i + 1)) s' ∧ (∀ a b, a < p → b < p → (a < i + 1 ∨ (a = i + 1 ∧ b < 0)) → s' 8 (12 * a + b) = sI (rsd p (df p a b))) ∧ ∀ a b, a ≠ 8 → s' a b = K a b) ?_ ?_ _ ⟨s1, s2⟩
        · intro g s ⟨u1, u2⟩
          refine ⟨s, ?_, fun a b ha hb hab => u1 a b ha hb (by omega), u2⟩
          show f_X4_residues_41 (f_X4_residues_33 f) (g + 1) (nI t) (nI p) (nI i) (nI p) s = _
          rw [f_X4_residues_41, if_pos (nI_le (Nat.le_refl _) (by omega)), nI_1]
        · intro g k s _ hk ⟨u1, u2⟩
          left
          refine ⟨wI s 8 (12 * i + k) (sI (rsd p (df p i k))), ?_, b12 (G := fun a b => rsd p (df p a b)) (by omega) u1 (by omega), fun a b ha => by rw [wI_off (by omega), u2 a b ha]⟩
          show f_X4_residues_41 (f_X4_residues_33 f) (g + 1) (nI t) (nI p) (nI i) (nI k) s = f_X4_residues_41 (f_X4_residues_33 f) g (nI t) (nI p) (nI i) (nI (k + 1)) _
          rw [f_X4_residues_41, if_neg (nI_ge hk (by omega)), PR_re hp hi hk, Option.bind_some, e12, ix_nI (by omega) (by omega), if_pos rfl, nI_clamp (by omega), nI_1]
      · exact ⟨fun a b _ _ hab => by omega, fun _ _ _ => rfl⟩
    obtain ⟨Ka, m1, m2, m3⟩ := mod
    obtain ⟨Kb, r1, r2, r3⟩ := M_take (G := fun a b => rsd p (df p a b)) ht (by omega) m2
    have x2' : XT I1 t p (fun a b => rsd p (df p a b)) := XT_congA x2 (fun a b ha hb => by
      unfold wrG
      rw [if_pos (by omega)]
      rfl)
    obtain ⟨k, I'', K'', t1, t2, t3⟩ := fin_tab h ht (by omega) (fun a b => rsd_tri p (df p a b)) x2' r2 (fun a b q0 _ _ q1 q2 q3 => by rw [x3 a b q2 q3, b3 a b q1 q2 q3]) (fun a b q0 _ q1 q2 q3 => by rw [r3 a b q1 q3, m3 a b (by omega)])
    have x1' : f_X3_writeResidues t 0 (nI p) I0 = some I1 := x1
    refine ⟨k, I'', K'', ?_, ?_, t3⟩
    · simp only [f_X3_residues, e1, if_neg v10]
      rw [pick]
      simp only [f_X3_residues_31, e3, e4, b1, x1', t1, Option.bind_some, if_true]
    · simp only [f_X4_residues, e2, if_neg v10]
      rw [pick, m1, r1, t2]
      rfl
  · have n3 : ¬ a2 = 3 := fun q => hp ⟨3, Or.inl rfl, q⟩
    have n5 : ¬ a2 = 5 := fun q => hp ⟨5, Or.inr (Or.inl rfl), q⟩
    have n7 : ¬ a2 = 7 := fun q => hp ⟨7, Or.inr (Or.inr (Or.inl rfl)), q⟩
    have n11 : ¬ a2 = 11 := fun q => hp ⟨11, Or.inr (Or.inr (Or.inr rfl)), q⟩
    exact ⟨-1, I, K, by simp only [f_X3_residues, e1, if_neg v10, if_neg n3, if_neg n5, if_neg n7, if_neg n11], by simp only [f_X4_residues, e2, if_neg v10, if_neg n3, if_neg n5, if_neg n7, if_neg n11], h⟩
def bdG (p : Nat) : Nat → Nat → Int := fun a b => if a = 0 then 1 else if b = 0 then -1 else if a = b then 1 else rsd p (df p (a - 1) (b - 1))
theorem bdG_tri (p : Nat) : tri (bdG p) := by
  intro a b
  unfold bdG
  split
  · exact Or.inl rfl
  · split
    · exact Or.inr (Or.inr rfl)
    · split
      · exact Or.inl rfl
      · exact rsd_tri _ _
theorem s_bordered : so_bordered RR := by
  intro I J K M h a1 a2
  rcases tn_cases a1 with ⟨e1, e2⟩ | ⟨t, ht, rfl, e1, e2, e3, e4⟩
  · exact ⟨-1, I, K, by simp only [f_X3_bordered, e1, if_true], by simp only [f_X4_bordered, e2, if_true], h⟩
  by_cases hp : ∃ p, (p = 3 ∨ p = 7 ∨ p = 11) ∧ a2 = nI p
  · obtain ⟨p, hp', rfl⟩ := hp
    have hp : PR p := by
      rcases hp' with q | q | q
      · exact Or.inl q
      · exact Or.inr (Or.inr (Or.inl q))
      · exact Or.inr (Or.inr (Or.inr q))
    obtain ⟨hp3, hp11, hsq⟩ := PR_b hp
    have pick : ∀ {α : Type} (X Y : α), (if nI p = 3 then X else if nI p = 7 then X else if nI p = 11 then X else Y) = X := by
      intro α X Y
      rcases hp' with rfl | rfl | rfl <;> rfl
    obtain ⟨I0, b1, b2, b3⟩ := X_begin (T := t) (n := p + 1) (by omega) (by omega) I
    obtain ⟨I1, x1, x2, x3⟩ := X_writeResidues (fr := 1) hp (by omega) b2
    have cls : ∃ I', f_X3_bordered_49 fu (nI p) t 1 I1 = (f_X2_judged t I').bind (fun x2 => some (x2.1, x2.2)) ∧ XT I' t (p + 1) (bdG p) ∧ ∀ a b, a ≠ 23 + 3 * t → a ≠ 24 + 3 * t → I' a b = I1 a b := by
      refine lp (fun f i I => f_X3_bordered_49 f (nI p) t i I) (p + 1) 1 (by omega) (by rw [fu_val]; omega) (fun k I' => XT I' t (p + 1) (fun a b => if a < k then bdG p a b else wrG (fun _ _ => 1) p 1 p 0 a b) ∧ ∀ a b, a ≠ 23 + 3 * t → a ≠ 24 + 3 * t → I' a b = I1 a b) (fun res => ∃ I', res = (f_X2_judged t I').bind (fun x2 => some (x2.1, x2.2)) ∧ XT I' t (p + 1) (bdG p) ∧ ∀ a b, a ≠ 23 + 3 * t → a ≠ 24 + 3 * t → I' a b = I1 a b) ?_ ?_ _ ?_
      · intro f s ⟨s1, s2⟩
        refine ⟨s, ?_, XT_congA s1 (fun a b ha _ => by rw [if_pos ha]), s2⟩
        show f_X3_bordered_49 (f + 1) (nI p) t (nI (p + 1)) s = _
        rw [f_X3_bordered_49, if_pos (nI_lt (by omega) (by omega))]
      · intro f k s hk1 hk ⟨s1, s2⟩
        left
        obtain ⟨s', r1, r2, r3⟩ := X_write s1 hk (show 0 < p + 1 by omega) (z := -1) (by omega)
        obtain ⟨s'', u1, u2, u3⟩ := X_write r2 hk hk (z := 1) (by omega)
        refine ⟨s'', ?_, XT_congA u2 (fun a b ha hb => ?_), fun a b ha hb => by rw [u3 a b ha hb, r3 a b ha hb, s2 a b ha hb]⟩
        · show f_X3_bordered_49 (f + 1) (nI p) t (nI k) s = f_X3_bordered_49 f (nI p) t (nI (k + 1)) s''
          rw [f_X3_bordered_49, if_neg (nI_nlt (by omega) (by omega))]
          have r1' : f_X2_write t (nI k) 0 (-1) s = some s' := by
            rw [show (-1 : Int32) = sI (-1) from by decide]
            exact r1
          have u1' : f_X2_write t (nI k) (nI k) 1 s' = some s'' := u1
          rw [r1', Option.bind_some, u1', Option.bind_some, nI_1]
        · simp only [up2]
          by_cases g : a = k
          · subst g
            rw [if_pos (show a < a + 1 by omega)]
            by_cases gb : b = a
            · subst gb
              rw [if_pos ⟨rfl, rfl⟩]
              unfold bdG
              rw [if_neg (by omega), if_neg (by omega), if_pos rfl]
            · rw [if_neg (fun q => gb q.2)]
              by_cases g0 : b = 0
              · subst g0
                rw [if_pos ⟨rfl, rfl⟩]
                unfold bdG
                rw [if_neg (by omega), if_pos rfl]
              · rw [if_neg (fun q => g0 q.2), if_neg (by omega)]
                unfold wrG bdG
                rw [if_pos (by omega), if_neg (by omega), if_neg g0, if_neg (fun q => gb q.symm)]
          · rw [if_neg (fun q => g q.1), if_neg (fun q => g q.1)]
            by_cases g2 : a < k
            · rw [if_pos g2, if_pos (by omega)]
            · rw [if_neg g2, if_neg (by omega)]
      · refine ⟨XT_congA x2 (fun a b ha hb => ?_), fun _ _ _ _ => rfl⟩
        by_cases g : a < 1
        · rw [if_pos g]
          unfold wrG bdG
          rw [if_neg (by omega), if_pos (by omega)]
        · rw [if_neg g]
    have mod : ∃ K', f_X4_bordered_28 fu (nI t) (nI p) 0 K = (f_X4_take (nI t) (nI (p + 1)) K').bind (fun x2 => some (x2.1, x2.2)) ∧ (∀ a b, a < p + 1 → b < p + 1 → K' 8 (12 * a + b) = sI (bdG p a b)) ∧ ∀ a b, a ≠ 8 → K' a b = K a b := by
      refine lp (fun f i K => f_X4_bordered_28 f (nI t) (nI p) i K) (p + 1) 0 (by omega) (by rw [fu_val]; omega) (fun i K' => (∀ a b, a < p + 1 → b < p + 1 → (a < i ∨ (a = i ∧ b < 0)) → K' 8 (12 * a + b) = sI (bdG p a b)) ∧ ∀ a b, a ≠ 8 → K' a b = K a b) (fun res => ∃ K', res = (f_X4_take (nI t) (nI (p + 1)) K').bind (fun x2 => some (x2.1, x2.2)) ∧ (∀ a b, a < p + 1 → b < p + 1 → K' 8 (12 * a + b) = sI (bdG p a b)) ∧ ∀ a b, a ≠ 8 → K' a b = K a b) ?_ ?_ _ ?_
      · intro f s ⟨s1, s2⟩
        refine ⟨s, ?_, fun a b ha hb => s1 a b ha hb (Or.inl ha), s2⟩
        show f_X4_bordered_28 (f + 1) (nI t) (nI p) (nI (p + 1)) s = _
        rw [f_X4_bordered_28, if_pos (nI_lt (by omega) (by omega)), nI_1]
      · intro f i s _ hi ⟨s1, s2⟩
        left
        show ∃ s', f_X4_bordered_28 (f + 1) (nI t) (nI p) (nI i) s = f_X4_bordered_28 f (nI t) (nI p) (nI (i + 1)) s' ∧ _
        rw [f_X4_bordered_28, if_neg (nI_nlt (by omega) (by omega))]
        refine lp (fun g j K => f_X4_bordered_36 (f_X4_bordered_28 f) g (nI t) (nI p) (nI i) j K) (p + 1) 0 (by omega) (by rw [fu_val]; omega) (fun k K' => (∀ a b, a < p + 1 → b < p + 1 → (a < i ∨ (a = i ∧ b < k)) → K' 8 (12 * a + b) = sI (bdG p a b)) ∧ ∀ a b, a ≠ 8 → K' a b = K a b) (fun res => ∃ s', res = f_X4_bordered_28 f (nI t) (nI p) (nI (i + 1)) s' ∧ (∀ a b, a < p + 1 → b < p + 1 → (a < i + 1 ∨ (a = i + 1 ∧ b < 0)) → s' 8 (12 * a + b) = sI (bdG p a b)) ∧ ∀ a b, a ≠ 8 → s' a b = K a b) ?_ ?_ _ ⟨s1, s2⟩
        · intro g s ⟨u1, u2⟩
          refine ⟨s, ?_, fun a b ha hb hab => u1 a b ha hb (by omega), u2⟩
          show f_X4_bordered_36 (f_X4_bordered_28 f) (g + 1) (nI t) (nI p) (nI i) (nI (p + 1)) s = _
          rw [f_X4_bordered_36, if_pos (nI_lt (by omega) (by omega)), nI_1]
        · intro g k s _ hk ⟨u1, u2⟩
          left
          refine ⟨wI s 8 (12 * i + k) (sI (bdG p i k)), ?_, b12 (G := bdG p) (by omega) u1 (by omega), fun a b ha => by rw [wI_off (by omega), u2 a b ha]⟩
          show f_X4_bordered_36 (f_X4_bordered_28 f) (g + 1) (nI t) (nI p) (nI i) (nI k) s = f_X4_bordered_36 (f_X4_bordered_28 f) g (nI t) (nI p) (nI i) (nI (k + 1)) _
          rw [f_X4_bordered_36, if_neg (nI_nlt (by omega) (by omega)), e12, ix_nI (by omega) (by omega)]
          simp only [if_true]
          rw [nI_clamp (by omega), nI_1]
          unfold bdG
          by_cases gi : i = 0
          · subst gi
            rw [if_pos (show nI 0 = 0 from nI_0), if_pos rfl]
            rfl
          · rw [if_neg (nI_ne0 (by omega) (by omega)), if_neg gi]
            by_cases gk : k = 0
            · subst gk
              rw [if_pos (show nI 0 = 0 from nI_0), if_pos rfl, show sI (-1) = (-1 : Int32) from by decide]
            · rw [if_neg (nI_ne0 (by omega) (by omega)), if_neg gk]
              by_cases gik : i = k
              · subst gik
                rw [if_pos rfl, if_pos rfl]
                rfl
              · have e : nI k - nI i = nI (k - 1) - nI (i - 1) := by
                  rw [← sI_nI, ← sI_nI, ← sI_nI, ← sI_nI, sI_sub, sI_sub]
                  congr 1
                  omega
                rw [if_neg (fun q => gik ((nI_eq (by omega) (by omega)).mp q)), if_neg gik, e, PR_re hp (show i - 1 < p by omega) (show k - 1 < p by omega), Option.bind_some]
      · exact ⟨fun a b _ _ hab => by omega, fun _ _ _ => rfl⟩
    obtain ⟨I2, y1, y2, y3⟩ := cls
    obtain ⟨Ka, m1, m2, m3⟩ := mod
    obtain ⟨Kb, r1, r2, r3⟩ := M_take (G := bdG p) ht (by omega) m2
    obtain ⟨k, I'', K'', t1, t2, t3⟩ := fin_tab h ht (by omega) (bdG_tri p) y2 r2 (fun a b q0 _ _ q1 q2 q3 => by rw [y3 a b q2 q3, x3 a b q2 q3, b3 a b q1 q2 q3]) (fun a b q0 _ q1 q2 q3 => by rw [r3 a b q1 q3, m3 a b (by omega)])
    have x1' : f_X3_writeResidues t 1 (nI p) I0 = some I1 := x1
    refine ⟨k, I'', K'', ?_, ?_, t3⟩
    · simp only [f_X3_bordered, e1, if_neg v10]
      rw [pick]
      simp only [f_X3_bordered_26, e3, e4, nI_1, b1, x1', y1, t1, Option.bind_some, if_true]
    · simp only [f_X4_bordered, e2, if_neg v10]
      rw [pick, m1, r1, t2]
      rfl
  · have n3 : ¬ a2 = 3 := fun q => hp ⟨3, Or.inl rfl, q⟩
    have n7 : ¬ a2 = 7 := fun q => hp ⟨7, Or.inr (Or.inl rfl), q⟩
    have n11 : ¬ a2 = 11 := fun q => hp ⟨11, Or.inr (Or.inr rfl), q⟩
    exact ⟨-1, I, K, by simp only [f_X3_bordered, e1, if_neg v10, if_neg n3, if_neg n7, if_neg n11], by simp only [f_X4_bordered, e2, if_neg v10, if_neg n3, if_neg n7, if_neg n11], h⟩
