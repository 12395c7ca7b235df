-- ===== sums of a row, with signs of columns turned =====
def rsI (A : Nat → Nat → Int) (n i x : Nat) : Int := fb_si (fun j => if x.testBit j then - A i j else A i j) n
theorem bs_andN (p : Nat → Bool) (n x : Nat) : bs p n &&& x = bs (fun j => p j && x.testBit j) n := by
  apply Nat.eq_of_testBit_eq
  intro j
  rw [Nat.testBit_and, bs_tb, bs_tb]
  by_cases hj : j < n <;> simp [hj]
theorem rs_ct {A : Nat → Nat → Int} (hA : tri A) (i x : Nat) : ∀ n, rsI A n i x = ((fb_ct (pl A i) n : Int) - fb_ct (mn A i) n) - 2 * ((fb_ct (fun j => pl A i j && x.testBit j) n : Int) - fb_ct (fun j => mn A i j && x.testBit j) n)
  | 0 => by simp [rsI, fb_si, fb_ct]
  | n + 1 => by
    have ih := rs_ct hA i x n
    unfold rsI at ih ⊢
    rw [fb_si_succ, fb_ct_succ, fb_ct_succ, fb_ct_succ, fb_ct_succ, ih]
    rcases hA i n with e | e | e <;> cases h : x.testBit n <;> simp [pl, mn, e] <;> omega
theorem rs_bound {A : Nat → Nat → Int} (hA : tri A) (i x n : Nat) : -(n : Int) ≤ rsI A n i x ∧ rsI A n i x ≤ n := by
  have := fb_si_bound (f := fun j => if x.testBit j then - A i j else A i j) (c := 1) (by omega) (n := n) (fun j _ => by
    have := tri_b hA i j
    cases h : x.testBit j <;> simp <;> omega)
  unfold rsI
  omega
theorem X_rowSum {I : zMi} {T n : Nat} {A : Nat → Nat → Int} (hA : tri A) (h : XT I T n A) {i : Nat} (hi : i < n) (x : Nat) : f_X2_rowSum T (nI i) (nI x) I = some (sI (rsI A n i x)) := by
  obtain ⟨h1, h2, h3, h4⟩ := h
  unfold f_X2_rowSum
  rw [ix_nI (by omega) (by omega), if_pos rfl, nI_clamp (by omega), (h4 i hi).1, (h4 i hi).2, fa_and, fa_and, bs_andN, bs_andN, bitCount_bs _ (by omega), bitCount_bs _ (by omega), bitCount_bs _ (by omega), bitCount_bs _ (by omega), rs_ct hA, ← sI_nI, ← sI_nI, ← sI_nI, ← sI_nI, sI_sub, sI_sub, show (2 : Int32) = sI 2 from rfl, sI_mul, sI_sub]
theorem abs_sI {z : Int} (h1 : -2147483647 ≤ z) (h2 : z < 2147483648) : f_X4_abs (sI z) = nI z.natAbs ∧ f_J9_abs (sI z) = nI z.natAbs := by
  have key : (if 0 ≤ sI z then sI z else - sI z) = nI z.natAbs := by
    have e : (0 : Int32) ≤ sI z ↔ 0 ≤ z := by
      rw [fa_le, sI_toInt (by omega) h2]
      exact Iff.rfl
    by_cases g : 0 ≤ z
    · rw [if_pos (e.mpr g), ← sI_nI]
      congr 1
      omega
    · rw [if_neg (fun q => g (e.mp q)), sI_neg, ← sI_nI]
      congr 1
      omega
  exact ⟨key, key⟩
section MS
variable {K : zMi} {t n : Nat} {A : Nat → Nat → Int}
theorem M_rowSum (h : MT K t n A) {i : Nat} (hi : i < n) : f_X4_rowSum (nI t) (nI i) K = some (sI (fb_si (A i) n)) := by
  have hn := h.2.1
  unfold f_X4_rowSum
  refine up0 (fun f j (a : Int32) => f_X4_rowSum_5 K f (nI t) (nI i) a j) n (by rw [fu_val]; omega) (fun k => sI (fb_si (A i) k)) _ ?_ ?_
  · intro f
    show f_X4_rowSum_5 K (f + 1) (nI t) (nI i) _ (nI n) = _
    rw [f_X4_rowSum_5, M_ix h, if_pos rfl, M_w h, if_pos (nI_le (Nat.le_refl _) (by omega))]
  · intro f k hk
    show f_X4_rowSum_5 K (f + 1) (nI t) (nI i) _ (nI k) = f_X4_rowSum_5 K f (nI t) (nI i) _ (nI (k + 1))
    rw [f_X4_rowSum_5, M_ix h, if_pos rfl, M_w h, if_neg (nI_ge hk (by omega)), MT_get h hi hk, nI_1]
    show f_X4_rowSum_5 K f (nI t) (nI i) (sI _ + sI _) _ = _
    rw [sI_add]
    rfl
theorem M_turnedSum (hA : tri A) (h : MT K t n A) {i x : Nat} (hi : i < n) (hx : x < 2 ^ 31) : f_X4_turnedSum (nI t) (nI i) (nI x) K = some (nI (rsI A n i x).natAbs) := by
  have hn := h.2.1
  have hb := rs_bound hA i x n
  unfold f_X4_turnedSum
  refine up0 (fun f j (a : Int32) => f_X4_turnedSum_6 K f (nI t) (nI i) (nI x) a j) n (by rw [fu_val]; omega) (fun k => sI (rsI A k i x)) _ ?_ ?_
  · intro f
    show f_X4_turnedSum_6 K (f + 1) (nI t) (nI i) (nI x) _ (nI n) = _
    rw [f_X4_turnedSum_6, M_ix h, if_pos rfl, M_w h, if_pos (nI_le (Nat.le_refl _) (by omega)), (abs_sI (by omega) (by omega)).1]
  · intro f k hk
    show f_X4_turnedSum_6 K (f + 1) (nI t) (nI i) (nI x) _ (nI k) = f_X4_turnedSum_6 K f (nI t) (nI i) (nI x) _ (nI (k + 1))
    rw [f_X4_turnedSum_6, M_ix h, if_pos rfl, M_w h, if_neg (nI_ge hk (by omega)), MT_get h hi hk, nI_1, bit_nI hx (by omega)]
    unfold rsI
    rw [fb_si_succ, Option.bind_some, Option.bind_some, sI_neg, sI_add, sI_add]
    cases x.testBit k
    · rfl
    · rfl
end MS
theorem rs_0 (A : Nat → Nat → Int) (n i : Nat) : rsI A n i 0 = fb_si (A i) n := fb_si_cong (fun j _ => by simp)
-- ===== kinds that are asked for =====
theorem KD_graph {A : Nat → Nat → Int} {n k : Nat} (h : KD A n k) (hk : k = 3 ∨ k = 4) : GR A n := by
  rcases h with ⟨-, h⟩ | ⟨-, h⟩
  · rcases h with ⟨-, h⟩ | ⟨-, h⟩ <;> omega
  · rcases h with ⟨g, -⟩ | ⟨-, h⟩
    · exact g
    · omega
theorem KD_even {A : Nat → Nat → Int} {n : Nat} (h : KD A n 4) : GR A n ∧ EV A n := by
  rcases h with ⟨-, h⟩ | ⟨-, h⟩
  · rcases h with ⟨-, h⟩ | ⟨-, h⟩ <;> omega
  · rcases h with ⟨g, h⟩ | ⟨-, h⟩
    · rcases h with ⟨e, -⟩ | ⟨-, h⟩
      · exact ⟨g, e⟩
      · omega
    · omega
theorem KD_square {A : Nat → Nat → Int} {n k : Nat} (h : KD A n k) (hk : k = 1 ∨ k = 2) : SG A n := by
  rcases h with ⟨g, -⟩ | ⟨-, h⟩
  · exact g.1
  · rcases h with ⟨-, h⟩ | ⟨-, h⟩
    · rcases h with ⟨-, h⟩ | ⟨-, h⟩ <;> omega
    · omega
/-- both ask for one KIND a -/
theorem is_eq {I K : zMi} {t k : Nat} (ht : t < 10) (k1 : I (22 + 3 * t) 3 = nI k) (k2 : K 7 t = nI k) (hk : k ≤ 4) {a : Nat} (ha : 1 ≤ a) (ha4 : a ≤ 4) : ∃ b, f_X2_isOfKind t (nI a) I = bI b ∧ f_X4_is (nI t) (nI a) K = some (bI b) ∧ (b = true ↔ k = a ∨ (a = 1 ∧ k = 2) ∨ (a = 3 ∧ k = 4)) := by
  refine ⟨decide (k = a ∨ (a = 1 ∧ k = 2) ∨ (a = 3 ∧ k = 4)), ?_, ?_, decide_eq_true_iff⟩
  · unfold f_X2_isOfKind
    rw [k1]
    rcases (show a = 1 ∨ a = 2 ∨ a = 3 ∨ a = 4 by omega) with rfl | rfl | rfl | rfl <;> rcases (show k = 0 ∨ k = 1 ∨ k = 2 ∨ k = 3 ∨ k = 4 by omega) with rfl | rfl | rfl | rfl | rfl <;> rfl
  · unfold f_X4_is
    rw [ix_nI ht (by omega), if_pos rfl, nI_clamp (by omega), k2]
    rcases (show a = 1 ∨ a = 2 ∨ a = 3 ∨ a = 4 by omega) with rfl | rfl | rfl | rfl <;> rcases (show k = 0 ∨ k = 1 ∨ k = 2 ∨ k = 3 ∨ k = 4 by omega) with rfl | rfl | rfl | rfl | rfl <;> rfl
theorem s_mark : so_mark RR := by
  intro I J K M h a1 a2
  rcases T_cases h a1 with ⟨e1, e2, e3⟩ | hT
  · refine ⟨-1, I, K, by simp only [f_X3_mark, e1, if_true], ?_, h⟩
    by_cases g : f_X4_in a2 1 4 = 0
    · simp only [f_X4_mark, g, if_true]
    · simp only [f_X4_mark, if_neg g, e3, Option.bind_some, if_neg v0m1]
  have e1' : f_X3_isTableNumber a1 = 1 := by
    rcases hT with ⟨t, ht, rfl, e1, _⟩ | ⟨t, n, A, k, ht, rfl, e1, _⟩ <;> exact e1
  rcases in_1n (a := a2) 4 (by omega) with ⟨n1, n2⟩ | ⟨w, hw1, hw, rfl, n1, n2, n3⟩
  · refine ⟨-1, I, K, ?_, by simp only [f_X4_mark, show f_X4_in a2 1 4 = 0 from n1, if_true], h⟩
    rcases n2 with q | q
    · simp only [f_X3_mark, e1', if_neg v10, if_pos q]
    · have q' : ¬ a2 ≤ 4 := q
      by_cases q2 : a2 < 1
      · simp only [f_X3_mark, e1', if_neg v10, if_pos q2]
      · simp only [f_X3_mark, e1', if_neg v10, if_neg q2, if_neg q']
  have n1' : f_X4_in (nI w) 1 4 = 1 := n1
  have n3' : nI w ≤ 4 := n3
  rcases hT with ⟨t, ht, rfl, e1, e2, e3, e4, e5, e6, e7⟩ | ⟨t, n, A, k, ht, rfl, e1, e2, e3, e4, e5, e6, e7, h0, hA, hX, hM, hK, k1, k2⟩
  · obtain ⟨I', K', y1, y2, h'⟩ := RR_found h 1 (by simp)
    refine ⟨-3, I', K', ?_, ?_, h'⟩
    · simp only [f_X3_mark, e1, e3, e4, e5, y1, Option.bind_some, if_neg v10, if_true, if_neg n2, if_pos n3']
    · simp only [f_X4_mark, n1', e7, y2, Option.bind_some, if_neg v0m3, if_neg v10]
  · have hn := hX.2.1
    have w1 : I (22 + 3 * t) 2 = nI n := hX.2.2.1
    have w2 : K 5 t = nI n := hM.2.2.1
    obtain ⟨b, i1, i2, i3⟩ := is_eq (I := I) (K := K) ht k1 k2 (KD_le hK) hw1 hw
    cases b
    · obtain ⟨I', K', y1, y2, h'⟩ := RR_found h 3 (by simp)
      refine ⟨-3, I', K', ?_, ?_, h'⟩
      · simp only [f_X3_mark, e1, e3, e4, e5, i1, bI_f, y1, Option.bind_some, if_neg v10, if_true, if_neg n2, if_pos n3']
      · simp only [f_X4_mark, n1', e7, i2, bI_f, y2, Option.bind_some, if_pos v00, if_neg v10, if_true]
    · have c2 := X_countBits (I := I) (c := 24 + 3 * t) hn (mn A) (fun i hi => (hX.2.2.2 i hi).2)
      have d2 : f_X4_countOf (nI t) (-1) K = some (nI (fb_sm (fun i => fb_ct (mn A i) n) n)) := by
        have := M_countOf hA hM (z := -1) (by omega)
        rw [show sI (-1) = (-1 : Int32) from by decide] at this
        exact this
      have r1 : f_X2_rowSum t 0 0 I = some (sI (fb_si (A 0) n)) := by rw [← rs_0]; exact X_rowSum hA hX h0 0
      have r2 : f_X4_rowSum (nI t) 0 K = some (sI (fb_si (A 0) n)) := M_rowSum hM h0
      have b1 : f_X2_neighbours t 0 I = some (nI (nbN A n 0)) := X_neighbours hX h0
      have b2 : f_X4_neighbours (nI t) 0 K = some (nI (nbN A n 0)) := M_neighbours hA hM h0
      have common : ∀ r, (∀ x : Int32, x = nI w → (if x = 1 then some (nI n / 2, I) else if x = 2 then (f_X2_rowSum t 0 0 I).bind (fun x9 => some (x9, I)) else if x = 3 then (f_X2_edges t I).bind (fun x11 => some (x11, I)) else (f_X2_neighbours t 0 I).bind (fun x12 => some (x12, I))) = some (r, I)) → (∀ x : Int32, x = nI w → (if x = 1 then some (nI n / 2, K) else if x = 2 then (f_X4_rowSum (nI t) 0 K).bind (fun x11 => some (x11, K)) else if x = 3 then (f_X4_countOf (nI t) (-1) K).bind (fun x10 => some (x10 / 2, K)) else (f_X4_neighbours (nI t) 0 K).bind (fun x9 => some (x9, K))) = some (r, K)) → ∃ (r : Int32) (I' : zMi) (K' : zMi), f_X3_mark (nI t) (nI w) I = some (r, I') ∧ f_X4_mark (nI t) (nI w) K = some (r, K') ∧ RR I' J K' M := by
        intro r hx hm
        refine ⟨r, I, K, ?_, ?_, h⟩
        · simp only [f_X3_mark, e1, e3, e4, e5, i1, bI_t, if_neg v10, if_true, if_neg n2, if_pos n3', w1]
          exact hx _ rfl
        · simp only [f_X4_mark, n1', e7, i2, bI_t, Option.bind_some, if_pos v00, if_neg v10, e3, e4, w2, if_true]
          exact hm _ rfl
      rcases (show w = 1 ∨ w = 2 ∨ w = 3 ∨ w = 4 by omega) with rfl | rfl | rfl | rfl
      · exact common (nI n / 2) (fun x hx => by subst hx; rfl) (fun x hx => by subst hx; rfl)
      · exact common (sI (fb_si (A 0) n)) (fun x hx => by subst hx; rw [r1]; rfl) (fun x hx => by subst hx; rw [r2]; rfl)
      · refine common (nI (fb_sm (fun i => fb_ct (mn A i) n) n) / 2) (fun x hx => ?_) (fun x hx => by subst hx; rw [d2]; rfl)
        subst hx
        unfold f_X2_edges
        rw [w1, c2]
        rfl
      · exact common (nI (nbN A n 0)) (fun x hx => by subst hx; rw [b1]; rfl) (fun x hx => by subst hx; rw [b2]; rfl)
theorem com_eq {I K : zMi} {t n : Nat} {A : Nat → Nat → Int} (hA : tri A) (hX : XT I t n A) (hM : MT K t n A) (hG : GR A n) (hE : EV A n) (j : Bool) : ∃ r, f_X2_commonOfFirstPair t (bI j) I = some r ∧ f_X4_commonOf (nI t) (sI (if j then -1 else 1)) K = some r := by
  have hn := hX.2.1
  have sgn : ∀ i k, k < i → i < n → (mn A i k = j ↔ A i k = (if j then -1 else 1)) := by
    intro i k hk hi
    have := ((hG i k hi (by omega)).2 (by omega)).1
    cases j <;> rcases hA i k with e | e | e <;> simp [mn, e] at this ⊢
  have eqc : EQC A n (if j then -1 else 1) := by
    cases j
    · exact hE.2.2
    · exact hE.2.1
  obtain ⟨r, e, c⟩ := M_common hA hM (v := if j then -1 else 1) (by cases j <;> simp)
  refine ⟨r, ?_, e⟩
  rcases X_common1 hX j with ⟨x1, x2⟩ | ⟨i, k, hk, hi, hm, x1⟩
  · rw [x1]
    rcases c with ⟨c1, -⟩ | ⟨a, b, hP, hab, -, -⟩ | ⟨-, a, b, -, -, hP, -, hab, -, -⟩
    · rw [c1]
    · exact absurd ((sgn a b hP.1 hP.2).mpr hab) (x2 a b hP.1 hP.2)
    · exact absurd ((sgn a b hP.1 hP.2).mpr hab) (x2 a b hP.1 hP.2)
  · rw [x1]
    have hv := (sgn i k hk hi).mp hm
    rcases c with ⟨-, c2⟩ | ⟨a, b, hP, hab, c1, -⟩ | ⟨-, a, b, a', b', hP, hP', hab, hab', hne⟩
    · exact absurd hv (c2 i k ⟨hk, hi⟩)
    · rw [c1, eqc i k a b hk hi hP.1 hP.2 hv hab]
    · exact absurd (eqc a b a' b' hP.1 hP.2 hP'.1 hP'.2 hab hab') hne
theorem s_even : so_even RR := by
  intro I J K M h a1 a2
  rcases T_cases h a1 with ⟨e1, e2, e3⟩ | hT
  · refine ⟨-1, I, K, by simp only [f_X3_even, e1, if_true], ?_, h⟩
    by_cases g : f_X4_in a2 0 3 = 0
    · simp only [f_X4_even, g, if_true]
    · simp only [f_X4_even, if_neg g, e3, Option.bind_some, if_neg v0m1]
  have e1' : f_X3_isTableNumber a1 = 1 := by
    rcases hT with ⟨t, ht, rfl, e1, _⟩ | ⟨t, n, A, k, ht, rfl, e1, _⟩ <;> exact e1
  rcases in_0n (a := a2) 3 (by omega) with ⟨n1, n2⟩ | ⟨w, hw, rfl, n1, n2, n3⟩
  · refine ⟨-1, I, K, ?_, by simp only [f_X4_even, show f_X4_in a2 0 3 = 0 from n1, if_true], h⟩
    rcases n2 with q | q
    · simp only [f_X3_even, e1', if_neg v10, if_pos q]
    · have q' : ¬ a2 ≤ 3 := q
      by_cases q2 : a2 < 0
      · simp only [f_X3_even, e1', if_neg v10, if_pos q2]
      · simp only [f_X3_even, e1', if_neg v10, if_neg q2, if_neg q']
  have n1' : f_X4_in (nI w) 0 3 = 1 := n1
  have n3' : nI w ≤ 3 := n3
  rcases hT with ⟨t, ht, rfl, e1, e2, e3, e4, e5, e6, e7⟩ | ⟨t, n, A, k, ht, rfl, e1, e2, e3, e4, e5, e6, e7, h0, hA, hX, hM, hK, k1, k2⟩
  · obtain ⟨I', K', y1, y2, h'⟩ := RR_found h 1 (by simp)
    refine ⟨-3, I', K', ?_, ?_, h'⟩
    · simp only [f_X3_even, e1, e3, e4, e5, y1, Option.bind_some, if_neg v10, if_true, if_neg n2, if_pos n3']
    · simp only [f_X4_even, n1', e7, y2, Option.bind_some, if_neg v0m3, if_neg v10]
  · have hn := hX.2.1
    have w1 : I (22 + 3 * t) 2 = nI n := hX.2.2.1
    have w2 : K 5 t = nI n := hM.2.2.1
    obtain ⟨b, i1, -, i3⟩ := is_eq (I := I) (K := K) ht k1 k2 (KD_le hK) (a := 4) (by omega) (by omega)
    have i1' : f_X2_isOfKind t 4 I = bI b := i1
    have hk4 := KD_le hK
    by_cases hk : k = 4
    · subst hk
      have hb : b = true := i3.mpr (by omega)
      subst hb
      obtain ⟨hG, hE⟩ := KD_even hK
      obtain ⟨c1, p1, p2⟩ := com_eq hA hX hM hG hE true
      obtain ⟨c2, p3, p4⟩ := com_eq hA hX hM hG hE false
      have p1' : f_X2_commonOfFirstPair t 1 I = some c1 := p1
      have p3' : f_X2_commonOfFirstPair t 0 I = some c2 := p3
      have p2' : f_X4_commonOf (nI t) (-1) K = some c1 := by
        rw [show (-1 : Int32) = sI (if true = true then -1 else 1) from by decide]; exact p2
      have p4' : f_X4_commonOf (nI t) 1 K = some c2 := p4
      have b1 : f_X2_neighbours t 0 I = some (nI (nbN A n 0)) := X_neighbours hX h0
      have b2 : f_X4_neighbours (nI t) 0 K = some (nI (nbN A n 0)) := M_neighbours hA hM h0
      have k2' : K 7 t = 4 := k2
      have fin : ∀ r, (∀ x : Int32, x = nI w → (if x = 0 then some (nI n, I) else if x = 1 then some (nI (nbN A n 0), I) else if x = 2 then some (c1, I) else some (c2, I)) = some (r, I)) → (∀ x : Int32, x = nI w → (if x = 0 then some (nI n, K) else if x = 1 then some (nI (nbN A n 0), K) else if x = 2 then some (c1, K) else some (c2, K)) = some (r, K)) → ∃ (r : Int32) (I' : zMi) (K' : zMi), f_X3_even (nI t) (nI w) I = some (r, I') ∧ f_X4_even (nI t) (nI w) K = some (r, K') ∧ RR I' J K' M := by
        intro r hx hm
        refine ⟨r, I, K, ?_, ?_, h⟩
        · simp only [f_X3_even, e1, e3, e4, e5, i1', bI_t, if_neg v10, if_true, if_neg n2, if_pos n3', w1, b1, p1', p3', Option.bind_some]
          exact hx _ rfl
        · simp only [f_X4_even, n1', e7, k2', Option.bind_some, if_pos v00, if_neg v10, e3, e4, w2, if_true, b2, p2', p4']
          exact hm _ rfl
      rcases (show w = 0 ∨ w = 1 ∨ w = 2 ∨ w = 3 by omega) with rfl | rfl | rfl | rfl
      · exact fin (nI n) (fun x hx => by subst hx; rfl) (fun x hx => by subst hx; rfl)
      · exact fin _ (fun x hx => by subst hx; rfl) (fun x hx => by subst hx; rfl)
      · exact fin _ (fun x hx => by subst hx; rfl) (fun x hx => by subst hx; rfl)
      · exact fin _ (fun x hx => by subst hx; rfl) (fun x hx => by subst hx; rfl)
    · have hb : b = false := by
        cases b
        · rfl
        · have := i3.mp rfl
          omega
      subst hb
      have k2' : ¬ K 7 t = 4 := by
        rw [k2]
        exact fun q => hk ((nI_eq (a := k) (b := 4) (by omega) (by omega)).mp q)
      obtain ⟨I', K', y1, y2, h'⟩ := RR_found h 3 (by simp)
      refine ⟨-3, I', K', ?_, ?_, h'⟩
      · simp only [f_X3_even, e1, e3, e4, e5, i1', bI_f, y1, Option.bind_some, if_neg v10, if_true, if_neg n2, if_pos n3']
      · simp only [f_X4_even, n1', e7, e3, e4, if_neg k2', y2, Option.bind_some, if_pos v00, if_neg v10, if_true]
