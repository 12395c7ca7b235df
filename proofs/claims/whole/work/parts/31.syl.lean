-- ===== the worth of a table =====
def dd (n : Nat) (A : Nat → Nat → Int) : Int := dt n A A 0
theorem dd_succ (n : Nat) (A : Nat → Nat → Int) : dd (n + 1) A = fb_si (fun i => sg i * (A i 0 * dd n (mi A i))) (n + 1) := by
  unfold dd
  rw [dt_succ]
  refine fb_si_cong (fun i _ => ?_)
  show sg i * (A i 0 * dt n (mi A i) (mi A i) 0 + A i 0 * 0) = _
  simp
theorem dd_cong {n : Nat} {A B : Nat → Nat → Int} (h : ∀ i j, i < n → j < n → A i j = B i j) : dd n A = dd n B := dt_cong n h h 0
theorem dd_lin {n : Nat} (A : Nat → Nat → Int) {r : Nat} (hr : r < n) (a b : Int) (u v : Nat → Int) : dd n (rp A r (fun j => a * u j + b * v j)) = a * dd n (rp A r u) + b * dd n (rp A r v) := dt_lin n A A r hr a b u v u v 0
theorem dd_same {n : Nat} {p q : Nat} (hp : p < n) (hq : q < n) (hpq : p ≠ q) {A : Nat → Nat → Int} (h : A p = A q) : dd n A = 0 := dt_same 0 hp hq hpq h h
/-- p times a row, less a multiple of another -/
theorem dd_op {n : Nat} (A : Nat → Nat → Int) {r s : Nat} (hr : r < n) (hs : s < n) (h : r ≠ s) (p c : Int) : dd n (rp A r (fun j => p * A r j + c * A s j)) = p * dd n A := by
  rw [dd_lin A hr, rp_self, dd_same (A := rp A r (A s)) hr hs h (by rw [rp_at, rp_ne _ _ (fun q => h q.symm)])]
  simp
/-- rows change places -/
def sx (A : Nat → Nat → Int) (p q : Nat) : Nat → Nat → Int := fun i => if i = p then A q else if i = q then A p else A i
theorem dd_sx {n : Nat} (A : Nat → Nat → Int) {p q : Nat} (hp : p < n) (hq : q < n) (h : p ≠ q) : dd n (sx A p q) = - dd n A := by
  -- rows p and q both x + y
  have z : ∀ (x y : Nat → Int), dd n (rp (rp A p x) q y) = - dd n (rp (rp A p y) q x) := by
    intro x y
    have comm : ∀ u v : Nat → Int, rp (rp A p u) q v = rp (rp A q v) p u := by
      intro u v
      funext i j
      unfold rp
      by_cases g : i = q
      · subst g
        rw [if_pos rfl, if_neg (fun e => h e.symm), if_pos rfl]
      · rw [if_neg g]
        by_cases g2 : i = p
        · rw [if_pos g2, if_pos g2]
        · rw [if_neg g2, if_neg g2, if_neg g]
    have s0 : ∀ u, dd n (rp (rp A p u) q u) = 0 := fun u => dd_same hp hq h (by rw [rp_at, rp_ne _ _ h, rp_at])
    have e1 := s0 (fun j => 1 * x j + 1 * y j)
    rw [dd_lin (rp A p (fun j => 1 * x j + 1 * y j)) hq 1 1 x y, comm, dd_lin (rp A q x) hp 1 1 x y, comm, dd_lin (rp A q y) hp 1 1 x y, ← comm, ← comm, ← comm, ← comm, s0, s0] at e1
    omega
  have e1 := z (A q) (A p)
  have e2 : rp (rp A p (A p)) q (A q) = A := by rw [rp_self, rp_self]
  rw [e2] at e1
  rw [← e1]
  congr 1
  funext i
  unfold sx
  by_cases g : i = p
  · subst g
    rw [if_pos rfl, rp_ne _ _ h, rp_at]
  · rw [if_neg g]
    by_cases g2 : i = q
    · subst g2
      rw [if_pos rfl, rp_at]
    · rw [if_neg g2, rp_ne _ _ g2, rp_ne _ _ g]
theorem dd_neg (n : Nat) (A : Nat → Nat → Int) : dd n (fun i j => - A i j) = (if n % 2 = 0 then 1 else -1) * dd n A := by
  induction n generalizing A with
  | zero => rfl
  | succ n ih =>
    rw [dd_succ, dd_succ, ← fb_si_mul]
    refine fb_si_cong (fun i _ => ?_)
    have e : mi (fun i j => - A i j) i = fun a b => - mi A i a b := rfl
    rw [e, ih (mi A i)]
    have e2 : (if (n + 1) % 2 = 0 then (1 : Int) else -1) = - (if n % 2 = 0 then (1 : Int) else -1) := by
      by_cases h : n % 2 = 0
      · rw [if_neg (by omega), if_pos h]
      · rw [if_pos (by omega), if_neg h]; rfl
    rw [e2]
    generalize (if n % 2 = 0 then (1 : Int) else -1) = y
    grind
theorem qc_top (n : Nat) (A : Nat → Nat → Int) : qc n A n = (if n % 2 = 0 then 1 else -1) * dd n A := by
  unfold qc
  rw [dt_top n dl (fun i j => - A i j) (fun i j => - A i j)]
  exact dd_neg n A
-- ===== one step of clearing =====
/-- the rows 1 .. m have been cleared by row 0 -/
def cl (A : Nat → Nat → Int) (m : Nat) : Nat → Nat → Int := fun i j => if 1 ≤ i ∧ i ≤ m then A 0 0 * A i j + (- A i 0) * A 0 j else A i j
theorem dd_cl {n : Nat} (A : Nat → Nat → Int) : ∀ m, m < n → dd n (cl A m) = (A 0 0) ^ m * dd n A
  | 0, _ => by
    have : cl A 0 = A := by
      funext i j
      unfold cl
      rw [if_neg (by omega)]
    rw [this]
    simp
  | m + 1, h => by
    have e : cl A (m + 1) = rp (cl A m) (m + 1) (fun j => A 0 0 * cl A m (m + 1) j + (- A (m + 1) 0) * cl A m 0 j) := by
      funext i j
      simp only [cl, rp]
      by_cases g : i = m + 1
      · subst g
        simp
        grind
      · simp only [g, if_false]
        grind
    rw [e, dd_op (cl A m) (r := m + 1) (s := 0) h (by omega) (by omega), dd_cl A m (by omega), Int.pow_succ]
    grind
def ch (A : Nat → Nat → Int) : Nat → Nat → Int := fun i j => A 0 0 * A (i + 1) (j + 1) - A (i + 1) 0 * A 0 (j + 1)
theorem chio (n : Nat) (A : Nat → Nat → Int) : (A 0 0) ^ n * dd (n + 1) A = A 0 0 * dd n (ch A) := by
  rw [← dd_cl A n (by omega), dd_succ, si_skip _ 0 n (by omega), si_z (fun a ha => ?_)]
  · have e : dd n (mi (cl A n) 0) = dd n (ch A) := dd_cong (fun i j hi hj => by
      show cl A n (sk 0 i) (j + 1) = _
      have e0 : sk 0 i = i + 1 := by simp [sk]
      rw [e0]
      simp only [cl, ch]
      rw [if_pos (by omega)]
      grind)
    rw [e]
    have e2 : cl A n 0 0 = A 0 0 := by unfold cl; rw [if_neg (by omega)]
    rw [e2]
    simp [sg]
  · have e2 : cl A n (sk 0 a) 0 = 0 := by
      have e0 : sk 0 a = a + 1 := by simp [sk]
      rw [e0]
      simp only [cl]
      rw [if_pos (by omega)]
      grind
    rw [e2]
    simp
theorem pw_ne {p : Int} (h : p ≠ 0) (n : Nat) : p ^ n ≠ 0 := by
  induction n with
  | zero => simp
  | succ n ih => rw [Int.pow_succ]; exact Int.mul_ne_zero ih h
theorem chio' {n : Nat} {A : Nat → Nat → Int} (h : A 0 0 ≠ 0) : dd (n + 1) (ch A) = (A 0 0) ^ n * dd (n + 2) A := by
  have := chio (n + 1) A
  rw [Int.pow_succ] at this
  have e : A 0 0 * ((A 0 0) ^ n * dd (n + 2) A) = A 0 0 * dd (n + 1) (ch A) := by
    rw [← this]
    grind
  exact (Int.eq_of_mul_eq_mul_left h e).symm
def sel (k i a : Nat) : Nat := if a < k then a else i
def bd (A : Nat → Nat → Int) (k i j : Nat) : Nat → Nat → Int := fun a b => A (sel k i a) (sel k j b)
def mm (k : Nat) (A : Nat → Nat → Int) (i j : Nat) : Int := dd (k + 1) (bd A k i j)
theorem ch_bd (A : Nat → Nat → Int) (k i j : Nat) : ch (bd A (k + 1) (i + 1) (j + 1)) = bd (ch A) k i j := by
  funext a b
  have e : ∀ i a, sel (k + 1) (i + 1) (a + 1) = sel k i a + 1 := fun i a => by
    unfold sel
    by_cases g : a < k
    · rw [if_pos (by omega), if_pos g]
    · rw [if_neg (by omega), if_neg g]
  have e0 : ∀ i, sel (k + 1) (i + 1) 0 = 0 := fun i => by unfold sel; rw [if_pos (by omega)]
  unfold ch bd
  rw [e, e, e0, e0]
theorem mm_ch {A : Nat → Nat → Int} (h : A 0 0 ≠ 0) (k i j : Nat) : mm k (ch A) i j = (A 0 0) ^ k * mm (k + 1) A (i + 1) (j + 1) := by
  unfold mm
  rw [← ch_bd]
  have e0 : bd A (k + 1) (i + 1) (j + 1) 0 0 = A 0 0 := by unfold bd sel; rw [if_pos (by omega), if_pos (by omega)]
  rw [chio' (by rw [e0]; exact h), e0]
theorem mm_lead (k : Nat) (A : Nat → Nat → Int) : mm k A k k = dd (k + 1) A := dd_cong (fun i j hi hj => by
  have e : ∀ a, a < k + 1 → sel k k a = a := fun a ha => by unfold sel; split <;> omega
  unfold bd
  rw [e i hi, e j hj])
theorem mm_0 (A : Nat → Nat → Int) (i j : Nat) : mm 0 A i j = A i j := by
  unfold mm
  rw [dd_succ]
  show fb_si _ 1 = _
  simp [fb_si, sg, bd, sel]
  show A i j * 1 = A i j
  omega
theorem mm_1 (A : Nat → Nat → Int) (i j : Nat) : mm 1 A i j = A 0 0 * A i j - A i 0 * A 0 j := by
  unfold mm
  have e : ∀ B : Nat → Nat → Int, dd 1 B = B 0 0 := fun B => by
    rw [dd_succ]
    show fb_si _ 1 = _
    simp [fb_si, sg]
    show B 0 0 * 1 = B 0 0
    omega
  rw [dd_succ]
  show fb_si _ 2 = _
  simp only [fb_si, e]
  simp [sg, mi, sk, bd, sel]
  omega
theorem syl : ∀ (k : Nat) (A : Nat → Nat → Int) (i j : Nat), (∀ s, 1 ≤ s → s ≤ k → dd s A ≠ 0) → k < i → k < j → dd k A * mm (k + 1) A i j = mm k A i j * mm k A k k - mm k A i k * mm k A k j
  | 0, A, i, j, _, _, _ => by
    rw [mm_0, mm_0, mm_0, mm_0, mm_1]
    show 1 * _ = _
    grind
  | k + 1, A, i, j, h, hi, hj => by
    have e1 : ∀ B : Nat → Nat → Int, dd 1 B = B 0 0 := fun B => by
      have := mm_lead 0 B
      rw [mm_0] at this
      exact this.symm
    have h0 : A 0 0 ≠ 0 := by
      have := h 1 (by omega) (by omega)
      rw [e1] at this
      exact this
    obtain ⟨i, rfl⟩ : ∃ q, i = q + 1 := ⟨i - 1, by omega⟩
    obtain ⟨j, rfl⟩ : ∃ q, j = q + 1 := ⟨j - 1, by omega⟩
    have ih := syl k (ch A) i j (fun s h1 h2 => by
      obtain ⟨s, rfl⟩ : ∃ q, s = q + 1 := ⟨s - 1, by omega⟩
      rw [chio' h0]
      exact Int.mul_ne_zero (pw_ne h0 s) (h (s + 2) (by omega) (by omega))) (by omega) (by omega)
    rw [mm_ch h0, mm_ch h0, mm_ch h0, mm_ch h0, mm_ch h0] at ih
    have hc := chio k A
    -- A00 * both sides
    have ne : (A 0 0) ^ k * (A 0 0) ^ k ≠ 0 := Int.mul_ne_zero (pw_ne h0 k) (pw_ne h0 k)
    apply Int.eq_of_mul_eq_mul_left ne
    have ps : (A 0 0) ^ (k + 1) = (A 0 0) ^ k * A 0 0 := Int.pow_succ ..
    rw [ps] at ih
    generalize (A 0 0) ^ k = w at *
    generalize A 0 0 = p at *
    generalize dd k (ch A) = x at *
    generalize dd (k + 1) A = y at *
    generalize mm (k + 1 + 1) A (i + 1) (j + 1) = m2 at *
    generalize mm (k + 1) A (i + 1) (j + 1) = m1 at *
    generalize mm (k + 1) A (k + 1) (k + 1) = mk at *
    generalize mm (k + 1) A (i + 1) (k + 1) = mi at *
    generalize mm (k + 1) A (k + 1) (j + 1) = mj at *
    grind
/-- no pivot: nothing is left -/
theorem dd_none : ∀ (k n : Nat) (A : Nat → Nat → Int), (∀ s, 1 ≤ s → s ≤ k → dd s A ≠ 0) → k < n → (∀ p, k ≤ p → p < n → mm k A p k = 0) → dd n A = 0
  | 0, n, A, _, hn, hz => by
    obtain ⟨n, rfl⟩ : ∃ q, n = q + 1 := ⟨n - 1, by omega⟩
    rw [dd_succ]
    refine si_z (fun i hi => ?_)
    have := hz i (by omega) hi
    rw [mm_0] at this
    rw [this]
    simp
  | k + 1, n, A, h, hn, hz => by
    have e1 : ∀ B : Nat → Nat → Int, dd 1 B = B 0 0 := fun B => by
      have := mm_lead 0 B
      rw [mm_0] at this
      exact this.symm
    have h0 : A 0 0 ≠ 0 := by
      have := h 1 (by omega) (by omega)
      rw [e1] at this
      exact this
    obtain ⟨n, rfl⟩ : ∃ q, n = q + 2 := ⟨n - 2, by omega⟩
    have ih := dd_none k (n + 1) (ch A) (fun s h1 h2 => by
      obtain ⟨s, rfl⟩ : ∃ q, s = q + 1 := ⟨s - 1, by omega⟩
      rw [chio' h0]
      exact Int.mul_ne_zero (pw_ne h0 s) (h (s + 2) (by omega) (by omega))) (by omega) (fun p h1 h2 => by
      rw [mm_ch h0, hz (p + 1) (by omega) (by omega)]
      simp)
    rw [chio' h0] at ih
    rcases Int.mul_eq_zero.mp ih with q | q
    · exact absurd q (pw_ne h0 n)
    · exact q
-- ===== bounds =====
def fct : Nat → Nat
  | 0 => 1
  | n + 1 => (n + 1) * fct n
theorem fct_12 {n : Nat} (h : n ≤ 12) : fct n ≤ 479001600 := by
  rcases (show n = 0 ∨ n = 1 ∨ n = 2 ∨ n = 3 ∨ n = 4 ∨ n = 5 ∨ n = 6 ∨ n = 7 ∨ n = 8 ∨ n = 9 ∨ n = 10 ∨ n = 11 ∨ n = 12 by omega) with rfl | rfl | rfl | rfl | rfl | rfl | rfl | rfl | rfl | rfl | rfl | rfl | rfl <;> decide
theorem sg_mul (i : Nat) (x : Int) (c : Int) (h : -c ≤ x ∧ x ≤ c) : -c ≤ sg i * x ∧ sg i * x ≤ c := by
  unfold sg
  split <;> omega
theorem un_mul {a x c : Int} (ha : -1 ≤ a ∧ a ≤ 1) (hc : -c ≤ x ∧ x ≤ c) : -c ≤ a * x ∧ a * x ≤ c := by
  rcases (show a = -1 ∨ a = 0 ∨ a = 1 by omega) with rfl | rfl | rfl <;> omega
theorem dd_bound : ∀ (n : Nat) (A : Nat → Nat → Int), (∀ i j, -1 ≤ A i j ∧ A i j ≤ 1) → -(fct n : Int) ≤ dd n A ∧ dd n A ≤ fct n
  | 0, A, _ => by
    have : dd 0 A = 1 := rfl
    rw [this]
    show -((1 : Nat) : Int) ≤ 1 ∧ (1 : Int) ≤ ((1 : Nat) : Int)
    omega
  | n + 1, A, h => by
    rw [dd_succ]
    have := fb_si_bound (f := fun i => sg i * (A i 0 * dd n (mi A i))) (c := (fct n : Int)) (by omega) (n := n + 1) (fun i _ => sg_mul i _ _ (un_mul (h i 0) (dd_bound n (mi A i) (fun a b => h _ _))))
    show -(((n + 1) * fct n : Nat) : Int) ≤ _ ∧ _ ≤ (((n + 1) * fct n : Nat) : Int)
    rw [Int.natCast_mul]
    exact this
def f2 : Nat → Nat
  | 0 => 1
  | n + 1 => (n + 1) * (2 * f2 n)
theorem f2_12 {n : Nat} (h : n ≤ 12) : f2 n ≤ 1961990553600 := by
  rcases (show n = 0 ∨ n = 1 ∨ n = 2 ∨ n = 3 ∨ n = 4 ∨ n = 5 ∨ n = 6 ∨ n = 7 ∨ n = 8 ∨ n = 9 ∨ n = 10 ∨ n = 11 ∨ n = 12 by omega) with rfl | rfl | rfl | rfl | rfl | rfl | rfl | rfl | rfl | rfl | rfl | rfl | rfl <;> decide
theorem dt_bound : ∀ (n : Nat) (R S : Nat → Nat → Int), (∀ i j, -1 ≤ R i j ∧ R i j ≤ 1) → (∀ i j, -1 ≤ S i j ∧ S i j ≤ 1) → ∀ k, -(f2 n : Int) ≤ dt n R S k ∧ dt n R S k ≤ f2 n
  | 0, R, S, _, _, k => by
    show -((1 : Nat) : Int) ≤ (if k = 0 then 1 else 0) ∧ (if k = 0 then 1 else 0) ≤ ((1 : Nat) : Int)
    split <;> omega
  | n + 1, R, S, hR, hS, k => by
    rw [dt_succ]
    have ih : ∀ i k, -(f2 n : Int) ≤ dt n (mi R i) (mi S i) k ∧ dt n (mi R i) (mi S i) k ≤ f2 n := fun i k => dt_bound n (mi R i) (mi S i) (fun a b => hR _ _) (fun a b => hS _ _) k
    have ih2 : ∀ i, -(f2 n : Int) ≤ sh (dt n (mi R i) (mi S i)) k ∧ sh (dt n (mi R i) (mi S i)) k ≤ f2 n := fun i => by
      cases k with
      | zero => show -(f2 n : Int) ≤ 0 ∧ (0 : Int) ≤ f2 n; omega
      | succ k => exact ih i k
    have := fb_si_bound (f := fun i => sg i * (R i 0 * dt n (mi R i) (mi S i) k + S i 0 * sh (dt n (mi R i) (mi S i)) k)) (c := ((2 * f2 n : Nat) : Int)) (by omega) (n := n + 1) (fun i _ => sg_mul i _ _ (by
      have b1 := un_mul (hR i 0) (ih i k)
      have b2 := un_mul (hS i 0) (ih2 i)
      omega))
    show -(((n + 1) * (2 * f2 n) : Nat) : Int) ≤ _ ∧ _ ≤ (((n + 1) * (2 * f2 n) : Nat) : Int)
    rw [Int.natCast_mul]
    exact this
