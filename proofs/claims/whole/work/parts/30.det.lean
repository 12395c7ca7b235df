-- ===== the sum over all orders, by the first column; with a letter x: R + x S =====
def sk (i a : Nat) : Nat := if a < i then a else a + 1
def un (i r : Nat) : Nat := if r < i then r else r - 1
def mi (R : Nat → Nat → Int) (i : Nat) : Nat → Nat → Int := fun a b => R (sk i a) (b + 1)
def sg (i : Nat) : Int := if i % 2 = 0 then 1 else -1
def sh (p : Nat → Int) : Nat → Int
  | 0 => 0
  | k + 1 => p k
def dt : Nat → (Nat → Nat → Int) → (Nat → Nat → Int) → Nat → Int
  | 0, _, _ => fun k => if k = 0 then 1 else 0
  | n + 1, R, S => fun k => fb_si (fun i => sg i * (R i 0 * dt n (mi R i) (mi S i) k + S i 0 * sh (dt n (mi R i) (mi S i)) k)) (n + 1)
theorem dt_succ (n : Nat) (R S : Nat → Nat → Int) (k : Nat) : dt (n + 1) R S k = fb_si (fun i => sg i * (R i 0 * dt n (mi R i) (mi S i) k + S i 0 * sh (dt n (mi R i) (mi S i)) k)) (n + 1) := rfl
theorem sh_cong {p q : Nat → Int} (h : ∀ k, p k = q k) : ∀ k, sh p k = sh q k
  | 0 => rfl
  | k + 1 => h k
theorem sh_lin (a b : Int) (p q : Nat → Int) : ∀ k, sh (fun k => a * p k + b * q k) k = a * sh p k + b * sh q k
  | 0 => by simp [sh]
  | k + 1 => rfl
theorem sg_succ (i : Nat) : sg (i + 1) = - sg i := by
  unfold sg
  by_cases h : i % 2 = 0
  · rw [if_neg (by omega), if_pos h]
  · rw [if_pos (by omega), if_neg h]; rfl
theorem dt_cong : ∀ (n : Nat) {R R' S S' : Nat → Nat → Int}, (∀ i j, i < n → j < n → R i j = R' i j) → (∀ i j, i < n → j < n → S i j = S' i j) → ∀ k, dt n R S k = dt n R' S' k
  | 0, _, _, _, _, _, _, _ => rfl
  | n + 1, R, R', S, S', hR, hS, k => by
    rw [dt_succ, dt_succ]
    refine fb_si_cong (fun i hi => ?_)
    have hs : ∀ a, a < n → sk i a < n + 1 := fun a ha => by unfold sk; split <;> omega
    have e : ∀ k, dt n (mi R i) (mi S i) k = dt n (mi R' i) (mi S' i) k := dt_cong n (fun a b ha hb => hR _ _ (hs a ha) (by omega)) (fun a b ha hb => hS _ _ (hs a ha) (by omega))
    rw [e k, sh_cong e k, hR i 0 hi (by omega), hS i 0 hi (by omega)]
/-- row r replaced -/
def rp (R : Nat → Nat → Int) (r : Nat) (v : Nat → Int) : Nat → Nat → Int := fun i j => if i = r then v j else R i j
theorem rp_at (R : Nat → Nat → Int) (r : Nat) (v : Nat → Int) : rp R r v r = v := by funext j; simp [rp]
theorem rp_ne (R : Nat → Nat → Int) {r i : Nat} (v : Nat → Int) (h : i ≠ r) : rp R r v i = R i := by funext j; simp [rp, h]
theorem rp_self (R : Nat → Nat → Int) (r : Nat) : rp R r (R r) = R := by
  funext i j
  unfold rp
  split
  · next h => rw [h]
  · rfl
theorem mi_rp_at (R : Nat → Nat → Int) (r : Nat) (v : Nat → Int) : mi (rp R r v) r = mi R r := by
  funext a b
  unfold mi rp sk
  rw [if_neg (by split <;> omega)]
theorem mi_rp (R : Nat → Nat → Int) {r i : Nat} (v : Nat → Int) (h : i ≠ r) : mi (rp R r v) i = rp (mi R i) (un i r) (fun j => v (j + 1)) := by
  funext a b
  unfold mi rp
  have e : (sk i a = r) ↔ (a = un i r) := by
    unfold sk un
    split <;> split <;> omega
  by_cases g : a = un i r
  · rw [if_pos (e.mpr g), if_pos g]
  · rw [if_neg (fun q => g (e.mp q)), if_neg g]
theorem un_lt {i r n : Nat} (h : i ≠ r) (hi : i < n + 1) (hr : r < n + 1) : un i r < n := by
  unfold un
  split <;> omega
theorem dt_lin : ∀ (n : Nat) (R S : Nat → Nat → Int) (r : Nat), r < n → ∀ (a b : Int) (u v u' v' : Nat → Int) (k : Nat), dt n (rp R r (fun j => a * u j + b * v j)) (rp S r (fun j => a * u' j + b * v' j)) k = a * dt n (rp R r u) (rp S r u') k + b * dt n (rp R r v) (rp S r v') k
  | 0, _, _, r, hr, _, _, _, _, _, _, _ => by omega
  | n + 1, R, S, r, hr, a, b, u, v, u', v', k => by
    rw [dt_succ, dt_succ, dt_succ, ← fb_si_mul, ← fb_si_mul, ← fb_si_add]
    refine fb_si_cong (fun i hi => ?_)
    by_cases g : i = r
    · subst g
      rw [mi_rp_at, mi_rp_at, mi_rp_at, mi_rp_at, mi_rp_at, mi_rp_at, rp_at, rp_at, rp_at, rp_at, rp_at, rp_at]
      generalize dt n (mi R i) (mi S i) k = x
      generalize sh (dt n (mi R i) (mi S i)) k = y
      grind
    · rw [mi_rp R _ g, mi_rp R _ g, mi_rp R _ g, mi_rp S _ g, mi_rp S _ g, mi_rp S _ g, rp_ne R _ g, rp_ne R _ g, rp_ne R _ g, rp_ne S _ g, rp_ne S _ g, rp_ne S _ g]
      have ih := fun k => dt_lin n (mi R i) (mi S i) (un i r) (un_lt g hi hr) a b (fun j => u (j + 1)) (fun j => v (j + 1)) (fun j => u' (j + 1)) (fun j => v' (j + 1)) k
      rw [ih k, sh_cong ih k, sh_lin]
      generalize dt n (rp (mi R i) (un i r) (fun j => u (j + 1))) (rp (mi S i) (un i r) (fun j => u' (j + 1))) = p
      generalize dt n (rp (mi R i) (un i r) (fun j => v (j + 1))) (rp (mi S i) (un i r) (fun j => v' (j + 1))) = q
      generalize sh p k = y
      generalize sh q k = z
      grind
-- ===== two rows change places =====
def sw (R : Nat → Nat → Int) (r : Nat) : Nat → Nat → Int := fun i => if i = r then R (r + 1) else if i = r + 1 then R r else R i
theorem si_sw {f g : Nat → Int} {r : Nat} (h1 : g r = - f (r + 1)) (h2 : g (r + 1) = - f r) (h3 : ∀ i, i ≠ r → i ≠ r + 1 → g i = - f i) : ∀ d, fb_si g (r + 2 + d) = - fb_si f (r + 2 + d)
  | 0 => by
    have key : ∀ m, m ≤ r → fb_si g m = - fb_si f m := by
      intro m
      induction m with
      | zero => intro _; simp [fb_si]
      | succ m ih =>
        intro hm
        rw [fb_si_succ, fb_si_succ, ih (by omega), h3 m (by omega) (by omega)]
        omega
    show fb_si g (r + 1 + 1) = - fb_si f (r + 1 + 1)
    rw [fb_si_succ, fb_si_succ, fb_si_succ, fb_si_succ, key r (Nat.le_refl _), h1, h2]
    omega
  | d + 1 => by
    show fb_si g (r + 2 + d + 1) = - fb_si f (r + 2 + d + 1)
    rw [fb_si_succ, fb_si_succ, si_sw h1 h2 h3 d, h3 (r + 2 + d) (by omega) (by omega)]
    omega
theorem mi_sw_0 (R : Nat → Nat → Int) (r : Nat) : mi (sw R r) r = mi R (r + 1) := by
  funext a b
  simp only [mi, sw, sk, un]
  grind
theorem mi_sw_1 (R : Nat → Nat → Int) (r : Nat) : mi (sw R r) (r + 1) = mi R r := by
  funext a b
  simp only [mi, sw, sk, un]
  grind
theorem mi_sw (R : Nat → Nat → Int) {r i : Nat} (h0 : i ≠ r) (h1 : i ≠ r + 1) : mi (sw R r) i = sw (mi R i) (un i r) := by
  funext a b
  unfold mi sw un sk
  by_cases g : r < i
  · simp only [g, if_true]
    grind
  · simp only [g, if_false]
    grind
theorem dt_sw : ∀ (n : Nat) (R S : Nat → Nat → Int) (r : Nat), r + 1 < n → ∀ k, dt n (sw R r) (sw S r) k = - dt n R S k
  | 0, _, _, _, h, _ => by omega
  | n + 1, R, S, r, hr, k => by
    rw [dt_succ, dt_succ]
    obtain ⟨d, hd⟩ : ∃ d, n + 1 = r + 2 + d := ⟨n + 1 - (r + 2), by omega⟩
    rw [hd]
    -- beyond n the terms don't matter
    have cut : ∀ (f g : Nat → Int), (∀ i, i < n + 1 → f i = g i) → fb_si f (r + 2 + d) = fb_si g (r + 2 + d) := fun f g h => fb_si_cong (fun i hi => h i (by omega))
    rw [cut _ (fun i => if i < n + 1 then sg i * (sw R r i 0 * dt n (mi (sw R r) i) (mi (sw S r) i) k + sw S r i 0 * sh (dt n (mi (sw R r) i) (mi (sw S r) i)) k) else 0) (fun i hi => by rw [if_pos hi])]
    rw [cut (fun i => sg i * (R i 0 * dt n (mi R i) (mi S i) k + S i 0 * sh (dt n (mi R i) (mi S i)) k)) (fun i => if i < n + 1 then sg i * (R i 0 * dt n (mi R i) (mi S i) k + S i 0 * sh (dt n (mi R i) (mi S i)) k) else 0) (fun i hi => by rw [if_pos hi])]
    refine si_sw (r := r) ?_ ?_ ?_ d
    · rw [if_pos (by omega), if_pos hr, mi_sw_0, mi_sw_0, sg_succ, show sw R r r = R (r + 1) from if_pos rfl, show sw S r r = S (r + 1) from if_pos rfl]
      grind
    · rw [if_pos hr, if_pos (by omega), mi_sw_1, mi_sw_1, sg_succ, show sw R r (r + 1) = R r from by unfold sw; rw [if_neg (by omega), if_pos rfl], show sw S r (r + 1) = S r from by unfold sw; rw [if_neg (by omega), if_pos rfl]]
      grind
    · intro i h0 h1
      by_cases hi : i < n + 1
      · rw [if_pos hi, if_pos hi, mi_sw R h0 h1, mi_sw S h0 h1, show sw R r i = R i from by unfold sw; rw [if_neg h0, if_neg h1], show sw S r i = S i from by unfold sw; rw [if_neg h0, if_neg h1]]
        have ih : ∀ k, dt n (sw (mi R i) (un i r)) (sw (mi S i) (un i r)) k = - dt n (mi R i) (mi S i) k := dt_sw n (mi R i) (mi S i) (un i r) (by unfold un; split <;> omega)
        have ih2 : sh (dt n (sw (mi R i) (un i r)) (sw (mi S i) (un i r))) k = - sh (dt n (mi R i) (mi S i)) k := by
          cases k with
          | zero => simp [sh]
          | succ k => exact ih k
        rw [ih k, ih2]
        grind
      · rw [if_neg hi, if_neg hi]; rfl
theorem dt_two (n : Nat) (k : Nat) : ∀ (d p : Nat) (R S : Nat → Nat → Int), p + 1 + d < n → R p = R (p + 1 + d) → S p = S (p + 1 + d) → dt n R S k = 0
  | 0, p, R, S, h, hR, hS => by
    have h1 := dt_sw n R S p h k
    have e : ∀ R : Nat → Nat → Int, R p = R (p + 1) → sw R p = R := fun R q => by
      funext i
      unfold sw
      by_cases g : i = p
      · rw [if_pos g, g, q]
      · rw [if_neg g]
        by_cases g2 : i = p + 1
        · rw [if_pos g2, g2, q]
        · rw [if_neg g2]
    rw [e R hR, e S hS] at h1
    omega
  | d + 1, p, R, S, h, hR, hS => by
    have h1 := dt_sw n R S (p + 1 + d) (by omega) k
    have e : ∀ R : Nat → Nat → Int, R p = R (p + 1 + (d + 1)) → sw R (p + 1 + d) p = sw R (p + 1 + d) (p + 1 + d) := fun R q => by
      unfold sw
      rw [if_neg (by omega), if_neg (by omega), if_pos rfl, q]
      rfl
    have h2 := dt_two n k d p (sw R (p + 1 + d)) (sw S (p + 1 + d)) (by omega) (e R hR) (e S hS)
    omega
theorem dt_same {n : Nat} (k : Nat) {p q : Nat} (hp : p < n) (hq : q < n) (hpq : p ≠ q) {R S : Nat → Nat → Int} (hR : R p = R q) (hS : S p = S q) : dt n R S k = 0 := by
  rcases Nat.lt_or_gt_of_ne hpq with g | g
  · have e : q = p + 1 + (q - p - 1) := by omega
    rw [e] at hR hS
    exact dt_two n k (q - p - 1) p R S (by omega) hR hS
  · have e : p = q + 1 + (p - q - 1) := by omega
    rw [e] at hR hS
    exact dt_two n k (p - q - 1) q R S (by omega) hR.symm hS.symm
-- ===== a row that is x times a row; sums; how it grows =====
theorem dt_x : ∀ (n : Nat) (R S : Nat → Nat → Int) (r : Nat), r < n → ∀ (v : Nat → Int) (k : Nat), dt n (rp R r (fun _ => 0)) (rp S r v) k = sh (dt n (rp R r v) (rp S r (fun _ => 0))) k
  | 0, _, _, _, h, _, _ => by omega
  | n + 1, R, S, r, hr, v, k => by
    have term : ∀ (k i : Nat), i < n + 1 → (rp R r (fun _ => 0)) i 0 * dt n (mi (rp R r (fun _ => 0)) i) (mi (rp S r v) i) k + (rp S r v) i 0 * sh (dt n (mi (rp R r (fun _ => 0)) i) (mi (rp S r v) i)) k = sh (fun k => (rp R r v) i 0 * dt n (mi (rp R r v) i) (mi (rp S r (fun _ => 0)) i) k + (rp S r (fun _ => 0)) i 0 * sh (dt n (mi (rp R r v) i) (mi (rp S r (fun _ => 0)) i)) k) k := by
      intro k i hi
      by_cases g : i = r
      · subst g
        rw [mi_rp_at, mi_rp_at, mi_rp_at, mi_rp_at, rp_at, rp_at, rp_at, rp_at]
        cases k with
        | zero => simp [sh]
        | succ k => simp [sh]
      · rw [mi_rp R _ g, mi_rp S _ g, mi_rp R _ g, mi_rp S _ g, rp_ne R _ g, rp_ne S _ g, rp_ne R _ g, rp_ne S _ g]
        have ih := fun k => dt_x n (mi R i) (mi S i) (un i r) (un_lt g hi hr) (fun j => v (j + 1)) k
        rw [ih k, sh_cong ih k]
        cases k with
        | zero => simp [sh]
        | succ k => rfl
    rw [dt_succ]
    cases k with
    | zero =>
      show _ = 0
      rw [fb_si_cong (g := fun _ => 0) (fun i hi => by rw [term 0 i hi]; simp [sh])]
      have : ∀ m, fb_si (fun _ => (0 : Int)) m = 0 := fun m => by
        induction m with
        | zero => rfl
        | succ m ih => rw [fb_si_succ, ih]; rfl
      exact this _
    | succ k =>
      show _ = dt (n + 1) (rp R r v) (rp S r (fun _ => 0)) k
      rw [dt_succ]
      exact fb_si_cong (fun i hi => by rw [term (k + 1) i hi]; rfl)
theorem dt_zero {n : Nat} (R S : Nat → Nat → Int) {r : Nat} (hr : r < n) (k : Nat) : dt n (rp R r (fun _ => 0)) (rp S r (fun _ => 0)) k = 0 := by
  have := dt_lin n R S r hr 0 0 (fun _ => 0) (fun _ => 0) (fun _ => 0) (fun _ => 0) k
  simpa using this
theorem dt_sum {n : Nat} (R S : Nat → Nat → Int) {r : Nat} (hr : r < n) (k : Nat) (c : Nat → Int) (w : Nat → Nat → Int) : ∀ m, dt n (rp R r (fun j => fb_si (fun q => c q * w q j) m)) (rp S r (fun _ => 0)) k = fb_si (fun q => c q * dt n (rp R r (w q)) (rp S r (fun _ => 0)) k) m
  | 0 => dt_zero R S hr k
  | m + 1 => by
    have := dt_lin n R S r hr 1 (c m) (fun j => fb_si (fun q => c q * w q j) m) (w m) (fun _ => 0) (fun _ => 0) k
    rw [dt_sum R S hr k c w m] at this
    rw [fb_si_succ]
    simp only [Int.one_mul, Int.mul_zero, Int.add_zero] at this
    exact this
def dl (i j : Nat) : Int := if i = j then 1 else 0
theorem si_dl (v : Nat → Int) (j : Nat) : ∀ n, fb_si (fun c => v c * dl c j) n = if j < n then v j else 0
  | 0 => by simp [fb_si]
  | n + 1 => by
    rw [fb_si_succ, si_dl v j n]
    unfold dl
    by_cases h : j < n
    · rw [if_pos h, if_neg (by omega), if_pos (by omega)]; omega
    · rw [if_neg h]
      by_cases g : n = j
      · rw [if_pos g, if_pos (by omega), g]; omega
      · rw [if_neg g, if_neg (by omega)]; omega
/-- a row told by its places -/
theorem dt_row {n : Nat} (R S : Nat → Nat → Int) {r : Nat} (hr : r < n) (k : Nat) (v : Nat → Int) : dt n (rp R r v) (rp S r (fun _ => 0)) k = fb_si (fun c => v c * dt n (rp R r (dl c)) (rp S r (fun _ => 0)) k) n := by
  rw [← dt_sum R S hr k v dl n]
  refine dt_cong n (fun i j hi hj => ?_) (fun _ _ _ _ => rfl) k
  unfold rp
  split
  · show v j = fb_si (fun q => v q * dl q j) n
    rw [si_dl, if_pos hj]
  · rfl
theorem si_skip (f : Nat → Int) (i : Nat) : ∀ n, i ≤ n → fb_si f (n + 1) = f i + fb_si (fun a => f (sk i a)) n
  | 0, h => by
    have : i = 0 := by omega
    subst this
    simp [fb_si]
  | n + 1, h => by
    rw [fb_si_succ]
    by_cases g : i = n + 1
    · subst g
      rw [Int.add_comm]
      congr 1
      refine fb_si_cong (fun a ha => ?_)
      unfold sk
      rw [if_pos ha]
    · rw [si_skip f i n (by omega), fb_si_succ]
      have : sk i n = n + 1 := by unfold sk; rw [if_neg (by omega)]
      rw [this]
      omega
theorem si_comm (f : Nat → Nat → Int) (m : Nat) : ∀ n, fb_si (fun i => fb_si (fun j => f i j) m) n = fb_si (fun j => fb_si (fun i => f i j) n) m
  | 0 => by
    show 0 = _
    induction m with
    | zero => rfl
    | succ m ih => rw [fb_si_succ, ← ih]; rfl
  | n + 1 => by
    rw [fb_si_succ, si_comm f m n, ← fb_si_add]
    rfl
theorem sk_ne (i a : Nat) : i ≠ sk i a := by unfold sk; split <;> omega
theorem un_sk (i a : Nat) : un i (sk i a) = a := by simp only [un, sk]; grind
theorem dt_der : ∀ (n : Nat) (R S : Nat → Nat → Int) (k : Nat), ((k : Int) + 1) * dt n R S (k + 1) = fb_si (fun r => dt n (rp R r (S r)) (rp S r (fun _ => 0)) k) n
  | 0, R, S, k => by simp [dt, fb_si]
  | n + 1, R, S, k => by
    have rhs : fb_si (fun r => dt (n + 1) (rp R r (S r)) (rp S r (fun _ => 0)) k) (n + 1) = fb_si (fun i => fb_si (fun r => sg i * ((rp R r (S r)) i 0 * dt n (mi (rp R r (S r)) i) (mi (rp S r (fun _ => 0)) i) k + (rp S r (fun _ => 0)) i 0 * sh (dt n (mi (rp R r (S r)) i) (mi (rp S r (fun _ => 0)) i)) k)) (n + 1)) (n + 1) := by
      rw [si_comm]
      rfl
    rw [rhs, dt_succ, ← fb_si_mul]
    refine fb_si_cong (fun i hi => ?_)
    rw [si_skip _ i n (by omega), mi_rp_at, mi_rp_at, rp_at, rp_at]
    have e : fb_si (fun a => sg i * ((rp R (sk i a) (S (sk i a))) i 0 * dt n (mi (rp R (sk i a) (S (sk i a))) i) (mi (rp S (sk i a) (fun _ => 0)) i) k + (rp S (sk i a) (fun _ => 0)) i 0 * sh (dt n (mi (rp R (sk i a) (S (sk i a))) i) (mi (rp S (sk i a) (fun _ => 0)) i)) k)) n = sg i * R i 0 * fb_si (fun a => dt n (rp (mi R i) a (mi S i a)) (rp (mi S i) a (fun _ => 0)) k) n + sg i * S i 0 * fb_si (fun a => sh (dt n (rp (mi R i) a (mi S i a)) (rp (mi S i) a (fun _ => 0))) k) n := by
      rw [← fb_si_mul, ← fb_si_mul, ← fb_si_add]
      refine fb_si_cong (fun a ha => ?_)
      have ne := sk_ne i a
      rw [mi_rp R _ ne, mi_rp S _ ne, rp_ne R _ ne, rp_ne S _ ne, un_sk]
      show sg i * (R i 0 * dt n (rp (mi R i) a (mi S i a)) (rp (mi S i) a (fun _ => 0)) k + S i 0 * sh (dt n (rp (mi R i) a (mi S i a)) (rp (mi S i) a (fun _ => 0))) k) = _
      generalize dt n (rp (mi R i) a (mi S i a)) (rp (mi S i) a (fun _ => 0)) = p
      generalize sh p k = y
      grind
    rw [e]
    have i1 := dt_der n (mi R i) (mi S i) k
    have i2 : (k : Int) * dt n (mi R i) (mi S i) k = fb_si (fun a => sh (dt n (rp (mi R i) a (mi S i a)) (rp (mi S i) a (fun _ => 0))) k) n := by
      cases k with
      | zero =>
        have : ∀ m, fb_si (fun _ => (0 : Int)) m = 0 := fun m => by
          induction m with
          | zero => rfl
          | succ m ih => rw [fb_si_succ, ih]; rfl
        show ((0 : Nat) : Int) * _ = fb_si (fun a => 0) n
        rw [this]
        simp
      | succ k =>
        have := dt_der n (mi R i) (mi S i) k
        show ((k + 1 : Nat) : Int) * _ = _
        rw [Int.natCast_add]
        exact this
    rw [← i1, ← i2]
    show _ * (sg i * (R i 0 * dt n (mi R i) (mi S i) (k + 1) + S i 0 * dt n (mi R i) (mi S i) k)) = _
    generalize dt n (mi R i) (mi S i) (k + 1) = p
    generalize dt n (mi R i) (mi S i) k = q
    generalize sh (dt n (mi R i) (mi S i)) k = y
    grind
theorem si_z {f : Nat → Int} : ∀ {n : Nat}, (∀ i, i < n → f i = 0) → fb_si f n = 0
  | 0, _ => rfl
  | n + 1, h => by rw [fb_si_succ, si_z (fun i hi => h i (by omega)), h n (by omega)]; rfl
theorem dt_high : ∀ (n : Nat) (R S : Nat → Nat → Int) (k : Nat), n < k → dt n R S k = 0
  | 0, R, S, k, h => by simp [dt]; omega
  | n + 1, R, S, k, h => by
    rw [dt_succ]
    refine si_z (fun i _ => ?_)
    obtain ⟨q, rfl⟩ : ∃ q, k = q + 1 := ⟨k - 1, by omega⟩
    show sg i * (R i 0 * dt n (mi R i) (mi S i) (q + 1) + S i 0 * dt n (mi R i) (mi S i) q) = 0
    rw [dt_high n _ _ _ (by omega), dt_high n _ _ _ (by omega)]
    simp
theorem dt_low (n : Nat) (R S T : Nat → Nat → Int) : dt n R S 0 = dt n R T 0 := by
  induction n generalizing R S T with
  | zero => rfl
  | succ n ih =>
    rw [dt_succ, dt_succ]
    refine fb_si_cong (fun i _ => ?_)
    show sg i * (R i 0 * dt n (mi R i) (mi S i) 0 + S i 0 * 0) = sg i * (R i 0 * dt n (mi R i) (mi T i) 0 + T i 0 * 0)
    rw [ih (mi R i) (mi S i) (mi T i)]
    simp
theorem dt_top : ∀ (n : Nat) (R S T : Nat → Nat → Int), dt n R S n = dt n S T 0
  | 0, _, _, _ => rfl
  | n + 1, R, S, T => by
    rw [dt_succ, dt_succ]
    refine fb_si_cong (fun i _ => ?_)
    show sg i * (R i 0 * dt n (mi R i) (mi S i) (n + 1) + S i 0 * dt n (mi R i) (mi S i) n) = sg i * (S i 0 * dt n (mi S i) (mi T i) 0 + T i 0 * 0)
    rw [dt_high n _ _ _ (by omega), dt_top n (mi R i) (mi S i) (mi T i)]
    simp
theorem dt_one (n : Nat) (S : Nat → Nat → Int) : dt n dl S 0 = 1 := by
  induction n generalizing S with
  | zero => rfl
  | succ n ih =>
    rw [dt_succ, si_skip _ 0 n (by omega)]
    rw [si_z (fun a _ => ?_)]
    · have e : mi dl 0 = dl := by
        funext a b
        simp only [mi, sk, dl]
        grind
      rw [e]
      show sg 0 * (dl 0 0 * dt n dl (mi S 0) 0 + S 0 0 * 0) + 0 = 1
      rw [ih]
      simp [sg, dl]
    · show sg (sk 0 a) * (dl (sk 0 a) 0 * dt n (mi dl (sk 0 a)) (mi S (sk 0 a)) 0 + S (sk 0 a) 0 * 0) = 0
      have : dl (sk 0 a) 0 = 0 := by simp only [dl, sk]; grind
      rw [this]
      simp
-- ===== the polynomial, and its steps =====
def qc (n : Nat) (A : Nat → Nat → Int) (k : Nat) : Int := dt n dl (fun i j => - A i j) k
def Bc (n : Nat) (A : Nat → Nat → Int) (k i j : Nat) : Int := dt n (rp dl j (dl i)) (rp (fun i j => - A i j) j (fun _ => 0)) k
theorem B_zero {n : Nat} (A : Nat → Nat → Int) {i j : Nat} (hi : i < n) (hj : j < n) : Bc n A 0 i j = dl i j := by
  unfold Bc
  by_cases g : i = j
  · subst g
    rw [rp_self, dt_one]
    simp [dl]
  · rw [dt_low n _ _ (rp dl j (dl i)), dt_same 0 hi hj g (by rw [rp_at, rp_ne _ _ g]) (by rw [rp_at, rp_ne _ _ g])]
    simp [dl, g]
theorem B_step {n : Nat} (A : Nat → Nat → Int) (k : Nat) {i j : Nat} (hi : i < n) (hj : j < n) : Bc n A (k + 1) i j = fb_si (fun c => A i c * Bc n A k c j) n + (if i = j then qc n A (k + 1) else 0) := by
  have h1 : dt n (rp dl j (dl i)) (rp (fun i j => - A i j) j (fun b => - A i b)) (k + 1) = if i = j then qc n A (k + 1) else 0 := by
    by_cases g : i = j
    · subst g
      rw [if_pos rfl, rp_self]
      have : rp (fun i j => - A i j) i (fun b => - A i b) = fun i j => - A i j := rp_self (fun i j => - A i j) i
      rw [this]
      rfl
    · rw [if_neg g]
      exact dt_same (k + 1) hi hj g (by rw [rp_at, rp_ne _ _ g]) (by rw [rp_at, rp_ne _ _ g])
  have h2 := dt_lin n dl (fun i j => - A i j) j hj 1 1 (dl i) (fun _ => 0) (fun _ => 0) (fun b => - A i b) (k + 1)
  simp only [Int.one_mul, Int.add_zero, Int.zero_add] at h2
  rw [h1, dt_x n dl (fun i j => - A i j) j hj (fun b => - A i b) (k + 1)] at h2
  have h3 : sh (dt n (rp dl j (fun b => - A i b)) (rp (fun i j => - A i j) j (fun _ => 0))) (k + 1) = - fb_si (fun c => A i c * Bc n A k c j) n := by
    show dt n (rp dl j (fun b => - A i b)) (rp (fun i j => - A i j) j (fun _ => 0)) k = _
    rw [dt_row dl (fun i j => - A i j) hj k (fun b => - A i b)]
    have : ∀ (f : Nat → Int) m, - fb_si f m = fb_si (fun c => -1 * f c) m := fun f m => by rw [fb_si_mul]; omega
    rw [this]
    refine fb_si_cong (fun c _ => ?_)
    show - A i c * Bc n A k c j = -1 * (A i c * Bc n A k c j)
    grind
  rw [h3] at h2
  unfold Bc at *
  omega
theorem q_step {n : Nat} (A : Nat → Nat → Int) (k : Nat) : ((k : Int) + 1) * qc n A (k + 1) = - fb_si (fun i => fb_si (fun c => A i c * Bc n A k c i) n) n := by
  unfold qc
  rw [dt_der]
  have : ∀ (f : Nat → Int) m, - fb_si f m = fb_si (fun c => -1 * f c) m := fun f m => by rw [fb_si_mul]; omega
  rw [this]
  refine fb_si_cong (fun r hr => ?_)
  rw [dt_row dl (fun i j => - A i j) hr k, ← fb_si_mul]
  refine fb_si_cong (fun c _ => ?_)
  show - A r c * Bc n A k c r = -1 * (A r c * Bc n A k c r)
  grind
