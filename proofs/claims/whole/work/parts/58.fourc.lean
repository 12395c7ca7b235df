-- ===== four rounds: the class =====
theorem X_119 {I : zMi} {rr : Nat → Nat} {pp : Nat → Nat → Bool} {t m : Nat} (hm1 : 1 ≤ m) (hm3 : m ≤ 3) (hr : ∀ k, k < 4 → rr k < 6 ∧ I (10 + 2 * rr k) 1 = nI m ∧ ∀ j, j < m → I (11 + 2 * rr k) j = sI (sv (pp k) j)) (h : XT I t (4 * m) (fun _ _ => 1)) : ∃ I', f_X3_fourRounds_119 fu t (rr 0) (rr 1) (rr 2) (rr 3) 0 I = (f_X2_judged t I').bind (fun x3 => some (x3.1, x3.2)) ∧ XT I' t (4 * m) (frG pp m) ∧ ∀ a b, a ≠ 23 + 3 * t → a ≠ 24 + 3 * t → I' a b = I a b := by
  refine lp (fun f i I => f_X3_fourRounds_119 f t (rr 0) (rr 1) (rr 2) (rr 3) i I) 16 0 (by omega) (by rw [fu_val]; omega) (fun q I' => XT I' t (4 * m) (frI pp m q 0 0) ∧ ∀ a b, a ≠ 23 + 3 * t → a ≠ 24 + 3 * t → I' a b = I a b) (fun res => ∃ I', res = (f_X2_judged t I').bind (fun x3 => some (x3.1, x3.2)) ∧ XT I' t (4 * m) (frG pp m) ∧ ∀ a b, a ≠ 23 + 3 * t → a ≠ 24 + 3 * t → I' a b = I a b) ?_ ?_ _ ?_
  · intro f s ⟨s1, s2⟩
    refine ⟨s, ?_, XT_congA s1 (fun a b ha hb => ?_), s2⟩
    · show f_X3_fourRounds_119 (f + 1) t (rr 0) (rr 1) (rr 2) (rr 3) (nI 16) s = _
      rw [f_X3_fourRounds_119, if_pos (by decide)]
    · have ba : a / m < 4 := Nat.div_lt_of_lt_mul (by rw [Nat.mul_comm]; exact ha)
      have bb : b / m < 4 := Nat.div_lt_of_lt_mul (by rw [Nat.mul_comm]; exact hb)
      unfold frI
      rw [if_pos (Or.inl (by generalize a / m = x at *; generalize b / m = y at *; omega))]
  · intro f q s _ hq ⟨s1, s2⟩
    left
    show ∃ s', f_X3_fourRounds_119 (f + 1) t (rr 0) (rr 1) (rr 2) (rr 3) (nI q) s = f_X3_fourRounds_119 f t (rr 0) (rr 1) (rr 2) (rr 3) (nI (q + 1)) s' ∧ _
    have hf := fp_lt q hq
    obtain ⟨g1, g2, g3⟩ := hr (fp q) hf
    obtain ⟨s', r1, r2, r3⟩ := X_round (I0 := I) (I := s) (T := t) (r := rr (fp q)) (q := q) (p := pp (fp q)) (pp := pp) hm1 hm3 hq rfl (by rw [s2 _ _ (by omega) (by omega), g2]) (fun j hj => by rw [s2 _ _ (by omega) (by omega), g3 j hj]) g1 s1 s2
    refine ⟨s', ?_, r2, r3⟩
    have n16 : ¬ (16 : Int32) ≤ nI q := nI_ge (a := q) (b := 16) hq (by omega)
    have qv : (nI q).toNatClampNeg = q := nI_clamp (by omega)
    rw [f_X3_fourRounds_119, if_neg n16, ix_nI hq (by omega), if_pos rfl, qv, zFP_eq q hq, nI_1]
    have c4 : fp q = 0 ∨ fp q = 1 ∨ fp q = 2 ∨ fp q = 3 := by omega
    rcases c4 with e | e | e | e <;> rw [e] at r1 ⊢
    · rw [if_pos (by decide), r1, Option.bind_some]
    · rw [if_neg (by decide), if_pos (by decide), r1, Option.bind_some]
    · rw [if_neg (by decide), if_neg (by decide), if_pos (by decide), r1, Option.bind_some]
    · rw [if_neg (by decide), if_neg (by decide), if_neg (by decide), r1, Option.bind_some]
  · refine ⟨XT_congA h (fun a b _ _ => ?_), fun _ _ _ _ => rfl⟩
    unfold frI
    rw [if_neg (by generalize a / m = x at *; generalize b / m = y at *; omega)]
theorem four_main {I K : zMi} {J M : zMl} (h : RR I J K M) {t : Nat} (ht : t < 10) {rr : Nat → Nat} (h9 : K9 K rr) : ∃ v I' K', f_X3_fourRounds t (rr 0) (rr 1) (rr 2) (rr 3) I = some (v, I') ∧ f_X4_four_81 fu (nI t) (nI (rr 0)) (nI (rr 1)) (nI (rr 2)) (nI (rr 3)) 1 1 1 0 K = some (v, K') ∧ RR I' J K' M := by
  have hW : ∀ k, k < 4 → RW I K (rr k) := fun k hk => h.2.2.2.2.1 _ (h9 k hk).1
  have m81 := M_81 (nI t) (nI (rr 1)) (nI (rr 2)) (nI (rr 3)) h9
  obtain ⟨I1, K1, y1, y1', h1⟩ := RR_found h 1 (by simp)
  obtain ⟨I5, K5, y5, y5', h5⟩ := RR_found h 5 (by simp)
  obtain ⟨I3, K3, y3, y3', h3⟩ := RR_found h 3 (by simp)
  have w0 := row_there (hW 0 (by omega))
  have w1 := row_there (hW 1 (by omega))
  have w2 := row_there (hW 2 (by omega))
  have w3 := row_there (hW 3 (by omega))
  cases hth : alB (thB K rr) 4
  · rw [hth, if_neg (by decide)] at m81
    refine ⟨-3, I1, K1, ?_, by rw [m81, y1']; rfl, h1⟩
    have : f_X3_findingOfRounds (rr 0) (rr 1) (rr 2) (rr 3) I = some 1 := by
      unfold f_X3_findingOfRounds
      rw [w0, w1, w2, w3]
      simp only [alB, thB, decide_not] at hth
      revert hth
      generalize decide (K 2 (rr 0) < 0) = b0
      generalize decide (K 2 (rr 1) < 0) = b1
      generalize decide (K 2 (rr 2) < 0) = b2
      generalize decide (K 2 (rr 3) < 0) = b3
      intro hth
      cases b0
      · cases b1
        · cases b2
          · cases b3
            · exact absurd hth (by decide)
            · rfl
          · rfl
        · rfl
      · rfl
    unfold f_X3_fourRounds
    rw [this, Option.bind_some, if_neg v10, y1]
    rfl
  rw [hth, if_pos rfl] at m81
  have hno : ∀ k, k < 4 → ¬ K 2 (rr k) < 0 := fun k hk => by
    have := (alB_iff _ _).mp hth k hk
    exact of_decide_eq_true this
  have hrow : ∀ k, k < 4 → ∃ n, n ≤ 24 ∧ I (10 + 2 * rr k) 1 = nI n ∧ K 2 (rr k) = nI n ∧ ∀ j, j < n → I (11 + 2 * rr k) j = K 3 (24 * rr k + j) := by
    intro k hk
    rcases hW k hk with ⟨-, q⟩ | q
    · exact absurd (by rw [q]; decide) (hno k hk)
    · exact q
  have hsz : ∀ k, k < 4 → I (10 + 2 * rr k) 1 = K 2 (rr k) := fun k hk => by
    obtain ⟨n, _, q1, q2, _⟩ := hrow k hk
    rw [q1, q2]
  have dn : ∀ k, k < 4 → decide (K 2 (rr k) < 0) = false := fun k hk => decide_eq_false (hno k hk)
  have pre : ∀ X : Option Int32, (f_X3_findingOfRounds (rr 0) (rr 1) (rr 2) (rr 3) I = X ↔ (if K 2 (rr 0) < 1 then some 5 else if 3 < K 2 (rr 0) then some 5 else if K 2 (rr 1) = K 2 (rr 0) then if K 2 (rr 2) = K 2 (rr 0) then if K 2 (rr 3) = K 2 (rr 0) then ((f_X1_isSignsBothWays (rr 0) I).bind (fun x10 => if x10 = 0 then (f_X3_findingOfRounds_109 I) else ((f_X1_isSignsBothWays (rr 1) I).bind (fun x12 => if x12 = 0 then (f_X3_findingOfRounds_109 I) else ((f_X1_isSignsBothWays (rr 2) I).bind (fun x14 => if x14 = 0 then (f_X3_findingOfRounds_109 I) else ((f_X1_isSignsBothWays (rr 3) I).bind (fun x16 => if x16 = 0 then (f_X3_findingOfRounds_109 I) else (if (1 : Int32) = 0 then (some 3) else (some 0)))))))))) else some 5 else some 5 else some 5) = X) := by
    intro X
    unfold f_X3_findingOfRounds
    rw [w0, w1, w2, w3, dn 0 (by omega), dn 1 (by omega), dn 2 (by omega), dn 3 (by omega), bI_f, if_pos rfl, if_pos rfl, if_pos rfl, if_pos rfl, hsz 0 (by omega), hsz 1 (by omega), hsz 2 (by omega), hsz 3 (by omega)]
  cases hlk : alB (lkB K rr) 4
  · rw [hlk, if_neg (by decide)] at m81
    refine ⟨-3, I5, K5, ?_, by rw [m81, y5']; rfl, h5⟩
    have : f_X3_findingOfRounds (rr 0) (rr 1) (rr 2) (rr 3) I = some 5 := by
      rw [pre]
      by_cases c1 : K 2 (rr 0) < 1
      · rw [if_pos c1]
      by_cases c2 : 3 < K 2 (rr 0)
      · rw [if_neg c1, if_pos c2]
      rw [if_neg c1, if_neg c2]
      by_cases d1 : K 2 (rr 1) = K 2 (rr 0)
      · by_cases d2 : K 2 (rr 2) = K 2 (rr 0)
        · by_cases d3 : K 2 (rr 3) = K 2 (rr 0)
          · exfalso
            have hin : ¬ f_X4_in (K 2 (rr 0)) 1 3 = 0 := by
              unfold f_X4_in
              rw [if_neg c1, if_neg c2]
              decide
            simp [alB, lkB, d1, d2, d3, hin] at hlk
          · rw [if_pos d1, if_pos d2, if_neg d3]
        · rw [if_pos d1, if_neg d2]
      · rw [if_neg d1]
    unfold f_X3_fourRounds
    rw [this, Option.bind_some, if_neg (by decide), y5]
    rfl
  rw [hlk, if_pos rfl] at m81
  have hlk' : ∀ k, k < 4 → K 2 (rr k) = K 2 (rr 0) ∧ ¬ f_X4_in (K 2 (rr 0)) 1 3 = 0 := fun k hk => by
    have := (alB_iff _ _).mp hlk k hk
    simpa [lkB] using this
  obtain ⟨m, hm1, hm3, hm⟩ : ∃ m, 1 ≤ m ∧ m ≤ 3 ∧ K 2 (rr 0) = nI m := by
    rcases in_1n (a := K 2 (rr 0)) 3 (by omega) with ⟨q, -⟩ | ⟨m, q1, q2, q3, -⟩
    · exact absurd q (hlk' 0 (by omega)).2
    · exact ⟨m, q1, q2, q3⟩
  have hKs : ∀ k, k < 4 → K 2 (rr k) = nI m := fun k hk => by rw [(hlk' k hk).1, hm]
  have hIs : ∀ k, k < 4 → I (10 + 2 * rr k) 1 = nI m := fun k hk => by rw [hsz k hk, hKs k hk]
  have hcl : ∀ k, k < 4 → ∀ j, j < m → I (11 + 2 * rr k) j = K 3 (24 * rr k + j) := by
    intro k hk j hj
    obtain ⟨n, hn, _, q2, q3⟩ := hrow k hk
    have : n = m := (nI_eq (by omega) (by omega)).mp (by rw [← q2, hKs k hk])
    exact q3 j (by omega)
  have hbo : ∀ k, k < 4 → f_X1_isSignsBothWays (rr k) I = some (bI (gdB K rr m k)) := by
    intro k hk
    obtain ⟨b, e, q⟩ := X_both (I := I) (r := rr k) (n := m) (by omega) (by omega) (hIs k hk)
    rw [e]
    congr 2
    rw [Bool.eq_iff_iff, q, gdB, sgB, Bool.and_eq_true, alB_iff, alB_iff]
    constructor
    · rintro ⟨p1, p2⟩
      refine ⟨fun j hj => ?_, fun i hi => ?_⟩
      · rw [← hcl k hk j hj]
        exact decide_eq_true (p2 j hj)
      · refine decide_eq_true ?_
        by_cases g : i = 0
        · exact Or.inl g
        · exact Or.inr (by rw [← hcl k hk i hi, ← hcl k hk (m - i) (by omega)]; exact p1 i (by omega) hi)
    · rintro ⟨p1, p2⟩
      refine ⟨fun i hi1 hi => ?_, fun j hj => ?_⟩
      · rcases of_decide_eq_true (p2 i hi) with g | g
        · omega
        · rw [hcl k hk i hi, hcl k hk (m - i) (by omega), g]
      · have := of_decide_eq_true (p1 j hj)
        rw [hcl k hk j hj]
        exact this
  have pre2 : f_X3_findingOfRounds (rr 0) (rr 1) (rr 2) (rr 3) I = if alB (gdB K rr m) 4 = true then some 0 else some 3 := by
    rw [pre, hKs 0 (by omega), hKs 1 (by omega), hKs 2 (by omega), hKs 3 (by omega), if_pos rfl, if_pos rfl, if_pos rfl, hbo 0 (by omega), hbo 1 (by omega), hbo 2 (by omega), hbo 3 (by omega)]
    have n1 : ¬ nI m < 1 := nI_nlt (b := 1) hm1 (by omega)
    have n3 : ¬ (3 : Int32) < nI m := nI_nlt (a := 3) hm3 (by omega)
    rw [if_neg n1, if_neg n3]
    simp only [alB, Option.bind_some]
    rcases Bool.eq_false_or_eq_true (gdB K rr m 0) with e0 | e0 <;> rcases Bool.eq_false_or_eq_true (gdB K rr m 1) with e1 | e1 <;> rcases Bool.eq_false_or_eq_true (gdB K rr m 2) with e2 | e2 <;> rcases Bool.eq_false_or_eq_true (gdB K rr m 3) with e3 | e3 <;> simp only [e0, e1, e2, e3] <;> rfl
  rw [hm, M_200 _ _ _ _ _ h9 hKs hm1 hm3] at m81
  cases hgd : alB (gdB K rr m) 4
  · rw [hgd, if_neg (by decide)] at m81 pre2
    refine ⟨-3, I3, K3, ?_, by rw [m81, y3']; rfl, h3⟩
    unfold f_X3_fourRounds
    rw [pre2, Option.bind_some, if_neg (by decide), y3]
    rfl
  rw [hgd, if_pos rfl] at m81 pre2
  have ex : ∀ k, ∃ p, k < 4 → SGN I K (rr k) m p := by
    intro k
    by_cases hk : k < 4
    · obtain ⟨b, s1, s2, s3⟩ := signs_of (h9 k hk).1 (by omega) (hIs k hk) (hKs k hk) (hcl k hk)
      have hg := (alB_iff _ _).mp hgd k hk
      have e2 := M_areSigns (h9 k hk).1 (by omega) (hKs k hk)
      rw [s2] at e2
      have hb : b = true := by
        have e3 := bI_inj.mp (Option.some.inj e2)
        rw [gdB, Bool.and_eq_true] at hg
        rw [e3]
        exact hg.1
      obtain ⟨p, hp⟩ := s3 hb
      exact ⟨p, fun _ => hp⟩
    · exact ⟨fun _ => true, fun q => absurd q hk⟩
  obtain ⟨pp, hpp⟩ : ∃ pp : Nat → Nat → Bool, ∀ k, k < 4 → SGN I K (rr k) m (pp k) := ⟨fun k => Classical.choose (ex k), fun k hk => Classical.choose_spec (ex k) hk⟩
  have cls := up_all (fun f i (_ : Unit) => f_X3_fourRounds_32 f t (rr 0) (rr 1) (rr 2) (rr 3) (nI m) i I) m (fun _ => ()) ((f_X2_begin t (nI (4 * m)) I).bind (fun x2 => f_X3_fourRounds_119 fu t (rr 0) (rr 1) (rr 2) (rr 3) 0 x2)) (some (-4, I)) (fun s => ecR (pp 0) m s + ecR (pp 1) m s + ecR (pp 2) m s + ecR (pp 3) m s = 0) 1 hm1 (by rw [fu_val]; omega)
    (fun _ f => by
      show f_X3_fourRounds_32 (f + 1) t (rr 0) (rr 1) (rr 2) (rr 3) (nI m) (nI m) I = _
      rw [f_X3_fourRounds_32, if_pos (nI_le (Nat.le_refl _) (by omega)), show (4 : Int32) = nI 4 from rfl, pk_mul])
    (fun f k hk1 hk hp => by
      show f_X3_fourRounds_32 (f + 1) t (rr 0) (rr 1) (rr 2) (rr 3) (nI m) (nI k) I = f_X3_fourRounds_32 f t (rr 0) (rr 1) (rr 2) (rr 3) (nI m) (nI (k + 1)) I
      rw [f_X3_fourRounds_32, if_neg (nI_ge hk (by omega)), X_minusBits (hpp 0 (by omega)), X_minusBits (hpp 1 (by omega)), X_minusBits (hpp 2 (by omega)), X_minusBits (hpp 3 (by omega))]
      simp only [Option.bind_some]
      rw [X_echo1 _ (by omega) hk, X_echo1 _ (by omega) hk, X_echo1 _ (by omega) hk, X_echo1 _ (by omega) hk, sI_add, sI_add, sI_add, hp, if_pos (by decide), nI_1])
    (fun f k hk1 hk hp => by
      show f_X3_fourRounds_32 (f + 1) t (rr 0) (rr 1) (rr 2) (rr 3) (nI m) (nI k) I = _
      have b0 := ecR_bound (pp 0) m k
      have b1 := ecR_bound (pp 1) m k
      have b2 := ecR_bound (pp 2) m k
      have b3 := ecR_bound (pp 3) m k
      rw [f_X3_fourRounds_32, if_neg (nI_ge hk (by omega)), X_minusBits (hpp 0 (by omega)), X_minusBits (hpp 1 (by omega)), X_minusBits (hpp 2 (by omega)), X_minusBits (hpp 3 (by omega))]
      simp only [Option.bind_some]
      rw [X_echo1 _ (by omega) hk, X_echo1 _ (by omega) hk, X_echo1 _ (by omega) hk, X_echo1 _ (by omega) hk, sI_add, sI_add, sI_add, if_neg (show ¬ sI (ecR (pp 0) m k + ecR (pp 1) m k + ecR (pp 2) m k + ecR (pp 3) m k) = 0 from fun w => hp ((sI_eq (b := 0) (by omega) (by omega)).mp w))])
  have mod := up_all (fun f i (_ : Unit) => f_X4_four_322 f (nI t) (nI (rr 0)) (nI (rr 1)) (nI (rr 2)) (nI (rr 3)) (nI m) i K) m (fun _ => ()) (f_X4_four_377 fu (nI t) (nI m) 0 K) (some (-4, K)) (fun s => ecR (pp 0) m s + ecR (pp 1) m s + ecR (pp 2) m s + ecR (pp 3) m s = 0) 1 hm1 (by rw [fu_val]; omega)
    (fun _ f => by
      show f_X4_four_322 (f + 1) (nI t) (nI (rr 0)) (nI (rr 1)) (nI (rr 2)) (nI (rr 3)) (nI m) (nI m) K = _
      rw [f_X4_four_322, if_pos (nI_le (Nat.le_refl _) (by omega))])
    (fun f k hk1 hk hp => by
      show f_X4_four_322 (f + 1) (nI t) (nI (rr 0)) (nI (rr 1)) (nI (rr 2)) (nI (rr 3)) (nI m) (nI k) K = f_X4_four_322 f (nI t) (nI (rr 0)) (nI (rr 1)) (nI (rr 2)) (nI (rr 3)) (nI m) (nI (k + 1)) K
      rw [f_X4_four_322, if_neg (nI_ge hk (by omega)), M_roundEcho (hpp 0 (by omega)) hm1 hk, M_roundEcho (hpp 1 (by omega)) hm1 hk, M_roundEcho (hpp 2 (by omega)) hm1 hk, M_roundEcho (hpp 3 (by omega)) hm1 hk]
      simp only [Option.bind_some]
      rw [sI_add, sI_add, sI_add, hp, if_pos (by decide), nI_1])
    (fun f k hk1 hk hp => by
      show f_X4_four_322 (f + 1) (nI t) (nI (rr 0)) (nI (rr 1)) (nI (rr 2)) (nI (rr 3)) (nI m) (nI k) K = _
      have b0 := ecR_bound (pp 0) m k
      have b1 := ecR_bound (pp 1) m k
      have b2 := ecR_bound (pp 2) m k
      have b3 := ecR_bound (pp 3) m k
      rw [f_X4_four_322, if_neg (nI_ge hk (by omega)), M_roundEcho (hpp 0 (by omega)) hm1 hk, M_roundEcho (hpp 1 (by omega)) hm1 hk, M_roundEcho (hpp 2 (by omega)) hm1 hk, M_roundEcho (hpp 3 (by omega)) hm1 hk]
      simp only [Option.bind_some]
      rw [sI_add, sI_add, sI_add, if_neg (show ¬ sI (ecR (pp 0) m k + ecR (pp 1) m k + ecR (pp 2) m k + ecR (pp 3) m k) = 0 from fun w => hp ((sI_eq (b := 0) (by omega) (by omega)).mp w))])
  have top : f_X3_fourRounds t (rr 0) (rr 1) (rr 2) (rr 3) I = f_X3_fourRounds_32 fu t (rr 0) (rr 1) (rr 2) (rr 3) (nI m) 1 I := by
    unfold f_X3_fourRounds
    rw [pre2, Option.bind_some, if_pos rfl, hIs 0 (by omega)]
  rw [top, m81]
  rcases cls with ⟨c1, c2⟩ | ⟨c1, k, c2, c3, c4⟩
  · rcases mod with ⟨d1, d2⟩ | ⟨d1, k, d2, d3, d4⟩
    · have c1' : f_X3_fourRounds_32 fu t (rr 0) (rr 1) (rr 2) (rr 3) (nI m) 1 I = (f_X2_begin t (nI (4 * m)) I).bind (fun x2 => f_X3_fourRounds_119 fu t (rr 0) (rr 1) (rr 2) (rr 3) 0 x2) := c1
      have d1' : f_X4_four_322 fu (nI t) (nI (rr 0)) (nI (rr 1)) (nI (rr 2)) (nI (rr 3)) (nI m) 1 K = f_X4_four_377 fu (nI t) (nI m) 0 K := d1
      obtain ⟨I0, b1, b2, b3⟩ := X_begin (T := t) (n := 4 * m) (by omega) (by omega) I
      obtain ⟨Ia, x1, x2, x3⟩ := X_119 (rr := rr) (pp := pp) hm1 hm3 (fun k hk => by
        obtain ⟨g1, -, g2, -, g3, -⟩ := hpp k hk
        exact ⟨g1, by rw [b3 _ _ (by omega) (by omega) (by omega), g2], fun j hj => by rw [b3 _ _ (by omega) (by omega) (by omega), g3 j hj]⟩) b2
      obtain ⟨Ka, m1, m2, m3⟩ := M_377 (t := t) (pp := pp) h9 hm1 hm3 (fun k hk => (hpp k hk).2.2.2.2.2)
      obtain ⟨Kb, r1, r2, r3⟩ := M_take (G := frG pp m) ht (by omega) m2
      have x2' : XT Ia t (4 * m) (fun a b => if a < 4 * m ∧ b < 4 * m then frG pp m a b else 1) := XT_congA x2 (fun a b ha hb => by rw [if_pos ⟨ha, hb⟩])
      have r2' : MT Kb t (4 * m) (fun a b => if a < 4 * m ∧ b < 4 * m then frG pp m a b else 1) := MT_congA r2 (fun a b ha hb => by rw [if_pos ⟨ha, hb⟩])
      have tri' : tri (fun a b => if a < 4 * m ∧ b < 4 * m then frG pp m a b else 1) := by
        intro a b
        by_cases g : a < 4 * m ∧ b < 4 * m
        · have ba : a / m < 4 := Nat.div_lt_of_lt_mul (by rw [Nat.mul_comm]; exact g.1)
          have bb : b / m < 4 := Nat.div_lt_of_lt_mul (by rw [Nat.mul_comm]; exact g.2)
          simp only [if_pos g, frG]
          exact fr_pm (by generalize a / m = x at *; generalize b / m = y at *; omega) _ _
        · simp only [if_neg g]
          exact Or.inl trivial
      obtain ⟨k, I'', K'', t1, t2, t3⟩ := fin_tab h ht (by omega) tri' x2' r2' (fun a b q0 _ _ q1 q2 q3 => by rw [x3 a b q2 q3, b3 a b q1 q2 q3]) (fun a b q0 _ q1 q2 q3 => by rw [r3 a b q1 q3, m3 a b (by omega)])
      refine ⟨k, I'', K'', ?_, ?_, t3⟩
      · rw [c1', b1, Option.bind_some, x1, t1]
        rfl
      · rw [d1', m1, r1, t2]
        rfl
    · exact absurd (c2 k d2 d3) d4
  · rcases mod with ⟨d1, d2⟩ | ⟨d1, -⟩
    · exact absurd (d2 k c2 c3) c4
    · exact ⟨-4, I, K, c1, d1, h⟩
theorem s_four : so_four RR := by
  intro I J K M h a1 a2 a3 a4 a5
  rcases tn_cases a1 with ⟨e1, e2⟩ | ⟨t, ht, rfl, e1, e2, e3, e4⟩
  · exact ⟨-1, I, K, by simp only [f_X3_four, e1, if_true], by simp only [f_X4_four, e2, if_true], h⟩
  rcases rn_cases a2 with ⟨p1, p2⟩ | ⟨ra, hra, rfl, p1, p2, p3, p5⟩
  · exact ⟨-1, I, K, by simp only [f_X3_four, e1, p1, if_neg v10, if_true], by simp only [f_X4_four, e2, p2, if_neg v10, if_true], h⟩
  rcases rn_cases a3 with ⟨q1, q2⟩ | ⟨rb, hrb, rfl, q1, q2, q3, q5⟩
  · exact ⟨-1, I, K, by simp only [f_X3_four, e1, p1, q1, if_neg v10, if_true], by simp only [f_X4_four, e2, p2, q2, if_neg v10, if_true], h⟩
  rcases rn_cases a4 with ⟨u1, u2⟩ | ⟨rc, hrc, rfl, u1, u2, u3, u5⟩
  · exact ⟨-1, I, K, by simp only [f_X3_four, e1, p1, q1, u1, if_neg v10, if_true], by simp only [f_X4_four, e2, p2, q2, u2, if_neg v10, if_true], h⟩
  rcases rn_cases a5 with ⟨w1, w2⟩ | ⟨rd, hrd, rfl, w1, w2, w3, w5⟩
  · exact ⟨-1, I, K, by simp only [f_X3_four, e1, p1, q1, u1, w1, if_neg v10, if_true], by simp only [f_X4_four, e2, p2, q2, u2, w2, if_neg v10, if_true], h⟩
  have z0 : (0 : Int32).toNatClampNeg = 0 := by decide
  have z1 : (1 : Int32).toNatClampNeg = 1 := by decide
  have z2 : (2 : Int32).toNatClampNeg = 2 := by decide
  have z3 : (3 : Int32).toNatClampNeg = 3 := by decide
  have h' : RR I J (wI (wI (wI (wI K 9 0 (nI ra)) 9 1 (nI rb)) 9 2 (nI rc)) 9 3 (nI rd)) M := RR_scr h (fun _ _ _ _ _ => rfl) (fun a b ha _ => by rw [wI_off (by omega), wI_off (by omega), wI_off (by omega), wI_off (by omega)]) h.2.2.2.1
  have h9 : K9 (wI (wI (wI (wI K 9 0 (nI ra)) 9 1 (nI rb)) 9 2 (nI rc)) 9 3 (nI rd)) (p4 ra rb rc rd) := by
    intro k hk
    have c4 : k = 0 ∨ k = 1 ∨ k = 2 ∨ k = 3 := by omega
    rcases c4 with rfl | rfl | rfl | rfl
    · exact ⟨hra, by rw [wI_off (by omega), wI_off (by omega), wI_off (by omega), wI_here rfl rfl]; rfl⟩
    · exact ⟨hrb, by rw [wI_off (by omega), wI_off (by omega), wI_here rfl rfl]; rfl⟩
    · exact ⟨hrc, by rw [wI_off (by omega), wI_here rfl rfl]; rfl⟩
    · exact ⟨hrd, by rw [wI_here rfl rfl]; rfl⟩
  obtain ⟨v, I', K', f1, f2, f3⟩ := four_main h' ht h9
  have f1' : f_X3_fourRounds t ra rb rc rd I = some (v, I') := f1
  have f2' : f_X4_four_81 fu (nI t) (nI ra) (nI rb) (nI rc) (nI rd) 1 1 1 0 (wI (wI (wI (wI K 9 0 (nI ra)) 9 1 (nI rb)) 9 2 (nI rc)) 9 3 (nI rd)) = some (v, K') := f2
  refine ⟨v, I', K', ?_, ?_, f3⟩
  · simp only [f_X3_four, e1, p1, q1, u1, w1, if_neg v10, e3, e4, p3, p5, q3, q5, u3, u5, w3, w5, if_true, f1', Option.bind_some]
  · simp only [f_X4_four, e2, p2, q2, u2, w2, if_neg v10, z0, z1, z2, z3, f2']
