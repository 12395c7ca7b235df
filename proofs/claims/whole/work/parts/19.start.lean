theorem arrV_congr {cI : ClassId} {N : Nat} {f f' : Nat → Value} (h : ∀ j, j < N → f j = f' j) : arrV cI N f = arrV cI N f' := by
  unfold arrV
  congr 2
  funext j
  exact h j.val j.isLt
theorem vq_congr {cI : ClassId} {N : Nat} {f f' : Nat → Option Nat} (h : ∀ j, j < N → f j = f' j) : vp_cell cI (N, .inr (.inr (.inr (.inr f)))) = vp_cell cI (N, .inr (.inr (.inr (.inr f')))) :=
  show arrV cI N (fun j => va_rf (f j)) = arrV cI N (fun j => va_rf (f' j)) from arrV_congr (fun j hj => by rw [h j hj])
def xI0 : zMi := fun k j => match k with
  | 10 => if j = 1 then -1 else 0
  | 12 => if j = 1 then -1 else 0
  | 14 => if j = 1 then -1 else 0
  | 16 => if j = 1 then -1 else 0
  | 18 => if j = 1 then -1 else 0
  | 20 => if j = 1 then -1 else 0
  | _ => 0
def xJ0 : zMl := fun k j => match k with
  | 0 => if j = 12 then 1 else 0
  | _ => 0
def mI0 : zMi := fun k => match k with
  | 2 => upd (upd (upd (upd (upd (upd (fun _ => 0) 0 (-9)) 1 (-9)) 2 (-9)) 3 (-9)) 4 (-9)) 5 (-9)
  | _ => fun _ => 0
def mJ0 : zMl := fun k j => match k with
  | 0 => if j = 5 then 1 else 0
  | _ => 0
def zad (h : Nat) (a : Nat → Nat) : Nat → Nat := fun k => match k with
  | 0 => h
  | k + 1 => a (k + 1)
set_option maxRecDepth 100000 in
set_option maxHeartbeats 8000000 in
theorem x_world {D : va_G} {g : Nat → ClassId} {h : Nat} {a : Nat → Nat} {H : Heap} (hP : va_P D zcl (w1X3 g h a) H) : ∀ k, k < 58 → va_at D zcl (zad h a k, cfX g (zad h a) k (xI0 k) (xJ0 k)) H
  | 0, _ => hP 0 _ rfl
  | 1, _ => by
    have h1 : H[a 1]? = some (vp_cell _ _) := hP 1 _ rfl
    show H[a 1]? = some (vp_cell _ _)
    rw [h1]
    exact congrArg some (vq_congr (fun j hj => by rcases (show j = 0 ∨ j = 1 ∨ j = 2 ∨ j = 3 ∨ j = 4 ∨ j = 5 by omega) with rfl | rfl | rfl | rfl | rfl | rfl <;> rfl))
  | 2, _ => by
    have h1 : H[a 2]? = some (vp_cell _ _) := hP 2 _ rfl
    show H[a 2]? = some (vp_cell _ _)
    rw [h1]
    exact congrArg some (vq_congr (fun j hj => by rcases (show j = 0 ∨ j = 1 ∨ j = 2 ∨ j = 3 ∨ j = 4 ∨ j = 5 ∨ j = 6 ∨ j = 7 ∨ j = 8 ∨ j = 9 by omega) with rfl | rfl | rfl | rfl | rfl | rfl | rfl | rfl | rfl | rfl <;> rfl))
  | 3, _ => hP 3 _ rfl
  | 4, _ => hP 4 _ rfl
  | 5, _ => hP 5 _ rfl
  | 6, _ => hP 6 _ rfl
  | 7, _ => hP 7 _ rfl
  | 8, _ => hP 8 _ rfl
  | 9, _ => hP 9 _ rfl
  | 10, _ => hP 10 _ rfl
  | 11, _ => hP 11 _ rfl
  | 12, _ => hP 12 _ rfl
  | 13, _ => hP 13 _ rfl
  | 14, _ => hP 14 _ rfl
  | 15, _ => hP 15 _ rfl
  | 16, _ => hP 16 _ rfl
  | 17, _ => hP 17 _ rfl
  | 18, _ => hP 18 _ rfl
  | 19, _ => hP 19 _ rfl
  | 20, _ => hP 20 _ rfl
  | 21, _ => hP 21 _ rfl
  | 22, _ => hP 22 _ rfl
  | 23, _ => hP 23 _ rfl
  | 24, _ => hP 24 _ rfl
  | 25, _ => hP 25 _ rfl
  | 26, _ => hP 26 _ rfl
  | 27, _ => hP 27 _ rfl
  | 28, _ => hP 28 _ rfl
  | 29, _ => hP 29 _ rfl
  | 30, _ => hP 30 _ rfl
  | 31, _ => hP 31 _ rfl
  | 32, _ => hP 32 _ rfl
  | 33, _ => hP 33 _ rfl
  | 34, _ => hP 34 _ rfl
  | 35, _ => hP 35 _ rfl
  | 36, _ => hP 36 _ rfl
  | 37, _ => hP 37 _ rfl
  | 38, _ => hP 38 _ rfl
  | 39, _ => hP 39 _ rfl
  | 40, _ => hP 40 _ rfl
  | 41, _ => hP 41 _ rfl
  | 42, _ => hP 42 _ rfl
  | 43, _ => hP 43 _ rfl
  | 44, _ => hP 44 _ rfl
  | 45, _ => hP 45 _ rfl
  | 46, _ => hP 46 _ rfl
  | 47, _ => hP 47 _ rfl
  | 48, _ => hP 48 _ rfl
  | 49, _ => hP 49 _ rfl
  | 50, _ => hP 50 _ rfl
  | 51, _ => hP 51 _ rfl
  | 52, _ => hP 52 _ rfl
  | 53, _ => hP 53 _ rfl
  | 54, _ => hP 54 _ rfl
  | 55, _ => hP 55 _ rfl
  | 56, _ => hP 56 _ rfl
  | 57, _ => hP 57 _ rfl
  | n + 58, hn => absurd hn (by omega)
set_option maxRecDepth 100000 in
set_option maxHeartbeats 8000000 in
theorem m_world {D : va_G} {g : Nat → ClassId} {h : Nat} {a : Nat → Nat} {H : Heap} (hP : va_P D zcl (w1X4 g h a) H) : ∀ k, k < 18 → va_at D zcl (zad h a k, cfM g (zad h a) k (mI0 k) (mJ0 k)) H
  | 0, _ => hP 0 _ rfl
  | 1, _ => hP 1 _ rfl
  | 2, _ => hP 2 _ rfl
  | 3, _ => hP 3 _ rfl
  | 4, _ => hP 4 _ rfl
  | 5, _ => hP 5 _ rfl
  | 6, _ => hP 6 _ rfl
  | 7, _ => hP 7 _ rfl
  | 8, _ => hP 8 _ rfl
  | 9, _ => hP 9 _ rfl
  | 10, _ => hP 10 _ rfl
  | 11, _ => hP 11 _ rfl
  | 12, _ => hP 12 _ rfl
  | 13, _ => hP 13 _ rfl
  | 14, _ => hP 14 _ rfl
  | 15, _ => hP 15 _ rfl
  | 16, _ => hP 16 _ rfl
  | 17, _ => hP 17 _ rfl
  | n + 18, hn => absurd hn (by omega)
theorem zHW_of {ω : zWO} {I : zMi} {J : zMl} {H : Heap} (h : ∀ k, k < ω.2.2.1 → va_at ω.1 zcl (ω.2.2.2.1 k, ω.2.1 k (I k) (J k)) H) : zHW ω I J H := by
  intro k q hq
  have hl : k < ω.2.2.1 := by
    have := (List.getElem?_eq_some_iff.mp hq).1
    simpa [zwl] using this
  rw [zwl_get hl] at hq
  cases hq
  exact h k hl
theorem x_addr {g : Nat → ClassId} {h : Nat} {a : Nat → Nat} : (w1X3 g h a).map Prod.fst = (List.range 58).map (zad h a) := rfl
theorem m_addr {g : Nat → ClassId} {h : Nat} {a : Nat → Nat} : (w1X4 g h a).map Prod.fst = (List.range 18).map (zad h a) := rfl
theorem addr_at {ws : va_W} {N : Nat} {ad : Nat → Nat} (h : ws.map Prod.fst = (List.range N).map ad) {k : Nat} (hk : k < N) : ∃ q, ws[k]? = some q ∧ q.1 = ad k := by
  have h1 : (ws.map Prod.fst)[k]? = some (ad k) := by rw [h]; simp [hk]
  rw [List.getElem?_map] at h1
  obtain ⟨q, hq, e⟩ := Option.map_eq_some_iff.mp h1
  exact ⟨q, hq, e⟩
theorem zinj_of {A : Nat → Prop} {ws : va_W} {N : Nat} {ad : Nat → Nat} (h : ws.map Prod.fst = (List.range N).map ad) (hD : va_D A ws) : ∀ a b, a < N → b < N → ad a = ad b → a = b := by
  intro a b ha hb e
  obtain ⟨p, hp, e1⟩ := addr_at h ha
  obtain ⟨q, hq, e2⟩ := addr_at h hb
  exact hD.1 a b p q hp hq (by rw [e1, e2, e])
theorem st_FOUR_PARTS {args : Array Value} {s : State} (hg : (Jvm.Cond.and given_1 narrow_1).before args s = true) : ∀ j : Nat, j < 16 → (Term.elem (.static "SignSquares" "FOUR_PARTS" "[I") (.int (Int32.ofNat j))).eval args s none [] s = some (zFP j)
  | 0, _ => va_eqt (z := 0) (flat_of_before _ hg (Cond.eq (.elem (.static "SignSquares" "FOUR_PARTS" "[I") (.int 0)) (.int 0)) (by decide +kernel))
  | 1, _ => va_eqt (z := 1) (flat_of_before _ hg (Cond.eq (.elem (.static "SignSquares" "FOUR_PARTS" "[I") (.int 1)) (.int 1)) (by decide +kernel))
  | 2, _ => va_eqt (z := 2) (flat_of_before _ hg (Cond.eq (.elem (.static "SignSquares" "FOUR_PARTS" "[I") (.int 2)) (.int 2)) (by decide +kernel))
  | 3, _ => va_eqt (z := 3) (flat_of_before _ hg (Cond.eq (.elem (.static "SignSquares" "FOUR_PARTS" "[I") (.int 3)) (.int 3)) (by decide +kernel))
  | 4, _ => va_eqt (z := 1) (flat_of_before _ hg (Cond.eq (.elem (.static "SignSquares" "FOUR_PARTS" "[I") (.int 4)) (.int 1)) (by decide +kernel))
  | 5, _ => va_eqt (z := 0) (flat_of_before _ hg (Cond.eq (.elem (.static "SignSquares" "FOUR_PARTS" "[I") (.int 5)) (.int 0)) (by decide +kernel))
  | 6, _ => va_eqt (z := 3) (flat_of_before _ hg (Cond.eq (.elem (.static "SignSquares" "FOUR_PARTS" "[I") (.int 6)) (.int 3)) (by decide +kernel))
  | 7, _ => va_eqt (z := 2) (flat_of_before _ hg (Cond.eq (.elem (.static "SignSquares" "FOUR_PARTS" "[I") (.int 7)) (.int 2)) (by decide +kernel))
  | 8, _ => va_eqt (z := 2) (flat_of_before _ hg (Cond.eq (.elem (.static "SignSquares" "FOUR_PARTS" "[I") (.int 8)) (.int 2)) (by decide +kernel))
  | 9, _ => va_eqt (z := 3) (flat_of_before _ hg (Cond.eq (.elem (.static "SignSquares" "FOUR_PARTS" "[I") (.int 9)) (.int 3)) (by decide +kernel))
  | 10, _ => va_eqt (z := 0) (flat_of_before _ hg (Cond.eq (.elem (.static "SignSquares" "FOUR_PARTS" "[I") (.int 10)) (.int 0)) (by decide +kernel))
  | 11, _ => va_eqt (z := 1) (flat_of_before _ hg (Cond.eq (.elem (.static "SignSquares" "FOUR_PARTS" "[I") (.int 11)) (.int 1)) (by decide +kernel))
  | 12, _ => va_eqt (z := 3) (flat_of_before _ hg (Cond.eq (.elem (.static "SignSquares" "FOUR_PARTS" "[I") (.int 12)) (.int 3)) (by decide +kernel))
  | 13, _ => va_eqt (z := 2) (flat_of_before _ hg (Cond.eq (.elem (.static "SignSquares" "FOUR_PARTS" "[I") (.int 13)) (.int 2)) (by decide +kernel))
  | 14, _ => va_eqt (z := 1) (flat_of_before _ hg (Cond.eq (.elem (.static "SignSquares" "FOUR_PARTS" "[I") (.int 14)) (.int 1)) (by decide +kernel))
  | 15, _ => va_eqt (z := 0) (flat_of_before _ hg (Cond.eq (.elem (.static "SignSquares" "FOUR_PARTS" "[I") (.int 15)) (.int 0)) (by decide +kernel))
  | n + 16, hn => absurd hn (by omega)
theorem st_FOUR_SIGNS {args : Array Value} {s : State} (hg : (Jvm.Cond.and given_1 narrow_1).before args s = true) : ∀ j : Nat, j < 16 → (Term.elem (.static "SignSquares" "FOUR_SIGNS" "[I") (.int (Int32.ofNat j))).eval args s none [] s = some (zFS j)
  | 0, _ => va_eqt (z := 1) (flat_of_before _ hg (Cond.eq (.elem (.static "SignSquares" "FOUR_SIGNS" "[I") (.int 0)) (.int 1)) (by decide +kernel))
  | 1, _ => va_eqt (z := 1) (flat_of_before _ hg (Cond.eq (.elem (.static "SignSquares" "FOUR_SIGNS" "[I") (.int 1)) (.int 1)) (by decide +kernel))
  | 2, _ => va_eqt (z := 1) (flat_of_before _ hg (Cond.eq (.elem (.static "SignSquares" "FOUR_SIGNS" "[I") (.int 2)) (.int 1)) (by decide +kernel))
  | 3, _ => va_eqt (z := 1) (flat_of_before _ hg (Cond.eq (.elem (.static "SignSquares" "FOUR_SIGNS" "[I") (.int 3)) (.int 1)) (by decide +kernel))
  | 4, _ => va_eqt (z := (-1)) (flat_of_before _ hg (Cond.eq (.elem (.static "SignSquares" "FOUR_SIGNS" "[I") (.int 4)) (.int (-1))) (by decide +kernel))
  | 5, _ => va_eqt (z := 1) (flat_of_before _ hg (Cond.eq (.elem (.static "SignSquares" "FOUR_SIGNS" "[I") (.int 5)) (.int 1)) (by decide +kernel))
  | 6, _ => va_eqt (z := (-1)) (flat_of_before _ hg (Cond.eq (.elem (.static "SignSquares" "FOUR_SIGNS" "[I") (.int 6)) (.int (-1))) (by decide +kernel))
  | 7, _ => va_eqt (z := 1) (flat_of_before _ hg (Cond.eq (.elem (.static "SignSquares" "FOUR_SIGNS" "[I") (.int 7)) (.int 1)) (by decide +kernel))
  | 8, _ => va_eqt (z := (-1)) (flat_of_before _ hg (Cond.eq (.elem (.static "SignSquares" "FOUR_SIGNS" "[I") (.int 8)) (.int (-1))) (by decide +kernel))
  | 9, _ => va_eqt (z := 1) (flat_of_before _ hg (Cond.eq (.elem (.static "SignSquares" "FOUR_SIGNS" "[I") (.int 9)) (.int 1)) (by decide +kernel))
  | 10, _ => va_eqt (z := 1) (flat_of_before _ hg (Cond.eq (.elem (.static "SignSquares" "FOUR_SIGNS" "[I") (.int 10)) (.int 1)) (by decide +kernel))
  | 11, _ => va_eqt (z := (-1)) (flat_of_before _ hg (Cond.eq (.elem (.static "SignSquares" "FOUR_SIGNS" "[I") (.int 11)) (.int (-1))) (by decide +kernel))
  | 12, _ => va_eqt (z := (-1)) (flat_of_before _ hg (Cond.eq (.elem (.static "SignSquares" "FOUR_SIGNS" "[I") (.int 12)) (.int (-1))) (by decide +kernel))
  | 13, _ => va_eqt (z := (-1)) (flat_of_before _ hg (Cond.eq (.elem (.static "SignSquares" "FOUR_SIGNS" "[I") (.int 13)) (.int (-1))) (by decide +kernel))
  | 14, _ => va_eqt (z := 1) (flat_of_before _ hg (Cond.eq (.elem (.static "SignSquares" "FOUR_SIGNS" "[I") (.int 14)) (.int 1)) (by decide +kernel))
  | 15, _ => va_eqt (z := 1) (flat_of_before _ hg (Cond.eq (.elem (.static "SignSquares" "FOUR_SIGNS" "[I") (.int 15)) (.int 1)) (by decide +kernel))
  | n + 16, hn => absurd hn (by omega)
theorem st_one {args : Array Value} {s : State} {n : String} {f : Nat → Value} (harr : (Cond.arrayOf (.static "SignSquares" n "[I") .int).before args s = true) (hlen : (Cond.eq (.length (.static "SignSquares" n "[I")) (.int 16)).before args s = true) (hel : ∀ j : Nat, j < 16 → (Term.elem (.static "SignSquares" n "[I") (.int (Int32.ofNat j))).eval args s none [] s = some (f j)) (hl : (Cond.laysStatic "SignSquares" n "[I").before args s = true) (hini : (Cond.initialized "SignSquares").before args s = true) {A : Nat → Prop} (hA : ∀ a : Nat, a < s.heap.size → ¬ A a) : ∃ t : Nat, va_Z RX3 n "[I" (.ref t) A s s.heap ∧ va_T .int t 16 f A s s.heap := by
  obtain ⟨t, h1, h2⟩ := va_Tof (N := 16) (f := f) (A := A) (by decide) harr (va_eqt hlen) hel hA
  exact ⟨t, va_Zref hl hini h1 hA, h2⟩
theorem zST_of {args : Array Value} {s : State} {ω : zWO} (hg : (Jvm.Cond.and given_1 narrow_1).before args s = true) (hts : ∀ w ∈ lw_tbl, w.before args s = true) (hA : ∀ a : Nat, a < s.heap.size → ¬ zAW ω a) : zST ω s s.heap := by
  have hs := flat_of_before _ hg
  obtain ⟨t1, h1, h2⟩ := st_one (n := "FOUR_PARTS") (hs _ (by decide +kernel)) (hs _ (by decide +kernel)) (st_FOUR_PARTS hg) (hts _ (by decide +kernel)) (hts _ (by decide +kernel)) hA
  obtain ⟨t2, h3, h4⟩ := st_one (n := "FOUR_SIGNS") (hs _ (by decide +kernel)) (hs _ (by decide +kernel)) (st_FOUR_SIGNS hg) (hts _ (by decide +kernel)) (hts _ (by decide +kernel)) hA
  exact ⟨t1, t2, h1, h2, h3, h4⟩
/-- the classes and array classes of the start -/
theorem zK_of {args : Array Value} {s : State} (hts : ∀ w ∈ lw_tbl, w.before args s = true) : ∃ (D : va_G) (g : Nat → ClassId), va_K D zcl (ztys g) s := by
  have hG : ∀ w ∈ zGT, w.before args s = true := fun w hw => hts w (List.mem_filter.mp hw).1
  obtain ⟨c0, i0, k0⟩ := u_known (C := RX0) (T := TX0) (N := 4) (n := 4) hG inX0 (hts (.instantiable RX0 4) (by decide +kernel))
  obtain ⟨c1, i1, k1⟩ := u_known (C := RX1) (T := TX1) (N := 2) (n := 2) hG inX1 (hts (.instantiable RX1 2) (by decide +kernel))
  obtain ⟨c2, i2, k2⟩ := u_known (C := RX2) (T := TX2) (N := 4) (n := 4) hG inX2 (hts (.instantiable RX2 4) (by decide +kernel))
  obtain ⟨c3, i3, k3⟩ := u_known (C := RX3) (T := TX3) (N := 13) (n := 13) hG inX3 (hts (.instantiable RX3 13) (by decide +kernel))
  obtain ⟨c4, i4, k4⟩ := u_known (C := RX4) (T := TX4) (N := 23) (n := 23) hG inX4 (hts (.instantiable RX4 23) (by decide +kernel))
  obtain ⟨a0, ka0, p0, f0, e0, n0⟩ := Cond.arrayClass_spec (hts (.arrayClass .int) (by decide +kernel))
  obtain ⟨a1, ka1, p1, f1, e1, n1⟩ := Cond.arrayClass_spec (hts (.arrayClass .long) (by decide +kernel))
  obtain ⟨p2, a2, ka2, q21, q22, q23, q24, q25⟩ := Cond.arrayOver_spec (hts (.arrayOver (.object RX1)) (by decide +kernel))
  obtain ⟨p3, a3, ka3, q31, q32, q33, q34, q35⟩ := Cond.arrayOver_spec (hts (.arrayOver (.object RX2)) (by decide +kernel))
  refine ⟨(fun k => ([c0, c1, c2, c3, c4] : List ClassId).getD k c0, fun k => ([i0, i1, i2, i3, i4] : List (Nat → Nat)).getD k i0), fun k => ([a0, a1, a2, a3] : List ClassId).getD k a0, ?_, ?_⟩
  · intro c q hq
    match c, hq with
    | 0, hq => cases hq; exact k0
    | 1, hq => cases hq; exact k1
    | 2, hq => cases hq; exact k2
    | 3, hq => cases hq; exact k3
    | 4, hq => cases hq; exact k4
    | c + 5, hq => simp [zcl] at hq
  · intro k q hq
    match k, hq with
    | 0, hq => cases hq; exact ⟨fun n z => ⟨fun k h => (by cases h), ka0, e0, p0, n0⟩, f0⟩
    | 1, hq => cases hq; exact ⟨fun n z => ⟨fun k h => (by cases h), ka1, e1, p1, n1⟩, f1⟩
    | 2, hq => cases hq; exact ⟨fun n z => ⟨fun k h => (by cases h), ka2, q23, p2, q24⟩, ka2, p2, q23, q24, q21, q25⟩
    | 3, hq => cases hq; exact ⟨fun n z => ⟨fun k h => (by cases h), ka3, q33, p3, q34⟩, ka3, p3, q33, q34, q31, q35⟩
    | k + 4, hq => simp [ztys] at hq
