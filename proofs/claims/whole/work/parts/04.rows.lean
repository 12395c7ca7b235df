-- ===== locals by their numbers =====
def lg : List (Nat × Value) → Nat → Option Value
  | [], _ => none
  | (j, w) :: r, i => if j = i then some w else lg r i
theorem lg_mem {lv : List (Nat × Value)} {i : Nat} {v : Value} (h : lg lv i = some v) : (i, v) ∈ lv := by
  induction lv with
  | nil => simp [lg] at h
  | cons a r ih =>
    obtain ⟨j, w⟩ := a
    simp only [lg] at h
    by_cases hj : j = i
    · rw [if_pos hj] at h
      cases h
      subst hj
      exact List.mem_cons_self
    · rw [if_neg hj] at h
      exact List.mem_cons_of_mem _ (ih h)
/-- the local i becomes v, in its place or at the end -/
def lq : List (Nat × Value) → Nat → Value → List (Nat × Value)
  | [], i, v => [(i, v)]
  | (j, w) :: r, i, v => if j = i then (i, v) :: r else (j, w) :: lq r i v
/-- no other listed local touches the slots of i -/
def lok1 : List (Nat × Value) → Nat → Bool
  | [], _ => true
  | (j, w) :: r, i => (!(j + 1 == i && w.category == 2)) && lok1 r i
def lok2 : List (Nat × Value) → Nat → Bool
  | [], _ => true
  | (j, w) :: r, i => (!(j == i + 1)) && (!(j + 1 == i && w.category == 2)) && lok2 r i
/-- no number twice -/
def lnd : List (Nat × Value) → Bool
  | [] => true
  | (j, _) :: r => (r.all (fun q => !(q.1 == j))) && lnd r
theorem lq_mem {lv : List (Nat × Value)} {i : Nat} {v : Value} {q : Nat × Value} (hn : lnd lv = true) (h : q ∈ lq lv i v) : q = (i, v) ∨ (q ∈ lv ∧ q.1 ≠ i) := by
  induction lv with
  | nil => simp [lq] at h; exact Or.inl h
  | cons a r ih =>
    obtain ⟨j, w⟩ := a
    simp only [lnd, Bool.and_eq_true, List.all_eq_true, Bool.not_eq_true', beq_eq_false_iff_ne, ne_eq] at hn
    simp only [lq] at h
    by_cases hj : j = i
    · rw [if_pos hj] at h
      rcases List.mem_cons.mp h with h | h
      · exact Or.inl h
      · exact Or.inr ⟨List.mem_cons_of_mem _ h, fun e => hn.1 q h (by rw [e, hj])⟩
    · rw [if_neg hj] at h
      rcases List.mem_cons.mp h with h | h
      · subst h
        exact Or.inr ⟨List.mem_cons_self, hj⟩
      · rcases ih hn.2 h with h | h
        · exact Or.inl h
        · exact Or.inr ⟨List.mem_cons_of_mem _ h.1, h.2⟩
theorem lok1_all {lv : List (Nat × Value)} {i : Nat} (h : lok1 lv i = true) {q : Nat × Value} (hq : q ∈ lv) : (q.1 + 1 == i && q.2.category == 2) = false := by
  induction lv with
  | nil => cases hq
  | cons a r ih =>
    obtain ⟨j, w⟩ := a
    simp only [lok1, Bool.and_eq_true, Bool.not_eq_true'] at h
    rcases List.mem_cons.mp hq with rfl | hq
    · exact h.1
    · exact ih h.2 hq
theorem lok2_all {lv : List (Nat × Value)} {i : Nat} (h : lok2 lv i = true) {q : Nat × Value} (hq : q ∈ lv) : (q.1 == i + 1) = false ∧ (q.1 + 1 == i && q.2.category == 2) = false := by
  induction lv with
  | nil => cases hq
  | cons a r ih =>
    obtain ⟨j, w⟩ := a
    simp only [lok2, Bool.and_eq_true, Bool.not_eq_true'] at h
    rcases List.mem_cons.mp hq with rfl | hq
    · exact h.1
    · exact ih h.2 hq
theorem lv_sub1 {ls : Array Slot} {nL i : Nat} {v : Value} {lv : List (Nat × Value)} (hn : lnd lv = true) (ho : lok1 lv i = true) (h : lv_has ls nL ((i, v) :: lv.filter (fun q => !(q.1 == i) && !(q.1 + 1 == i && q.2.category == 2)))) : lv_has ls nL (lq lv i v) := by
  refine ⟨h.1, h.2.1, fun q hq => h.2.2 q ?_⟩
  rcases lq_mem hn hq with rfl | ⟨h1, h2⟩
  · exact List.mem_cons_self
  · refine List.mem_cons_of_mem _ (List.mem_filter.mpr ⟨h1, ?_⟩)
    rw [lok1_all ho h1]
    simp [h2]
theorem lv_sub2 {ls : Array Slot} {nL i : Nat} {v : Value} {lv : List (Nat × Value)} (hn : lnd lv = true) (ho : lok2 lv i = true) (h : lv_has ls nL ((i, v) :: lv.filter (fun q => !(q.1 == i) && (!(q.1 == i + 1) && !(q.1 + 1 == i && q.2.category == 2))))) : lv_has ls nL (lq lv i v) := by
  refine ⟨h.1, h.2.1, fun q hq => h.2.2 q ?_⟩
  rcases lq_mem hn hq with rfl | ⟨h1, h2⟩
  · exact List.mem_cons_self
  · refine List.mem_cons_of_mem _ (List.mem_filter.mpr ⟨h1, ?_⟩)
    rw [(lok2_all ho h1).1, (lok2_all ho h1).2]
    simp [h2]
theorem lg_ls {ls : Array Slot} {nL i : Nat} {v : Value} {lv : List (Nat × Value)} (h : lv_has ls nL lv) (hi : lg lv i = some v) : ls[i]? = some (.val v) := h.2.2 _ (lg_mem hi)
-- ===== options =====
theorem oi {α : Type} {c : Prop} [Decidable c] {a : Option α} {r : α} (h : (if c then a else none) = some r) : c ∧ a = some r := by
  by_cases hc : c
  · rw [if_pos hc] at h; exact ⟨hc, h⟩
  · rw [if_neg hc] at h; cases h
theorem ob {α β : Type} {a : Option α} {k : α → Option β} {r : β} (h : a.bind k = some r) : ∃ x, a = some x ∧ k x = some r := by
  cases a with
  | none => cases h
  | some x => exact ⟨x, rfl, h⟩
def ix (i : Int32) (n : Nat) : Bool := decide (0 ≤ i) && decide (i.toNatClampNeg < n)
theorem ix_in {i : Int32} {n : Nat} (h : ix i n = true) : vp_in i n := by
  simp only [ix, Bool.and_eq_true, decide_eq_true_eq] at h
  rintro (q | q)
  · exact absurd h.1 (by rw [Int32.not_le]; exact q)
  · omega
theorem ix_lt {i : Int32} {n : Nat} (h : ix i n = true) : i.toNatClampNeg < n := by
  simp only [ix, Bool.and_eq_true, decide_eq_true_eq] at h
  exact h.2
-- ===== rows of the instructions =====
section ZR
variable {E : zE} {ω : zWO} {cc : ByteArray} {own : String} {nL : Nat} {ret : Option FieldType} {pc : Nat} {lv : List (Nat × Value)} {st : List Value} {I : zMi} {J : zMl}
theorem z_iconst (fx : zFX E ω cc own nL ret) {n : Int} {v : Int32} (d : decode cc pc = .ok (.iconst n, 1)) (hv : Int32.ofInt n = v) (k : zAt E ω (pc + 1) lv (.int v :: st) I J) : zAt E ω pc lv st I J :=
  fun H locs ls a b c => lv_iconst fx.1 fx.2.1 d hv (k H locs ls a b c)
theorem z_bipush (fx : zFX E ω cc own nL ret) {n : Int} {v : Int32} (d : decode cc pc = .ok (.bipush n, 2)) (hv : (Int8.ofInt n).toInt32 = v) (k : zAt E ω (pc + 2) lv (.int v :: st) I J) : zAt E ω pc lv st I J :=
  fun H locs ls a b c => lv_bipush fx.1 fx.2.1 d hv (k H locs ls a b c)
theorem z_sipush (fx : zFX E ω cc own nL ret) {n : Int} {v : Int32} (d : decode cc pc = .ok (.sipush n, 3)) (hv : (Int16.ofInt n).toInt32 = v) (k : zAt E ω (pc + 3) lv (.int v :: st) I J) : zAt E ω pc lv st I J :=
  fun H locs ls a b c => lv_sipush fx.1 fx.2.1 d hv (k H locs ls a b c)
theorem z_lconst (fx : zFX E ω cc own nL ret) {n : Fin 2} {v : Int64} (d : decode cc pc = .ok (.lconst n, 1)) (hv : Int64.ofNat (n : Nat) = v) (k : zAt E ω (pc + 1) lv (.long v :: st) I J) : zAt E ω pc lv st I J :=
  fun H locs ls a b c => lv_lconst fx.1 fx.2.1 d hv (k H locs ls a b c)
theorem z_ldcw (fx : zFX E ω cc own nL ret) {index : Nat} {v : Int32} (hc : Cond.constant own index v ∈ zGT) (d : decode cc pc = .ok (.ldc_w index, 3)) (k : zAt E ω (pc + 3) lv (.int v :: st) I J) : zAt E ω pc lv st I J :=
  fun H locs ls a b c => lv_ldcw fx.1 fx.2.1 fx.2.2.2.1 (fx.2.2.2.2.1 _ hc) d (k H locs ls a b c)
theorem z_ldc2 (fx : zFX E ω cc own nL ret) {index : Nat} {v : Int64} (hc : Cond.constantLong own index v ∈ zGT) (d : decode cc pc = .ok (.ldc2_w index, 3)) (k : zAt E ω (pc + 3) lv (.long v :: st) I J) : zAt E ω pc lv st I J :=
  fun H locs ls a b c => lv_ldc2 fx.1 fx.2.1 fx.2.2.2.1 (fx.2.2.2.2.1 _ hc) d (k H locs ls a b c)
theorem z_iload_n (fx : zFX E ω cc own nL ret) {i : Fin 4} {x : Int32} (d : decode cc pc = .ok (.iload_n i, 1)) (h : lg lv (i : Nat) = some (.int x)) (k : zAt E ω (pc + 1) lv (.int x :: st) I J) : zAt E ω pc lv st I J :=
  fun H locs ls a b c => lv_iload_n fx.1 fx.2.1 d rfl (lg_ls c h) (k H locs ls a b c)
theorem z_iload (fx : zFX E ω cc own nL ret) {i : Nat} {x : Int32} (d : decode cc pc = .ok (.iload i, 2)) (h : lg lv i = some (.int x)) (k : zAt E ω (pc + 2) lv (.int x :: st) I J) : zAt E ω pc lv st I J :=
  fun H locs ls a b c => lv_iload fx.1 fx.2.1 d (lg_ls c h) (k H locs ls a b c)
theorem z_lload_n (fx : zFX E ω cc own nL ret) {i : Fin 4} {x : Int64} (d : decode cc pc = .ok (.lload_n i, 1)) (h : lg lv (i : Nat) = some (.long x)) (k : zAt E ω (pc + 1) lv (.long x :: st) I J) : zAt E ω pc lv st I J :=
  fun H locs ls a b c => lv_lload_n fx.1 fx.2.1 d rfl (lg_ls c h) (k H locs ls a b c)
theorem z_lload (fx : zFX E ω cc own nL ret) {i : Nat} {x : Int64} (d : decode cc pc = .ok (.lload i, 2)) (h : lg lv i = some (.long x)) (k : zAt E ω (pc + 2) lv (.long x :: st) I J) : zAt E ω pc lv st I J :=
  fun H locs ls a b c => lv_lload fx.1 fx.2.1 d (lg_ls c h) (k H locs ls a b c)
theorem z_aload_n (fx : zFX E ω cc own nL ret) {i : Fin 4} {x : Nat} (d : decode cc pc = .ok (.aload_n i, 1)) (h : lg lv (i : Nat) = some (.ref x)) (k : zAt E ω (pc + 1) lv (.ref x :: st) I J) : zAt E ω pc lv st I J :=
  fun H locs ls a b c => lv_aload_n fx.1 fx.2.1 d rfl (lg_ls c h) (k H locs ls a b c)
theorem z_aload (fx : zFX E ω cc own nL ret) {i : Nat} {x : Nat} (d : decode cc pc = .ok (.aload i, 2)) (h : lg lv i = some (.ref x)) (k : zAt E ω (pc + 2) lv (.ref x :: st) I J) : zAt E ω pc lv st I J :=
  fun H locs ls a b c => lv_aload fx.1 fx.2.1 d (lg_ls c h) (k H locs ls a b c)
theorem z_istore_n (fx : zFX E ω cc own nL ret) {i : Fin 4} {x : Int32} (d : decode cc pc = .ok (.istore_n i, 1)) (hn : (i : Nat) < nL) (h : (lnd lv && lok1 lv i) = true) (k : zAt E ω (pc + 1) (lq lv i (.int x)) st I J) : zAt E ω pc lv (.int x :: st) I J :=
  fun H locs ls a b c => lv_istore_n fx.1 fx.2.1 d rfl c (by rw [fx.2.2.1]; exact hn) rfl (fun ls' c' => k H locs ls' a b (lv_sub1 (Bool.and_eq_true_iff.mp h).1 (Bool.and_eq_true_iff.mp h).2 c'))
theorem z_istore (fx : zFX E ω cc own nL ret) {i : Nat} {x : Int32} (d : decode cc pc = .ok (.istore i, 2)) (hn : i < nL) (h : (lnd lv && lok1 lv i) = true) (k : zAt E ω (pc + 2) (lq lv i (.int x)) st I J) : zAt E ω pc lv (.int x :: st) I J :=
  fun H locs ls a b c => lv_istore fx.1 fx.2.1 d c (by rw [fx.2.2.1]; exact hn) rfl (fun ls' c' => k H locs ls' a b (lv_sub1 (Bool.and_eq_true_iff.mp h).1 (Bool.and_eq_true_iff.mp h).2 c'))
theorem z_astore_n (fx : zFX E ω cc own nL ret) {i : Fin 4} {x : Nat} (d : decode cc pc = .ok (.astore_n i, 1)) (hn : (i : Nat) < nL) (h : (lnd lv && lok1 lv i) = true) (k : zAt E ω (pc + 1) (lq lv i (.ref x)) st I J) : zAt E ω pc lv (.ref x :: st) I J :=
  fun H locs ls a b c => lv_astore_n fx.1 fx.2.1 d rfl c (by rw [fx.2.2.1]; exact hn) rfl (fun ls' c' => k H locs ls' a b (lv_sub1 (Bool.and_eq_true_iff.mp h).1 (Bool.and_eq_true_iff.mp h).2 c'))
theorem z_astore (fx : zFX E ω cc own nL ret) {i : Nat} {x : Nat} (d : decode cc pc = .ok (.astore i, 2)) (hn : i < nL) (h : (lnd lv && lok1 lv i) = true) (k : zAt E ω (pc + 2) (lq lv i (.ref x)) st I J) : zAt E ω pc lv (.ref x :: st) I J :=
  fun H locs ls a b c => lv_astore fx.1 fx.2.1 d c (by rw [fx.2.2.1]; exact hn) rfl (fun ls' c' => k H locs ls' a b (lv_sub1 (Bool.and_eq_true_iff.mp h).1 (Bool.and_eq_true_iff.mp h).2 c'))
theorem z_lstore_n (fx : zFX E ω cc own nL ret) {i : Fin 4} {x : Int64} (d : decode cc pc = .ok (.lstore_n i, 1)) (hn : (i : Nat) + 1 < nL) (h : (lnd lv && lok2 lv i) = true) (k : zAt E ω (pc + 1) (lq lv i (.long x)) st I J) : zAt E ω pc lv (.long x :: st) I J :=
  fun H locs ls a b c => lv_lstore_n fx.1 fx.2.1 d rfl c (by rw [fx.2.2.1]; exact hn) rfl (fun ls' c' => k H locs ls' a b (lv_sub2 (Bool.and_eq_true_iff.mp h).1 (Bool.and_eq_true_iff.mp h).2 c'))
theorem z_lstore (fx : zFX E ω cc own nL ret) {i : Nat} {x : Int64} (d : decode cc pc = .ok (.lstore i, 2)) (hn : i + 1 < nL) (h : (lnd lv && lok2 lv i) = true) (k : zAt E ω (pc + 2) (lq lv i (.long x)) st I J) : zAt E ω pc lv (.long x :: st) I J :=
  fun H locs ls a b c => lv_lstore fx.1 fx.2.1 d c (by rw [fx.2.2.1]; exact hn) rfl (fun ls' c' => k H locs ls' a b (lv_sub2 (Bool.and_eq_true_iff.mp h).1 (Bool.and_eq_true_iff.mp h).2 c'))
theorem z_iinc (fx : zFX E ω cc own nL ret) {i : Nat} {n : Int} {x v : Int32} (d : decode cc pc = .ok (.iinc i n, 3)) (hi : lg lv i = some (.int x)) (hv : x + Int32.ofInt n = v) (hn : i < nL) (h : (lnd lv && lok1 lv i) = true) (k : zAt E ω (pc + 3) (lq lv i (.int v)) st I J) : zAt E ω pc lv st I J := by
  intro H locs ls a b c
  obtain ⟨k0, hk0⟩ := List.getElem?_of_mem (lg_mem hi)
  exact lv_iinc fx.1 fx.2.1 d c hk0 hv (by rw [fx.2.2.1]; exact hn) rfl (fun ls' c' => k H locs ls' a b (lv_sub1 (Bool.and_eq_true_iff.mp h).1 (Bool.and_eq_true_iff.mp h).2 c'))
theorem z_lv {lv' : List (Nat × Value)} (h : lv'.map (fun q => lg lv q.1) = lv'.map (fun q => some q.2)) (k : zAt E ω pc lv' st I J) : zAt E ω pc lv st I J := by
  intro H locs ls a b c
  refine k H locs ls a b ⟨c.1, c.2.1, fun q hq => ?_⟩
  have h1 := (List.map_inj_left.mp h) q hq
  exact c.2.2 (q.1, q.2) (lg_mem h1)
theorem z_iadd (fx : zFX E ω cc own nL ret) {x y : Int32} (d : decode cc pc = .ok (.iadd, 1)) (k : zAt E ω (pc + 1) lv (.int (x + y) :: st) I J) : zAt E ω pc lv (.int y :: .int x :: st) I J :=
  fun H locs ls a b c => lv_iadd fx.1 fx.2.1 d (k H locs ls a b c)
theorem z_isub (fx : zFX E ω cc own nL ret) {x y : Int32} (d : decode cc pc = .ok (.isub, 1)) (k : zAt E ω (pc + 1) lv (.int (x - y) :: st) I J) : zAt E ω pc lv (.int y :: .int x :: st) I J :=
  fun H locs ls a b c => lv_isub fx.1 fx.2.1 d (k H locs ls a b c)
theorem z_imul (fx : zFX E ω cc own nL ret) {x y : Int32} (d : decode cc pc = .ok (.imul, 1)) (k : zAt E ω (pc + 1) lv (.int (x * y) :: st) I J) : zAt E ω pc lv (.int y :: .int x :: st) I J :=
  fun H locs ls a b c => lv_imul fx.1 fx.2.1 d (k H locs ls a b c)
theorem z_iand (fx : zFX E ω cc own nL ret) {x y : Int32} (d : decode cc pc = .ok (.iand, 1)) (k : zAt E ω (pc + 1) lv (.int (x &&& y) :: st) I J) : zAt E ω pc lv (.int y :: .int x :: st) I J :=
  fun H locs ls a b c => lv_iand fx.1 fx.2.1 d (k H locs ls a b c)
theorem z_ior (fx : zFX E ω cc own nL ret) {x y : Int32} (d : decode cc pc = .ok (.ior, 1)) (k : zAt E ω (pc + 1) lv (.int (x ||| y) :: st) I J) : zAt E ω pc lv (.int y :: .int x :: st) I J :=
  fun H locs ls a b c => lv_ior fx.1 fx.2.1 d (k H locs ls a b c)
theorem z_ixor (fx : zFX E ω cc own nL ret) {x y : Int32} (d : decode cc pc = .ok (.ixor, 1)) (k : zAt E ω (pc + 1) lv (.int (x ^^^ y) :: st) I J) : zAt E ω pc lv (.int y :: .int x :: st) I J :=
  fun H locs ls a b c => lv_ixor fx.1 fx.2.1 d (k H locs ls a b c)
theorem z_ishl (fx : zFX E ω cc own nL ret) {x y : Int32} (d : decode cc pc = .ok (.ishl, 1)) (k : zAt E ω (pc + 1) lv (.int (x <<< (y &&& 31)) :: st) I J) : zAt E ω pc lv (.int y :: .int x :: st) I J :=
  fun H locs ls a b c => lv_ishl fx.1 fx.2.1 d (k H locs ls a b c)
theorem z_ishr (fx : zFX E ω cc own nL ret) {x y : Int32} (d : decode cc pc = .ok (.ishr, 1)) (k : zAt E ω (pc + 1) lv (.int (x >>> (y &&& 31)) :: st) I J) : zAt E ω pc lv (.int y :: .int x :: st) I J :=
  fun H locs ls a b c => lv_ishr fx.1 fx.2.1 d (k H locs ls a b c)
theorem z_ladd (fx : zFX E ω cc own nL ret) {x y : Int64} (d : decode cc pc = .ok (.ladd, 1)) (k : zAt E ω (pc + 1) lv (.long (x + y) :: st) I J) : zAt E ω pc lv (.long y :: .long x :: st) I J :=
  fun H locs ls a b c => lv_ladd fx.1 fx.2.1 d (k H locs ls a b c)
theorem z_lsub (fx : zFX E ω cc own nL ret) {x y : Int64} (d : decode cc pc = .ok (.lsub, 1)) (k : zAt E ω (pc + 1) lv (.long (x - y) :: st) I J) : zAt E ω pc lv (.long y :: .long x :: st) I J :=
  fun H locs ls a b c => lv_lsub fx.1 fx.2.1 d (k H locs ls a b c)
theorem z_lmul (fx : zFX E ω cc own nL ret) {x y : Int64} (d : decode cc pc = .ok (.lmul, 1)) (k : zAt E ω (pc + 1) lv (.long (x * y) :: st) I J) : zAt E ω pc lv (.long y :: .long x :: st) I J :=
  fun H locs ls a b c => lv_lmul fx.1 fx.2.1 d (k H locs ls a b c)
theorem z_idiv (fx : zFX E ω cc own nL ret) {x y : Int32} (d : decode cc pc = .ok (.idiv, 1)) (h : ¬ y = 0) (k : zAt E ω (pc + 1) lv (.int (x / y) :: st) I J) : zAt E ω pc lv (.int y :: .int x :: st) I J :=
  fun H locs ls a b c => lv_idiv fx.1 fx.2.1 d h (k H locs ls a b c)
theorem z_irem (fx : zFX E ω cc own nL ret) {x y : Int32} (d : decode cc pc = .ok (.irem, 1)) (h : ¬ y = 0) (k : zAt E ω (pc + 1) lv (.int (x - x / y * y) :: st) I J) : zAt E ω pc lv (.int y :: .int x :: st) I J :=
  fun H locs ls a b c => lv_irem fx.1 fx.2.1 d h (k H locs ls a b c)
theorem z_ldiv (fx : zFX E ω cc own nL ret) {x y : Int64} (d : decode cc pc = .ok (.ldiv, 1)) (h : ¬ y = 0) (k : zAt E ω (pc + 1) lv (.long (x / y) :: st) I J) : zAt E ω pc lv (.long y :: .long x :: st) I J :=
  fun H locs ls a b c => lv_ldiv fx.1 fx.2.1 d h (k H locs ls a b c)
theorem z_lrem (fx : zFX E ω cc own nL ret) {x y : Int64} (d : decode cc pc = .ok (.lrem, 1)) (h : ¬ y = 0) (k : zAt E ω (pc + 1) lv (.long (x - x / y * y) :: st) I J) : zAt E ω pc lv (.long y :: .long x :: st) I J :=
  fun H locs ls a b c => lv_lrem fx.1 fx.2.1 d h (k H locs ls a b c)
theorem z_iushr (fx : zFX E ω cc own nL ret) {x y : Int32} (d : decode cc pc = .ok (.iushr, 1)) (k : zAt E ω (pc + 1) lv (.int ((x.toUInt32 >>> (y.toUInt32 &&& Int32.toUInt32 31)).toInt32) :: st) I J) : zAt E ω pc lv (.int y :: .int x :: st) I J :=
  fun H locs ls a b c => lv_iushr fx.1 fx.2.1 d rfl (k H locs ls a b c)
theorem z_ineg (fx : zFX E ω cc own nL ret) {x : Int32} (d : decode cc pc = .ok (.ineg, 1)) (k : zAt E ω (pc + 1) lv (.int (-x) :: st) I J) : zAt E ω pc lv (.int x :: st) I J :=
  fun H locs ls a b c => lv_ineg fx.1 fx.2.1 d (k H locs ls a b c)
theorem z_lneg (fx : zFX E ω cc own nL ret) {x : Int64} (d : decode cc pc = .ok (.lneg, 1)) (k : zAt E ω (pc + 1) lv (.long (-x) :: st) I J) : zAt E ω pc lv (.long x :: st) I J :=
  fun H locs ls a b c => lv_lneg fx.1 fx.2.1 d (k H locs ls a b c)
theorem z_i2l (fx : zFX E ω cc own nL ret) {x : Int32} (d : decode cc pc = .ok (.i2l, 1)) (k : zAt E ω (pc + 1) lv (.long x.toInt64 :: st) I J) : zAt E ω pc lv (.int x :: st) I J :=
  fun H locs ls a b c => lv_i2l fx.1 fx.2.1 d rfl (k H locs ls a b c)
theorem z_l2i (fx : zFX E ω cc own nL ret) {x : Int64} (d : decode cc pc = .ok (.l2i, 1)) (k : zAt E ω (pc + 1) lv (.int x.toInt32 :: st) I J) : zAt E ω pc lv (.long x :: st) I J :=
  fun H locs ls a b c => lv_l2i fx.1 fx.2.1 d rfl (k H locs ls a b c)
theorem z_lcmp (fx : zFX E ω cc own nL ret) {x y : Int64} (d : decode cc pc = .ok (.lcmp, 1)) (k : zAt E ω (pc + 1) lv (.int (lg_cmp x y) :: st) I J) : zAt E ω pc lv (.long y :: .long x :: st) I J :=
  fun H locs ls a b c => W.lcmp fx.1 fx.2.1 d (k H locs ls a b c)
theorem z_dup (fx : zFX E ω cc own nL ret) {v : Value} (d : decode cc pc = .ok (.dup, 1)) (hv : v.category = 1) (k : zAt E ω (pc + 1) lv (v :: v :: st) I J) : zAt E ω pc lv (v :: st) I J :=
  fun H locs ls a b c => lv_dup fx.1 fx.2.1 d hv (k H locs ls a b c)
theorem z_pop (fx : zFX E ω cc own nL ret) {v : Value} (d : decode cc pc = .ok (.pop, 1)) (hv : v.category = 1) (k : zAt E ω (pc + 1) lv st I J) : zAt E ω pc lv (v :: st) I J :=
  fun H locs ls a b c => lv_pop fx.1 fx.2.1 d hv (k H locs ls a b c)
theorem z_dup2 (fx : zFX E ω cc own nL ret) {v w : Value} (d : decode cc pc = .ok (.dup2, 1)) (hv : v.category = 1) (hw : w.category = 1) (k : zAt E ω (pc + 1) lv (v :: w :: v :: w :: st) I J) : zAt E ω pc lv (v :: w :: st) I J :=
  fun H locs ls a b c => lv_dup2_11 fx.1 fx.2.1 d hv hw (k H locs ls a b c)
theorem z_if_eq (fx : zFX E ω cc own nL ret) {x : Int32} {off : Int} {tgt : Nat} (d : decode cc pc = .ok (.ifCond .eq off, 3)) (ht : (pc : Int) + off = (tgt : Int)) (kt : x = 0 → zAt E ω tgt lv st I J) (kf : ¬ (x = 0) → zAt E ω (pc + 3) lv st I J) : zAt E ω pc lv (.int x :: st) I J :=
  fun H locs ls a b c => lv_if_eq fx.1 fx.2.1 d ht (fun h => kt h H locs ls a b c) (fun h => kf h H locs ls a b c)
theorem z_icmp_eq (fx : zFX E ω cc own nL ret) {x y : Int32} {off : Int} {tgt : Nat} (d : decode cc pc = .ok (.if_icmp .eq off, 3)) (ht : (pc : Int) + off = (tgt : Int)) (kt : x = y → zAt E ω tgt lv st I J) (kf : ¬ (x = y) → zAt E ω (pc + 3) lv st I J) : zAt E ω pc lv (.int y :: .int x :: st) I J :=
  fun H locs ls a b c => lv_icmp_eq fx.1 fx.2.1 d ht (fun h => kt h H locs ls a b c) (fun h => kf h H locs ls a b c)
theorem z_if_ne (fx : zFX E ω cc own nL ret) {x : Int32} {off : Int} {tgt : Nat} (d : decode cc pc = .ok (.ifCond .ne off, 3)) (ht : (pc : Int) + off = (tgt : Int)) (kt : ¬ x = 0 → zAt E ω tgt lv st I J) (kf : x = 0 → zAt E ω (pc + 3) lv st I J) : zAt E ω pc lv (.int x :: st) I J :=
  fun H locs ls a b c => lv_if_ne fx.1 fx.2.1 d ht (fun h => kt h H locs ls a b c) (fun h => kf h H locs ls a b c)
theorem z_icmp_ne (fx : zFX E ω cc own nL ret) {x y : Int32} {off : Int} {tgt : Nat} (d : decode cc pc = .ok (.if_icmp .ne off, 3)) (ht : (pc : Int) + off = (tgt : Int)) (kt : ¬ x = y → zAt E ω tgt lv st I J) (kf : x = y → zAt E ω (pc + 3) lv st I J) : zAt E ω pc lv (.int y :: .int x :: st) I J :=
  fun H locs ls a b c => lv_icmp_ne fx.1 fx.2.1 d ht (fun h => kt h H locs ls a b c) (fun h => kf h H locs ls a b c)
theorem z_if_lt (fx : zFX E ω cc own nL ret) {x : Int32} {off : Int} {tgt : Nat} (d : decode cc pc = .ok (.ifCond .lt off, 3)) (ht : (pc : Int) + off = (tgt : Int)) (kt : x < 0 → zAt E ω tgt lv st I J) (kf : ¬ (x < 0) → zAt E ω (pc + 3) lv st I J) : zAt E ω pc lv (.int x :: st) I J :=
  fun H locs ls a b c => lv_if_lt fx.1 fx.2.1 d ht (fun h => kt h H locs ls a b c) (fun h => kf h H locs ls a b c)
theorem z_icmp_lt (fx : zFX E ω cc own nL ret) {x y : Int32} {off : Int} {tgt : Nat} (d : decode cc pc = .ok (.if_icmp .lt off, 3)) (ht : (pc : Int) + off = (tgt : Int)) (kt : x < y → zAt E ω tgt lv st I J) (kf : ¬ (x < y) → zAt E ω (pc + 3) lv st I J) : zAt E ω pc lv (.int y :: .int x :: st) I J :=
  fun H locs ls a b c => lv_icmp_lt fx.1 fx.2.1 d ht (fun h => kt h H locs ls a b c) (fun h => kf h H locs ls a b c)
theorem z_if_ge (fx : zFX E ω cc own nL ret) {x : Int32} {off : Int} {tgt : Nat} (d : decode cc pc = .ok (.ifCond .ge off, 3)) (ht : (pc : Int) + off = (tgt : Int)) (kt : 0 ≤ x → zAt E ω tgt lv st I J) (kf : ¬ (0 ≤ x) → zAt E ω (pc + 3) lv st I J) : zAt E ω pc lv (.int x :: st) I J :=
  fun H locs ls a b c => lv_if_ge fx.1 fx.2.1 d ht (fun h => kt h H locs ls a b c) (fun h => kf h H locs ls a b c)
theorem z_icmp_ge (fx : zFX E ω cc own nL ret) {x y : Int32} {off : Int} {tgt : Nat} (d : decode cc pc = .ok (.if_icmp .ge off, 3)) (ht : (pc : Int) + off = (tgt : Int)) (kt : y ≤ x → zAt E ω tgt lv st I J) (kf : ¬ (y ≤ x) → zAt E ω (pc + 3) lv st I J) : zAt E ω pc lv (.int y :: .int x :: st) I J :=
  fun H locs ls a b c => lv_icmp_ge fx.1 fx.2.1 d ht (fun h => kt h H locs ls a b c) (fun h => kf h H locs ls a b c)
theorem z_if_gt (fx : zFX E ω cc own nL ret) {x : Int32} {off : Int} {tgt : Nat} (d : decode cc pc = .ok (.ifCond .gt off, 3)) (ht : (pc : Int) + off = (tgt : Int)) (kt : 0 < x → zAt E ω tgt lv st I J) (kf : ¬ (0 < x) → zAt E ω (pc + 3) lv st I J) : zAt E ω pc lv (.int x :: st) I J :=
  fun H locs ls a b c => lv_if_gt fx.1 fx.2.1 d ht (fun h => kt h H locs ls a b c) (fun h => kf h H locs ls a b c)
theorem z_icmp_gt (fx : zFX E ω cc own nL ret) {x y : Int32} {off : Int} {tgt : Nat} (d : decode cc pc = .ok (.if_icmp .gt off, 3)) (ht : (pc : Int) + off = (tgt : Int)) (kt : y < x → zAt E ω tgt lv st I J) (kf : ¬ (y < x) → zAt E ω (pc + 3) lv st I J) : zAt E ω pc lv (.int y :: .int x :: st) I J :=
  fun H locs ls a b c => lv_icmp_gt fx.1 fx.2.1 d ht (fun h => kt h H locs ls a b c) (fun h => kf h H locs ls a b c)
theorem z_if_le (fx : zFX E ω cc own nL ret) {x : Int32} {off : Int} {tgt : Nat} (d : decode cc pc = .ok (.ifCond .le off, 3)) (ht : (pc : Int) + off = (tgt : Int)) (kt : x ≤ 0 → zAt E ω tgt lv st I J) (kf : ¬ (x ≤ 0) → zAt E ω (pc + 3) lv st I J) : zAt E ω pc lv (.int x :: st) I J :=
  fun H locs ls a b c => lv_if_le fx.1 fx.2.1 d ht (fun h => kt h H locs ls a b c) (fun h => kf h H locs ls a b c)
theorem z_icmp_le (fx : zFX E ω cc own nL ret) {x y : Int32} {off : Int} {tgt : Nat} (d : decode cc pc = .ok (.if_icmp .le off, 3)) (ht : (pc : Int) + off = (tgt : Int)) (kt : x ≤ y → zAt E ω tgt lv st I J) (kf : ¬ (x ≤ y) → zAt E ω (pc + 3) lv st I J) : zAt E ω pc lv (.int y :: .int x :: st) I J :=
  fun H locs ls a b c => lv_icmp_le fx.1 fx.2.1 d ht (fun h => kt h H locs ls a b c) (fun h => kf h H locs ls a b c)
theorem z_goto (fx : zFX E ω cc own nL ret) {off : Int} {tgt : Nat} (d : decode cc pc = .ok (.goto off, 3)) (ht : (pc : Int) + off = (tgt : Int)) (k : zAt E ω tgt lv st I J) : zAt E ω pc lv st I J :=
  fun H locs ls a b c => lv_goto fx.1 fx.2.1 d ht (k H locs ls a b c)
theorem z_tout (fx : zFX E ω cc own nL ret) {dflt lo hi : Int} {offs : Array Int} {len : Nat} {x : Int32} {tgt : Nat} (d : decode cc pc = .ok (.tableswitch dflt lo hi offs, len)) (h : x.toInt < lo ∨ hi < x.toInt) (ht : (pc : Int) + dflt = (tgt : Int)) (k : zAt E ω tgt lv st I J) : zAt E ω pc lv (.int x :: st) I J :=
  fun H locs ls a b c => lv_tableOut fx.1 fx.2.1 d h ht (k H locs ls a b c)
theorem z_tin (fx : zFX E ω cc own nL ret) {dflt lo hi : Int} {offs : Array Int} {len : Nat} {x : Int32} {off : Int} {tgt : Nat} (d : decode cc pc = .ok (.tableswitch dflt lo hi offs, len)) (h1 : ¬ x.toInt < lo) (h2 : ¬ hi < x.toInt) (ho : offs[(x.toInt - lo).toNat]? = some off) (ht : (pc : Int) + off = (tgt : Int)) (k : zAt E ω tgt lv st I J) : zAt E ω pc lv (.int x :: st) I J :=
  fun H locs ls a b c => lv_tableIn fx.1 fx.2.1 d h1 h2 ho ht (k H locs ls a b c)
theorem z_iret (fx : zFX E ω cc own nL (some .int)) {v : Int32} (hr : zRX E ω (some (.int v)) I J) (d : decode cc pc = .ok (.ireturn, 1)) : zAt E ω pc lv [.int v] I J :=
  fun H locs ls a b c => W.iret fx.1 fx.2.1 fx.2.2.2.2.2.2.2 (fun t ht hW => hr t locs hW (by rw [ht]; exact a) (by rw [ht]; exact b)) b.2.2 d fx.2.2.2.2.2.2.1
theorem z_lret (fx : zFX E ω cc own nL (some .long)) {v : Int64} (hr : zRX E ω (some (.long v)) I J) (d : decode cc pc = .ok (.lreturn, 1)) : zAt E ω pc lv [.long v] I J :=
  fun H locs ls a b c => W.lret fx.1 fx.2.1 fx.2.2.2.2.2.2.2 (fun t ht hW => hr t locs hW (by rw [ht]; exact a) (by rw [ht]; exact b)) b.2.2 d fx.2.2.2.2.2.2.1
theorem z_zret (fx : zFX E ω cc own nL (some .boolean)) {v : Int32} (hv : narrow .boolean (.int v) = .int v) (hr : zRX E ω (some (.int v)) I J) (d : decode cc pc = .ok (.ireturn, 1)) : zAt E ω pc lv [.int v] I J :=
  fun H locs ls a b c => W.zret fx.1 fx.2.1 fx.2.2.2.2.2.2.2 hv (fun t ht hW => hr t locs hW (by rw [ht]; exact a) (by rw [ht]; exact b)) b.2.2 d fx.2.2.2.2.2.2.1
theorem z_vret (fx : zFX E ω cc own nL none) (hr : zRX E ω none I J) (d : decode cc pc = .ok (.return_, 1)) : zAt E ω pc lv [] I J :=
  fun H locs ls a b c => W.vret fx.1 fx.2.1 fx.2.2.2.2.2.2.2 (fun t ht hW => hr t locs hW (by rw [ht]; exact a) (by rw [ht]; exact b)) b.2.2 d fx.2.2.2.2.2.2.1
end ZR
