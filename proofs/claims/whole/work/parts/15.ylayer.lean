-- ===== constructors: a world as a list that grows =====
def yFX (E : zE) (D : va_G) (g : Nat → ClassId) (A : Nat → Prop) (cc : ByteArray) (own : String) (nL : Nat) : Prop :=
  (zp E).tables.exec = Jvm.exec ∧ (zc E).code = cc ∧ (zc E).maxLocals = nL ∧ (zs E).vm.findClass own = some (zm E).cls ∧ (∀ w ∈ zGT, w.before (za E) (zs E) = true) ∧ va_K D zcl (ztys g) (zs E) ∧ (zme E).locks = false ∧ (zme E).sig.returnType = none ∧ (zme E).name = "<init>" ∧ (∀ q, (zs E).heap.size ≤ q → A q)
def yAt (E : zE) (D : va_G) (A : Nat → Prop) (mc ms : Nat) (ws : va_W) (cells slots pc : Nat) (lv : List (Nat × Value)) (st : List Value) : Prop :=
  ∀ (H : Heap) (locs : List Loc) (ls : Array Slot), va_P D zcl ws H → va_D A ws → va_S A (zs E).heap H locs → lv_has ls (zc E).maxLocals lv → W (zp E) (zl E) (ze E) (zR E) (zs E) (zm E) (za E) (zb E) (zme E) (zc E) H locs cells slots (MQ (zb E) (zq E) (za E) (zs E) mc ms A) (F0 (zm E) pc ls st)
section YR
variable {E : zE} {D : va_G} {g : Nat → ClassId} {A : Nat → Prop} {cc : ByteArray} {own : String} {nL mc ms : Nat} {ws ws' : va_W} {cells slots pc : Nat} {lv : List (Nat × Value)} {st : List Value}
theorem y_aload_n (fx : yFX E D g A cc own nL) {i : Fin 4} {x : Nat} (d : decode cc pc = .ok (.aload_n i, 1)) (h : lg lv (i : Nat) = some (.ref x)) (k : yAt E D A mc ms ws cells slots (pc + 1) lv (.ref x :: st)) : yAt E D A mc ms ws cells slots pc lv st :=
  fun H locs ls a b s c => lv_aload_n fx.1 fx.2.1 d rfl (lg_ls c h) (k H locs ls a b s c)
theorem y_iload_n (fx : yFX E D g A cc own nL) {i : Fin 4} {x : Int32} (d : decode cc pc = .ok (.iload_n i, 1)) (h : lg lv (i : Nat) = some (.int x)) (k : yAt E D A mc ms ws cells slots (pc + 1) lv (.int x :: st)) : yAt E D A mc ms ws cells slots pc lv st :=
  fun H locs ls a b s c => lv_iload_n fx.1 fx.2.1 d rfl (lg_ls c h) (k H locs ls a b s c)
theorem y_iconst (fx : yFX E D g A cc own nL) {n : Int} {v : Int32} (d : decode cc pc = .ok (.iconst n, 1)) (hv : Int32.ofInt n = v) (k : yAt E D A mc ms ws cells slots (pc + 1) lv (.int v :: st)) : yAt E D A mc ms ws cells slots pc lv st :=
  fun H locs ls a b s c => lv_iconst fx.1 fx.2.1 d hv (k H locs ls a b s c)
theorem y_bipush (fx : yFX E D g A cc own nL) {n : Int} {v : Int32} (d : decode cc pc = .ok (.bipush n, 2)) (hv : (Int8.ofInt n).toInt32 = v) (k : yAt E D A mc ms ws cells slots (pc + 2) lv (.int v :: st)) : yAt E D A mc ms ws cells slots pc lv st :=
  fun H locs ls a b s c => lv_bipush fx.1 fx.2.1 d hv (k H locs ls a b s c)
theorem y_sipush (fx : yFX E D g A cc own nL) {n : Int} {v : Int32} (d : decode cc pc = .ok (.sipush n, 3)) (hv : (Int16.ofInt n).toInt32 = v) (k : yAt E D A mc ms ws cells slots (pc + 3) lv (.int v :: st)) : yAt E D A mc ms ws cells slots pc lv st :=
  fun H locs ls a b s c => lv_sipush fx.1 fx.2.1 d hv (k H locs ls a b s c)
theorem y_lconst (fx : yFX E D g A cc own nL) {n : Fin 2} {v : Int64} (d : decode cc pc = .ok (.lconst n, 1)) (hv : Int64.ofNat (n : Nat) = v) (k : yAt E D A mc ms ws cells slots (pc + 1) lv (.long v :: st)) : yAt E D A mc ms ws cells slots pc lv st :=
  fun H locs ls a b s c => lv_lconst fx.1 fx.2.1 d hv (k H locs ls a b s c)
theorem y_dup (fx : yFX E D g A cc own nL) {v : Value} (d : decode cc pc = .ok (.dup, 1)) (hv : v.category = 1) (k : yAt E D A mc ms ws cells slots (pc + 1) lv (v :: v :: st)) : yAt E D A mc ms ws cells slots pc lv (v :: st) :=
  fun H locs ls a b s c => lv_dup fx.1 fx.2.1 d hv (k H locs ls a b s c)
theorem y_istore_n (fx : yFX E D g A cc own nL) {i : Fin 4} {x : Int32} (d : decode cc pc = .ok (.istore_n i, 1)) (hn : (i : Nat) < nL) (h : (lnd lv && lok1 lv i) = true) {lv' : List (Nat × Value)} (hl : lq lv i (.int x) = lv') (k : yAt E D A mc ms ws cells slots (pc + 1) lv' st) : yAt E D A mc ms ws cells slots pc lv (.int x :: st) :=
  fun H locs ls a b s c => lv_istore_n fx.1 fx.2.1 d rfl c (by rw [fx.2.2.1]; exact hn) rfl (fun ls' c' => k H locs ls' a b s (by rw [← hl]; exact lv_sub1 (Bool.and_eq_true_iff.mp h).1 (Bool.and_eq_true_iff.mp h).2 c'))
theorem y_iinc (fx : yFX E D g A cc own nL) {i : Nat} {n : Int} {x v : Int32} (d : decode cc pc = .ok (.iinc i n, 3)) (hi : lg lv i = some (.int x)) (hv : x + Int32.ofInt n = v) (hn : i < nL) (h : (lnd lv && lok1 lv i) = true) {lv' : List (Nat × Value)} (hl : lq lv i (.int v) = lv') (k : yAt E D A mc ms ws cells slots (pc + 3) lv' st) : yAt E D A mc ms ws cells slots pc lv st := by
  intro H locs ls a b s c
  obtain ⟨k0, hk0⟩ := List.getElem?_of_mem (lg_mem hi)
  exact lv_iinc fx.1 fx.2.1 d c hk0 hv (by rw [fx.2.2.1]; exact hn) rfl (fun ls' c' => k H locs ls' a b s (by rw [← hl]; exact lv_sub1 (Bool.and_eq_true_iff.mp h).1 (Bool.and_eq_true_iff.mp h).2 c'))
theorem y_goto (fx : yFX E D g A cc own nL) {off : Int} {tgt : Nat} (d : decode cc pc = .ok (.goto off, 3)) (ht : (pc : Int) + off = (tgt : Int)) (k : yAt E D A mc ms ws cells slots tgt lv st) : yAt E D A mc ms ws cells slots pc lv st :=
  fun H locs ls a b s c => lv_goto fx.1 fx.2.1 d ht (k H locs ls a b s c)
theorem y_geT (fx : yFX E D g A cc own nL) {x y : Int32} {off : Int} {tgt : Nat} (d : decode cc pc = .ok (.if_icmp .ge off, 3)) (ht : (pc : Int) + off = (tgt : Int)) (h : y ≤ x) (k : yAt E D A mc ms ws cells slots tgt lv st) : yAt E D A mc ms ws cells slots pc lv (.int y :: .int x :: st) :=
  fun H locs ls a b s c => lv_icmp_ge fx.1 fx.2.1 d ht (fun _ => k H locs ls a b s c) (fun n => absurd h n)
theorem y_geF (fx : yFX E D g A cc own nL) {x y : Int32} {off : Int} {tgt : Nat} (d : decode cc pc = .ok (.if_icmp .ge off, 3)) (ht : (pc : Int) + off = (tgt : Int)) (h : ¬ y ≤ x) (k : yAt E D A mc ms ws cells slots (pc + 3) lv st) : yAt E D A mc ms ws cells slots pc lv (.int y :: .int x :: st) :=
  fun H locs ls a b s c => lv_icmp_ge fx.1 fx.2.1 d ht (fun n => absurd n h) (fun _ => k H locs ls a b s c)
theorem y_obj (fx : yFX E D g A cc own nL) {idx x : Nat} (hl : Cond.methodLink own idx Lib.objectInit ∈ zGT) (hi : Cond.instanceMethod Lib.objectInit ∈ zGT) (hc : Cond.code Lib.objectInit ⟨#[0xb1]⟩ 1 none ∈ zGT) (d : decode cc pc = .ok (.invokespecial idx, 3)) (hR : 1 ≤ (zR E).frames ∧ 12 ≤ (zR E).locals) (k : yAt E D A mc ms ws cells slots (pc + 3) lv []) : yAt E D A mc ms ws cells slots pc lv [.ref x] :=
  fun H locs ls a b s c => W.objInit fx.1 fx.2.1 fx.2.2.2.1 (fx.2.2.2.2.1 _ hl) (fx.2.2.2.2.1 _ hi) (fx.2.2.2.2.1 _ hc) rfl c.1 rfl d hR.1 (Nat.le_trans (by simp [JFrame.monitorRoom]) hR.2) (k H locs ls a b s c)
theorem y_newI (fx : yFX E D g A cc own nL) {n : Int32} {N : Nat} (harr : Cond.arrayClass .int ∈ zGT) (d : decode cc pc = .ok (.newarray .int, 2)) (hn : ¬ n < 0) (hN : n.toNatClampNeg = N) (hb : N * componentBytes .int ≤ 536870912) (hR : cells + 1 ≤ (zR E).cells ∧ slots + N ≤ (zR E).slots) (k : ∀ q : Nat, yAt E D A mc ms (ws ++ [(q, .inl (g 0, N, .inl (fun _ => 0)))]) (cells + 1) (slots + N) (pc + 2) lv (.ref q :: st)) : yAt E D A mc ms ws cells slots pc lv (.int n :: st) := by
  intro H locs ls a b s c
  have hK := fx.2.2.2.2.2.1
  refine va_newa (atype := .int) (D := D) (cl := zcl) (a0 := (N, .inl (fun _ => 0))) fx.1 fx.2.1 (fx.2.2.2.2.1 _ harr) rfl hK a b s fx.2.2.2.2.2.2.2.2.2 (fun _ => rfl) hn hN hb hR.1 hR.2 d (fun q cA H1 hK1 hP1 hD1 hS1 => ?_)
  have e1 := (hK1.2 4 (cA, .int) rfl).2
  have e2 := (hK.2 0 (g 0, .int) rfl).2
  have e : cA = g 0 := Option.some.inj (Eq.trans (Eq.symm e1) e2)
  subst e
  exact k q H1 locs ls hP1 hD1 hS1 c
theorem y_newL (fx : yFX E D g A cc own nL) {n : Int32} {N : Nat} (harr : Cond.arrayClass .long ∈ zGT) (d : decode cc pc = .ok (.newarray .long, 2)) (hn : ¬ n < 0) (hN : n.toNatClampNeg = N) (hb : N * componentBytes .long ≤ 536870912) (hR : cells + 1 ≤ (zR E).cells ∧ slots + N ≤ (zR E).slots) (k : ∀ q : Nat, yAt E D A mc ms (ws ++ [(q, .inl (g 1, N, .inr (.inl (fun _ => 0))))]) (cells + 1) (slots + N) (pc + 2) lv (.ref q :: st)) : yAt E D A mc ms ws cells slots pc lv (.int n :: st) := by
  intro H locs ls a b s c
  have hK := fx.2.2.2.2.2.1
  refine va_newa (atype := .long) (D := D) (cl := zcl) (a0 := (N, .inr (.inl (fun _ => 0)))) fx.1 fx.2.1 (fx.2.2.2.2.1 _ harr) rfl hK a b s fx.2.2.2.2.2.2.2.2.2 (fun _ => rfl) hn hN hb hR.1 hR.2 d (fun q cA H1 hK1 hP1 hD1 hS1 => ?_)
  have e1 := (hK1.2 4 (cA, .long) rfl).2
  have e2 := (hK.2 1 (g 1, .long) rfl).2
  have e : cA = g 1 := Option.some.inj (Eq.trans (Eq.symm e1) e2)
  subst e
  exact k q H1 locs ls hP1 hD1 hS1 c
theorem y_newq (fx : yFX E D g A cc own nL) {n : Int32} {N t index : Nat} {C : String} (ht : (ztys g)[t]? = some (g t, .object C)) (hcl : Cond.classLink own index C ∈ zGT) (hAO : va_AO C (zs E)) (d : decode cc pc = .ok (.anewarray index, 3)) (hn : ¬ n < 0) (hN : n.toNatClampNeg = N) (hb : N * 4 ≤ 536870912) (hR : cells + 1 ≤ (zR E).cells ∧ slots + N ≤ (zR E).slots) (k : ∀ q : Nat, yAt E D A mc ms (ws ++ [(q, .inl (g t, N, .inr (.inr (.inr (.inr (fun _ => none))))))]) (cells + 1) (slots + N) (pc + 3) lv (.ref q :: st)) : yAt E D A mc ms ws cells slots pc lv (.int n :: st) := by
  intro H locs ls a b s c
  have hK := fx.2.2.2.2.2.1
  refine va_newq (D := D) (cl := zcl) fx.1 fx.2.1 fx.2.2.2.1 (fx.2.2.2.2.1 _ hcl) hAO hK a b s fx.2.2.2.2.2.2.2.2.2 hn hN hb hR.1 hR.2 d (fun q cA H1 hK1 hP1 hD1 hS1 => ?_)
  have e1 := (hK1.2 4 (cA, .object C) rfl).2
  have e2 := (hK.2 t (g t, .object C) ht).2
  obtain ⟨_, _, _, _, _, e1⟩ := e1
  obtain ⟨_, _, _, _, _, e2⟩ := e2
  have e : cA = g t := Option.some.inj (Eq.trans (Eq.symm e1) e2)
  subst e
  exact k q H1 locs ls hP1 hD1 hS1 c
theorem y_new (fx : yFX E D g A cc own nL) {index ci N : Nat} {C : String} {T : u_T} {fs : List Value} (hin : ∀ w ∈ u_ws C T N, w ∈ zGT) (ty : Nat → FieldType) (hty : ∀ k, k < N → parseFieldDescriptor (T k).2.2.1 = some (ty k)) (hc : zcl[ci]? = some (C, T, N)) (hcl : Cond.classLink own index C ∈ zGT) (hins : Cond.instantiable C N ∈ zGT) (hini : Cond.initialized C ∈ zGT) (hfs : ∀ j, j < N → defaultValue (ty j) = vp_V fs j) (d : decode cc pc = .ok (.new index, 3)) (hR : cells + 1 ≤ (zR E).cells ∧ slots + N ≤ (zR E).slots) (k : ∀ q : Nat, yAt E D A mc ms (ws ++ [(q, .inr (ci, fs))]) (cells + 1) (slots + N) (pc + 3) lv (.ref q :: st)) : yAt E D A mc ms ws cells slots pc lv st := by
  intro H locs ls a b s c
  have ok := fx.2.2.2.2.1
  exact va_new (D := D) (cl := zcl) fx.1 fx.2.1 ok hin ty hty fx.2.2.2.1 (ok _ hcl) (ok _ hins) (ok _ hini) fx.2.2.2.2.2.1 a b s fx.2.2.2.2.2.2.2.2.2 hc hfs hR.1 hR.2 d (fun q H1 hP1 hD1 hS1 => k q H1 locs ls hP1 hD1 hS1 c)
theorem y_putF (fx : yFX E D g A cc own nL) {index ci N k j a : Nat} {T : u_T} {fs : List Value} {v : Value} {ty : FieldType} (hin : ∀ w ∈ u_ws own T N, w ∈ zGT) (ty0 : Nat → FieldType) (hty : ∀ k, k < N → parseFieldDescriptor (T k).2.2.1 = some (ty0 k)) (hnm : ∀ a, a < N → ∀ b, b < N → a ≠ b → (T a).2.1 ≠ (T b).2.1) (hc : zcl[ci]? = some (own, T, N)) (he : ws[k]? = some (a, .inr (ci, fs))) (hj : j < N) (hr : (T j).1 = own) (hl : Cond.fieldLink own index own (T j).2.1 (T j).2.2.1 ∈ zGT) (hfin : (T j).2.2.2 = true) (hd : parseFieldDescriptor (T j).2.2.1 = some ty) (hn : narrow ty v = v) (hf : fits ty v = true) (hlen : j < fs.length) (hw : ws.set k (a, .inr (ci, fs.set j v)) = ws') (d : decode cc pc = .ok (.putfield index, 3)) (kk : yAt E D A mc ms ws' cells slots (pc + 3) lv st) : yAt E D A mc ms ws cells slots pc lv (v :: .ref a :: st) := by
  intro H locs ls p b s c
  have ok := fx.2.2.2.2.1
  refine va_putF (D := D) (cl := zcl) fx.1 fx.2.1 ok hin ty0 hty hnm fx.2.2.2.1 fx.2.2.2.2.2.1 p b s k he hc j hj (ok _ hl) (fun x hx => by rw [← hr]; exact (hr ▸ hx)) hfin fx.2.2.2.2.2.2.2.2.1 hr hd hn hf hlen d (fun H1 locs1 hP1 hD1 hS1 => ?_)
  rw [hw] at hP1 hD1
  exact kk H1 locs1 ls hP1 hD1 hS1 c
theorem y_putN (fx : yFX E D g A cc own nL) {index ci N k j a : Nat} {T : u_T} {fs : List Value} {v : Value} {ty : FieldType} (hin : ∀ w ∈ u_ws own T N, w ∈ zGT) (ty0 : Nat → FieldType) (hty : ∀ k, k < N → parseFieldDescriptor (T k).2.2.1 = some (ty0 k)) (hnm : ∀ a, a < N → ∀ b, b < N → a ≠ b → (T a).2.1 ≠ (T b).2.1) (hc : zcl[ci]? = some (own, T, N)) (he : ws[k]? = some (a, .inr (ci, fs))) (hj : j < N) (hr : (T j).1 = own) (hl : Cond.fieldLink own index own (T j).2.1 (T j).2.2.1 ∈ zGT) (hfin : (T j).2.2.2 = false) (hd : parseFieldDescriptor (T j).2.2.1 = some ty) (hn : narrow ty v = v) (hf : fits ty v = true) (hlen : j < fs.length) (hw : ws.set k (a, .inr (ci, fs.set j v)) = ws') (d : decode cc pc = .ok (.putfield index, 3)) (kk : yAt E D A mc ms ws' cells slots (pc + 3) lv st) : yAt E D A mc ms ws cells slots pc lv (v :: .ref a :: st) := by
  intro H locs ls p b s c
  have ok := fx.2.2.2.2.1
  refine va_put (D := D) (cl := zcl) fx.1 fx.2.1 ok hin ty0 hty hnm fx.2.2.2.1 fx.2.2.2.2.2.1 p b s k he hc j hj (ok _ hl) (fun x hx => by rw [← hr]; exact (hr ▸ hx)) hfin hd hn hf hlen d (fun H1 locs1 hP1 hD1 hS1 => ?_)
  rw [hw] at hP1 hD1
  exact kk H1 locs1 ls hP1 hD1 hS1 c
theorem y_get (fx : yFX E D g A cc own nL) {index ci N k j a : Nat} {T : u_T} {fs : List Value} {v : Value} (hin : ∀ w ∈ u_ws own T N, w ∈ zGT) (hc : zcl[ci]? = some (own, T, N)) (he : ws[k]? = some (a, .inr (ci, fs))) (hj : j < N) (hr : (T j).1 = own) (hl : Cond.fieldLink own index own (T j).2.1 (T j).2.2.1 ∈ zGT) (hv : fs[j]? = some v) (d : decode cc pc = .ok (.getfield index, 3)) (kk : yAt E D A mc ms ws cells slots (pc + 3) lv (v :: st)) : yAt E D A mc ms ws cells slots pc lv (.ref a :: st) := by
  intro H locs ls p b s c
  have ok := fx.2.2.2.2.1
  exact va_get (D := D) (cl := zcl) fx.1 fx.2.1 ok hin fx.2.2.2.1 fx.2.2.2.2.2.1 p k he hc j hj (ok _ hl) (fun x hx => by rw [← hr]; exact (hr ▸ hx)) hv d (kk H locs ls p b s c)
theorem y_iast (fx : yFX E D g A cc own nL) {k n a : Nat} {f : Nat → Int32} (he : ws[k]? = some (a, .inl (g 0, n, .inl f))) {i x : Int32} (hi : ix i n = true) (d : decode cc pc = .ok (.iastore, 1)) (hw : ws.set k (a, .inl (g 0, n, .inl (upd f i.toNatClampNeg x))) = ws') (kk : yAt E D A mc ms ws' cells slots (pc + 1) lv st) : yAt E D A mc ms ws cells slots pc lv (.int x :: .int i :: .ref a :: st) := by
  intro H locs ls p b s c
  refine va_iast (D := D) (cl := zcl) fx.1 fx.2.1 fx.2.2.2.2.2.1 p b s k 0 he rfl (ix_in hi) d (fun H1 locs1 hP1 hD1 hS1 => ?_)
  rw [hw] at hP1 hD1
  exact kk H1 locs1 ls hP1 hD1 hS1 c
theorem y_ast (fx : yFX E D g A cc own nL) {k n a t qk ci v : Nat} {r : vw_C} {vs : List Value} {f : Nat → Option Nat} (he : ws[k]? = some (a, .inl (g t, n, .inr (.inr (.inr (.inr f)))))) (ht : (ztys g)[t]? = some (g t, .object r.1)) (hv : ws[qk]? = some (v, .inr (ci, vs))) (hc : zcl[ci]? = some r) {i : Int32} (hi : ix i n = true) (d : decode cc pc = .ok (.aastore, 1)) (hw : ws.set k (a, .inl (g t, n, .inr (.inr (.inr (.inr (va_up f i.toNatClampNeg (some v))))))) = ws') (kk : yAt E D A mc ms ws' cells slots (pc + 1) lv st) : yAt E D A mc ms ws cells slots pc lv (.ref v :: .int i :: .ref a :: st) := by
  intro H locs ls p b s c
  refine va_astq (D := D) (cl := zcl) fx.1 fx.2.1 fx.2.2.2.2.2.1 p b s k t qk ci he ht hv hc (ix_in hi) d (fun H1 locs1 hP1 hD1 hS1 => ?_)
  rw [hw] at hP1 hD1
  exact kk H1 locs1 ls hP1 hD1 hS1 c
def yRX (E : zE) (D : va_G) (A : Nat → Prop) (w1 : (Nat → Nat) → va_W) : Prop :=
  ∀ (t : State) (a : Nat → Nat) (locs : List Loc), (zs E).WarmedH t.vm → va_P D zcl (w1 a) t.heap → va_D A (w1 a) → va_S A (zs E).heap t.heap locs → (zq E) (za E) (zs E) (.returned none) t
theorem y_ret (fx : yFX E D g A cc own nL) {w1 : (Nat → Nat) → va_W} (hr : yRX E D A w1) (a : Nat → Nat) (is : List Nat) (h1 : is.filterMap (fun i => ws[i]?) = w1 a) (h2 : is.map (fun i => ws[i]?) = (w1 a).map some) (h3 : va_nd is = true) (hc : (Nat.ble cells mc && Nat.ble slots ms) = true) (d : decode cc pc = .ok (.return_, 1)) : yAt E D A mc ms ws cells slots pc lv [] := by
  intro H locs ls p b s c
  rw [Bool.and_eq_true] at hc
  refine W.widen (k := mc) (n := ms) (Nat.le_of_ble_eq_true hc.1) (Nat.le_of_ble_eq_true hc.2) ?_
  exact W.vret fx.1 fx.2.1 fx.2.2.2.2.2.2.2.1 (fun t ht hW => hr t a locs hW (by rw [ht]; exact p.sub is h1) (b.sub is h3 h2) (by rw [ht]; exact s)) s.2.2 d fx.2.2.2.2.2.2.1
end YR
/-- the contract of a constructor: one cell comes in, the world w1 goes out -/
def yCM (D : va_G) (g : Nat → ClassId) (l : Launch) (y : MethodName) (bytes : ByteArray) (maxL : Nat) (rm : Room) (h0 : Nat) (c0 : va_E) (sz mc ms : Nat) (Xt : State → Prop) (w1 : (Nat → Nat) → va_W) : Prop :=
  Met l y (.code y bytes maxL none :: zGT) rm (va_Pc [.ref h0] (fun U => U.heap.size = sz ∧ va_K D zcl (ztys g) U ∧ Xt U ∧ va_P D zcl [(h0, c0)] U.heap)) (fun _ st oc t => (oc = .returned none ∧ ∃ a : Nat → Nat, va_P D zcl (w1 a) t.heap ∧ va_D (va_A [(h0, c0)] sz) (w1 a)) ∧ va_F (va_A [(h0, c0)] sz) st t) mc ms (va_A [(h0, c0)] sz)
theorem yone {A : Nat → Prop} {h : Nat} {c : va_E} (ha : A h) : va_D A [(h, c)] := by
  refine ⟨fun i j p q hp hq _ => ?_, fun k q hk => ?_⟩
  · have h1 := (List.getElem?_eq_some_iff.mp hp).1
    have h2 := (List.getElem?_eq_some_iff.mp hq).1
    simp at h1 h2
    omega
  · have h1 := (List.getElem?_eq_some_iff.mp hk).1
    have e : k = 0 := by simpa using h1
    subst e
    cases hk
    exact ha
theorem yCM.of {D : va_G} {g : Nat → ClassId} {l : Launch} {y : MethodName} {bytes : ByteArray} {maxL : Nat} {rm : Room} {h0 : Nat} {c0 : va_E} {sz mc ms : Nat} {Xt : State → Prop} {w1 : (Nat → Nat) → va_W} (hy : plainName y.cls = true) (hn : y.name = "<init>") (hl : 1 ≤ maxL)
    (h : ∀ E : zE, zl E = l → zR E = rm → yFX E D g (va_A [(h0, c0)] sz) bytes y.cls maxL → Xt (zs E) → yRX E D (va_A [(h0, c0)] sz) w1 → yAt E D (va_A [(h0, c0)] sz) mc ms [(h0, c0)] 0 0 0 [(0, .ref h0)] []) : yCM D g l y bytes maxL rm h0 c0 sz mc ms Xt w1 := by
  refine Met.ofW (cc := bytes) (maxL := maxL) (ret := none) hy rfl ?_
  intro p e s m args below meth c s₁ B hml hv
  obtain ⟨rfl, hsz, hK, hX, hP⟩ := hv
  have hts := atoms_spec (ws := .code y bytes maxL none :: zGT) B.pre
  have hown : s.vm.findClass y.cls = some m.cls := findClass_of_methodNamed B.named
  have hin : meth.name = "<init>" := (name_of_methodNamed B.named B.method).1.trans hn
  have hl0 := lv_entry [.ref h0] (n := maxL) hl
  rw [lg_entry_eq]
  generalize (lg_sl [.ref h0] ++ List.replicate (maxL - (lg_sl [.ref h0]).length) Slot.unset).toArray = ls at hl0 ⊢
  refine h (p, l, e, rm, s, m, [Value.ref h0].toArray, below, meth, c, _) rfl rfl ⟨B.exec, B.bytes, hml, hown, fun w hw => hts w (List.mem_cons_of_mem _ hw), hK, B.notSynchronized, B.returns, hin, fun q hq => Or.inr (by rw [← hsz]; exact hq)⟩ hX (fun t a locs hW hP hD hS => ⟨⟨rfl, a, hP, hD⟩, hS.1, hS.2.1⟩) s.heap [] ls hP (yone (Or.inl ⟨0, c0, rfl⟩)) va_S.rf ?_
  show lv_has ls c.maxLocals _
  rw [hml]
  exact hl0
section YC
variable {E : zE} {D : va_G} {g : Nat → ClassId} {A : Nat → Prop} {cc : ByteArray} {own : String} {nL mc ms : Nat} {cells slots pc : Nat} {lv : List (Nat × Value)} {st : List Value}
theorem y_join {A0 : Nat → Prop} {wr w1 : va_W} {h : Nat} {c0 : va_E} {H H1 : Heap} (hP : va_P D zcl (wr ++ [(h, c0)]) H) (hD : va_D A0 (wr ++ [(h, c0)])) (hk : ∀ q : Nat, q < H.size → ¬ va_A [(h, c0)] H.size q → H1[q]? = H[q]?) (hF : ∀ q, va_A [(h, c0)] H.size q → A0 q) (hP1 : va_P D zcl w1 H1) (hD1 : va_D (va_A [(h, c0)] H.size) w1) : va_P D zcl (wr ++ w1) H1 ∧ va_D A0 (wr ++ w1) := by
  have hin : ∀ (k : Nat) (q : Nat × va_E), wr[k]? = some q → (wr ++ [(h, c0)])[k]? = some q := fun k q hq => by rw [List.getElem?_append_left (List.getElem?_eq_some_iff.mp hq).1]; exact hq
  have hlast : (wr ++ [(h, c0)])[wr.length]? = some (h, c0) := by simp
  have hno : ∀ (k : Nat) (q : Nat × va_E), wr[k]? = some q → ¬ va_A [(h, c0)] H.size q.1 := by
    intro k q hq
    rintro (⟨j, e, hj⟩ | hj)
    · have h1 := (List.getElem?_eq_some_iff.mp hj).1
      have ej : j = 0 := by simpa using h1
      subst ej
      have hj' : (h, c0) = (q.1, e) := Option.some.inj hj
      have hh : h = q.1 := congrArg Prod.fst hj'
      have := hD.1 k wr.length q (h, c0) (hin k q hq) hlast hh.symm
      have := (List.getElem?_eq_some_iff.mp hq).1
      omega
    · have := (hP k q (hin k q hq)).lt
      omega
  have hPr : va_P D zcl wr H1 := fun k q hq => (hP k q (hin k q hq)).kept (hk q.1 (hP k q (hin k q hq)).lt (hno k q hq))
  have hDr : va_D A0 wr := ⟨fun i j p q hp hq e => hD.1 i j p q (hin i p hp) (hin j q hq) e, fun k q hq => hD.2 k q (hin k q hq)⟩
  refine ⟨hPr.app hP1, hDr.app (hD1.weaken (fun k q _ hA => hF _ hA)) (fun i j p q hp hq e => ?_)⟩
  exact hno i p hp (by rw [e]; exact hD1.2 j q hq)
theorem y_call (fx : yFX E D g A cc own nL) {y : MethodName} {bytes : ByteArray} {maxL index h mc1 ms1 : Nat} {rm : Room} {host : String} {c0 : va_E} {w1 : (Nat → Nat) → va_W} {wr : va_W} (hM : ∀ sz : Nat, yCM D g (zl E) y bytes maxL rm h c0 sz mc1 ms1 (fun _ => True) w1) (hw : zMW y 0) (hy : y.name = "<init>") (hcode : Cond.code y bytes maxL none ∈ zGT) (hini : Cond.initialized y.cls ∈ zGT) (hins : Cond.instanceMethod y ∈ zGT) (hlink : va_Nw (.methodLinkNest own index y host) (zs E)) (hrc : rm.cells = mc1) (hrs : rm.slots = ms1) (hR : rm.frames + 1 ≤ (zR E).frames ∧ 8 + (maxL + 11) + rm.locals ≤ (zR E).locals) (hR2 : cells + mc1 ≤ (zR E).cells ∧ slots + ms1 ≤ (zR E).slots) (hroom : (st.map fun v => v.category).sum ≤ 8) (d : decode cc pc = .ok (.invokespecial index, 3))
    (kk : ∀ a : Nat → Nat, yAt E D A mc ms (wr ++ w1 a) (cells + mc1) (slots + ms1) (pc + 3) lv st) : yAt E D A mc ms (wr ++ [(h, c0)]) cells slots pc lv (.ref h :: st) := by
  intro H locs ls p b s c
  have ok := fx.2.2.2.2.1
  have hK := fx.2.2.2.2.2.1
  have hG : GoodIn zGT (Cond.code y bytes maxL none :: zGT) := fun w hw' => by
    have hm : w ∈ zGT := by
      rcases List.mem_cons.mp hw' with rfl | h
      · exact hcode
      · exact h
    exact ⟨hm, zgood hm⟩
  have hPc : va_P D zcl [(h, c0)] H := fun k q hq => by
    have h1 := (List.getElem?_eq_some_iff.mp hq).1
    have e : k = 0 := by simpa using h1
    subst e
    exact p wr.length q (by simpa using hq)
  have hF : ∀ q, va_A [(h, c0)] H.size q → A q := by
    intro q hq
    rcases hq with ⟨j, e, hj⟩ | hq
    · have h1 := (List.getElem?_eq_some_iff.mp hj).1
      have ej : j = 0 := by simpa using h1
      subst ej
      have hj' : (h, c0) = (q, e) := Option.some.inj hj
      have hh : h = q := congrArg Prod.fst hj'
      rw [← hh]
      exact b.2 wr.length (h, c0) (by simp)
    · exact fx.2.2.2.2.2.2.2.2.2 q (Nat.le_trans s.1 hq)
  have hr := va_runIN (p := zp E) (l := zl E) (e := ze E) (R := zR E) (below := zb E) (meth := zme E) (H := H) (locs := locs) (cells := cells) (slots := slots) (g := F0 (zm E) pc ls (.ref h :: st)) (Ts := zGT) (own := own) (host := host) (b := h) (As := []) (rest := st) (nL := nL) ⟨fx.1, fx.2.1, fx.2.2.1, fx.2.2.2.1, ok⟩ (hM H.size) ⟨va_cnB 0 ok hG rfl hrc hrs hlink (ok _ hini) hw hR, hy, ok _ hins⟩ ⟨fun a U g' mk q => by
      obtain ⟨q1, q2, q3, q4, q5⟩ := q
      exact ⟨q1, q2, va_K.moved (u := U) (U := U.calling g' mk a) (Vm.Alike.refl U.vm) q3, q4, q5⟩, fun U hU hW => ⟨rfl, by rw [hU], va_K.moved hW.alike hK, trivial, by rw [hU]; exact hPc⟩⟩ rfl rfl (c.1.trans fx.2.2.1) rfl (lv_room hroom) d hR2
  intro T hT X
  obtain ⟨v, st₀, t, T', L, h0, X', hL, e1, e2, ⟨⟨hv, a, hP1, hD1⟩, hz, hk⟩, hgo⟩ := hr T hT X
  cases hv
  rw [h0] at hz hk
  obtain ⟨hP2, hD2⟩ := y_join (A0 := A) (H1 := t.heap) p b hk hF hP1 hD1
  obtain ⟨t2, a1, b1⟩ := kk a T'.heap (locs ++ L) ls (by rw [e1]; exact hP2) hD2
    ⟨Nat.le_trans s.1 (by rw [e1]; exact hz), fun q h1 h2 => by rw [e1, hk q (Nat.lt_of_lt_of_le h1 s.1) (fun z => h2 (hF q z))]; exact s.2.1 q h1 h2, fun q hq => by
      rcases List.mem_append.mp hq with h | h
      · exact s.2.2 q h
      · exact hF _ (hL q h)⟩ c T' rfl X'
  exact ⟨t2, hgo t2 a1, b1⟩
end YC
theorem y_ws {E : zE} {D : va_G} {A : Nat → Prop} {mc ms : Nat} {ws ws' : va_W} {cells slots pc : Nat} {lv : List (Nat × Value)} {st : List Value} (h : ws = ws') (k : yAt E D A mc ms ws' cells slots pc lv st) : yAt E D A mc ms ws cells slots pc lv st := h ▸ k
theorem wi_o : Cond.instanceMethod Lib.objectInit ∈ zGT := by decide +kernel
theorem wc_o : Cond.code Lib.objectInit ⟨#[0xb1]⟩ 1 none ∈ zGT := by decide +kernel
theorem wa_i : Cond.arrayClass .int ∈ zGT := by decide +kernel
theorem wa_l : Cond.arrayClass .long ∈ zGT := by decide +kernel
theorem yr2 {E : zE} {rm : Room} {a b : Nat} (hR : zR E = rm) (h : (Nat.ble a rm.cells && Nat.ble b rm.slots) = true) : a ≤ (zR E).cells ∧ b ≤ (zR E).slots := by
  rw [hR]
  rw [Bool.and_eq_true] at h
  exact ⟨Nat.le_of_ble_eq_true h.1, Nat.le_of_ble_eq_true h.2⟩
theorem yr1 {E : zE} {rm : Room} {a b : Nat} (hR : zR E = rm) (h : (Nat.ble a rm.frames && Nat.ble b rm.locals) = true) : a ≤ (zR E).frames ∧ b ≤ (zR E).locals := by
  rw [hR]
  rw [Bool.and_eq_true] at h
  exact ⟨Nat.le_of_ble_eq_true h.1, Nat.le_of_ble_eq_true h.2⟩
