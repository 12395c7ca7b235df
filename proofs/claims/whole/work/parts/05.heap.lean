-- ===== rows of the heap, any world =====
section ZH
variable {E : zE} {ω : zWO} {cc : ByteArray} {own : String} {nL : Nat} {ret : Option FieldType} {pc : Nat} {lv : List (Nat × Value)} {st : List Value} {I : zMi} {J : zMl}
theorem zg_get (fx : zFX E ω cc own nL ret) {C ref : String} {T : u_T} {N ci k j index : Nat} {fs : List Value} {v : Value} (hin : ∀ w ∈ u_ws C T N, w ∈ zGT) (hk : k < ω.2.2.1) (he : ω.2.1 k (I k) (J k) = .inr (ci, fs)) (hc : zcl[ci]? = some (C, T, N)) (hj : j < N) (hr : (T j).1 = ref)
    (hl : Cond.fieldLink own index ref (T j).2.1 (T j).2.2.1 ∈ zGT) (hv : fs[j]? = some v) (d : decode cc pc = .ok (.getfield index, 3)) (kk : zAt E ω (pc + 3) lv (v :: st) I J) : zAt E ω pc lv (.ref (ω.2.2.2.1 k) :: st) I J := by
  intro H locs ls a b c
  have hg := zwl_get (ω := ω) (I := I) (J := J) hk
  rw [he] at hg
  exact va_get (D := ω.1) (cl := zcl) fx.1 fx.2.1 fx.2.2.2.2.1 hin fx.2.2.2.1 fx.2.2.2.2.2.1.1 a k hg hc j hj (fx.2.2.2.2.1 _ hl) (fun x hx => by rw [← hr]; exact hx) hv d (kk H locs ls a b c)
theorem zg_put (fx : zFX E ω cc own nL ret) {C ref : String} {T : u_T} {N ci k j index : Nat} {fs : List Value} {v : Value} {ty : FieldType} {I' : zMi} {J' : zMl} (hin : ∀ w ∈ u_ws C T N, w ∈ zGT) (ty0 : Nat → FieldType) (hty : ∀ k, k < N → parseFieldDescriptor (T k).2.2.1 = some (ty0 k)) (hnm : ∀ a, a < N → ∀ b, b < N → a ≠ b → (T a).2.1 ≠ (T b).2.1) (hk : k < ω.2.2.1) (he : ω.2.1 k (I k) (J k) = .inr (ci, fs)) (hc : zcl[ci]? = some (C, T, N)) (hj : j < N) (hr : (T j).1 = ref)
    (hl : Cond.fieldLink own index ref (T j).2.1 (T j).2.2.1 ∈ zGT) (hfin : (T j).2.2.2 = false) (hd : parseFieldDescriptor (T j).2.2.1 = some ty) (hn : narrow ty v = v) (hf : fits ty v = true) (hlen : j < fs.length) (he' : ω.2.1 k (I' k) (J' k) = .inr (ci, fs.set j v)) (ho : ∀ a, a ≠ k → I' a = I a ∧ J' a = J a)
    (d : decode cc pc = .ok (.putfield index, 3)) (kk : zAt E ω (pc + 3) lv st I' J') : zAt E ω pc lv (v :: .ref (ω.2.2.2.1 k) :: st) I J := by
  intro H locs ls a b c
  have hg := zwl_get (ω := ω) (I := I) (J := J) hk
  rw [he] at hg
  refine va_put (D := ω.1) (cl := zcl) fx.1 fx.2.1 fx.2.2.2.2.1 hin ty0 hty hnm fx.2.2.2.1 fx.2.2.2.2.2.1.1 a (zD fx.2.2.2.2.2.1.2.1 I J) b k hg hc j hj (fx.2.2.2.2.1 _ hl) (fun x hx => by rw [← hr]; exact hx) hfin hd hn hf hlen d (fun H1 locs1 hP hD hS => ?_)
  rw [zwl_set hk he' ho] at hP
  exact kk H1 locs1 ls hP hS c
theorem zg_iald (fx : zFX E ω cc own nL ret) {k n : Nat} (hk : k < ω.2.2.1) (he : ω.2.1 k (I k) (J k) = .inl (ω.2.2.2.2 0, n, .inl (I k))) {i : Int32} (hi : ix i n = true) (d : decode cc pc = .ok (.iaload, 1)) (kk : zAt E ω (pc + 1) lv (.int (I k i.toNatClampNeg) :: st) I J) : zAt E ω pc lv (.int i :: .ref (ω.2.2.2.1 k) :: st) I J := by
  intro H locs ls a b c
  have hg := zwl_get (ω := ω) (I := I) (J := J) hk
  rw [he] at hg
  exact va_iald (D := ω.1) (cl := zcl) fx.1 fx.2.1 fx.2.2.2.2.2.1.1 a k 0 hg rfl (ix_in hi) d (kk H locs ls a b c)
theorem zg_lald (fx : zFX E ω cc own nL ret) {k n : Nat} (hk : k < ω.2.2.1) (he : ω.2.1 k (I k) (J k) = .inl (ω.2.2.2.2 1, n, .inr (.inl (J k)))) {i : Int32} (hi : ix i n = true) (d : decode cc pc = .ok (.laload, 1)) (kk : zAt E ω (pc + 1) lv (.long (J k i.toNatClampNeg) :: st) I J) : zAt E ω pc lv (.int i :: .ref (ω.2.2.2.1 k) :: st) I J := by
  intro H locs ls a b c
  have hg := zwl_get (ω := ω) (I := I) (J := J) hk
  rw [he] at hg
  exact va_lald (D := ω.1) (cl := zcl) fx.1 fx.2.1 fx.2.2.2.2.2.1.1 a k 1 hg rfl (ix_in hi) d (kk H locs ls a b c)
theorem zg_iast (fx : zFX E ω cc own nL ret) {k n : Nat} (hk : k < ω.2.2.1) (he : ∀ f h, ω.2.1 k f h = .inl (ω.2.2.2.2 0, n, .inl f)) {i x : Int32} (hi : ix i n = true) (d : decode cc pc = .ok (.iastore, 1)) (kk : zAt E ω (pc + 1) lv st (wI I k i.toNatClampNeg x) J) : zAt E ω pc lv (.int x :: .int i :: .ref (ω.2.2.2.1 k) :: st) I J := by
  intro H locs ls a b c
  have hg := zwl_get (ω := ω) (I := I) (J := J) hk
  rw [he] at hg
  refine va_iast (D := ω.1) (cl := zcl) fx.1 fx.2.1 fx.2.2.2.2.2.1.1 a (zD fx.2.2.2.2.2.1.2.1 I J) b k 0 hg rfl (ix_in hi) d (fun H1 locs1 hP hD hS => ?_)
  rw [zwl_set (I' := wI I k i.toNatClampNeg x) (J' := J) hk (by rw [he, wI_at]) (fun a ha => ⟨wI_ne ha, rfl⟩)] at hP
  exact kk H1 locs1 ls hP hS c
theorem zg_last (fx : zFX E ω cc own nL ret) {k n : Nat} (hk : k < ω.2.2.1) (he : ∀ f h, ω.2.1 k f h = .inl (ω.2.2.2.2 1, n, .inr (.inl h))) {i : Int32} {x : Int64} (hi : ix i n = true) (d : decode cc pc = .ok (.lastore, 1)) (kk : zAt E ω (pc + 1) lv st I (wJ J k i.toNatClampNeg x)) : zAt E ω pc lv (.long x :: .int i :: .ref (ω.2.2.2.1 k) :: st) I J := by
  intro H locs ls a b c
  have hg := zwl_get (ω := ω) (I := I) (J := J) hk
  rw [he] at hg
  refine va_last (D := ω.1) (cl := zcl) fx.1 fx.2.1 fx.2.2.2.2.2.1.1 a (zD fx.2.2.2.2.2.1.2.1 I J) b k 1 hg rfl (ix_in hi) d (fun H1 locs1 hP hD hS => ?_)
  rw [zwl_set (I' := I) (J' := wJ J k i.toNatClampNeg x) hk (by rw [he, wJ_at]) (fun a ha => ⟨rfl, wJ_ne ha⟩)] at hP
  exact kk H1 locs1 ls hP hS c
theorem zg_aald (fx : zFX E ω cc own nL ret) {k n t : Nat} {C : String} {f : Nat → Nat} (hk : k < ω.2.2.1) (he : ω.2.1 k (I k) (J k) = .inl (ω.2.2.2.2 t, n, .inr (.inr (.inr (.inr (fun j => some (f j))))))) (ht : (ztys ω.2.2.2.2)[t]? = some (ω.2.2.2.2 t, .object C)) {i : Int32} (hi : ix i n = true) (d : decode cc pc = .ok (.aaload, 1)) (kk : zAt E ω (pc + 1) lv (.ref (f i.toNatClampNeg) :: st) I J) : zAt E ω pc lv (.int i :: .ref (ω.2.2.2.1 k) :: st) I J := by
  intro H locs ls a b c
  have hg := zwl_get (ω := ω) (I := I) (J := J) hk
  rw [he] at hg
  exact va_aldq (D := ω.1) (cl := zcl) fx.1 fx.2.1 fx.2.2.2.2.2.1.1 a k t hg ht (ix_in hi) d (kk H locs ls a b c)
theorem zg_alen (fx : zFX E ω cc own nL ret) {k n t : Nat} {ty : FieldType} {x : (Nat → Int32) ⊕ (Nat → Int64) ⊕ (Nat → UInt32) ⊕ (Nat → UInt64) ⊕ (Nat → Option Nat)} (hk : k < ω.2.2.1) (he : ω.2.1 k (I k) (J k) = .inl (ω.2.2.2.2 t, n, x)) (ht : (ztys ω.2.2.2.2)[t]? = some (ω.2.2.2.2 t, ty)) {v : Int32} (hv : Int32.ofNat n = v) (d : decode cc pc = .ok (.arraylength, 1)) (kk : zAt E ω (pc + 1) lv (.int v :: st) I J) : zAt E ω pc lv (.ref (ω.2.2.2.1 k) :: st) I J := by
  intro H locs ls a b c
  have hg := zwl_get (ω := ω) (I := I) (J := J) hk
  rw [he] at hg
  exact va_alen (D := ω.1) (cl := zcl) fx.1 fx.2.1 fx.2.2.2.2.2.1.1 a k t hg ht hv d (kk H locs ls a b c)
-- ===== calls =====
/-- what a call needs of the words -/
def zMW (y : MethodName) (n : Nat) : Prop := y.cls ≠ "java/lang/invoke/MethodHandle" ∧ y.cls ≠ "java/lang/invoke/VarHandle" ∧ (parseMethodDescriptor y.desc).map (fun d => d.parameters.length) = some n
/-- the receiver is an object of that class -/
def zRcv (ω : zWO) (C : String) (k : Nat) : Prop := k < ω.2.2.1 ∧ ∃ ci T N, zcl[ci]? = some (C, T, N) ∧ ∀ f h, ∃ fs, ω.2.1 k f h = .inr (ci, fs)
theorem zpre {ω : zWO} {s : State} {H : Heap} {locs : List Loc} {av : List Value} (hK : zKX ω s) (hb : va_S (zAW ω) s.heap H locs) (ha : zHW ω I J H) : FrameBlind (va_Pc av (fun U => zKX ω U ∧ zHW ω I J U.heap)) ∧ ∀ U : State, U.heap = H → s.WarmedH U.vm → va_Pc av (fun U => zKX ω U ∧ zHW ω I J U.heap) av.toArray U := by
  refine ⟨fun a U g mk q => ?_, fun U hU hW => ⟨rfl, ⟨?_, hK.2.1, hK.2.2.1.warmM hW, hK.2.2.2.1.warmM hW, ?_⟩, by rw [hU]; exact ha⟩⟩
  · obtain ⟨q1, ⟨q2, q3, q4, q5, q6⟩, q7⟩ := q
    exact ⟨q1, ⟨va_K.moved (u := U) (U := U.calling g mk a) (Vm.Alike.refl U.vm) q2, q3, q4, q5, zST.moved (u := U) (U := U.calling g mk a) (Vm.Alike.refl U.vm) q6⟩, q7⟩
  · exact va_K.moved hW.alike hK.1
  · rw [hU]
    exact (hK.2.2.2.2.kept hb.2.1).moved hW.alike
theorem zcallB (fx : zFX E ω cc own nL ret) {y : MethodName} {bytes : ByteArray} {maxL n index : Nat} {rt : Option FieldType} {rm : Room} (hw : zMW y n) (hcode : Cond.code y bytes maxL rt ∈ zGT) (hini : Cond.initialized y.cls ∈ zGT) (hlink : Cond.methodLink own index y ∈ zGT) (hrc : rm.cells = 0) (hrs : rm.slots = 0) (hR : rm.frames + 1 ≤ (zR E).frames ∧ 8 + (maxL + 11) + rm.locals ≤ (zR E).locals) :
    CallB (zR E) (zs E) (za E) own index y bytes maxL rt (.code y bytes maxL rt :: zGT) rm 0 0 n := by
  have ok : ∀ w ∈ zGT, w.before (za E) (zs E) = true := fx.2.2.2.2.1
  refine ⟨hrc, hrs, hR.1, hR.2, fun w hw' a' U hW => ?_, List.mem_cons_self, ok _ hcode, ok _ hini, ⟨hw.1, hw.2.1⟩, ?_, ok _ hlink⟩
  · have hm : w ∈ zGT := by
      rcases List.mem_cons.mp hw' with rfl | h
      · exact hcode
      · exact h
    exact word_at hW (zgood hm) (ok _ hm)
  · intro sig hs
    have := hw.2.2
    rw [hs] at this
    simpa using this.symm
end ZH
