-- ===== the world: cells by number, ints and longs apart =====
abbrev zMi : Type := Nat → Nat → Int32
abbrev zMl : Type := Nat → Nat → Int64
abbrev zCf : Type := Nat → (Nat → Int32) → (Nat → Int64) → va_E
abbrev zcl : List vw_C := [(RX0, TX0, 4), (RX1, TX1, 2), (RX2, TX2, 4), (RX3, TX3, 13), (RX4, TX4, 23)]
/-- (class numbers and slots, cells, how many, addresses, array classes) -/
abbrev zWO : Type := va_G × zCf × Nat × (Nat → Nat) × (Nat → ClassId)
def wI (I : zMi) (k j : Nat) (v : Int32) : zMi := fun a b => if a = k ∧ b = j then v else I a b
def wJ (J : zMl) (k j : Nat) (v : Int64) : zMl := fun a b => if a = k ∧ b = j then v else J a b
theorem wI_at {I : zMi} {k j : Nat} {v : Int32} : wI I k j v k = upd (I k) j v := by
  funext b
  simp [wI, upd]
theorem wI_ne {I : zMi} {k j a : Nat} {v : Int32} (h : a ≠ k) : wI I k j v a = I a := by
  funext b
  simp [wI, h]
theorem wJ_at {J : zMl} {k j : Nat} {v : Int64} : wJ J k j v k = vp_updL (J k) j v := by
  funext b
  simp [wJ, vp_updL]
theorem wJ_ne {J : zMl} {k j a : Nat} {v : Int64} (h : a ≠ k) : wJ J k j v a = J a := by
  funext b
  simp [wJ, h]
def zwl (ω : zWO) (I : zMi) (J : zMl) : va_W := (List.range ω.2.2.1).map (fun k => (ω.2.2.2.1 k, ω.2.1 k (I k) (J k)))
theorem zwl_get {ω : zWO} {I : zMi} {J : zMl} {k : Nat} (h : k < ω.2.2.1) : (zwl ω I J)[k]? = some (ω.2.2.2.1 k, ω.2.1 k (I k) (J k)) := by
  simp [zwl, h]
theorem zwl_set {ω : zWO} {I I' : zMi} {J J' : zMl} {k : Nat} (h : k < ω.2.2.1) {e : va_E} (he : ω.2.1 k (I' k) (J' k) = e) (ho : ∀ a, a ≠ k → I' a = I a ∧ J' a = J a) : (zwl ω I J).set k (ω.2.2.2.1 k, e) = zwl ω I' J' := by
  apply List.ext_getElem?
  intro i
  rw [List.getElem?_set]
  by_cases hi : k = i
  · subst hi
    simp [zwl, h, he]
  · rw [if_neg hi]
    obtain ⟨h1, h2⟩ := ho i (fun q => hi q.symm)
    by_cases hn : i < ω.2.2.1
    · simp [zwl, hn, h1, h2]
    · simp [zwl, hn]
def zHW (ω : zWO) (I : zMi) (J : zMl) (H : Heap) : Prop := va_P ω.1 zcl (zwl ω I J) H
def zAW (ω : zWO) (q : Nat) : Prop := ∃ k, k < ω.2.2.1 ∧ q = ω.2.2.2.1 k
def zinj (ω : zWO) : Prop := ∀ a b, a < ω.2.2.1 → b < ω.2.2.1 → ω.2.2.2.1 a = ω.2.2.2.1 b → a = b
theorem zD {ω : zWO} (h : zinj ω) (I : zMi) (J : zMl) : va_D (zAW ω) (zwl ω I J) := by
  have hk : ∀ (k : Nat) (q : Nat × va_E), (zwl ω I J)[k]? = some q → k < ω.2.2.1 ∧ q = (ω.2.2.2.1 k, ω.2.1 k (I k) (J k)) := by
    intro k q hq
    have hl : k < ω.2.2.1 := by
      have := (List.getElem?_eq_some_iff.mp hq).1
      simpa [zwl] using this
    rw [zwl_get hl] at hq
    exact ⟨hl, (Option.some.inj hq).symm⟩
  refine ⟨fun i j p q hp hq e => ?_, fun k q hq => ?_⟩
  · obtain ⟨h1, rfl⟩ := hk i p hp
    obtain ⟨h2, rfl⟩ := hk j q hq
    exact h i j h1 h2 e
  · obtain ⟨h1, rfl⟩ := hk k q hq
    exact ⟨k, h1, rfl⟩
abbrev ztys (g : Nat → ClassId) : List (ClassId × FieldType) := [(g 0, .int), (g 1, .long), (g 2, .object RX1), (g 3, .object RX2)]
def zn1 : Cond := .methodLinkNest RX2 25 ⟨RX3, "allBits", "(I)I"⟩ RX3
def zn2 : Cond := .methodLinkNest RX2 100 ⟨RX3, "countBits", "([II)I"⟩ RX3
theorem zn1_in : zn1 ∈ lw_tbl := by decide +kernel
theorem zn2_in : zn2 ∈ lw_tbl := by decide +kernel
def zFP (j : Nat) : Value := .int (([0, 1, 2, 3, 1, 0, 3, 2, 2, 3, 0, 1, 3, 2, 1, 0] : List Int32).getD j 0)
def zFS (j : Nat) : Value := .int (([1, 1, 1, 1, -1, 1, -1, 1, -1, 1, 1, -1, -1, -1, 1, 1] : List Int32).getD j 0)
def zST (ω : zWO) (U : State) (H : Heap) : Prop := ∃ t1 t2 : Nat, va_Z RX3 "FOUR_PARTS" "[I" (.ref t1) (zAW ω) U H ∧ va_T .int t1 16 zFP (zAW ω) U H ∧ va_Z RX3 "FOUR_SIGNS" "[I" (.ref t2) (zAW ω) U H ∧ va_T .int t2 16 zFS (zAW ω) U H
def zKX (ω : zWO) (U : State) : Prop := va_K ω.1 zcl (ztys ω.2.2.2.2) U ∧ zinj ω ∧ va_Nw zn1 U ∧ va_Nw zn2 U ∧ zST ω U U.heap
theorem zST.moved {ω : zWO} {u U : State} {H : Heap} (hvm : u.vm.Alike U.vm) (h : zST ω u H) : zST ω U H := by
  obtain ⟨t1, t2, h1, h2, h3, h4⟩ := h
  exact ⟨t1, t2, h1.moved hvm, h2.moved hvm, h3.moved hvm, h4.moved hvm⟩
theorem zST.kept {ω : zWO} {U : State} {H H1 : Heap} (h : zST ω U H) (hq : ∀ a : Nat, a < H.size → ¬ zAW ω a → H1[a]? = H[a]?) : zST ω U H1 := by
  obtain ⟨t1, t2, h1, h2, h3, h4⟩ := h
  exact ⟨t1, t2, h1.kept hq, h2.kept hq, h3.kept hq, h4.kept hq⟩
-- ===== a method's body: what stands fixed, and where it is =====
/-- (program, launch, environment, room, start, method, arguments, frames below, the method, its code, the end) -/
abbrev zE : Type := Program × Launch × Env × Room × State × MethodId × Array Value × List Frame × Method × Code × (Array Value → State → Outcome → State → Prop)
abbrev zp (E : zE) : Program := E.1
abbrev zl (E : zE) : Launch := E.2.1
abbrev ze (E : zE) : Env := E.2.2.1
abbrev zR (E : zE) : Room := E.2.2.2.1
abbrev zs (E : zE) : State := E.2.2.2.2.1
abbrev zm (E : zE) : MethodId := E.2.2.2.2.2.1
abbrev za (E : zE) : Array Value := E.2.2.2.2.2.2.1
abbrev zb (E : zE) : List Frame := E.2.2.2.2.2.2.2.1
abbrev zme (E : zE) : Method := E.2.2.2.2.2.2.2.2.1
abbrev zc (E : zE) : Code := E.2.2.2.2.2.2.2.2.2.1
abbrev zq (E : zE) : Array Value → State → Outcome → State → Prop := E.2.2.2.2.2.2.2.2.2.2
abbrev zW (E : zE) (ω : zWO) (H : Heap) (locs : List Loc) (g : JFrame) : Prop := W (zp E) (zl E) (ze E) (zR E) (zs E) (zm E) (za E) (zb E) (zme E) (zc E) H locs 0 0 (MQ (zb E) (zq E) (za E) (zs E) 0 0 (zAW ω)) g
def zAt (E : zE) (ω : zWO) (pc : Nat) (lv : List (Nat × Value)) (st : List Value) (I : zMi) (J : zMl) : Prop :=
  ∀ (H : Heap) (locs : List Loc) (ls : Array Slot), zHW ω I J H → va_S (zAW ω) (zs E).heap H locs → lv_has ls (zc E).maxLocals lv → zW E ω H locs (F0 (zm E) pc ls st)
def zFX (E : zE) (ω : zWO) (cc : ByteArray) (own : String) (nL : Nat) (ret : Option FieldType) : Prop :=
  (zp E).tables.exec = Jvm.exec ∧ (zc E).code = cc ∧ (zc E).maxLocals = nL ∧ (zs E).vm.findClass own = some (zm E).cls ∧ (∀ w ∈ zGT, w.before (za E) (zs E) = true) ∧ zKX ω (zs E) ∧ (zme E).locks = false ∧ (zme E).sig.returnType = ret
/-- what the end asks: the answer and the memory -/
def zRX (E : zE) (ω : zWO) (out : Option Value) (I : zMi) (J : zMl) : Prop :=
  ∀ (t : State) (locs : List Loc), (zs E).WarmedH t.vm → zHW ω I J t.heap → va_S (zAW ω) (zs E).heap t.heap locs → (zq E) (za E) (zs E) (.returned out) t
/-- the contract of a method over a world -/
def zCM (ω : zWO) (l : Launch) (y : MethodName) (bytes : ByteArray) (maxL : Nat) (ret : Option FieldType) (rm : Room) (av : List Value) (I : zMi) (J : zMl) (out : Option Value) (I' : zMi) (J' : zMl) : Prop :=
  Met l y (.code y bytes maxL ret :: zGT) rm (va_Pc av (fun U => zKX ω U ∧ zHW ω I J U.heap)) (fun _ st oc t => (oc = .returned out ∧ zHW ω I' J' t.heap) ∧ va_F (zAW ω) st t) 0 0 (zAW ω)
theorem zCM.of {ω : zWO} {l : Launch} {y : MethodName} {bytes : ByteArray} {maxL : Nat} {ret : Option FieldType} {rm : Room} {av : List Value} {I : zMi} {J : zMl} {out : Option Value} {I' : zMi} {J' : zMl} (hy : plainName y.cls = true) (hl : (lg_sl av).length ≤ maxL)
    (h : ∀ E : zE, zl E = l → zR E = rm → zFX E ω bytes y.cls maxL ret → zRX E ω out I' J' → zAt E ω 0 (lv_args 0 av) [] I J) : zCM ω l y bytes maxL ret rm av I J out I' J' := by
  refine Met.ofW (cc := bytes) (maxL := maxL) (ret := ret) hy rfl ?_
  intro p e s m args below meth c s₁ B hml hv
  obtain ⟨rfl, hK, hH⟩ := hv
  have hts := atoms_spec (ws := .code y bytes maxL ret :: zGT) B.pre
  have hown : s.vm.findClass y.cls = some m.cls := findClass_of_methodNamed B.named
  have hl0 := lv_entry av (n := maxL) hl
  rw [lg_entry_eq]
  generalize (lg_sl av ++ List.replicate (maxL - (lg_sl av).length) Slot.unset).toArray = ls at hl0 ⊢
  refine h (p, l, e, rm, s, m, av.toArray, below, meth, c, _) rfl rfl ⟨B.exec, B.bytes, hml, hown, fun w hw => hts w (List.mem_cons_of_mem _ hw), hK, B.notSynchronized, B.returns⟩ (fun t locs hW hP hS => ⟨⟨rfl, hP⟩, hS.1, hS.2.1⟩) s.heap [] ls hH va_S.rf ?_
  have e : (zc (p, l, e, rm, s, m, av.toArray, below, meth, c, (fun _ st oc t => (oc = .returned out ∧ zHW ω I' J' t.heap) ∧ va_F (zAW ω) st t))).maxLocals = maxL := hml
  rw [e]
  exact hl0
