def R_law : String := "SignSquaresLaw"
def lw_P (b : Addr) (xs : List Int32) (args : Array Value) (s : State) : Prop := args = #[.ref b] ∧ s.IntsAt b xs ∧ xs.length ≤ 3072 ∧ (Jvm.Cond.and given_1 narrow_1).before args s = true
def lw_Q (_ : Array Value) (s : State) (o : Outcome) (t : State) : Prop := o = .returned (some (.int 1)) ∧ Framed s o t [] 600000 7302249
def lw_Z (below : List Frame) (a : Array Value) (s : State) : State → Prop := fun t => ∃ o, t.status = .running ∧ Ended t below o ∧ lw_Q a s o t
/-- the law's own end, with 1 on the stack, nothing written that was there before, its room as the claim has it -/
theorem lw_ret {p : Program} {l : Launch} {e : Env} {s : State} {m : MethodId} {below : List Frame} {meth : Method} {c : Code} {b : Nat} (hx : p.tables.exec = Jvm.exec) (hb : c.code = code) (hr : meth.sig.returnType = ret) (hlocks : meth.locks = false) {pc : Nat} {H : Heap} {ls : Array Slot} (hdg : decode code pc = .ok (.ireturn, 1)) : W p l e room_1 s m #[Value.ref b] below meth c H [] 600000 7302249 (lw_Z below #[Value.ref b] s) (F0 m pc ls [.int 1]) := by
  intro T hT X
  obtain ⟨fs, hret, hrun, hended, hW, hframe⟩ := X.leave (v := some (.int 1)) (hlocks := hlocks) (fun h => by rw [hr] at h; cases h)
  have hmeth' : T.vm.method? m = some meth := X.method'
  refine ⟨T.setFrames fs, ?_, .returned (some (.int 1)), hrun, hended, rfl, ⟨_, rfl⟩, hW, hframe⟩
  jvm_step X.here [X.here.top, hx, hb, hdg, hmeth', hr, ret, narrow_b1]
  (try refine ⟨rfl, ?_⟩); (try refine ⟨rfl, ?_⟩)
  first | (intro acts; rw [hret _ acts rfl rfl rfl]) | rw [hret _ _ rfl rfl rfl]
  exact Steps.refl _
/-- what holds at the law's entry: the machine, the code, the tables' words (any of lw_tbl by 'hts w (by decide +kernel)'), the script of L ints xs at the cell b, what the Statement gives of the start (any of its parts by flat_of_before) -/
def lw_At (p : Program) (s : State) (m : MethodId) (meth : Method) (c : Code) (b L : Nat) (xs : Nat → Int32) : Prop :=
  p.tables.exec = Jvm.exec ∧ c.code = code ∧ meth.sig.returnType = ret ∧ c.maxLocals = 4 ∧ s.vm.findClass R_law = some m.cls ∧ (∀ w ∈ lw_tbl, w.before #[Value.ref b] s = true) ∧ va_X b L xs s s.heap ∧ b < s.heap.size ∧ meth.locks = false ∧ (Jvm.Cond.and given_1 narrow_1).before #[Value.ref b] s = true
-- ===== the law's body: two worlds =====
abbrev lE : Type := Program × Launch × Env × State × MethodId × List Frame × Method × Code × Nat × Nat × (Nat → Int32) × zWO × zWO
abbrev lp_ (Λ : lE) : Program := Λ.1
abbrev ll_ (Λ : lE) : Launch := Λ.2.1
abbrev le_ (Λ : lE) : Env := Λ.2.2.1
abbrev ls_ (Λ : lE) : State := Λ.2.2.2.1
abbrev lm_ (Λ : lE) : MethodId := Λ.2.2.2.2.1
abbrev lb_ (Λ : lE) : List Frame := Λ.2.2.2.2.2.1
abbrev lme_ (Λ : lE) : Method := Λ.2.2.2.2.2.2.1
abbrev lc_ (Λ : lE) : Code := Λ.2.2.2.2.2.2.2.1
abbrev lscr (Λ : lE) : Nat := Λ.2.2.2.2.2.2.2.2.1
abbrev lL (Λ : lE) : Nat := Λ.2.2.2.2.2.2.2.2.2.1
abbrev lxs (Λ : lE) : Nat → Int32 := Λ.2.2.2.2.2.2.2.2.2.2.1
abbrev lw1 (Λ : lE) : zWO := Λ.2.2.2.2.2.2.2.2.2.2.2.1
abbrev lw2 (Λ : lE) : zWO := Λ.2.2.2.2.2.2.2.2.2.2.2.2
abbrev lA (Λ : lE) : Nat → Prop := fun q => (ls_ Λ).heap.size ≤ q
abbrev lW (Λ : lE) (H : Heap) (locs : List Loc) (g : JFrame) : Prop := W (lp_ Λ) (ll_ Λ) (le_ Λ) room_1 (ls_ Λ) (lm_ Λ) #[Value.ref (lscr Λ)] (lb_ Λ) (lme_ Λ) (lc_ Λ) H locs 76 5446 (lw_Z (lb_ Λ) #[Value.ref (lscr Λ)] (ls_ Λ)) g
def lAt (Λ : lE) (pc : Nat) (lv : List (Nat × Value)) (st : List Value) (I : zMi) (J : zMl) (I2 : zMi) (J2 : zMl) : Prop :=
  ∀ (H : Heap) (locs : List Loc) (ls : Array Slot), zHW (lw1 Λ) I J H → zHW (lw2 Λ) I2 J2 H → va_S (lA Λ) (ls_ Λ).heap H locs → lv_has ls 4 lv → lW Λ H locs (F0 (lm_ Λ) pc ls st)
def lFX (Λ : lE) : Prop :=
  (lp_ Λ).tables.exec = Jvm.exec ∧ (lc_ Λ).code = code ∧ (lme_ Λ).sig.returnType = ret ∧ (lc_ Λ).maxLocals = 4 ∧ (ls_ Λ).vm.findClass R_law = some (lm_ Λ).cls ∧ (∀ w ∈ zGT, w.before #[Value.ref (lscr Λ)] (ls_ Λ) = true) ∧ va_X (lscr Λ) (lL Λ) (lxs Λ) (ls_ Λ) (ls_ Λ).heap ∧ lscr Λ < (ls_ Λ).heap.size ∧ (lme_ Λ).locks = false ∧ zKX (lw1 Λ) (ls_ Λ) ∧ zKX (lw2 Λ) (ls_ Λ) ∧ (∀ k, k < (lw1 Λ).2.2.1 → lA Λ ((lw1 Λ).2.2.2.1 k)) ∧ (∀ k, k < (lw2 Λ).2.2.1 → lA Λ ((lw2 Λ).2.2.2.1 k)) ∧ (∀ a b, a < (lw1 Λ).2.2.1 → b < (lw2 Λ).2.2.1 → (lw1 Λ).2.2.2.1 a ≠ (lw2 Λ).2.2.2.1 b)
section LR
variable {Λ : lE} {pc : Nat} {lv : List (Nat × Value)} {st : List Value} {I : zMi} {J : zMl} {I2 : zMi} {J2 : zMl}
theorem l_aload_n (fx : lFX Λ) {i : Fin 4} {x : Nat} (d : decode code pc = .ok (.aload_n i, 1)) (h : lg lv (i : Nat) = some (.ref x)) (k : lAt Λ (pc + 1) lv (.ref x :: st) I J I2 J2) : lAt Λ pc lv st I J I2 J2 :=
  fun H locs ls a b s c => lv_aload_n fx.1 fx.2.1 d rfl (lg_ls c h) (k H locs ls a b s c)
theorem l_iload_n (fx : lFX Λ) {i : Fin 4} {x : Int32} (d : decode code pc = .ok (.iload_n i, 1)) (h : lg lv (i : Nat) = some (.int x)) (k : lAt Λ (pc + 1) lv (.int x :: st) I J I2 J2) : lAt Λ pc lv st I J I2 J2 :=
  fun H locs ls a b s c => lv_iload_n fx.1 fx.2.1 d rfl (lg_ls c h) (k H locs ls a b s c)
theorem l_iconst (fx : lFX Λ) {n : Int} {v : Int32} (d : decode code pc = .ok (.iconst n, 1)) (hv : Int32.ofInt n = v) (k : lAt Λ (pc + 1) lv (.int v :: st) I J I2 J2) : lAt Λ pc lv st I J I2 J2 :=
  fun H locs ls a b s c => lv_iconst fx.1 fx.2.1 d hv (k H locs ls a b s c)
theorem l_bipush (fx : lFX Λ) {n : Int} {v : Int32} (d : decode code pc = .ok (.bipush n, 2)) (hv : (Int8.ofInt n).toInt32 = v) (k : lAt Λ (pc + 2) lv (.int v :: st) I J I2 J2) : lAt Λ pc lv st I J I2 J2 :=
  fun H locs ls a b s c => lv_bipush fx.1 fx.2.1 d hv (k H locs ls a b s c)
theorem l_iadd (fx : lFX Λ) {x y : Int32} (d : decode code pc = .ok (.iadd, 1)) (k : lAt Λ (pc + 1) lv (.int (x + y) :: st) I J I2 J2) : lAt Λ pc lv (.int y :: .int x :: st) I J I2 J2 :=
  fun H locs ls a b s c => lv_iadd fx.1 fx.2.1 d (k H locs ls a b s c)
theorem l_isub (fx : lFX Λ) {x y : Int32} (d : decode code pc = .ok (.isub, 1)) (k : lAt Λ (pc + 1) lv (.int (x - y) :: st) I J I2 J2) : lAt Λ pc lv (.int y :: .int x :: st) I J I2 J2 :=
  fun H locs ls a b s c => lv_isub fx.1 fx.2.1 d (k H locs ls a b s c)
theorem l_iand (fx : lFX Λ) {x y : Int32} (d : decode code pc = .ok (.iand, 1)) (k : lAt Λ (pc + 1) lv (.int (x &&& y) :: st) I J I2 J2) : lAt Λ pc lv (.int y :: .int x :: st) I J I2 J2 :=
  fun H locs ls a b s c => lv_iand fx.1 fx.2.1 d (k H locs ls a b s c)
theorem l_sld (fx : lFX Λ) {i : Int32} (hin : vp_in i (lL Λ)) (d : decode code pc = .ok (.iaload, 1)) (k : lAt Λ (pc + 1) lv (.int (lxs Λ i.toNatClampNeg) :: st) I J I2 J2) : lAt Λ pc lv (.int i :: .ref (lscr Λ) :: st) I J I2 J2 :=
  fun H locs ls a b s c => va_sld fx.1 fx.2.1 fx.2.2.2.2.2.2.1 fx.2.2.2.2.2.2.2.1 (Nat.not_le.mpr fx.2.2.2.2.2.2.2.1) s hin d (k H locs ls a b s c)
theorem l_slen (fx : lFX Λ) (d : decode code pc = .ok (.arraylength, 1)) (k : lAt Λ (pc + 1) lv (.int (nI (lL Λ)) :: st) I J I2 J2) : lAt Λ pc lv (.ref (lscr Λ) :: st) I J I2 J2 :=
  fun H locs ls a b s c => va_slen fx.1 fx.2.1 fx.2.2.2.2.2.2.1 fx.2.2.2.2.2.2.2.1 (Nat.not_le.mpr fx.2.2.2.2.2.2.2.1) s d (k H locs ls a b s c)
theorem l_if_eq (fx : lFX Λ) {x : Int32} {off : Int} {tgt : Nat} (d : decode code pc = .ok (.ifCond .eq off, 3)) (ht : (pc : Int) + off = (tgt : Int)) (kt : x = 0 → lAt Λ tgt lv st I J I2 J2) (kf : ¬ x = 0 → lAt Λ (pc + 3) lv st I J I2 J2) : lAt Λ pc lv (.int x :: st) I J I2 J2 :=
  fun H locs ls a b s c => lv_if_eq fx.1 fx.2.1 d ht (fun h => kt h H locs ls a b s c) (fun h => kf h H locs ls a b s c)
theorem l_icmp_eq (fx : lFX Λ) {x y : Int32} {off : Int} {tgt : Nat} (d : decode code pc = .ok (.if_icmp .eq off, 3)) (ht : (pc : Int) + off = (tgt : Int)) (kt : x = y → lAt Λ tgt lv st I J I2 J2) (kf : ¬ x = y → lAt Λ (pc + 3) lv st I J I2 J2) : lAt Λ pc lv (.int y :: .int x :: st) I J I2 J2 :=
  fun H locs ls a b s c => lv_icmp_eq fx.1 fx.2.1 d ht (fun h => kt h H locs ls a b s c) (fun h => kf h H locs ls a b s c)
theorem l_icmp_gt (fx : lFX Λ) {x y : Int32} {off : Int} {tgt : Nat} (d : decode code pc = .ok (.if_icmp .gt off, 3)) (ht : (pc : Int) + off = (tgt : Int)) (kt : y < x → lAt Λ tgt lv st I J I2 J2) (kf : ¬ y < x → lAt Λ (pc + 3) lv st I J I2 J2) : lAt Λ pc lv (.int y :: .int x :: st) I J I2 J2 :=
  fun H locs ls a b s c => lv_icmp_gt fx.1 fx.2.1 d ht (fun h => kt h H locs ls a b s c) (fun h => kf h H locs ls a b s c)
theorem l_lcmp (fx : lFX Λ) {x y : Int64} (d : decode code pc = .ok (.lcmp, 1)) (k : lAt Λ (pc + 1) lv (.int (lg_cmp x y) :: st) I J I2 J2) : lAt Λ pc lv (.long y :: .long x :: st) I J I2 J2 :=
  fun H locs ls a b s c => W.lcmp fx.1 fx.2.1 d (k H locs ls a b s c)
theorem l_goto (fx : lFX Λ) {off : Int} {tgt : Nat} (d : decode code pc = .ok (.goto off, 3)) (ht : (pc : Int) + off = (tgt : Int)) (k : lAt Λ tgt lv st I J I2 J2) : lAt Λ pc lv st I J I2 J2 :=
  fun H locs ls a b s c => lv_goto fx.1 fx.2.1 d ht (k H locs ls a b s c)
theorem l_iinc (fx : lFX Λ) {i : Nat} {n : Int} {x v : Int32} (d : decode code pc = .ok (.iinc i n, 3)) (hi : lg lv i = some (.int x)) (hv : x + Int32.ofInt n = v) (hn : i < 4) (h : (lnd lv && lok1 lv i) = true) {lv' : List (Nat × Value)} (hl : lq lv i (.int v) = lv') (k : lAt Λ (pc + 3) lv' st I J I2 J2) : lAt Λ pc lv st I J I2 J2 := by
  intro H locs ls a b s c
  obtain ⟨k0, hk0⟩ := List.getElem?_of_mem (lg_mem hi)
  exact lv_iinc fx.1 fx.2.1 d c hk0 hv hn rfl (fun ls' c' => k H locs ls' a b s (by rw [← hl]; exact lv_sub1 (Bool.and_eq_true_iff.mp h).1 (Bool.and_eq_true_iff.mp h).2 c'))
theorem l_tout (fx : lFX Λ) {dflt lo hi : Int} {offs : Array Int} {len : Nat} {x : Int32} {tgt : Nat} (d : decode code pc = .ok (.tableswitch dflt lo hi offs, len)) (h : x.toInt < lo ∨ hi < x.toInt) (ht : (pc : Int) + dflt = (tgt : Int)) (k : lAt Λ tgt lv st I J I2 J2) : lAt Λ pc lv (.int x :: st) I J I2 J2 :=
  fun H locs ls a b s c => lv_tableOut fx.1 fx.2.1 d h ht (k H locs ls a b s c)
theorem l_tin (fx : lFX Λ) {dflt lo hi : Int} {offs : Array Int} {len : Nat} {x : Int32} {off : Int} {tgt : Nat} (d : decode code pc = .ok (.tableswitch dflt lo hi offs, len)) (h1 : ¬ x.toInt < lo) (h2 : ¬ hi < x.toInt) (ho : offs[(x.toInt - lo).toNat]? = some off) (ht : (pc : Int) + off = (tgt : Int)) (k : lAt Λ tgt lv st I J I2 J2) : lAt Λ pc lv (.int x :: st) I J I2 J2 :=
  fun H locs ls a b s c => lv_tableIn fx.1 fx.2.1 d h1 h2 ho ht (k H locs ls a b s c)
theorem l_ret (fx : lFX Λ) (d : decode code pc = .ok (.ireturn, 1)) : lAt Λ pc lv [.int 1] I J I2 J2 := by
  intro H locs ls a b s c
  refine va_forget (fun q hq => s.2.2 q hq) ?_
  refine W.widen (k := 600000) (n := 7302249) (Nat.le_of_ble_eq_true rfl) (Nat.le_of_ble_eq_true rfl) ?_
  exact lw_ret fx.1 fx.2.1 fx.2.2.1 fx.2.2.2.2.2.2.2.2.1 d
/-- a call into one world leaves the other as it is -/
theorem l_other {ω ω' : zWO} {s : State} {H H1 : Heap} {locs L : List Loc} {Iu : zMi} {Ju : zMl} (h1 : ∀ k, k < ω.2.2.1 → s.heap.size ≤ ω.2.2.2.1 k) (hd : ∀ a b, a < ω.2.2.1 → b < ω'.2.2.1 → ω.2.2.2.1 a ≠ ω'.2.2.2.1 b) (hP : zHW ω' Iu Ju H) (hS : va_S (fun q => s.heap.size ≤ q) s.heap H locs) (hz : H.size ≤ H1.size) (hk : ∀ q : Nat, q < H.size → ¬ zAW ω q → H1[q]? = H[q]?) (hL : ∀ q ∈ L, zAW ω q.base) : zHW ω' Iu Ju H1 ∧ va_S (fun q => s.heap.size ≤ q) s.heap H1 (locs ++ L) := by
  refine ⟨va_P.kept hP (fun k q hq => ?_), Nat.le_trans hS.1 hz, fun q a1 a2 => ?_, fun q hq => ?_⟩
  · have hl : k < ω'.2.2.1 := by
      have := (List.getElem?_eq_some_iff.mp hq).1
      simpa [zwl] using this
    have hlt := (hP k q hq).lt
    rw [zwl_get hl] at hq
    have hq' := Option.some.inj hq
    refine hk q.1 hlt ?_
    rintro ⟨a, ha, e⟩
    exact hd a k ha hl (by rw [← e, ← hq'])
  · rw [hk q (Nat.lt_of_lt_of_le a1 hS.1) (fun ⟨a, ha, e⟩ => a2 (by rw [e]; exact h1 a ha))]
    exact hS.2.1 q a1 a2
  · rcases List.mem_append.mp hq with h | h
    · exact hS.2.2 q h
    · obtain ⟨a, ha, e⟩ := hL q h
      show s.heap.size ≤ q.base
      rw [e]
      exact h1 a ha
theorem l_pre {ω : zWO} {s : State} {H : Heap} {locs : List Loc} {av : List Value} {Iu : zMi} {Ju : zMl} (hK : zKX ω s) (hb : va_S (fun q => s.heap.size ≤ q) s.heap H locs) (ha : zHW ω Iu Ju H) : FrameBlind (va_Pc av (fun U => zKX ω U ∧ zHW ω Iu Ju U.heap)) ∧ ∀ U : State, U.heap = H → s.WarmedH U.vm → va_Pc av (fun U => zKX ω U ∧ zHW ω Iu Ju U.heap) av.toArray U := by
  refine ⟨fun a U g mk q => ?_, fun U hU hW => ⟨rfl, ⟨?_, hK.2.1, hK.2.2.1.warmM hW, hK.2.2.2.1.warmM hW, ?_⟩, by rw [hU]; exact ha⟩⟩
  · obtain ⟨q1, ⟨q2, q3, q4, q5, q6⟩, q7⟩ := q
    exact ⟨q1, ⟨va_K.moved (u := U) (U := U.calling g mk a) (Vm.Alike.refl U.vm) q2, q3, q4, q5, zST.moved (u := U) (U := U.calling g mk a) (Vm.Alike.refl U.vm) q6⟩, q7⟩
  · exact va_K.moved hW.alike hK.1
  · rw [hU]
    exact (hK.2.2.2.2.kept (fun a h1 h2 => hb.2.1 a h1 (Nat.not_le.mpr h1))).moved hW.alike
theorem l_run {ω : zWO} (fx : lFX Λ) {y : MethodName} {bytes : ByteArray} {maxL n index k : Nat} {rt : Option FieldType} {rmc : Room} {As rest : List Value} {out : Option Value} {Iu Iu' : zMi} {Ju Ju' : zMl} (hK : zKX ω (ls_ Λ)) (cm : zCM ω (ll_ Λ) y bytes maxL rt rmc (.ref (ω.2.2.2.1 k) :: As) Iu Ju out Iu' Ju') (rc : zRcv ω y.cls k) (hw : zMV y bytes maxL rt n) (hlink : Cond.methodLink R_law index y ∈ zGT) (hn : As.length = n) (hrc : rmc.cells = 0 ∧ rmc.slots = 0) (hr : (Nat.ble (rmc.frames + 1) room_1.frames && Nat.ble (8 + (maxL + 11) + rmc.locals) room_1.locals) = true)
    (d : decode code pc = .ok (.invokevirtual index, 3)) (hst : st = As.reverse ++ .ref (ω.2.2.2.1 k) :: rest) (hroom : Nat.ble ((rest.map fun v => v.category).sum) 8 = true) {H : Heap} {locs : List Loc} {ls : Array Slot} (ha : zHW ω Iu Ju H) (hS : va_S (lA Λ) (ls_ Λ).heap H locs) (hl : lv_has ls 4 lv) :
    va_Run (lp_ Λ) (ll_ Λ) (le_ Λ) room_1 (ls_ Λ) (lm_ Λ) #[Value.ref (lscr Λ)] (lb_ Λ) (lme_ Λ) (lc_ Λ) H locs 76 5446 0 0 (F0 (lm_ Λ) pc ls st) rest (fun st oc t => (oc = .returned out ∧ zHW ω Iu' Ju' t.heap) ∧ va_F (zAW ω) st t) (zAW ω) := by
  subst hst
  rw [Bool.and_eq_true] at hr
  have ok : ∀ w ∈ zGT, w.before #[Value.ref (lscr Λ)] (ls_ Λ) = true := fx.2.2.2.2.2.1
  obtain ⟨hp1, hp2⟩ := l_pre (av := .ref (ω.2.2.2.1 k) :: As) hK hS ha
  have hcb : CallB room_1 (ls_ Λ) #[Value.ref (lscr Λ)] R_law index y bytes maxL rt (.code y bytes maxL rt :: zGT) rmc 0 0 n := by
    refine ⟨hrc.1, hrc.2, Nat.le_of_ble_eq_true hr.1, Nat.le_of_ble_eq_true hr.2, fun w hw' a' U hW => ?_, List.mem_cons_self, ok _ hw.2.1, ok _ hw.2.2.1, ⟨hw.1.1, hw.1.2.1⟩, ?_, ok _ hlink⟩
    · have hm : w ∈ zGT := by
        rcases List.mem_cons.mp hw' with rfl | h
        · exact hw.2.1
        · exact h
      exact word_at hW (zgood hm) (ok _ hm)
    · intro sig hs
      have := hw.1.2.2
      rw [hs] at this
      simpa using this.symm
  exact va_runV (Ts := zGT) (own := R_law) (C := y.cls) (As := As) (rest := rest) (nL := 4) ⟨fx.1, fx.2.1, fx.2.2.2.1, fx.2.2.2.2.1, ok⟩ cm ⟨hcb, ok _ hw.2.2.2.1, ok _ hw.2.2.2.2⟩ ⟨hp1, z_rcv rc hK ha, hp2⟩ rfl hn hl.1 rfl (lv_room (Nat.le_of_ble_eq_true hroom)) d ⟨Nat.le_of_ble_eq_true rfl, Nat.le_of_ble_eq_true rfl⟩
theorem l_call1 (fx : lFX Λ) {y : MethodName} {bytes : ByteArray} {maxL n index k : Nat} {rt : Option FieldType} {rmc : Room} {As rest : List Value} {out : Option Value} {I' : zMi} {J' : zMl} (cm : zCM (lw1 Λ) (ll_ Λ) y bytes maxL rt rmc (.ref ((lw1 Λ).2.2.2.1 k) :: As) I J out I' J') (rc : zRcv (lw1 Λ) y.cls k) (hw : zMV y bytes maxL rt n) (hlink : Cond.methodLink R_law index y ∈ zGT) (d : decode code pc = .ok (.invokevirtual index, 3)) (hn : As.length = n) (hrc : rmc.cells = 0 ∧ rmc.slots = 0) (hr : (Nat.ble (rmc.frames + 1) room_1.frames && Nat.ble (8 + (maxL + 11) + rmc.locals) room_1.locals) = true)
    (hst : st = As.reverse ++ .ref ((lw1 Λ).2.2.2.1 k) :: rest) (hroom : Nat.ble ((rest.map fun v => v.category).sum) 8 = true) (kk : lAt Λ (pc + 3) lv (out.toList ++ rest) I' J' I2 J2) : lAt Λ pc lv st I J I2 J2 := by
  intro H locs ls a b s c T hT X
  obtain ⟨v, st₀, t, T', L, h0, X', hL, e1, e2, ⟨⟨hv, hb⟩, hz, hk⟩, hgo⟩ := l_run fx fx.2.2.2.2.2.2.2.2.2.1 cm rc hw hlink hn hrc hr d hst hroom a s c T hT X
  cases hv
  rw [h0] at hz hk
  obtain ⟨o1, o2⟩ := l_other (s := ls_ Λ) (H1 := T'.heap) (L := L) fx.2.2.2.2.2.2.2.2.2.2.2.1 fx.2.2.2.2.2.2.2.2.2.2.2.2.2 b s (by rw [e1]; exact hz) (fun q a1 a2 => by rw [e1]; exact hk q a1 a2) hL
  obtain ⟨t2, a1, b1⟩ := kk T'.heap (locs ++ L) ls (by rw [e1]; exact hb) o1 o2 c T' rfl X'
  exact ⟨t2, hgo t2 a1, b1⟩
theorem l_call2 (fx : lFX Λ) {y : MethodName} {bytes : ByteArray} {maxL n index k : Nat} {rt : Option FieldType} {rmc : Room} {As rest : List Value} {out : Option Value} {I2' : zMi} {J2' : zMl} (cm : zCM (lw2 Λ) (ll_ Λ) y bytes maxL rt rmc (.ref ((lw2 Λ).2.2.2.1 k) :: As) I2 J2 out I2' J2') (rc : zRcv (lw2 Λ) y.cls k) (hw : zMV y bytes maxL rt n) (hlink : Cond.methodLink R_law index y ∈ zGT) (d : decode code pc = .ok (.invokevirtual index, 3)) (hn : As.length = n) (hrc : rmc.cells = 0 ∧ rmc.slots = 0) (hr : (Nat.ble (rmc.frames + 1) room_1.frames && Nat.ble (8 + (maxL + 11) + rmc.locals) room_1.locals) = true)
    (hst : st = As.reverse ++ .ref ((lw2 Λ).2.2.2.1 k) :: rest) (hroom : Nat.ble ((rest.map fun v => v.category).sum) 8 = true) (kk : lAt Λ (pc + 3) lv (out.toList ++ rest) I J I2' J2') : lAt Λ pc lv st I J I2 J2 := by
  intro H locs ls a b s c T hT X
  obtain ⟨v, st₀, t, T', L, h0, X', hL, e1, e2, ⟨⟨hv, hb⟩, hz, hk⟩, hgo⟩ := l_run fx fx.2.2.2.2.2.2.2.2.2.2.1 cm rc hw hlink hn hrc hr d hst hroom b s c T hT X
  cases hv
  rw [h0] at hz hk
  obtain ⟨o1, o2⟩ := l_other (s := ls_ Λ) (H1 := T'.heap) (L := L) fx.2.2.2.2.2.2.2.2.2.2.2.2.1 (fun a b ha hb' e => fx.2.2.2.2.2.2.2.2.2.2.2.2.2 b a hb' ha e.symm) a s (by rw [e1]; exact hz) (fun q a1 a2 => by rw [e1]; exact hk q a1 a2) hL
  obtain ⟨t2, a1, b1⟩ := kk T'.heap (locs ++ L) ls o1 (by rw [e1]; exact hb) o2 c T' rfl X'
  exact ⟨t2, hgo t2 a1, b1⟩
theorem lg_cmp_self (x : Int64) : lg_cmp x x = 0 := by simp [lg_cmp]
end LR
