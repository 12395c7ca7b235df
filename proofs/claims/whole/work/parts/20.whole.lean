theorem d_L0 : decode code 0 = .ok (.new 7, 3) := by decide +kernel
theorem d_L3 : decode code 3 = .ok (.dup, 1) := by decide +kernel
theorem d_L4 : decode code 4 = .ok (.invokespecial 9, 3) := by decide +kernel
theorem d_L7 : decode code 7 = .ok (.astore_n 1, 1) := by decide +kernel
theorem d_L8 : decode code 8 = .ok (.new 10, 3) := by decide +kernel
theorem d_L11 : decode code 11 = .ok (.dup, 1) := by decide +kernel
theorem d_L12 : decode code 12 = .ok (.invokespecial 12, 3) := by decide +kernel
theorem d_L15 : decode code 15 = .ok (.astore_n 2, 1) := by decide +kernel
theorem d_L16 : decode code 16 = .ok (.iconst 0, 1) := by decide +kernel
theorem d_L17 : decode code 17 = .ok (.istore_n 3, 1) := by decide +kernel
theorem wk_0 : Cond.classLink R_law 7 RX3 ∈ lw_tbl := by decide +kernel
theorem wk_1 : Cond.classLink R_law 10 RX4 ∈ lw_tbl := by decide +kernel
theorem wk_2 : Cond.instantiable RX3 13 ∈ lw_tbl := by decide +kernel
theorem wk_3 : Cond.instantiable RX4 23 ∈ lw_tbl := by decide +kernel
theorem wk_4 : Cond.initialized RX3 ∈ lw_tbl := by decide +kernel
theorem wk_5 : Cond.initialized RX4 ∈ lw_tbl := by decide +kernel
theorem wk_6 : Cond.code yX3_init cX3_init 2 none ∈ zGT := by decide +kernel
theorem wk_7 : Cond.code yX4_init cX4_init 2 none ∈ zGT := by decide +kernel
theorem wk_8 : Cond.methodLink R_law 9 yX3_init ∈ lw_tbl := by decide +kernel
theorem wk_9 : Cond.methodLink R_law 12 yX4_init ∈ lw_tbl := by decide +kernel
theorem wk_10 : Cond.instanceMethod yX3_init ∈ lw_tbl := by decide +kernel
theorem wk_11 : Cond.instanceMethod yX4_init ∈ lw_tbl := by decide +kernel
theorem wk_12 : Cond.methodLinkNest RX3 21 yX2_init RX3 ∈ lw_tbl := by decide +kernel
theorem wk_13 : Cond.methodLinkNest RX3 31 yX0_init RX3 ∈ lw_tbl := by decide +kernel
theorem wk_14 : Cond.methodLinkNest RX3 64 yX1_init RX3 ∈ lw_tbl := by decide +kernel
theorem wk_15 : Cond.arrayOver (.object RX1) ∈ lw_tbl := by decide +kernel
theorem wk_16 : Cond.arrayOver (.object RX2) ∈ lw_tbl := by decide +kernel
theorem zGG {y : MethodName} {bytes : ByteArray} {maxL : Nat} (h : Cond.code y bytes maxL none ∈ zGT) : GoodIn lw_tbl (Cond.code y bytes maxL none :: zGT) := fun w hw' => by
  have hm : w ∈ zGT := by
    rcases List.mem_cons.mp hw' with rfl | h'
    · exact h
    · exact h'
  exact ⟨(List.mem_filter.mp hm).1, zgood hm⟩
/-- a constructor called from the law: the cell that was made last becomes a world of its own -/
theorem l_ctor {p : Program} {l : Launch} {e : Env} {s : State} {m : MethodId} {args : Array Value} {below : List Frame} {meth : Method} {c : Code} {Q : State → Prop} {H : Heap} {locs : List Loc} {cells slots pc : Nat} {ls : Array Slot} {rest : List Value} {D : va_G} {g : Nat → ClassId} {wr : va_W} {h mc ms index maxL : Nat} {c0 : va_E} {y : MethodName} {bytes : ByteArray} {rm : Room} {Xt : State → Prop} {w1 : (Nat → Nat) → va_W} (S : CallFix p m c code 4 s args lw_tbl R_law) (hK : va_K D zcl (ztys g) s) (hM : yCM D g l y bytes maxL rm h c0 H.size mc ms Xt w1) (hX0 : ∀ (a : Array Value) (U : State) (g' : JFrame) (mk : MethodId), Xt U → Xt (U.calling g' mk a)) (hX1 : ∀ U : State, s.WarmedH U.vm → Xt U) (hcode : Cond.code y bytes maxL none ∈ zGT) (hini : Cond.initialized y.cls ∈ lw_tbl) (hl : Cond.methodLink R_law index y ∈ lw_tbl) (hi : Cond.instanceMethod y ∈ lw_tbl) (hy : y.name = "<init>") (hd : y.cls ≠ "java/lang/invoke/MethodHandle" ∧ y.cls ≠ "java/lang/invoke/VarHandle" ∧ (parseMethodDescriptor y.desc).map (fun d => d.parameters.length) = some 0) (hrc : rm.cells = mc) (hrs : rm.slots = ms) (hR : rm.frames + 1 ≤ room_1.frames ∧ 8 + (maxL + 11) + rm.locals ≤ room_1.locals) (hR2 : cells + mc ≤ room_1.cells ∧ slots + ms ≤ room_1.slots) (hroom : (rest.map fun v => v.category).sum ≤ 8) (dd : decode code pc = .ok (.invokespecial index, 3))
    (hP : va_P D zcl (wr ++ [(h, c0)]) H) (hD : va_D (fun q => s.heap.size ≤ q) (wr ++ [(h, c0)])) (hS : va_S (fun q => s.heap.size ≤ q) s.heap H locs) (hsz : ls.size = 4)
    (kk : ∀ (a : Nat → Nat) (H1 : Heap) (locs1 : List Loc), va_P D zcl (wr ++ w1 a) H1 → va_D (fun q => s.heap.size ≤ q) (wr ++ w1 a) → va_S (fun q => s.heap.size ≤ q) s.heap H1 locs1 → W p l e room_1 s m args below meth c H1 locs1 (cells + mc) (slots + ms) Q (F0 m (pc + 3) ls rest)) : W p l e room_1 s m args below meth c H locs cells slots Q (F0 m pc ls (.ref h :: rest)) := by
  have hPc : va_P D zcl [(h, c0)] H := fun k q hq => by
    have h1 := (List.getElem?_eq_some_iff.mp hq).1
    have e : k = 0 := by simpa using h1
    subst e
    exact hP wr.length q (by simpa using hq)
  have hF : ∀ q, va_A [(h, c0)] H.size q → s.heap.size ≤ q := by
    intro q hq
    rcases hq with ⟨j, e, hj⟩ | hq
    · have h1 := (List.getElem?_eq_some_iff.mp hj).1
      have ej : j = 0 := by simpa using h1
      subst ej
      have hj' : (h, c0) = (q, e) := Option.some.inj hj
      have hh : h = q := congrArg Prod.fst hj'
      rw [← hh]
      exact hD.2 wr.length (h, c0) (by simp)
    · exact Nat.le_trans hS.1 hq
  have ok : ∀ w ∈ lw_tbl, w.before args s = true := S.2.2.2.2
  have hr := va_runI (p := p) (l := l) (e := e) (R := room_1) (below := below) (meth := meth) (H := H) (locs := locs) (cells := cells) (slots := slots) (g := F0 m pc ls (.ref h :: rest)) (Ts := lw_tbl) (own := R_law) (b := h) (As := []) (rest := rest) S hM (cwI 0 ok (zGG hcode) rfl hrc hrs (ok _ hini) (ok _ hl) (ok _ hi) hy hd hR) ⟨fun a U g' mk q => by
      obtain ⟨q1, q2, q3, q4, q5⟩ := q
      exact ⟨q1, q2, va_K.moved (u := U) (U := U.calling g' mk a) (Vm.Alike.refl U.vm) q3, hX0 a U g' mk q4, q5⟩, fun U hU hW => ⟨rfl, by rw [hU], va_K.moved hW.alike hK, hX1 U hW, by rw [hU]; exact hPc⟩⟩ rfl rfl hsz rfl (lv_room hroom) dd hR2
  intro T hT X
  obtain ⟨v, st₀, t, T', L, h0, X', hL, e1, e2, ⟨⟨hv, a, hP1, hD1⟩, hz, hk⟩, hgo⟩ := hr T hT X
  cases hv
  rw [h0] at hz hk
  obtain ⟨hP2, hD2⟩ := y_join (A0 := fun q => s.heap.size ≤ q) (H1 := t.heap) hP hD hk hF hP1 hD1
  obtain ⟨t2, a1, b1⟩ := kk a T'.heap (locs ++ L) (by rw [e1]; exact hP2) hD2
    ⟨Nat.le_trans hS.1 (by rw [e1]; exact hz), fun q h1 h2 => by rw [e1, hk q (Nat.lt_of_lt_of_le h1 hS.1) (fun z => h2 (hF q z))]; exact hS.2.1 q h1 h2, fun q hq => by
      rcases List.mem_append.mp hq with h | h
      · exact hS.2.2 q h
      · exact hF _ (hL q h)⟩ T' rfl X'
  exact ⟨t2, hgo t2 a1, b1⟩
set_option maxRecDepth 100000 in
set_option maxHeartbeats 8000000 in
theorem whole_of {Rel : lRel} (hs : so_all Rel) (hR0 : Rel xI0 xJ0 mI0 mJ0) {p : Program} {e : Env} {s : State} {m : MethodId} {below : List Frame} {meth : Method} {c : Code} (l : Launch) {b L : Nat} {xs : Nat → Int32} (hL : L ≤ 3072) (C0 : lw_At p s m meth c b L xs) : W p l e room_1 s m #[Value.ref b] below meth c s.heap [] 0 0 (lw_Z below #[Value.ref b] s) (entryFrame m ([Value.ref b] : List Value).toArray 4) := by
  obtain ⟨hx, hb, hr, hml, hown, hts, hX, hbl, hlocks, hgv⟩ := id C0
  have hA : ∀ q : Nat, s.heap.size ≤ q → (fun q : Nat => s.heap.size ≤ q) q := fun _ h => h
  have hG : ∀ w ∈ zGT, w.before #[Value.ref b] s = true := fun w hw => hts w (List.mem_filter.mp hw).1
  obtain ⟨D, g, hK⟩ := zK_of hts
  have hS : va_S (fun q : Nat => s.heap.size ≤ q) s.heap s.heap [] := va_S.rf
  have hP : va_P D zcl [] s.heap := fun k q h => by simp at h
  have hD : va_D (fun q : Nat => s.heap.size ≤ q) [] := ⟨fun i j p q h => by simp at h, fun k q h => by simp at h⟩
  have hl := lv_entry ([.ref b]) (n := 4) (Nat.le_of_ble_eq_true rfl)
  rw [lg_entry_eq]
  generalize (lg_sl ([.ref b]) ++ List.replicate (4 - (lg_sl ([.ref b])).length) Slot.unset).toArray = ls at hl ⊢
  have hl : lv_has ls 4 [(0, .ref b)] := hl
  have S : CallFix p m c code 4 s #[Value.ref b] lw_tbl R_law := ⟨hx, hb, hml, hown, hts⟩
  refine va_new (D := D) (cl := zcl) (ci := 3) (fs := [.null, .null, .null, .null, .null, .null, .null, .null, .int 0, .int 0, .long 0, .long 0, .long 0]) (C := RX3) (T := TX3) (N := 13) hx hb hG inX3 tyX3 tyX3_ok hown (hts _ wk_0) (hts _ wk_2) (hts _ wk_4) hK hP hD hS hA rfl (fun j hj => by rcases (show j = 0 ∨ j = 1 ∨ j = 2 ∨ j = 3 ∨ j = 4 ∨ j = 5 ∨ j = 6 ∨ j = 7 ∨ j = 8 ∨ j = 9 ∨ j = 10 ∨ j = 11 ∨ j = 12 by omega) with rfl | rfl | rfl | rfl | rfl | rfl | rfl | rfl | rfl | rfl | rfl | rfl | rfl <;> rfl) (Nat.le_of_ble_eq_true rfl) (Nat.le_of_ble_eq_true rfl) d_L0 (fun q H hP hD hS => ?_)
  refine lv_dup hx hb d_L3 rfl ?_
  refine l_ctor (wr := []) (g := g) S hK (c_X3_init l D g q H.size) (fun a U g' mk h => ⟨h.1, h.2.1, h.2.2.1, h.2.2.2.1, h.2.2.2.2⟩) (fun U hW => ⟨(va_Nw.of rfl (hts _ wk_12)).warmM hW, (va_Nw.of rfl (hts _ wk_13)).warmM hW, (va_Nw.of rfl (hts _ wk_14)).warmM hW, va_AO.moved hW.alike (va_AO.of (hts _ wk_15)), va_AO.moved hW.alike (va_AO.of (hts _ wk_16))⟩) wk_6 wk_4 wk_8 wk_10 rfl ⟨by decide, by decide, by decide +kernel⟩ rfl rfl ⟨Nat.le_of_ble_eq_true rfl, Nat.le_of_ble_eq_true rfl⟩ ⟨Nat.le_of_ble_eq_true rfl, Nat.le_of_ble_eq_true rfl⟩ (Nat.le_of_ble_eq_true rfl) d_L4 hP hD hS hl.1 (fun a1 H locs hP hD hS => ?_)
  refine lv_astore_n (lv' := [(1, .ref q), (0, .ref b)]) hx hb d_L7 rfl hl (by decide) rfl (fun ls hl => ?_)
  refine va_new (D := D) (cl := zcl) (ci := 4) (fs := [.int 0, .null, .int 0, .long 0, .long 0, .long 0, .null, .null, .null, .null, .null, .null, .null, .null, .null, .null, .null, .null, .null, .null, .null, .null, .long 0]) (C := RX4) (T := TX4) (N := 23) hx hb hG inX4 tyX4 tyX4_ok hown (hts _ wk_1) (hts _ wk_3) (hts _ wk_5) hK hP hD hS hA rfl (fun j hj => by rcases (show j = 0 ∨ j = 1 ∨ j = 2 ∨ j = 3 ∨ j = 4 ∨ j = 5 ∨ j = 6 ∨ j = 7 ∨ j = 8 ∨ j = 9 ∨ j = 10 ∨ j = 11 ∨ j = 12 ∨ j = 13 ∨ j = 14 ∨ j = 15 ∨ j = 16 ∨ j = 17 ∨ j = 18 ∨ j = 19 ∨ j = 20 ∨ j = 21 ∨ j = 22 by omega) with rfl | rfl | rfl | rfl | rfl | rfl | rfl | rfl | rfl | rfl | rfl | rfl | rfl | rfl | rfl | rfl | rfl | rfl | rfl | rfl | rfl | rfl | rfl <;> rfl) (Nat.le_of_ble_eq_true rfl) (Nat.le_of_ble_eq_true rfl) d_L8 (fun q2 H hP hD hS => ?_)
  refine lv_dup hx hb d_L11 rfl ?_
  refine l_ctor (wr := w1X3 g q a1) (g := g) S hK (c_X4_init l D g q2 H.size) (fun _ _ _ _ _ => trivial) (fun _ _ => trivial) wk_7 wk_5 wk_9 wk_11 rfl ⟨by decide, by decide, by decide +kernel⟩ rfl rfl ⟨Nat.le_of_ble_eq_true rfl, Nat.le_of_ble_eq_true rfl⟩ ⟨Nat.le_of_ble_eq_true rfl, Nat.le_of_ble_eq_true rfl⟩ (Nat.le_of_ble_eq_true rfl) d_L12 hP hD hS hl.1 (fun a2 H locs hP hD hS => ?_)
  refine lv_astore_n (lv' := [(2, .ref q2), (1, .ref q), (0, .ref b)]) hx hb d_L15 rfl hl (by decide) rfl (fun ls hl => ?_)
  refine lv_iconst (v := 0) hx hb d_L16 (by decide) ?_
  refine lv_istore_n (lv' := [(3, .int 0), (2, .ref q2), (1, .ref q), (0, .ref b)]) hx hb d_L17 rfl hl (by decide) rfl (fun ls hl => ?_)
  refine W.widen (k := 76) (n := 5446) (Nat.le_of_ble_eq_true rfl) (Nat.le_of_ble_eq_true rfl) ?_
  have hlen : (w1X3 g q a1).length = 58 := rfl
  have hlen2 : (w1X4 g q2 a2).length = 18 := rfl
  have in1 : ∀ (k : Nat) (z : Nat × va_E), (w1X3 g q a1)[k]? = some z → (w1X3 g q a1 ++ w1X4 g q2 a2)[k]? = some z := fun k z hz => by
    rw [List.getElem?_append_left (List.getElem?_eq_some_iff.mp hz).1]; exact hz
  have in2 : ∀ (k : Nat) (z : Nat × va_E), (w1X4 g q2 a2)[k]? = some z → (w1X3 g q a1 ++ w1X4 g q2 a2)[58 + k]? = some z := fun k z hz => by
    rw [List.getElem?_append_right (by rw [hlen]; omega), hlen, Nat.add_sub_cancel_left]; exact hz
  have hP1 : va_P D zcl (w1X3 g q a1) H := fun k z hz => hP k z (in1 k z hz)
  have hP2 : va_P D zcl (w1X4 g q2 a2) H := fun k z hz => hP (58 + k) z (in2 k z hz)
  have hD1 : va_D (fun q : Nat => s.heap.size ≤ q) (w1X3 g q a1) := ⟨fun i j x y hx hy e => hD.1 i j x y (in1 i x hx) (in1 j y hy) e, fun k z hz => hD.2 k z (in1 k z hz)⟩
  have hD2 : va_D (fun q : Nat => s.heap.size ≤ q) (w1X4 g q2 a2) := ⟨fun i j x y hx hy e => by have := hD.1 (58 + i) (58 + j) x y (in2 i x hx) (in2 j y hy) e; omega, fun k z hz => hD.2 (58 + k) z (in2 k z hz)⟩
  have ad1 : ∀ k, k < 58 → s.heap.size ≤ zad q a1 k := fun k hk => by
    obtain ⟨z, hz, ez⟩ := addr_at (x_addr (g := g) (h := q) (a := a1)) hk
    rw [← ez]; exact hD1.2 k z hz
  have ad2 : ∀ k, k < 18 → s.heap.size ≤ zad q2 a2 k := fun k hk => by
    obtain ⟨z, hz, ez⟩ := addr_at (m_addr (g := g) (h := q2) (a := a2)) hk
    rw [← ez]; exact hD2.2 k z hz
  have apart : ∀ i j, i < 58 → j < 18 → zad q a1 i ≠ zad q2 a2 j := fun i j hi hj e => by
    obtain ⟨z, hz, ez⟩ := addr_at (x_addr (g := g) (h := q) (a := a1)) hi
    obtain ⟨w, hw, ew⟩ := addr_at (m_addr (g := g) (h := q2) (a := a2)) hj
    have := hD.1 i (58 + j) z w (in1 i z hz) (in2 j w hw) (by rw [ez, ew, e])
    omega
  have nA1 : ∀ a : Nat, a < s.heap.size → ¬ zAW (xw D (zad q a1) g) a := fun a ha ⟨k, hk, e⟩ => by
    have := ad1 k hk
    have e' : a = zad q a1 k := e
    omega
  have nA2 : ∀ a : Nat, a < s.heap.size → ¬ zAW (mw D (zad q2 a2) g) a := fun a ha ⟨k, hk, e⟩ => by
    have := ad2 k hk
    have e' : a = zad q2 a2 k := e
    omega
  have KX1 : zKX (xw D (zad q a1) g) s := ⟨hK, zinj_of (x_addr (g := g) (h := q) (a := a1)) hD1, va_Nw.of rfl (hts _ zn1_in), va_Nw.of rfl (hts _ zn2_in), zST_of hgv hts nA1⟩
  have KX2 : zKX (mw D (zad q2 a2) g) s := ⟨hK, zinj_of (m_addr (g := g) (h := q2) (a := a2)) hD2, va_Nw.of rfl (hts _ zn1_in), va_Nw.of rfl (hts _ zn2_in), zST_of hgv hts nA2⟩
  have fx : lFX (lmk (p, l, e, s, m, below, meth, c, b, L, xs) D (zad q a1) (zad q2 a2) g) := ⟨hx, hb, hr, hml, hown, hG, hX, hbl, hlocks, KX1, KX2, ad1, ad2, apart⟩
  refine l_loop fx hs hL 3079 0 (by omega) (by omega) _ _ _ _ hR0 H locs ls (zHW_of (x_world hP1)) (zHW_of (m_world hP2)) hS ?_
  exact ⟨hl.1, hl.2.1, fun z hz => hl.2.2 z (by
    simp only [llv, List.mem_cons, List.not_mem_nil, or_false] at hz ⊢
    rcases hz with rfl | rfl | rfl | rfl
    · exact Or.inr (Or.inr (Or.inr rfl))
    · exact Or.inr (Or.inr (Or.inl rfl))
    · exact Or.inr (Or.inl rfl)
    · exact Or.inl rfl)⟩
