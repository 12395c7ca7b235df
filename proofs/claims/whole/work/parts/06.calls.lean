section ZC
variable {E : zE} {ω : zWO} {cc : ByteArray} {own : String} {nL : Nat} {ret : Option FieldType} {pc : Nat} {lv : List (Nat × Value)} {st rest : List Value} {I I' : zMi} {J J' : zMl}
theorem z_run {out : Option Value} {H : Heap} {locs : List Loc} {ls : Array Slot} (hr : va_Run (zp E) (zl E) (ze E) (zR E) (zs E) (zm E) (za E) (zb E) (zme E) (zc E) H locs 0 0 0 0 (F0 (zm E) pc ls st) rest (fun st oc t => (oc = .returned out ∧ zHW ω I' J' t.heap) ∧ va_F (zAW ω) st t) (zAW ω)) (hS : va_S (zAW ω) (zs E).heap H locs) (hl : lv_has ls (zc E).maxLocals lv)
    (kk : zAt E ω (pc + 3) lv (out.toList ++ rest) I' J') : zW E ω H locs (F0 (zm E) pc ls st) := by
  intro T hT X
  obtain ⟨v, st₀, t, T', L, h0, X', hL, e1, e2, ⟨⟨hv, hb⟩, hz, hk⟩, hgo⟩ := hr T hT X
  cases hv
  rw [h0] at hz hk
  obtain ⟨t2, a1, b1⟩ := kk T'.heap (locs ++ L) ls (by rw [e1]; exact hb)
    ⟨Nat.le_trans hS.1 (by rw [e1]; exact hz), fun q h1 h2 => by rw [e1, hk q (Nat.lt_of_lt_of_le h1 hS.1) h2]; exact hS.2.1 q h1 h2, fun q hq => by
      rcases List.mem_append.mp hq with h | h
      · exact hS.2.2 q h
      · exact hL q h⟩ hl T' rfl X'
  exact ⟨t2, hgo t2 a1, b1⟩
theorem z_rcv {C : String} {k : Nat} (h : zRcv ω C k) {s : State} {H : Heap} (hK : zKX ω s) (ha : zHW ω I J H) : ∃ cellB : Cell, H[ω.2.2.2.1 k]? = some cellB ∧ cellB.vm.isStatics = false ∧ s.vm.findClass C = some cellB.cls := by
  obtain ⟨hk, ci, T, N, hc, hf⟩ := h
  obtain ⟨fs, he⟩ := hf (I k) (J k)
  have hg := zwl_get (ω := ω) (I := I) (J := J) hk
  rw [he] at hg
  exact va_recv hK.1 ha hc hg
theorem z_callV (fx : zFX E ω cc own nL ret) {y : MethodName} {bytes : ByteArray} {maxL n index k : Nat} {rt : Option FieldType} {rm : Room} {As : List Value} {out : Option Value} (cm : zCM ω (zl E) y bytes maxL rt rm (.ref (ω.2.2.2.1 k) :: As) I J out I' J') (rc : zRcv ω y.cls k) (hw : zMW y n) (hn : As.length = n) (hcode : Cond.code y bytes maxL rt ∈ zGT) (hini : Cond.initialized y.cls ∈ zGT) (hins : Cond.instanceMethod y ∈ zGT) (hsel : Cond.selects y.cls y y ∈ zGT) (hlink : Cond.methodLink own index y ∈ zGT) (hrc : rm.cells = 0 ∧ rm.slots = 0) (hR : rm.frames + 1 ≤ (zR E).frames ∧ 8 + (maxL + 11) + rm.locals ≤ (zR E).locals)
    (d : decode cc pc = .ok (.invokevirtual index, 3)) (hst : st = As.reverse ++ .ref (ω.2.2.2.1 k) :: rest) (hroom : (rest.map fun v => v.category).sum ≤ 8) (kk : zAt E ω (pc + 3) lv (out.toList ++ rest) I' J') : zAt E ω pc lv st I J := by
  intro H locs ls a b c
  subst hst
  have ok : ∀ w ∈ zGT, w.before (za E) (zs E) = true := fx.2.2.2.2.1
  obtain ⟨hp1, hp2⟩ := zpre (av := .ref (ω.2.2.2.1 k) :: As) fx.2.2.2.2.2.1 b a
  refine z_run (va_runV (Ts := zGT) (own := own) (C := y.cls) (As := As) (rest := rest) ⟨fx.1, fx.2.1, rfl, fx.2.2.2.1, ok⟩ cm ⟨zcallB fx hw hcode hini hlink hrc.1 hrc.2 hR, ok _ hins, ok _ hsel⟩ ⟨hp1, z_rcv rc fx.2.2.2.2.2.1 a, hp2⟩ rfl hn c.1 rfl (lv_room hroom) d ⟨Nat.zero_le _, Nat.zero_le _⟩) b c kk
theorem z_callS (fx : zFX E ω cc own nL ret) {y : MethodName} {bytes : ByteArray} {maxL n index : Nat} {rt : Option FieldType} {rm : Room} {As : List Value} {out : Option Value} (cm : zCM ω (zl E) y bytes maxL rt rm As I J out I' J') (hw : zMW y n) (hn : As.length = n) (hcode : Cond.code y bytes maxL rt ∈ zGT) (hini : Cond.initialized y.cls ∈ zGT) (hsta : Cond.static y ∈ zGT) (hlink : Cond.methodLink own index y ∈ zGT) (hrc : rm.cells = 0 ∧ rm.slots = 0) (hR : rm.frames + 1 ≤ (zR E).frames ∧ 8 + (maxL + 11) + rm.locals ≤ (zR E).locals)
    (d : decode cc pc = .ok (.invokestatic index, 3)) (hst : st = As.reverse ++ rest) (hroom : (rest.map fun v => v.category).sum ≤ 8) (kk : zAt E ω (pc + 3) lv (out.toList ++ rest) I' J') : zAt E ω pc lv st I J := by
  intro H locs ls a b c
  subst hst
  have ok : ∀ w ∈ zGT, w.before (za E) (zs E) = true := fx.2.2.2.2.1
  obtain ⟨hp1, hp2⟩ := zpre (av := As) fx.2.2.2.2.2.1 b a
  refine z_run (va_runS (Ts := zGT) (own := own) (As := As) (rest := rest) ⟨fx.1, fx.2.1, rfl, fx.2.2.2.1, ok⟩ cm ⟨zcallB fx hw hcode hini hlink hrc.1 hrc.2 hR, ok _ hsta⟩ ⟨hp1, hp2⟩ rfl hn c.1 rfl (lv_room hroom) d ⟨Nat.zero_le _, Nat.zero_le _⟩) b c kk
theorem z_callN (fx : zFX E ω cc own nL ret) {y : MethodName} {bytes : ByteArray} {maxL n index : Nat} {rt : Option FieldType} {rm : Room} {As : List Value} {out : Option Value} {host : String} (cm : zCM ω (zl E) y bytes maxL rt rm As I J out I' J') (hw : zMW y n) (hn : As.length = n) (hcode : Cond.code y bytes maxL rt ∈ zGT) (hini : Cond.initialized y.cls ∈ zGT) (hsta : Cond.static y ∈ zGT) (hlink : va_Nw (.methodLinkNest own index y host) (zs E)) (hrc : rm.cells = 0 ∧ rm.slots = 0) (hR : rm.frames + 1 ≤ (zR E).frames ∧ 8 + (maxL + 11) + rm.locals ≤ (zR E).locals)
    (d : decode cc pc = .ok (.invokestatic index, 3)) (hst : st = As.reverse ++ rest) (hroom : (rest.map fun v => v.category).sum ≤ 8) (kk : zAt E ω (pc + 3) lv (out.toList ++ rest) I' J') : zAt E ω pc lv st I J := by
  intro H locs ls a b c
  subst hst
  have ok : ∀ w ∈ zGT, w.before (za E) (zs E) = true := fx.2.2.2.2.1
  obtain ⟨hp1, hp2⟩ := zpre (av := As) fx.2.2.2.2.2.1 b a
  have hG : GoodIn zGT (Cond.code y bytes maxL rt :: zGT) := fun w hw' => by
    have hm : w ∈ zGT := by
      rcases List.mem_cons.mp hw' with rfl | h
      · exact hcode
      · exact h
    exact ⟨hm, zgood hm⟩
  refine z_run (va_runSN (Ts := zGT) (own := own) (host := host) (As := As) (rest := rest) ⟨fx.1, fx.2.1, rfl, fx.2.2.2.1, ok⟩ cm ⟨va_cnB n ok hG rfl hrc.1 hrc.2 hlink (ok _ hini) hw hR, ok _ hsta, trivial⟩ ⟨hp1, hp2⟩ rfl hn c.1 rfl (lv_room hroom) d ⟨Nat.zero_le _, Nat.zero_le _⟩) b c kk
end ZC
-- ===== the class's world =====
def cfX (g : Nat → ClassId) (ad : Nat → Nat) (k : Nat) (f : Nat → Int32) (h : Nat → Int64) : va_E :=
  if k = 0 then .inr (3, [.ref (ad 1), .ref (ad 2), .ref (ad 52), .ref (ad 55), .ref (ad 3), .ref (ad 7), .ref (ad 8), .ref (ad 9), .int (f 8), .int (f 9), .long (h 10), .long (h 11), .long (h 12)])
  else if k = 1 then .inl (g 2, 6, .inr (.inr (.inr (.inr (fun j => some (ad (10 + 2 * j)))))))
  else if k = 2 then .inl (g 3, 10, .inr (.inr (.inr (.inr (fun j => some (ad (22 + 3 * j)))))))
  else if k = 3 then .inr (0, [.ref (ad 4), .ref (ad 5), .ref (ad 6), .int (f 3)])
  else if k = 4 then .inl (g 1, 13, .inr (.inl h))
  else if k = 5 then .inl (g 1, 144, .inr (.inl h))
  else if k = 6 then .inl (g 1, 144, .inr (.inl h))
  else if k = 7 then .inl (g 0, 13, .inl f)
  else if k = 8 then .inl (g 1, 128, .inr (.inl h))
  else if k = 9 then .inl (g 0, 6, .inl f)
  else if k < 22 then (if k % 2 = 0 then .inr (1, [.ref (ad (k + 1)), .int (f 1)]) else .inl (g 0, 24, .inl f))
  else if k % 3 = 1 then .inr (2, [.ref (ad (k + 1)), .ref (ad (k + 2)), .int (f 2), .int (f 3)])
  else .inl (g 0, 12, .inl f)
abbrev xw (D : va_G) (ad : Nat → Nat) (g : Nat → ClassId) : zWO := (D, cfX g ad, 58, ad, g)
theorem cfX_R (g : Nat → ClassId) (ad : Nat → Nat) {r : Nat} (hr : r < 6) (f : Nat → Int32) (h : Nat → Int64) : cfX g ad (10 + 2 * r) f h = .inr (1, [.ref (ad (11 + 2 * r)), .int (f 1)]) := by
  unfold cfX
  rw [if_neg (by omega), if_neg (by omega), if_neg (by omega), if_neg (by omega), if_neg (by omega), if_neg (by omega), if_neg (by omega), if_neg (by omega), if_neg (by omega), if_neg (by omega), if_pos (by omega), if_pos (by omega), show 10 + 2 * r + 1 = 11 + 2 * r by omega]
theorem cfX_Ri (g : Nat → ClassId) (ad : Nat → Nat) {r : Nat} (hr : r < 6) (f : Nat → Int32) (h : Nat → Int64) : cfX g ad (11 + 2 * r) f h = .inl (g 0, 24, .inl f) := by
  unfold cfX
  rw [if_neg (by omega), if_neg (by omega), if_neg (by omega), if_neg (by omega), if_neg (by omega), if_neg (by omega), if_neg (by omega), if_neg (by omega), if_neg (by omega), if_neg (by omega), if_pos (by omega), if_neg (by omega)]
theorem cfX_T (g : Nat → ClassId) (ad : Nat → Nat) {t : Nat} (_ht : t < 12) (f : Nat → Int32) (h : Nat → Int64) : cfX g ad (22 + 3 * t) f h = .inr (2, [.ref (ad (23 + 3 * t)), .ref (ad (24 + 3 * t)), .int (f 2), .int (f 3)]) := by
  unfold cfX
  rw [if_neg (by omega), if_neg (by omega), if_neg (by omega), if_neg (by omega), if_neg (by omega), if_neg (by omega), if_neg (by omega), if_neg (by omega), if_neg (by omega), if_neg (by omega), if_neg (by omega), if_pos (by omega), show 22 + 3 * t + 1 = 23 + 3 * t by omega, show 22 + 3 * t + 2 = 24 + 3 * t by omega]
theorem cfX_Tp (g : Nat → ClassId) (ad : Nat → Nat) {t : Nat} (_ht : t < 12) (f : Nat → Int32) (h : Nat → Int64) : cfX g ad (23 + 3 * t) f h = .inl (g 0, 12, .inl f) := by
  unfold cfX
  rw [if_neg (by omega), if_neg (by omega), if_neg (by omega), if_neg (by omega), if_neg (by omega), if_neg (by omega), if_neg (by omega), if_neg (by omega), if_neg (by omega), if_neg (by omega), if_neg (by omega), if_neg (by omega)]
theorem cfX_Tm (g : Nat → ClassId) (ad : Nat → Nat) {t : Nat} (_ht : t < 12) (f : Nat → Int32) (h : Nat → Int64) : cfX g ad (24 + 3 * t) f h = .inl (g 0, 12, .inl f) := by
  unfold cfX
  rw [if_neg (by omega), if_neg (by omega), if_neg (by omega), if_neg (by omega), if_neg (by omega), if_neg (by omega), if_neg (by omega), if_neg (by omega), if_neg (by omega), if_neg (by omega), if_neg (by omega), if_neg (by omega)]
-- ===== the model's world =====
def cfM (g : Nat → ClassId) (ad : Nat → Nat) (k : Nat) (f : Nat → Int32) (h : Nat → Int64) : va_E :=
  match k with
  | 0 => .inr (4, [.int (f 0), .ref (ad 1), .int (f 2), .long (h 3), .long (h 4), .long (h 5), .ref (ad 2), .ref (ad 3), .ref (ad 4), .ref (ad 5), .ref (ad 6), .ref (ad 7), .ref (ad 8), .ref (ad 9), .ref (ad 10), .ref (ad 11), .ref (ad 12), .ref (ad 13), .ref (ad 14), .ref (ad 15), .ref (ad 16), .ref (ad 17), .long (h 22)])
  | 1 => .inl (g 0, 6, .inl f)
  | 2 => .inl (g 0, 6, .inl f)
  | 3 => .inl (g 0, 144, .inl f)
  | 4 => .inl (g 0, 24, .inl f)
  | 5 => .inl (g 0, 10, .inl f)
  | 6 => .inl (g 0, 1440, .inl f)
  | 7 => .inl (g 0, 10, .inl f)
  | 8 => .inl (g 0, 144, .inl f)
  | 9 => .inl (g 0, 4, .inl f)
  | 10 => .inl (g 1, 144, .inr (.inl h))
  | 11 => .inl (g 0, 78, .inl f)
  | 12 => .inl (g 0, 78, .inl f)
  | 13 => .inl (g 0, 2048, .inl f)
  | 14 => .inl (g 1, 144, .inr (.inl h))
  | 15 => .inl (g 1, 144, .inr (.inl h))
  | 16 => .inl (g 1, 13, .inr (.inl h))
  | _ => .inl (g 1, 13, .inr (.inl h))
abbrev mw (D : va_G) (ad : Nat → Nat) (g : Nat → ClassId) : zWO := (D, cfM g ad, 18, ad, g)
