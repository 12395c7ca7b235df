theorem wj_abs_s : Cond.static Lib.Math.abs.name ∈ zGT := by decide +kernel
theorem wj_max_s : Cond.static Lib.Math.max.name ∈ zGT := by decide +kernel
theorem wj_abs_c : Cond.code Lib.Math.abs.name Lib.Math.abs.code 1 (some .int) ∈ zGT := by decide +kernel
theorem wj_max_c : Cond.code Lib.Math.max.name Lib.Math.max.code 2 (some .int) ∈ zGT := by decide +kernel
theorem wj_i : Cond.initialized "java/lang/Math" ∈ zGT := by decide +kernel
theorem zmabs {E : zE} {ω : zWO} {cc : ByteArray} {own : String} {nL : Nat} {ret : Option FieldType} {pc : Nat} {lv : List (Nat × Value)} {rest : List Value} {I : zMi} {J : zMl} {index : Nat} {x : Int32} (fx : zFX E ω cc own nL ret) (hl : Cond.methodLink own index yJ9_abs ∈ zGT) (d : decode cc pc = .ok (.invokestatic index, 3)) (hR : 1 ≤ (zR E).frames ∧ (rest.map fun v => v.category).sum + 13 ≤ (zR E).locals) (kk : zAt E ω (pc + 3) lv (.int (f_J9_abs x) :: rest) I J) : zAt E ω pc lv (.int x :: rest) I J := by
  intro H locs ls a b c
  have ok := fx.2.2.2.2.1
  refine va_mabs fx.1 fx.2.1 c.1.symm fx.2.2.2.1 (ok _ hl) (ok _ wj_abs_s) (ok _ wj_i) (ok _ wj_abs_c) hR.1 hR.2 (Nat.zero_le _) (Nat.zero_le _) d ?_
  have h := kk H locs ls a b c
  have e : f_J9_abs x = (if 0 ≤ x then x else 0 - x) := by unfold f_J9_abs; rw [Int32.zero_sub]
  rw [e] at h
  exact h
theorem zmmax {E : zE} {ω : zWO} {cc : ByteArray} {own : String} {nL : Nat} {ret : Option FieldType} {pc : Nat} {lv : List (Nat × Value)} {rest : List Value} {I : zMi} {J : zMl} {index : Nat} {x y : Int32} (fx : zFX E ω cc own nL ret) (hl : Cond.methodLink own index yJ9_max ∈ zGT) (d : decode cc pc = .ok (.invokestatic index, 3)) (hR : 1 ≤ (zR E).frames ∧ (rest.map fun v => v.category).sum + 13 ≤ (zR E).locals) (kk : zAt E ω (pc + 3) lv (.int (f_J9_max x y) :: rest) I J) : zAt E ω pc lv (.int y :: .int x :: rest) I J := by
  intro H locs ls a b c
  have ok := fx.2.2.2.2.1
  exact va_mmax fx.1 fx.2.1 c.1.symm fx.2.2.2.1 (ok _ hl) (ok _ wj_max_s) (ok _ wj_i) (ok _ wj_max_c) hR.1 hR.2 (Nat.zero_le _) (Nat.zero_le _) d (kk H locs ls a b c)
theorem bz_X4_in {a b c : Int32} : narrow .boolean (.int (f_X4_in a b c)) = .int (f_X4_in a b c) := by
  unfold f_X4_in
  split
  · rfl
  · split <;> rfl
theorem bz_X1_isSigns_l {I : zMi} {r : Int32} : ∀ (fuel : Nat) (n0 : Nat) (a1 : Int32), f_X1_isSigns_2 I fuel n0 a1 = some r → narrow .boolean (.int r) = .int r := by
  intro fuel
  induction fuel with
  | zero => intro n0 a1 h; rw [f_X1_isSigns_2] at h; cases h
  | succ f ih =>
    intro n0 a1 h
    rw [f_X1_isSigns_2] at h
    repeat' split at h
    all_goals first | (cases h; rfl) | exact ih _ _ h | cases h
theorem bz_X1_isSigns {n0 : Nat} {I : zMi} {r : Int32} (h : f_X1_isSigns n0 I = some r) : narrow .boolean (.int r) = .int r := by
  rw [f_X1_isSigns] at h
  exact bz_X1_isSigns_l _ _ _ h

set_option maxRecDepth 100000 in
set_option maxHeartbeats 4000000 in
theorem w_X0_beginPart_12 {E : zE} {D : va_G} {ad : Nat → Nat} {g : Nat → ClassId} (fx : zFX E (xw D ad g) cX0_beginPart RX0 3 none) (hR : zR E = rmX0_beginPart) {r : zMl} {I : zMi} (hr : zRX E (xw D ad g) none I r) {k2 : Int32 → zMl → Option zMl} (hk2 : ∀ (a1 : Int32) (J : zMl) , k2 a1 J = some r → zAt E (xw D ad g) 2 [(0, .ref (ad (3))), (1, .int a1)] [] I J) : ∀ (fuel : Nat) (a1 : Int32) (a2 : Int32) (J : zMl) , f_X0_beginPart_12 I k2 fuel a1 a2 J = some r → zAt E (xw D ad g) 12 [(0, .ref (ad (3))), (1, .int a1), (2, .int a2)] [] I J := by
  intro fuel
  induction fuel with
  | zero => intro a1 a2 J h; rw [f_X0_beginPart_12] at h; cases h
  | succ f ih =>
    intro a1 a2 J h
    rw [f_X0_beginPart_12] at h
    refine z_iload_n fx dX0_beginPart_12 rfl ?_
    refine z_aload_n fx dX0_beginPart_13 rfl ?_
    refine gP_degree fx wf_X0_21 dX0_beginPart_14 ?_
    refine z_icmp_ge (tgt := 49) fx dX0_beginPart_17 (by decide) (fun q1 => ?_) (fun q1 => ?_)
    · rw [if_pos q1] at h
      refine z_iinc (v := (a1 + 1)) fx dX0_beginPart_49 rfl rfl (by decide) rfl ?_
      refine z_goto (tgt := 2) fx dX0_beginPart_52 (by decide) ?_
      exact z_lv2 (hk2 (a1 + 1) J h) rfl
    · rw [if_neg q1] at h
      refine z_aload_n fx dX0_beginPart_20 rfl ?_
      refine gP_part fx wf_X0_15 dX0_beginPart_21 ?_
      refine z_iload_n fx dX0_beginPart_24 rfl ?_
      refine z_aload_n fx dX0_beginPart_25 rfl ?_
      refine gP_degree fx wf_X0_21 dX0_beginPart_26 ?_
      refine z_imul fx dX0_beginPart_29 ?_
      refine z_iload_n fx dX0_beginPart_30 rfl ?_
      refine z_iadd fx dX0_beginPart_31 ?_
      refine z_iload_n fx dX0_beginPart_32 rfl ?_
      refine z_iload_n fx dX0_beginPart_33 rfl ?_
      refine z_icmp_ne (tgt := 41) fx dX0_beginPart_34 (by decide) (fun q2 => ?_) (fun q2 => ?_)
      · rw [if_neg q2] at h
        refine z_lconst (v := 0) fx dX0_beginPart_41 rfl ?_
        obtain ⟨q3, h⟩ := oi h
        refine x_lst fx (Nat.le_of_ble_eq_true rfl) (cfX_5 g ad) q3 dX0_beginPart_42 ?_
        refine z_iinc (v := (a2 + 1)) fx dX0_beginPart_43 rfl rfl (by decide) rfl ?_
        refine z_goto (tgt := 12) fx dX0_beginPart_46 (by decide) ?_
        exact z_lv2 (ih a1 (a2 + 1) (wJ J (5) ((a1 * (I (3) 3)) + a2).toNatClampNeg 0) h) rfl
      · rw [if_pos q2] at h
        refine z_lconst (v := 1) fx dX0_beginPart_37 rfl ?_
        refine z_goto (tgt := 42) fx dX0_beginPart_38 (by decide) ?_
        obtain ⟨q4, h⟩ := oi h
        refine x_lst fx (Nat.le_of_ble_eq_true rfl) (cfX_5 g ad) q4 dX0_beginPart_42 ?_
        refine z_iinc (v := (a2 + 1)) fx dX0_beginPart_43 rfl rfl (by decide) rfl ?_
        refine z_goto (tgt := 12) fx dX0_beginPart_46 (by decide) ?_
        exact z_lv2 (ih a1 (a2 + 1) (wJ J (5) ((a1 * (I (3) 3)) + a2).toNatClampNeg 1) h) rfl
set_option maxRecDepth 100000 in
set_option maxHeartbeats 4000000 in
theorem w_X0_beginPart_2 {E : zE} {D : va_G} {ad : Nat → Nat} {g : Nat → ClassId} (fx : zFX E (xw D ad g) cX0_beginPart RX0 3 none) (hR : zR E = rmX0_beginPart) {r : zMl} {I : zMi} (hr : zRX E (xw D ad g) none I r) : ∀ (fuel : Nat) (a1 : Int32) (J : zMl) , f_X0_beginPart_2 I fuel a1 J = some r → zAt E (xw D ad g) 2 [(0, .ref (ad (3))), (1, .int a1)] [] I J := by
  intro fuel
  induction fuel with
  | zero => intro a1 J h; rw [f_X0_beginPart_2] at h; cases h
  | succ f ih =>
    intro a1 J h
    rw [f_X0_beginPart_2] at h
    refine z_iload_n fx dX0_beginPart_2 rfl ?_
    refine z_aload_n fx dX0_beginPart_3 rfl ?_
    refine gP_degree fx wf_X0_21 dX0_beginPart_4 ?_
    refine z_icmp_ge (tgt := 55) fx dX0_beginPart_7 (by decide) (fun q1 => ?_) (fun q1 => ?_)
    · rw [if_pos q1] at h
      cases h
      exact z_vret fx hr dX0_beginPart_55
    · rw [if_neg q1] at h
      refine z_iconst (v := 0) fx dX0_beginPart_10 rfl ?_
      refine z_istore_n fx dX0_beginPart_11 (by decide) rfl ?_
      exact z_lv2 (w_X0_beginPart_12 fx hR hr ih fu a1 0 J h) rfl
set_option maxRecDepth 100000 in
set_option maxHeartbeats 4000000 in
theorem c_X0_beginPart (l : Launch) (D : va_G) (ad : Nat → Nat) (g : Nat → ClassId) (I : zMi) (J : zMl) {r : zMl} (h : f_X0_beginPart I J = some r) : zCM (xw D ad g) l yX0_beginPart cX0_beginPart 3 none rmX0_beginPart [.ref (ad (3))] I J none I r := by
  refine zCM.of (by decide) (Nat.le_of_ble_eq_true rfl) (fun E hl hR fx hr => ?_)
  subst hl
  rw [f_X0_beginPart] at h
  refine z_iconst (v := 0) fx dX0_beginPart_0 rfl ?_
  refine z_istore_n fx dX0_beginPart_1 (by decide) rfl ?_
  exact z_lv2 (w_X0_beginPart_2 fx hR hr fu 0 J h) rfl
set_option maxRecDepth 100000 in
set_option maxHeartbeats 4000000 in
theorem c_X2_number (l : Launch) (D : va_G) (ad : Nat → Nat) (g : Nat → ClassId) (n0 : Nat) (a1 : Int32) (a2 : Int32) (I : zMi) (J : zMl) (b0 : n0 < 12) {r : Int32} (h : f_X2_number n0 a1 a2 I = some r) : zCM (xw D ad g) l yX2_number cX2_number 3 (some .int) rmX2_number [.ref (ad (22 + 3 * n0)), .int a1, .int a2] I J (some (.int r)) I J := by
  refine zCM.of (by decide) (Nat.le_of_ble_eq_true rfl) (fun E hl hR fx hr => ?_)
  subst hl
  rw [f_X2_number] at h
  refine z_aload_n fx dX2_number_0 rfl ?_
  refine gT_plus fx b0 wf_X2_9 dX2_number_1 ?_
  refine z_iload_n fx dX2_number_4 rfl ?_
  obtain ⟨q1, h⟩ := oi h
  refine x_ild fx (bT1 b0) (cfX_Tp g ad b0) q1 dX2_number_5 ?_
  refine z_iload_n fx dX2_number_6 rfl ?_
  refine z_ishr fx dX2_number_7 ?_
  refine z_iconst (v := 1) fx dX2_number_8 rfl ?_
  refine z_iand fx dX2_number_9 ?_
  refine z_aload_n fx dX2_number_10 rfl ?_
  refine gT_minus fx b0 wf_X2_15 dX2_number_11 ?_
  refine z_iload_n fx dX2_number_14 rfl ?_
  refine x_ild fx (bT2 b0) (cfX_Tm g ad b0) q1 dX2_number_15 ?_
  refine z_iload_n fx dX2_number_16 rfl ?_
  refine z_ishr fx dX2_number_17 ?_
  refine z_iconst (v := 1) fx dX2_number_18 rfl ?_
  refine z_iand fx dX2_number_19 ?_
  refine z_isub fx dX2_number_20 ?_
  cases h
  exact z_iret fx hr dX2_number_21
set_option maxRecDepth 100000 in
set_option maxHeartbeats 4000000 in
theorem w_X0_multiply_26 {E : zE} {D : va_G} {ad : Nat → Nat} {g : Nat → ClassId} (fx : zFX E (xw D ad g) cX0_multiply RX0 7 none) (hR : zR E = rmX0_multiply) {r : zMl} {I : zMi} (hr : zRX E (xw D ad g) none I r) {k2 : Nat → Int32 → zMl → Option zMl} (hk2 : ∀ (n1 : Nat) (a2 : Int32) (J : zMl) , k2 n1 a2 J = some r → n1 < 12 → zAt E (xw D ad g) 2 [(0, .ref (ad (3))), (1, .ref (ad (22 + 3 * n1))), (2, .int a2)] [] I J) {k12 : Nat → Int32 → Int32 → zMl → Option zMl} (hk12 : ∀ (n1 : Nat) (a2 : Int32) (a3 : Int32) (J : zMl) , k12 n1 a2 a3 J = some r → n1 < 12 → zAt E (xw D ad g) 12 [(0, .ref (ad (3))), (1, .ref (ad (22 + 3 * n1))), (2, .int a2), (3, .int a3)] [] I J) : ∀ (fuel : Nat) (n1 : Nat) (a2 : Int32) (a3 : Int32) (a4 : Int64) (a6 : Int32) (J : zMl) , f_X0_multiply_26 I k2 k12 fuel n1 a2 a3 a4 a6 J = some r → n1 < 12 → zAt E (xw D ad g) 26 [(0, .ref (ad (3))), (1, .ref (ad (22 + 3 * n1))), (2, .int a2), (3, .int a3), (4, .long a4), (6, .int a6)] [] I J := by
  intro fuel
  induction fuel with
  | zero => intro n1 a2 a3 a4 a6 J h b1; rw [f_X0_multiply_26] at h; cases h
  | succ f ih =>
    intro n1 a2 a3 a4 a6 J h b1
    rw [f_X0_multiply_26] at h
    refine z_iload fx dX0_multiply_26 rfl ?_
    refine z_aload_n fx dX0_multiply_28 rfl ?_
    refine gP_degree fx wf_X0_21 dX0_multiply_29 ?_
    refine z_icmp_ge (tgt := 69) fx dX0_multiply_32 (by decide) (fun q1 => ?_) (fun q1 => ?_)
    · rw [if_pos q1] at h
      refine z_aload_n fx dX0_multiply_69 rfl ?_
      refine gP_product fx wf_X0_18 dX0_multiply_70 ?_
      refine z_iload_n fx dX0_multiply_73 rfl ?_
      refine z_aload_n fx dX0_multiply_74 rfl ?_
      refine gP_degree fx wf_X0_21 dX0_multiply_75 ?_
      refine z_imul fx dX0_multiply_78 ?_
      refine z_iload_n fx dX0_multiply_79 rfl ?_
      refine z_iadd fx dX0_multiply_80 ?_
      refine z_lload fx dX0_multiply_81 rfl ?_
      obtain ⟨q2, h⟩ := oi h
      refine x_lst fx (Nat.le_of_ble_eq_true rfl) (cfX_6 g ad) q2 dX0_multiply_83 ?_
      refine z_iinc (v := (a3 + 1)) fx dX0_multiply_84 rfl rfl (by decide) rfl ?_
      refine z_goto (tgt := 12) fx dX0_multiply_87 (by decide) ?_
      exact z_lv2 (hk12 n1 a2 (a3 + 1) (wJ J (6) ((a2 * (I (3) 3)) + a3).toNatClampNeg a4) h b1) rfl
    · rw [if_neg q1] at h
      refine z_lload fx dX0_multiply_35 rfl ?_
      refine z_aload_n fx dX0_multiply_37 rfl ?_
      refine z_iload_n fx dX0_multiply_38 rfl ?_
      refine z_iload fx dX0_multiply_39 rfl ?_
      obtain ⟨x3, ex3, h⟩ := ob h
      refine zVi (k := 22 + 3 * n1) (rest := [.long a4]) fx hR (c_X2_number (zl E) D ad g n1 a2 a6 I J b1 ex3) (rcT b1) mvX2_number wm_X0_48 dX0_multiply_41 rfl ⟨rfl, rfl⟩ rfl rfl rfl ?_
      refine z_i2l fx dX0_multiply_44 ?_
      refine z_aload_n fx dX0_multiply_45 rfl ?_
      refine gP_part fx wf_X0_15 dX0_multiply_46 ?_
      refine z_iload fx dX0_multiply_49 rfl ?_
      refine z_aload_n fx dX0_multiply_51 rfl ?_
      refine gP_degree fx wf_X0_21 dX0_multiply_52 ?_
      refine z_imul fx dX0_multiply_55 ?_
      refine z_iload_n fx dX0_multiply_56 rfl ?_
      refine z_iadd fx dX0_multiply_57 ?_
      obtain ⟨q4, h⟩ := oi h
      refine x_lld fx (Nat.le_of_ble_eq_true rfl) (cfX_5 g ad) q4 dX0_multiply_58 ?_
      refine z_lmul fx dX0_multiply_59 ?_
      refine z_ladd fx dX0_multiply_60 ?_
      refine z_lstore fx dX0_multiply_61 (by decide) rfl ?_
      refine z_iinc (v := (a6 + 1)) fx dX0_multiply_63 rfl rfl (by decide) rfl ?_
      refine z_goto (tgt := 26) fx dX0_multiply_66 (by decide) ?_
      exact z_lv2 (ih n1 a2 a3 (a4 + ((x3.toInt64) * (J (5) ((a6 * (I (3) 3)) + a3).toNatClampNeg))) (a6 + 1) J h b1) rfl
set_option maxRecDepth 100000 in
set_option maxHeartbeats 4000000 in
theorem w_X0_multiply_12 {E : zE} {D : va_G} {ad : Nat → Nat} {g : Nat → ClassId} (fx : zFX E (xw D ad g) cX0_multiply RX0 7 none) (hR : zR E = rmX0_multiply) {r : zMl} {I : zMi} (hr : zRX E (xw D ad g) none I r) {k2 : Nat → Int32 → zMl → Option zMl} (hk2 : ∀ (n1 : Nat) (a2 : Int32) (J : zMl) , k2 n1 a2 J = some r → n1 < 12 → zAt E (xw D ad g) 2 [(0, .ref (ad (3))), (1, .ref (ad (22 + 3 * n1))), (2, .int a2)] [] I J) : ∀ (fuel : Nat) (n1 : Nat) (a2 : Int32) (a3 : Int32) (J : zMl) , f_X0_multiply_12 I k2 fuel n1 a2 a3 J = some r → n1 < 12 → zAt E (xw D ad g) 12 [(0, .ref (ad (3))), (1, .ref (ad (22 + 3 * n1))), (2, .int a2), (3, .int a3)] [] I J := by
  intro fuel
  induction fuel with
  | zero => intro n1 a2 a3 J h b1; rw [f_X0_multiply_12] at h; cases h
  | succ f ih =>
    intro n1 a2 a3 J h b1
    rw [f_X0_multiply_12] at h
    refine z_iload_n fx dX0_multiply_12 rfl ?_
    refine z_aload_n fx dX0_multiply_13 rfl ?_
    refine gP_degree fx wf_X0_21 dX0_multiply_14 ?_
    refine z_icmp_ge (tgt := 90) fx dX0_multiply_17 (by decide) (fun q1 => ?_) (fun q1 => ?_)
    · rw [if_pos q1] at h
      refine z_iinc (v := (a2 + 1)) fx dX0_multiply_90 rfl rfl (by decide) rfl ?_
      refine z_goto (tgt := 2) fx dX0_multiply_93 (by decide) ?_
      exact z_lv2 (hk2 n1 (a2 + 1) J h b1) rfl
    · rw [if_neg q1] at h
      refine z_lconst (v := 0) fx dX0_multiply_20 rfl ?_
      refine z_lstore fx dX0_multiply_21 (by decide) rfl ?_
      refine z_iconst (v := 0) fx dX0_multiply_23 rfl ?_
      refine z_istore fx dX0_multiply_24 (by decide) rfl ?_
      exact z_lv2 (w_X0_multiply_26 fx hR hr hk2 ih fu n1 a2 a3 0 0 J h b1) rfl
set_option maxRecDepth 100000 in
set_option maxHeartbeats 4000000 in
theorem w_X0_multiply_2 {E : zE} {D : va_G} {ad : Nat → Nat} {g : Nat → ClassId} (fx : zFX E (xw D ad g) cX0_multiply RX0 7 none) (hR : zR E = rmX0_multiply) {r : zMl} {I : zMi} (hr : zRX E (xw D ad g) none I r) : ∀ (fuel : Nat) (n1 : Nat) (a2 : Int32) (J : zMl) , f_X0_multiply_2 I fuel n1 a2 J = some r → n1 < 12 → zAt E (xw D ad g) 2 [(0, .ref (ad (3))), (1, .ref (ad (22 + 3 * n1))), (2, .int a2)] [] I J := by
  intro fuel
  induction fuel with
  | zero => intro n1 a2 J h b1; rw [f_X0_multiply_2] at h; cases h
  | succ f ih =>
    intro n1 a2 J h b1
    rw [f_X0_multiply_2] at h
    refine z_iload_n fx dX0_multiply_2 rfl ?_
    refine z_aload_n fx dX0_multiply_3 rfl ?_
    refine gP_degree fx wf_X0_21 dX0_multiply_4 ?_
    refine z_icmp_ge (tgt := 96) fx dX0_multiply_7 (by decide) (fun q1 => ?_) (fun q1 => ?_)
    · rw [if_pos q1] at h
      cases h
      exact z_vret fx hr dX0_multiply_96
    · rw [if_neg q1] at h
      refine z_iconst (v := 0) fx dX0_multiply_10 rfl ?_
      refine z_istore_n fx dX0_multiply_11 (by decide) rfl ?_
      exact z_lv2 (w_X0_multiply_12 fx hR hr ih fu n1 a2 0 J h b1) rfl
set_option maxRecDepth 100000 in
set_option maxHeartbeats 4000000 in
theorem c_X0_multiply (l : Launch) (D : va_G) (ad : Nat → Nat) (g : Nat → ClassId) (n1 : Nat) (I : zMi) (J : zMl) (b1 : n1 < 12) {r : zMl} (h : f_X0_multiply n1 I J = some r) : zCM (xw D ad g) l yX0_multiply cX0_multiply 7 none rmX0_multiply [.ref (ad (3)), .ref (ad (22 + 3 * n1))] I J none I r := by
  refine zCM.of (by decide) (Nat.le_of_ble_eq_true rfl) (fun E hl hR fx hr => ?_)
  subst hl
  rw [f_X0_multiply] at h
  refine z_iconst (v := 0) fx dX0_multiply_0 rfl ?_
  refine z_istore_n fx dX0_multiply_1 (by decide) rfl ?_
  exact z_lv2 (w_X0_multiply_2 fx hR hr fu n1 0 J h b1) rfl
set_option maxRecDepth 100000 in
set_option maxHeartbeats 4000000 in
theorem w_X0_trace_4 {E : zE} {D : va_G} {ad : Nat → Nat} {g : Nat → ClassId} (fx : zFX E (xw D ad g) cX0_trace RX0 4 (some .long)) (hR : zR E = rmX0_trace) {r : Int64} {I : zMi} {J : zMl} (hr : zRX E (xw D ad g) (some (.long r)) I J) : ∀ (fuel : Nat) (a1 : Int64) (a3 : Int32), f_X0_trace_4 I J fuel a1 a3 = some r → zAt E (xw D ad g) 4 [(0, .ref (ad (3))), (1, .long a1), (3, .int a3)] [] I J := by
  intro fuel
  induction fuel with
  | zero => intro a1 a3 h; rw [f_X0_trace_4] at h; cases h
  | succ f ih =>
    intro a1 a3 h
    rw [f_X0_trace_4] at h
    refine z_iload_n fx dX0_trace_4 rfl ?_
    refine z_aload_n fx dX0_trace_5 rfl ?_
    refine gP_degree fx wf_X0_21 dX0_trace_6 ?_
    refine z_icmp_ge (tgt := 34) fx dX0_trace_9 (by decide) (fun q1 => ?_) (fun q1 => ?_)
    · rw [if_pos q1] at h
      refine z_lload_n fx dX0_trace_34 rfl ?_
      cases h
      exact z_lret fx hr dX0_trace_35
    · rw [if_neg q1] at h
      refine z_lload_n fx dX0_trace_12 rfl ?_
      refine z_aload_n fx dX0_trace_13 rfl ?_
      refine gP_product fx wf_X0_18 dX0_trace_14 ?_
      refine z_iload_n fx dX0_trace_17 rfl ?_
      refine z_aload_n fx dX0_trace_18 rfl ?_
      refine gP_degree fx wf_X0_21 dX0_trace_19 ?_
      refine z_imul fx dX0_trace_22 ?_
      refine z_iload_n fx dX0_trace_23 rfl ?_
      refine z_iadd fx dX0_trace_24 ?_
      obtain ⟨q2, h⟩ := oi h
      refine x_lld fx (Nat.le_of_ble_eq_true rfl) (cfX_6 g ad) q2 dX0_trace_25 ?_
      refine z_ladd fx dX0_trace_26 ?_
      refine z_lstore_n fx dX0_trace_27 (by decide) rfl ?_
      refine z_iinc (v := (a3 + 1)) fx dX0_trace_28 rfl rfl (by decide) rfl ?_
      refine z_goto (tgt := 4) fx dX0_trace_31 (by decide) ?_
      exact z_lv2 (ih (a1 + (J (6) ((a3 * (I (3) 3)) + a3).toNatClampNeg)) (a3 + 1) h) rfl
set_option maxRecDepth 100000 in
set_option maxHeartbeats 4000000 in
theorem c_X0_trace (l : Launch) (D : va_G) (ad : Nat → Nat) (g : Nat → ClassId) (I : zMi) (J : zMl) {r : Int64} (h : f_X0_trace I J = some r) : zCM (xw D ad g) l yX0_trace cX0_trace 4 (some .long) rmX0_trace [.ref (ad (3))] I J (some (.long r)) I J := by
  refine zCM.of (by decide) (Nat.le_of_ble_eq_true rfl) (fun E hl hR fx hr => ?_)
  subst hl
  rw [f_X0_trace] at h
  refine z_lconst (v := 0) fx dX0_trace_0 rfl ?_
  refine z_lstore_n fx dX0_trace_1 (by decide) rfl ?_
  refine z_iconst (v := 0) fx dX0_trace_2 rfl ?_
  refine z_istore_n fx dX0_trace_3 (by decide) rfl ?_
  exact z_lv2 (w_X0_trace_4 fx hR hr fu 0 0 h) rfl
set_option maxRecDepth 100000 in
set_option maxHeartbeats 4000000 in
theorem w_X0_takeProduct_13 {E : zE} {D : va_G} {ad : Nat → Nat} {g : Nat → ClassId} (fx : zFX E (xw D ad g) cX0_takeProduct RX0 6 none) (hR : zR E = rmX0_takeProduct) {r : zMl} {I : zMi} (hr : zRX E (xw D ad g) none I r) {k2 : Int64 → Int32 → zMl → Option zMl} (hk2 : ∀ (a1 : Int64) (a3 : Int32) (J : zMl) , k2 a1 a3 J = some r → zAt E (xw D ad g) 2 [(0, .ref (ad (3))), (1, .long a1), (3, .int a3)] [] I J) : ∀ (fuel : Nat) (a1 : Int64) (a3 : Int32) (a4 : Int32) (J : zMl) , f_X0_takeProduct_13 I k2 fuel a1 a3 a4 J = some r → zAt E (xw D ad g) 13 [(0, .ref (ad (3))), (1, .long a1), (3, .int a3), (4, .int a4)] [] I J := by
  intro fuel
  induction fuel with
  | zero => intro a1 a3 a4 J h; rw [f_X0_takeProduct_13] at h; cases h
  | succ f ih =>
    intro a1 a3 a4 J h
    rw [f_X0_takeProduct_13] at h
    refine z_iload fx dX0_takeProduct_13 rfl ?_
    refine z_aload_n fx dX0_takeProduct_15 rfl ?_
    refine gP_degree fx wf_X0_21 dX0_takeProduct_16 ?_
    refine z_icmp_ge (tgt := 65) fx dX0_takeProduct_19 (by decide) (fun q1 => ?_) (fun q1 => ?_)
    · rw [if_pos q1] at h
      refine z_iinc (v := (a3 + 1)) fx dX0_takeProduct_65 rfl rfl (by decide) rfl ?_
      refine z_goto (tgt := 2) fx dX0_takeProduct_68 (by decide) ?_
      exact z_lv2 (hk2 a1 (a3 + 1) J h) rfl
    · rw [if_neg q1] at h
      refine z_iload_n fx dX0_takeProduct_22 rfl ?_
      refine z_aload_n fx dX0_takeProduct_23 rfl ?_
      refine gP_degree fx wf_X0_21 dX0_takeProduct_24 ?_
      refine z_imul fx dX0_takeProduct_27 ?_
      refine z_iload fx dX0_takeProduct_28 rfl ?_
      refine z_iadd fx dX0_takeProduct_30 ?_
      refine z_istore fx dX0_takeProduct_31 (by decide) rfl ?_
      refine z_aload_n fx dX0_takeProduct_33 rfl ?_
      refine gP_part fx wf_X0_15 dX0_takeProduct_34 ?_
      refine z_iload fx dX0_takeProduct_37 rfl ?_
      refine z_aload_n fx dX0_takeProduct_39 rfl ?_
      refine gP_product fx wf_X0_18 dX0_takeProduct_40 ?_
      refine z_iload fx dX0_takeProduct_43 rfl ?_
      obtain ⟨q2, h⟩ := oi h
      refine x_lld fx (Nat.le_of_ble_eq_true rfl) (cfX_6 g ad) q2 dX0_takeProduct_45 ?_
      refine z_iload_n fx dX0_takeProduct_46 rfl ?_
      refine z_iload fx dX0_takeProduct_47 rfl ?_
      refine z_icmp_ne (tgt := 56) fx dX0_takeProduct_49 (by decide) (fun q3 => ?_) (fun q3 => ?_)
      · rw [if_neg q3] at h
        refine z_lconst (v := 0) fx dX0_takeProduct_56 rfl ?_
        refine z_ladd fx dX0_takeProduct_57 ?_
        refine x_lst fx (Nat.le_of_ble_eq_true rfl) (cfX_5 g ad) q2 dX0_takeProduct_58 ?_
        refine z_iinc (v := (a4 + 1)) fx dX0_takeProduct_59 rfl rfl (by decide) rfl ?_
        refine z_goto (tgt := 13) fx dX0_takeProduct_62 (by decide) ?_
        exact z_lv2 (ih a1 a3 (a4 + 1) (wJ J (5) ((a3 * (I (3) 3)) + a4).toNatClampNeg ((J (6) ((a3 * (I (3) 3)) + a4).toNatClampNeg) + 0)) h) rfl
      · rw [if_pos q3] at h
        refine z_lload_n fx dX0_takeProduct_52 rfl ?_
        refine z_goto (tgt := 57) fx dX0_takeProduct_53 (by decide) ?_
        refine z_ladd fx dX0_takeProduct_57 ?_
        refine x_lst fx (Nat.le_of_ble_eq_true rfl) (cfX_5 g ad) q2 dX0_takeProduct_58 ?_
        refine z_iinc (v := (a4 + 1)) fx dX0_takeProduct_59 rfl rfl (by decide) rfl ?_
        refine z_goto (tgt := 13) fx dX0_takeProduct_62 (by decide) ?_
        exact z_lv2 (ih a1 a3 (a4 + 1) (wJ J (5) ((a3 * (I (3) 3)) + a4).toNatClampNeg ((J (6) ((a3 * (I (3) 3)) + a4).toNatClampNeg) + a1)) h) rfl
set_option maxRecDepth 100000 in
set_option maxHeartbeats 4000000 in
theorem w_X0_takeProduct_2 {E : zE} {D : va_G} {ad : Nat → Nat} {g : Nat → ClassId} (fx : zFX E (xw D ad g) cX0_takeProduct RX0 6 none) (hR : zR E = rmX0_takeProduct) {r : zMl} {I : zMi} (hr : zRX E (xw D ad g) none I r) : ∀ (fuel : Nat) (a1 : Int64) (a3 : Int32) (J : zMl) , f_X0_takeProduct_2 I fuel a1 a3 J = some r → zAt E (xw D ad g) 2 [(0, .ref (ad (3))), (1, .long a1), (3, .int a3)] [] I J := by
  intro fuel
  induction fuel with
  | zero => intro a1 a3 J h; rw [f_X0_takeProduct_2] at h; cases h
  | succ f ih =>
    intro a1 a3 J h
    rw [f_X0_takeProduct_2] at h
    refine z_iload_n fx dX0_takeProduct_2 rfl ?_
    refine z_aload_n fx dX0_takeProduct_3 rfl ?_
    refine gP_degree fx wf_X0_21 dX0_takeProduct_4 ?_
    refine z_icmp_ge (tgt := 71) fx dX0_takeProduct_7 (by decide) (fun q1 => ?_) (fun q1 => ?_)
    · rw [if_pos q1] at h
      cases h
      exact z_vret fx hr dX0_takeProduct_71
    · rw [if_neg q1] at h
      refine z_iconst (v := 0) fx dX0_takeProduct_10 rfl ?_
      refine z_istore fx dX0_takeProduct_11 (by decide) rfl ?_
      exact z_lv2 (w_X0_takeProduct_13 fx hR hr ih fu a1 a3 0 J h) rfl
set_option maxRecDepth 100000 in
set_option maxHeartbeats 4000000 in
theorem c_X0_takeProduct (l : Launch) (D : va_G) (ad : Nat → Nat) (g : Nat → ClassId) (a1 : Int64) (I : zMi) (J : zMl) {r : zMl} (h : f_X0_takeProduct a1 I J = some r) : zCM (xw D ad g) l yX0_takeProduct cX0_takeProduct 6 none rmX0_takeProduct [.ref (ad (3)), .long a1] I J none I r := by
  refine zCM.of (by decide) (Nat.le_of_ble_eq_true rfl) (fun E hl hR fx hr => ?_)
  subst hl
  rw [f_X0_takeProduct] at h
  refine z_iconst (v := 0) fx dX0_takeProduct_0 rfl ?_
  refine z_istore_n fx dX0_takeProduct_1 (by decide) rfl ?_
  exact z_lv2 (w_X0_takeProduct_2 fx hR hr fu a1 0 J h) rfl
set_option maxRecDepth 100000 in
set_option maxHeartbeats 4000000 in
theorem w_X0_turnCoefficients_2 {E : zE} {D : va_G} {ad : Nat → Nat} {g : Nat → ClassId} (fx : zFX E (xw D ad g) cX0_turnCoefficients RX0 2 none) (hR : zR E = rmX0_turnCoefficients) {r : zMl} {I : zMi} (hr : zRX E (xw D ad g) none I r) : ∀ (fuel : Nat) (a1 : Int32) (J : zMl) , f_X0_turnCoefficients_2 I fuel a1 J = some r → zAt E (xw D ad g) 2 [(0, .ref (ad (3))), (1, .int a1)] [] I J := by
  intro fuel
  induction fuel with
  | zero => intro a1 J h; rw [f_X0_turnCoefficients_2] at h; cases h
  | succ f ih =>
    intro a1 J h
    rw [f_X0_turnCoefficients_2] at h
    refine z_iload_n fx dX0_turnCoefficients_2 rfl ?_
    refine z_aload_n fx dX0_turnCoefficients_3 rfl ?_
    refine gP_degree fx wf_X0_21 dX0_turnCoefficients_4 ?_
    refine z_icmp_gt (tgt := 29) fx dX0_turnCoefficients_7 (by decide) (fun q1 => ?_) (fun q1 => ?_)
    · rw [if_pos q1] at h
      cases h
      exact z_vret fx hr dX0_turnCoefficients_29
    · rw [if_neg q1] at h
      refine z_aload_n fx dX0_turnCoefficients_10 rfl ?_
      refine gP_coefficients fx wf_X0_9 dX0_turnCoefficients_11 ?_
      refine z_iload_n fx dX0_turnCoefficients_14 rfl ?_
      refine z_aload_n fx dX0_turnCoefficients_15 rfl ?_
      refine gP_coefficients fx wf_X0_9 dX0_turnCoefficients_16 ?_
      refine z_iload_n fx dX0_turnCoefficients_19 rfl ?_
      obtain ⟨q2, h⟩ := oi h
      refine x_lld fx (Nat.le_of_ble_eq_true rfl) (cfX_4 g ad) q2 dX0_turnCoefficients_20 ?_
      refine z_lneg fx dX0_turnCoefficients_21 ?_
      refine x_lst fx (Nat.le_of_ble_eq_true rfl) (cfX_4 g ad) q2 dX0_turnCoefficients_22 ?_
      refine z_iinc (v := (a1 + 1)) fx dX0_turnCoefficients_23 rfl rfl (by decide) rfl ?_
      refine z_goto (tgt := 2) fx dX0_turnCoefficients_26 (by decide) ?_
      exact z_lv2 (ih (a1 + 1) (wJ J (4) a1.toNatClampNeg (-(J (4) a1.toNatClampNeg))) h) rfl
set_option maxRecDepth 100000 in
set_option maxHeartbeats 4000000 in
theorem c_X0_turnCoefficients (l : Launch) (D : va_G) (ad : Nat → Nat) (g : Nat → ClassId) (I : zMi) (J : zMl) {r : zMl} (h : f_X0_turnCoefficients I J = some r) : zCM (xw D ad g) l yX0_turnCoefficients cX0_turnCoefficients 2 none rmX0_turnCoefficients [.ref (ad (3))] I J none I r := by
  refine zCM.of (by decide) (Nat.le_of_ble_eq_true rfl) (fun E hl hR fx hr => ?_)
  subst hl
  rw [f_X0_turnCoefficients] at h
  refine z_iconst (v := 0) fx dX0_turnCoefficients_0 rfl ?_
  refine z_istore_n fx dX0_turnCoefficients_1 (by decide) rfl ?_
  exact z_lv2 (w_X0_turnCoefficients_2 fx hR hr fu 0 J h) rfl
set_option maxRecDepth 100000 in
set_option maxHeartbeats 4000000 in
theorem w_X0_tellOf_24 {E : zE} {D : va_G} {ad : Nat → Nat} {g : Nat → ClassId} (fx : zFX E (xw D ad g) cX0_tellOf RX0 5 none) (hR : zR E = rmX0_tellOf) {r : zMi × zMl} (hr : zRX E (xw D ad g) none r.1 r.2) : ∀ (fuel : Nat) (n1 : Nat) (a2 : Int32) (I : zMi) (J : zMl) , f_X0_tellOf_24 fuel n1 a2 I J = some r → n1 < 12 → zAt E (xw D ad g) 24 [(0, .ref (ad (3))), (1, .ref (ad (22 + 3 * n1))), (2, .int a2)] [] I J := by
  intro fuel
  induction fuel with
  | zero => intro n1 a2 I J h b1; rw [f_X0_tellOf_24] at h; cases h
  | succ f ih =>
    intro n1 a2 I J h b1
    rw [f_X0_tellOf_24] at h
    refine z_iload_n fx dX0_tellOf_24 rfl ?_
    refine z_aload_n fx dX0_tellOf_25 rfl ?_
    refine gP_degree fx wf_X0_21 dX0_tellOf_26 ?_
    refine z_icmp_gt (tgt := 69) fx dX0_tellOf_29 (by decide) (fun q1 => ?_) (fun q1 => ?_)
    · rw [if_pos q1] at h
      refine z_aload_n fx dX0_tellOf_69 rfl ?_
      refine gP_degree fx wf_X0_21 dX0_tellOf_70 ?_
      refine z_iconst (v := 2) fx dX0_tellOf_73 rfl ?_
      refine z_irem fx dX0_tellOf_74 (by decide) ?_
      refine z_iconst (v := 1) fx dX0_tellOf_75 rfl ?_
      refine z_icmp_ne (tgt := 83) fx dX0_tellOf_76 (by decide) (fun q2 => ?_) (fun q2 => ?_)
      · rw [if_neg q2] at h
        cases h
        exact z_vret fx hr dX0_tellOf_83
      · rw [if_pos q2] at h
        refine z_aload_n fx dX0_tellOf_79 rfl ?_
        obtain ⟨x3, ex3, h⟩ := ob h
        refine zVv (k := 3) (rest := []) fx hR (c_X0_turnCoefficients (zl E) D ad g I J ex3) rcP mvX0_turnCoefficients wm_X0_45 dX0_tellOf_80 rfl ⟨rfl, rfl⟩ rfl rfl rfl ?_
        cases h
        exact z_vret fx hr dX0_tellOf_83
    · rw [if_neg q1] at h
      refine z_aload_n fx dX0_tellOf_32 rfl ?_
      refine z_aload_n fx dX0_tellOf_33 rfl ?_
      obtain ⟨x4, ex4, h⟩ := ob h
      refine zVv (k := 3) (rest := []) fx hR (c_X0_multiply (zl E) D ad g n1 I J b1 ex4) rcP mvX0_multiply wm_X0_33 dX0_tellOf_34 rfl ⟨rfl, rfl⟩ rfl rfl rfl ?_
      refine z_aload_n fx dX0_tellOf_37 rfl ?_
      obtain ⟨x5, ex5, h⟩ := ob h
      refine zVl (k := 3) (rest := []) fx hR (c_X0_trace (zl E) D ad g I x4 ex5) rcP mvX0_trace wm_X0_37 dX0_tellOf_38 rfl ⟨rfl, rfl⟩ rfl rfl rfl ?_
      refine z_lneg fx dX0_tellOf_41 ?_
      refine z_iload_n fx dX0_tellOf_42 rfl ?_
      refine z_i2l fx dX0_tellOf_43 ?_
      obtain ⟨q6, h⟩ := on h
      refine z_ldiv fx dX0_tellOf_44 q6 ?_
      refine z_lstore_n fx dX0_tellOf_45 (by decide) rfl ?_
      refine z_aload_n fx dX0_tellOf_46 rfl ?_
      refine gP_coefficients fx wf_X0_9 dX0_tellOf_47 ?_
      refine z_aload_n fx dX0_tellOf_50 rfl ?_
      refine gP_degree fx wf_X0_21 dX0_tellOf_51 ?_
      refine z_iload_n fx dX0_tellOf_54 rfl ?_
      refine z_isub fx dX0_tellOf_55 ?_
      refine z_lload_n fx dX0_tellOf_56 rfl ?_
      obtain ⟨q7, h⟩ := oi h
      refine x_lst fx (Nat.le_of_ble_eq_true rfl) (cfX_4 g ad) q7 dX0_tellOf_57 ?_
      refine z_aload_n fx dX0_tellOf_58 rfl ?_
      refine z_lload_n fx dX0_tellOf_59 rfl ?_
      obtain ⟨x8, ex8, h⟩ := ob h
      refine zVv (k := 3) (rest := []) fx hR (c_X0_takeProduct (zl E) D ad g ((-x5) / (a2.toInt64)) I (wJ x4 (4) ((I (3) 3) - a2).toNatClampNeg ((-x5) / (a2.toInt64))) ex8) rcP mvX0_takeProduct wm_X0_41 dX0_tellOf_60 rfl ⟨rfl, rfl⟩ rfl rfl rfl ?_
      refine z_iinc (v := (a2 + 1)) fx dX0_tellOf_63 rfl rfl (by decide) rfl ?_
      refine z_goto (tgt := 24) fx dX0_tellOf_66 (by decide) ?_
      exact z_lv2 (ih n1 (a2 + 1) I x8 h b1) rfl
set_option maxRecDepth 100000 in
set_option maxHeartbeats 4000000 in
theorem c_X0_tellOf (l : Launch) (D : va_G) (ad : Nat → Nat) (g : Nat → ClassId) (n1 : Nat) (I : zMi) (J : zMl) (b1 : n1 < 12) {r : zMi × zMl} (h : f_X0_tellOf n1 I J = some r) : zCM (xw D ad g) l yX0_tellOf cX0_tellOf 5 none rmX0_tellOf [.ref (ad (3)), .ref (ad (22 + 3 * n1))] I J none r.1 r.2 := by
  refine zCM.of (by decide) (Nat.le_of_ble_eq_true rfl) (fun E hl hR fx hr => ?_)
  subst hl
  rw [f_X0_tellOf] at h
  refine z_aload_n fx dX0_tellOf_0 rfl ?_
  refine z_aload_n fx dX0_tellOf_1 rfl ?_
  refine gT_n fx b1 wf_X0_25 dX0_tellOf_2 ?_
  refine pP_degree fx wf_X0_21 dX0_tellOf_5 ?_
  refine z_aload_n fx dX0_tellOf_8 rfl ?_
  obtain ⟨x1, ex1, h⟩ := ob h
  refine zVv (k := 3) (rest := []) fx hR (c_X0_beginPart (zl E) D ad g (wI I (3) 3 (I (22 + 3 * n1) 2)) J ex1) rcP mvX0_beginPart wm_X0_30 dX0_tellOf_9 rfl ⟨rfl, rfl⟩ rfl rfl rfl ?_
  refine z_aload_n fx dX0_tellOf_12 rfl ?_
  refine gP_coefficients fx wf_X0_9 dX0_tellOf_13 ?_
  refine z_aload_n fx dX0_tellOf_16 rfl ?_
  refine gP_degree fx wf_X0_21 dX0_tellOf_17 ?_
  refine z_lconst (v := 1) fx dX0_tellOf_20 rfl ?_
  obtain ⟨q2, h⟩ := oi h
  refine x_lst fx (Nat.le_of_ble_eq_true rfl) (cfX_4 g ad) q2 dX0_tellOf_21 ?_
  refine z_iconst (v := 1) fx dX0_tellOf_22 rfl ?_
  refine z_istore_n fx dX0_tellOf_23 (by decide) rfl ?_
  exact z_lv2 (w_X0_tellOf_24 fx hR hr fu n1 1 (wI I (3) 3 (I (22 + 3 * n1) 2)) (wJ x1 (4) ((wI I (3) 3 (I (22 + 3 * n1) 2)) (3) 3).toNatClampNeg 1) h b1) rfl
set_option maxRecDepth 100000 in
set_option maxHeartbeats 4000000 in
theorem w_X0_valueAt_8 {E : zE} {D : va_G} {ad : Nat → Nat} {g : Nat → ClassId} (fx : zFX E (xw D ad g) cX0_valueAt RX0 5 (some .long)) (hR : zR E = rmX0_valueAt) {r : Int64} {I : zMi} {J : zMl} (hr : zRX E (xw D ad g) (some (.long r)) I J) : ∀ (fuel : Nat) (a1 : Int32) (a2 : Int64) (a4 : Int32), f_X0_valueAt_8 I J fuel a1 a2 a4 = some r → zAt E (xw D ad g) 8 [(0, .ref (ad (3))), (1, .int a1), (2, .long a2), (4, .int a4)] [] I J := by
  intro fuel
  induction fuel with
  | zero => intro a1 a2 a4 h; rw [f_X0_valueAt_8] at h; cases h
  | succ f ih =>
    intro a1 a2 a4 h
    rw [f_X0_valueAt_8] at h
    refine z_iload fx dX0_valueAt_8 rfl ?_
    refine z_if_lt (tgt := 32) fx dX0_valueAt_10 (by decide) (fun q1 => ?_) (fun q1 => ?_)
    · rw [if_pos q1] at h
      refine z_lload_n fx dX0_valueAt_32 rfl ?_
      cases h
      exact z_lret fx hr dX0_valueAt_33
    · rw [if_neg q1] at h
      refine z_lload_n fx dX0_valueAt_13 rfl ?_
      refine z_iload_n fx dX0_valueAt_14 rfl ?_
      refine z_i2l fx dX0_valueAt_15 ?_
      refine z_lmul fx dX0_valueAt_16 ?_
      refine z_aload_n fx dX0_valueAt_17 rfl ?_
      refine gP_coefficients fx wf_X0_9 dX0_valueAt_18 ?_
      refine z_iload fx dX0_valueAt_21 rfl ?_
      obtain ⟨q2, h⟩ := oi h
      refine x_lld fx (Nat.le_of_ble_eq_true rfl) (cfX_4 g ad) q2 dX0_valueAt_23 ?_
      refine z_ladd fx dX0_valueAt_24 ?_
      refine z_lstore_n fx dX0_valueAt_25 (by decide) rfl ?_
      refine z_iinc (v := (a4 + (-1))) fx dX0_valueAt_26 rfl rfl (by decide) rfl ?_
      refine z_goto (tgt := 8) fx dX0_valueAt_29 (by decide) ?_
      exact z_lv2 (ih a1 ((a2 * (a1.toInt64)) + (J (4) a4.toNatClampNeg)) (a4 + (-1)) h) rfl
set_option maxRecDepth 100000 in
set_option maxHeartbeats 4000000 in
theorem c_X0_valueAt (l : Launch) (D : va_G) (ad : Nat → Nat) (g : Nat → ClassId) (a1 : Int32) (I : zMi) (J : zMl) {r : Int64} (h : f_X0_valueAt a1 I J = some r) : zCM (xw D ad g) l yX0_valueAt cX0_valueAt 5 (some .long) rmX0_valueAt [.ref (ad (3)), .int a1] I J (some (.long r)) I J := by
  refine zCM.of (by decide) (Nat.le_of_ble_eq_true rfl) (fun E hl hR fx hr => ?_)
  subst hl
  rw [f_X0_valueAt] at h
  refine z_lconst (v := 0) fx dX0_valueAt_0 rfl ?_
  refine z_lstore_n fx dX0_valueAt_1 (by decide) rfl ?_
  refine z_aload_n fx dX0_valueAt_2 rfl ?_
  refine gP_degree fx wf_X0_21 dX0_valueAt_3 ?_
  refine z_istore fx dX0_valueAt_6 (by decide) rfl ?_
  exact z_lv2 (w_X0_valueAt_8 fx hR hr fu a1 0 (I (3) 3) h) rfl
set_option maxRecDepth 100000 in
set_option maxHeartbeats 4000000 in
theorem w_X0_divideBy_8 {E : zE} {D : va_G} {ad : Nat → Nat} {g : Nat → ClassId} (fx : zFX E (xw D ad g) cX0_divideBy RX0 7 none) (hR : zR E = rmX0_divideBy) {r : zMi × zMl} (hr : zRX E (xw D ad g) none r.1 r.2) : ∀ (fuel : Nat) (a1 : Int32) (a2 : Int64) (a4 : Int32) (I : zMi) (J : zMl) , f_X0_divideBy_8 fuel a1 a2 a4 I J = some r → zAt E (xw D ad g) 8 [(0, .ref (ad (3))), (1, .int a1), (2, .long a2), (4, .int a4)] [] I J := by
  intro fuel
  induction fuel with
  | zero => intro a1 a2 a4 I J h; rw [f_X0_divideBy_8] at h; cases h
  | succ f ih =>
    intro a1 a2 a4 I J h
    rw [f_X0_divideBy_8] at h
    refine z_iload fx dX0_divideBy_8 rfl ?_
    refine z_if_lt (tgt := 44) fx dX0_divideBy_10 (by decide) (fun q1 => ?_) (fun q1 => ?_)
    · rw [if_pos q1] at h
      refine z_aload_n fx dX0_divideBy_44 rfl ?_
      refine z_dup fx dX0_divideBy_45 rfl ?_
      refine gP_degree fx wf_X0_21 dX0_divideBy_46 ?_
      refine z_iconst (v := 1) fx dX0_divideBy_49 rfl ?_
      refine z_isub fx dX0_divideBy_50 ?_
      refine pP_degree fx wf_X0_21 dX0_divideBy_51 ?_
      cases h
      exact z_vret fx hr dX0_divideBy_54
    · rw [if_neg q1] at h
      refine z_aload_n fx dX0_divideBy_13 rfl ?_
      refine gP_coefficients fx wf_X0_9 dX0_divideBy_14 ?_
      refine z_iload fx dX0_divideBy_17 rfl ?_
      obtain ⟨q2, h⟩ := oi h
      refine x_lld fx (Nat.le_of_ble_eq_true rfl) (cfX_4 g ad) q2 dX0_divideBy_19 ?_
      refine z_lstore fx dX0_divideBy_20 (by decide) rfl ?_
      refine z_aload_n fx dX0_divideBy_22 rfl ?_
      refine gP_coefficients fx wf_X0_9 dX0_divideBy_23 ?_
      refine z_iload fx dX0_divideBy_26 rfl ?_
      refine z_lload_n fx dX0_divideBy_28 rfl ?_
      refine x_lst fx (Nat.le_of_ble_eq_true rfl) (cfX_4 g ad) q2 dX0_divideBy_29 ?_
      refine z_lload fx dX0_divideBy_30 rfl ?_
      refine z_iload_n fx dX0_divideBy_32 rfl ?_
      refine z_i2l fx dX0_divideBy_33 ?_
      refine z_lload_n fx dX0_divideBy_34 rfl ?_
      refine z_lmul fx dX0_divideBy_35 ?_
      refine z_ladd fx dX0_divideBy_36 ?_
      refine z_lstore_n fx dX0_divideBy_37 (by decide) rfl ?_
      refine z_iinc (v := (a4 + (-1))) fx dX0_divideBy_38 rfl rfl (by decide) rfl ?_
      refine z_goto (tgt := 8) fx dX0_divideBy_41 (by decide) ?_
      exact z_lv2 (ih a1 ((J (4) a4.toNatClampNeg) + ((a1.toInt64) * a2)) (a4 + (-1)) I (wJ J (4) a4.toNatClampNeg a2) h) rfl
set_option maxRecDepth 100000 in
set_option maxHeartbeats 4000000 in
theorem c_X0_divideBy (l : Launch) (D : va_G) (ad : Nat → Nat) (g : Nat → ClassId) (a1 : Int32) (I : zMi) (J : zMl) {r : zMi × zMl} (h : f_X0_divideBy a1 I J = some r) : zCM (xw D ad g) l yX0_divideBy cX0_divideBy 7 none rmX0_divideBy [.ref (ad (3)), .int a1] I J none r.1 r.2 := by
  refine zCM.of (by decide) (Nat.le_of_ble_eq_true rfl) (fun E hl hR fx hr => ?_)
  subst hl
  rw [f_X0_divideBy] at h
  refine z_lconst (v := 0) fx dX0_divideBy_0 rfl ?_
  refine z_lstore_n fx dX0_divideBy_1 (by decide) rfl ?_
  refine z_aload_n fx dX0_divideBy_2 rfl ?_
  refine gP_degree fx wf_X0_21 dX0_divideBy_3 ?_
  refine z_istore fx dX0_divideBy_6 (by decide) rfl ?_
  exact z_lv2 (w_X0_divideBy_8 fx hR hr fu a1 0 (I (3) 3) I J h) rfl
set_option maxRecDepth 100000 in
set_option maxHeartbeats 4000000 in
theorem w_X0_takeRoots_7 {E : zE} {D : va_G} {ad : Nat → Nat} {g : Nat → ClassId} (fx : zFX E (xw D ad g) cX0_takeRoots RX0 4 (some .int)) (hR : zR E = rmX0_takeRoots) {r : Int32 × zMi × zMl} (hr : zRX E (xw D ad g) (some (.int r.1)) r.2.1 r.2.2) : ∀ (fuel : Nat) (a1 : Int32) (a2 : Int32) (a3 : Int32) (I : zMi) (J : zMl) , f_X0_takeRoots_7 fuel a1 a2 a3 I J = some r → zAt E (xw D ad g) 7 [(0, .ref (ad (3))), (1, .int a1), (2, .int a2), (3, .int a3)] [] I J := by
  intro fuel
  induction fuel with
  | zero => intro a1 a2 a3 I J h; rw [f_X0_takeRoots_7] at h; cases h
  | succ f ih =>
    intro a1 a2 a3 I J h
    rw [f_X0_takeRoots_7] at h
    refine z_iload_n fx dX0_takeRoots_7 rfl ?_
    refine z_if_le (tgt := 35) fx dX0_takeRoots_8 (by decide) (fun q1 => ?_) (fun q1 => ?_)
    · rw [if_pos q1] at h
      refine z_iload_n fx dX0_takeRoots_35 rfl ?_
      cases h
      exact z_iret fx hr dX0_takeRoots_36
    · rw [if_neg q1] at h
      refine z_aload_n fx dX0_takeRoots_11 rfl ?_
      refine z_iload_n fx dX0_takeRoots_12 rfl ?_
      obtain ⟨x2, ex2, h⟩ := ob h
      refine zVl (k := 3) (rest := []) fx hR (c_X0_valueAt (zl E) D ad g a1 I J ex2) rcP mvX0_valueAt wm_X0_52 dX0_takeRoots_13 rfl ⟨rfl, rfl⟩ rfl rfl rfl ?_
      refine z_lconst (v := 0) fx dX0_takeRoots_16 rfl ?_
      refine z_lcmp fx dX0_takeRoots_17 ?_
      refine z_if_ne (tgt := 35) fx dX0_takeRoots_18 (by decide) (fun q3 => ?_) (fun q3 => ?_)
      · rw [if_neg q3] at h
        refine z_iload_n fx dX0_takeRoots_35 rfl ?_
        cases h
        exact z_iret fx hr dX0_takeRoots_36
      · rw [if_pos q3] at h
        refine z_aload_n fx dX0_takeRoots_21 rfl ?_
        refine z_iload_n fx dX0_takeRoots_22 rfl ?_
        obtain ⟨x4, ex4, h⟩ := ob h
        refine zVv (k := 3) (rest := []) fx hR (c_X0_divideBy (zl E) D ad g a1 I J ex4) rcP mvX0_divideBy wm_X0_56 dX0_takeRoots_23 rfl ⟨rfl, rfl⟩ rfl rfl rfl ?_
        refine z_iinc (v := (a2 + 1)) fx dX0_takeRoots_26 rfl rfl (by decide) rfl ?_
        refine z_iinc (v := (a3 + (-1))) fx dX0_takeRoots_29 rfl rfl (by decide) rfl ?_
        refine z_goto (tgt := 7) fx dX0_takeRoots_32 (by decide) ?_
        exact z_lv2 (ih a1 (a2 + 1) (a3 + (-1)) x4.1 x4.2 h) rfl
set_option maxRecDepth 100000 in
set_option maxHeartbeats 4000000 in
theorem c_X0_takeRoots (l : Launch) (D : va_G) (ad : Nat → Nat) (g : Nat → ClassId) (a1 : Int32) (I : zMi) (J : zMl) {r : Int32 × zMi × zMl} (h : f_X0_takeRoots a1 I J = some r) : zCM (xw D ad g) l yX0_takeRoots cX0_takeRoots 4 (some .int) rmX0_takeRoots [.ref (ad (3)), .int a1] I J (some (.int r.1)) r.2.1 r.2.2 := by
  refine zCM.of (by decide) (Nat.le_of_ble_eq_true rfl) (fun E hl hR fx hr => ?_)
  subst hl
  rw [f_X0_takeRoots] at h
  refine z_iconst (v := 0) fx dX0_takeRoots_0 rfl ?_
  refine z_istore_n fx dX0_takeRoots_1 (by decide) rfl ?_
  refine z_aload_n fx dX0_takeRoots_2 rfl ?_
  refine gP_degree fx wf_X0_21 dX0_takeRoots_3 ?_
  refine z_istore_n fx dX0_takeRoots_6 (by decide) rfl ?_
  exact z_lv2 (w_X0_takeRoots_7 fx hR hr fu a1 0 (I (3) 3) I J h) rfl
set_option maxRecDepth 100000 in
set_option maxHeartbeats 4000000 in
theorem c_X1_isMissing (l : Launch) (D : va_G) (ad : Nat → Nat) (g : Nat → ClassId) (n0 : Nat) (I : zMi) (J : zMl) (b0 : n0 < 6) {r : Int32} (h : f_X1_isMissing n0 I = r) : zCM (xw D ad g) l yX1_isMissing cX1_isMissing 1 (some .boolean) rmX1_isMissing [.ref (ad (10 + 2 * n0))] I J (some (.int r)) I J := by
  refine zCM.of (by decide) (Nat.le_of_ble_eq_true rfl) (fun E hl hR fx hr => ?_)
  subst hl
  rw [f_X1_isMissing] at h
  refine z_aload_n fx dX1_isMissing_0 rfl ?_
  refine gR_size fx b0 wf_X1_15 dX1_isMissing_1 ?_
  refine z_if_ge (tgt := 11) fx dX1_isMissing_4 (by decide) (fun q1 => ?_) (fun q1 => ?_)
  · rw [if_pos q1] at h
    refine z_iconst (v := 0) fx dX1_isMissing_11 rfl ?_
    subst h
    exact z_zret fx rfl hr dX1_isMissing_12
  · rw [if_neg q1] at h
    refine z_iconst (v := 1) fx dX1_isMissing_7 rfl ?_
    refine z_goto (tgt := 12) fx dX1_isMissing_8 (by decide) ?_
    subst h
    exact z_zret fx rfl hr dX1_isMissing_12
set_option maxRecDepth 100000 in
set_option maxHeartbeats 4000000 in
theorem c_X1_end (l : Launch) (D : va_G) (ad : Nat → Nat) (g : Nat → ClassId) (n0 : Nat) (I : zMi) (J : zMl) (b0 : n0 < 6) {r : zMi} (h : f_X1_end n0 I = r) : zCM (xw D ad g) l yX1_end cX1_end 1 none rmX1_end [.ref (ad (10 + 2 * n0))] I J none r J := by
  refine zCM.of (by decide) (Nat.le_of_ble_eq_true rfl) (fun E hl hR fx hr => ?_)
  subst hl
  rw [f_X1_end] at h
  refine z_aload_n fx dX1_end_0 rfl ?_
  refine z_iconst (v := (-1)) fx dX1_end_1 rfl ?_
  refine pR_size fx b0 wf_X1_15 dX1_end_2 ?_
  subst h
  exact z_vret fx hr dX1_end_5
set_option maxRecDepth 100000 in
set_option maxHeartbeats 4000000 in
theorem w_X1_beginSigns_7 {E : zE} {D : va_G} {ad : Nat → Nat} {g : Nat → ClassId} (fx : zFX E (xw D ad g) cX1_beginSigns RX1 4 none) (hR : zR E = rmX1_beginSigns) {r : zMi} {J : zMl} (hr : zRX E (xw D ad g) none r J) : ∀ (fuel : Nat) (n0 : Nat) (a1 : Int32) (a2 : Int32) (a3 : Int32) (I : zMi) , f_X1_beginSigns_7 fuel n0 a1 a2 a3 I = some r → n0 < 6 → zAt E (xw D ad g) 7 [(0, .ref (ad (10 + 2 * n0))), (1, .int a1), (2, .int a2), (3, .int a3)] [] I J := by
  intro fuel
  induction fuel with
  | zero => intro n0 a1 a2 a3 I h b0; rw [f_X1_beginSigns_7] at h; cases h
  | succ f ih =>
    intro n0 a1 a2 a3 I h b0
    rw [f_X1_beginSigns_7] at h
    refine z_iload_n fx dX1_beginSigns_7 rfl ?_
    refine z_iload_n fx dX1_beginSigns_8 rfl ?_
    refine z_icmp_ge (tgt := 33) fx dX1_beginSigns_9 (by decide) (fun q1 => ?_) (fun q1 => ?_)
    · rw [if_pos q1] at h
      cases h
      exact z_vret fx hr dX1_beginSigns_33
    · rw [if_neg q1] at h
      refine z_aload_n fx dX1_beginSigns_12 rfl ?_
      refine gR_ints fx b0 wf_X1_9 dX1_beginSigns_13 ?_
      refine z_iload_n fx dX1_beginSigns_16 rfl ?_
      refine z_iconst (v := 1) fx dX1_beginSigns_17 rfl ?_
      refine z_iconst (v := 2) fx dX1_beginSigns_18 rfl ?_
      refine z_iload_n fx dX1_beginSigns_19 rfl ?_
      refine z_iload_n fx dX1_beginSigns_20 rfl ?_
      refine z_ishr fx dX1_beginSigns_21 ?_
      refine z_iconst (v := 1) fx dX1_beginSigns_22 rfl ?_
      refine z_iand fx dX1_beginSigns_23 ?_
      refine z_imul fx dX1_beginSigns_24 ?_
      refine z_isub fx dX1_beginSigns_25 ?_
      obtain ⟨q2, h⟩ := oi h
      refine x_ist fx (bR1 b0) (cfX_Ri g ad b0) q2 dX1_beginSigns_26 ?_
      refine z_iinc (v := (a3 + 1)) fx dX1_beginSigns_27 rfl rfl (by decide) rfl ?_
      refine z_goto (tgt := 7) fx dX1_beginSigns_30 (by decide) ?_
      exact z_lv2 (ih n0 a1 a2 (a3 + 1) (wI I (11 + 2 * n0) a3.toNatClampNeg (1 - (2 * ((a2 >>> (a3 &&& 31)) &&& 1)))) h b0) rfl
set_option maxRecDepth 100000 in
set_option maxHeartbeats 4000000 in
theorem c_X1_beginSigns (l : Launch) (D : va_G) (ad : Nat → Nat) (g : Nat → ClassId) (n0 : Nat) (a1 : Int32) (a2 : Int32) (I : zMi) (J : zMl) (b0 : n0 < 6) {r : zMi} (h : f_X1_beginSigns n0 a1 a2 I = some r) : zCM (xw D ad g) l yX1_beginSigns cX1_beginSigns 4 none rmX1_beginSigns [.ref (ad (10 + 2 * n0)), .int a1, .int a2] I J none r J := by
  refine zCM.of (by decide) (Nat.le_of_ble_eq_true rfl) (fun E hl hR fx hr => ?_)
  subst hl
  rw [f_X1_beginSigns] at h
  refine z_aload_n fx dX1_beginSigns_0 rfl ?_
  refine z_iload_n fx dX1_beginSigns_1 rfl ?_
  refine pR_size fx b0 wf_X1_15 dX1_beginSigns_2 ?_
  refine z_iconst (v := 0) fx dX1_beginSigns_5 rfl ?_
  refine z_istore_n fx dX1_beginSigns_6 (by decide) rfl ?_
  exact z_lv2 (w_X1_beginSigns_7 fx hR hr fu n0 a1 a2 0 (wI I (10 + 2 * n0) 1 a1) h b0) rfl
set_option maxRecDepth 100000 in
set_option maxHeartbeats 4000000 in
theorem c_X1_hasPlaces (l : Launch) (D : va_G) (ad : Nat → Nat) (g : Nat → ClassId) (n0 : Nat) (a1 : Int32) (a2 : Int32) (I : zMi) (J : zMl) (b0 : n0 < 6) {r : Int32} (h : f_X1_hasPlaces n0 a1 a2 I = r) : zCM (xw D ad g) l yX1_hasPlaces cX1_hasPlaces 3 (some .boolean) rmX1_hasPlaces [.ref (ad (10 + 2 * n0)), .int a1, .int a2] I J (some (.int r)) I J := by
  refine zCM.of (by decide) (Nat.le_of_ble_eq_true rfl) (fun E hl hR fx hr => ?_)
  subst hl
  rw [f_X1_hasPlaces] at h
  refine z_iload_n fx dX1_hasPlaces_0 rfl ?_
  refine z_if_lt (tgt := 22) fx dX1_hasPlaces_1 (by decide) (fun q1 => ?_) (fun q1 => ?_)
  · rw [if_pos q1] at h
    refine z_iconst (v := 0) fx dX1_hasPlaces_22 rfl ?_
    subst h
    exact z_zret fx rfl hr dX1_hasPlaces_23
  · rw [if_neg q1] at h
    refine z_iload_n fx dX1_hasPlaces_4 rfl ?_
    refine z_i2l fx dX1_hasPlaces_5 ?_
    refine z_iload_n fx dX1_hasPlaces_6 rfl ?_
    refine z_i2l fx dX1_hasPlaces_7 ?_
    refine z_ladd fx dX1_hasPlaces_8 ?_
    refine z_aload_n fx dX1_hasPlaces_9 rfl ?_
    refine gR_size fx b0 wf_X1_15 dX1_hasPlaces_10 ?_
    refine z_i2l fx dX1_hasPlaces_13 ?_
    refine z_lcmp fx dX1_hasPlaces_14 ?_
    refine z_if_gt (tgt := 22) fx dX1_hasPlaces_15 (by decide) (fun q2 => ?_) (fun q2 => ?_)
    · rw [if_pos q2] at h
      refine z_iconst (v := 0) fx dX1_hasPlaces_22 rfl ?_
      subst h
      exact z_zret fx rfl hr dX1_hasPlaces_23
    · rw [if_neg q2] at h
      refine z_iconst (v := 1) fx dX1_hasPlaces_18 rfl ?_
      refine z_goto (tgt := 23) fx dX1_hasPlaces_19 (by decide) ?_
      subst h
      exact z_zret fx rfl hr dX1_hasPlaces_23
set_option maxRecDepth 100000 in
set_option maxHeartbeats 4000000 in
theorem w_X1_sum_4 {E : zE} {D : va_G} {ad : Nat → Nat} {g : Nat → ClassId} (fx : zFX E (xw D ad g) cX1_sum RX1 4 (some .long)) (hR : zR E = rmX1_sum) {r : Int64} {I : zMi} {J : zMl} (hr : zRX E (xw D ad g) (some (.long r)) I J) : ∀ (fuel : Nat) (n0 : Nat) (a1 : Int64) (a3 : Int32), f_X1_sum_4 I fuel n0 a1 a3 = some r → n0 < 6 → zAt E (xw D ad g) 4 [(0, .ref (ad (10 + 2 * n0))), (1, .long a1), (3, .int a3)] [] I J := by
  intro fuel
  induction fuel with
  | zero => intro n0 a1 a3 h b0; rw [f_X1_sum_4] at h; cases h
  | succ f ih =>
    intro n0 a1 a3 h b0
    rw [f_X1_sum_4] at h
    refine z_iload_n fx dX1_sum_4 rfl ?_
    refine z_aload_n fx dX1_sum_5 rfl ?_
    refine gR_size fx b0 wf_X1_15 dX1_sum_6 ?_
    refine z_icmp_ge (tgt := 28) fx dX1_sum_9 (by decide) (fun q1 => ?_) (fun q1 => ?_)
    · rw [if_pos q1] at h
      refine z_lload_n fx dX1_sum_28 rfl ?_
      cases h
      exact z_lret fx hr dX1_sum_29
    · rw [if_neg q1] at h
      refine z_lload_n fx dX1_sum_12 rfl ?_
      refine z_aload_n fx dX1_sum_13 rfl ?_
      refine gR_ints fx b0 wf_X1_9 dX1_sum_14 ?_
      refine z_iload_n fx dX1_sum_17 rfl ?_
      obtain ⟨q2, h⟩ := oi h
      refine x_ild fx (bR1 b0) (cfX_Ri g ad b0) q2 dX1_sum_18 ?_
      refine z_i2l fx dX1_sum_19 ?_
      refine z_ladd fx dX1_sum_20 ?_
      refine z_lstore_n fx dX1_sum_21 (by decide) rfl ?_
      refine z_iinc (v := (a3 + 1)) fx dX1_sum_22 rfl rfl (by decide) rfl ?_
      refine z_goto (tgt := 4) fx dX1_sum_25 (by decide) ?_
      exact z_lv2 (ih n0 (a1 + ((I (11 + 2 * n0) a3.toNatClampNeg).toInt64)) (a3 + 1) h b0) rfl
set_option maxRecDepth 100000 in
set_option maxHeartbeats 4000000 in
theorem c_X1_sum (l : Launch) (D : va_G) (ad : Nat → Nat) (g : Nat → ClassId) (n0 : Nat) (I : zMi) (J : zMl) (b0 : n0 < 6) {r : Int64} (h : f_X1_sum n0 I = some r) : zCM (xw D ad g) l yX1_sum cX1_sum 4 (some .long) rmX1_sum [.ref (ad (10 + 2 * n0))] I J (some (.long r)) I J := by
  refine zCM.of (by decide) (Nat.le_of_ble_eq_true rfl) (fun E hl hR fx hr => ?_)
  subst hl
  rw [f_X1_sum] at h
  refine z_lconst (v := 0) fx dX1_sum_0 rfl ?_
  refine z_lstore_n fx dX1_sum_1 (by decide) rfl ?_
  refine z_iconst (v := 0) fx dX1_sum_2 rfl ?_
  refine z_istore_n fx dX1_sum_3 (by decide) rfl ?_
  exact z_lv2 (w_X1_sum_4 fx hR hr fu n0 0 0 h b0) rfl
set_option maxRecDepth 100000 in
set_option maxHeartbeats 4000000 in
theorem w_X1_isNumbers_2 {E : zE} {D : va_G} {ad : Nat → Nat} {g : Nat → ClassId} (fx : zFX E (xw D ad g) cX1_isNumbers RX1 2 (some .boolean)) (hR : zR E = rmX1_isNumbers) {r : Int32} {I : zMi} {J : zMl} (hr : zRX E (xw D ad g) (some (.int r)) I J) : ∀ (fuel : Nat) (n0 : Nat) (a1 : Int32), f_X1_isNumbers_2 I fuel n0 a1 = some r → n0 < 6 → zAt E (xw D ad g) 2 [(0, .ref (ad (10 + 2 * n0))), (1, .int a1)] [] I J := by
  intro fuel
  induction fuel with
  | zero => intro n0 a1 h b0; rw [f_X1_isNumbers_2] at h; cases h
  | succ f ih =>
    intro n0 a1 h b0
    rw [f_X1_isNumbers_2] at h
    refine z_iload_n fx dX1_isNumbers_2 rfl ?_
    refine z_aload_n fx dX1_isNumbers_3 rfl ?_
    refine gR_size fx b0 wf_X1_15 dX1_isNumbers_4 ?_
    refine z_icmp_ge (tgt := 38) fx dX1_isNumbers_7 (by decide) (fun q1 => ?_) (fun q1 => ?_)
    · rw [if_pos q1] at h
      refine z_iconst (v := 1) fx dX1_isNumbers_38 rfl ?_
      cases h
      exact z_zret fx rfl hr dX1_isNumbers_39
    · rw [if_neg q1] at h
      refine z_aload_n fx dX1_isNumbers_10 rfl ?_
      refine gR_ints fx b0 wf_X1_9 dX1_isNumbers_11 ?_
      refine z_iload_n fx dX1_isNumbers_14 rfl ?_
      obtain ⟨q2, h⟩ := oi h
      refine x_ild fx (bR1 b0) (cfX_Ri g ad b0) q2 dX1_isNumbers_15 ?_
      refine z_iconst (v := (-1)) fx dX1_isNumbers_16 rfl ?_
      refine z_icmp_lt (tgt := 30) fx dX1_isNumbers_17 (by decide) (fun q3 => ?_) (fun q3 => ?_)
      · rw [if_pos q3] at h
        refine z_iconst (v := 0) fx dX1_isNumbers_30 rfl ?_
        cases h
        exact z_zret fx rfl hr dX1_isNumbers_31
      · rw [if_neg q3] at h
        refine z_aload_n fx dX1_isNumbers_20 rfl ?_
        refine gR_ints fx b0 wf_X1_9 dX1_isNumbers_21 ?_
        refine z_iload_n fx dX1_isNumbers_24 rfl ?_
        refine x_ild fx (bR1 b0) (cfX_Ri g ad b0) q2 dX1_isNumbers_25 ?_
        refine z_iconst (v := 1) fx dX1_isNumbers_26 rfl ?_
        refine z_icmp_le (tgt := 32) fx dX1_isNumbers_27 (by decide) (fun q4 => ?_) (fun q4 => ?_)
        · rw [if_pos q4] at h
          refine z_iinc (v := (a1 + 1)) fx dX1_isNumbers_32 rfl rfl (by decide) rfl ?_
          refine z_goto (tgt := 2) fx dX1_isNumbers_35 (by decide) ?_
          exact z_lv2 (ih n0 (a1 + 1) h b0) rfl
        · rw [if_neg q4] at h
          refine z_iconst (v := 0) fx dX1_isNumbers_30 rfl ?_
          cases h
          exact z_zret fx rfl hr dX1_isNumbers_31
set_option maxRecDepth 100000 in
set_option maxHeartbeats 4000000 in
theorem c_X1_isNumbers (l : Launch) (D : va_G) (ad : Nat → Nat) (g : Nat → ClassId) (n0 : Nat) (I : zMi) (J : zMl) (b0 : n0 < 6) {r : Int32} (h : f_X1_isNumbers n0 I = some r) : zCM (xw D ad g) l yX1_isNumbers cX1_isNumbers 2 (some .boolean) rmX1_isNumbers [.ref (ad (10 + 2 * n0))] I J (some (.int r)) I J := by
  refine zCM.of (by decide) (Nat.le_of_ble_eq_true rfl) (fun E hl hR fx hr => ?_)
  subst hl
  rw [f_X1_isNumbers] at h
  refine z_iconst (v := 0) fx dX1_isNumbers_0 rfl ?_
  refine z_istore_n fx dX1_isNumbers_1 (by decide) rfl ?_
  exact z_lv2 (w_X1_isNumbers_2 fx hR hr fu n0 0 h b0) rfl
set_option maxRecDepth 100000 in
set_option maxHeartbeats 4000000 in
theorem w_X1_isSigns_2 {E : zE} {D : va_G} {ad : Nat → Nat} {g : Nat → ClassId} (fx : zFX E (xw D ad g) cX1_isSigns RX1 2 (some .boolean)) (hR : zR E = rmX1_isSigns) {r : Int32} {I : zMi} {J : zMl} (hr : zRX E (xw D ad g) (some (.int r)) I J) : ∀ (fuel : Nat) (n0 : Nat) (a1 : Int32), f_X1_isSigns_2 I fuel n0 a1 = some r → n0 < 6 → zAt E (xw D ad g) 2 [(0, .ref (ad (10 + 2 * n0))), (1, .int a1)] [] I J := by
  intro fuel
  induction fuel with
  | zero => intro n0 a1 h b0; rw [f_X1_isSigns_2] at h; cases h
  | succ f ih =>
    intro n0 a1 h b0
    rw [f_X1_isSigns_2] at h
    refine z_iload_n fx dX1_isSigns_2 rfl ?_
    refine z_aload_n fx dX1_isSigns_3 rfl ?_
    refine gR_size fx b0 wf_X1_15 dX1_isSigns_4 ?_
    refine z_icmp_ge (tgt := 38) fx dX1_isSigns_7 (by decide) (fun q1 => ?_) (fun q1 => ?_)
    · rw [if_pos q1] at h
      refine z_iconst (v := 1) fx dX1_isSigns_38 rfl ?_
      cases h
      exact z_zret fx rfl hr dX1_isSigns_39
    · rw [if_neg q1] at h
      refine z_aload_n fx dX1_isSigns_10 rfl ?_
      refine gR_ints fx b0 wf_X1_9 dX1_isSigns_11 ?_
      refine z_iload_n fx dX1_isSigns_14 rfl ?_
      obtain ⟨q2, h⟩ := oi h
      refine x_ild fx (bR1 b0) (cfX_Ri g ad b0) q2 dX1_isSigns_15 ?_
      refine z_iconst (v := 1) fx dX1_isSigns_16 rfl ?_
      refine z_icmp_eq (tgt := 32) fx dX1_isSigns_17 (by decide) (fun q3 => ?_) (fun q3 => ?_)
      · rw [if_pos q3] at h
        refine z_iinc (v := (a1 + 1)) fx dX1_isSigns_32 rfl rfl (by decide) rfl ?_
        refine z_goto (tgt := 2) fx dX1_isSigns_35 (by decide) ?_
        exact z_lv2 (ih n0 (a1 + 1) h b0) rfl
      · rw [if_neg q3] at h
        refine z_aload_n fx dX1_isSigns_20 rfl ?_
        refine gR_ints fx b0 wf_X1_9 dX1_isSigns_21 ?_
        refine z_iload_n fx dX1_isSigns_24 rfl ?_
        refine x_ild fx (bR1 b0) (cfX_Ri g ad b0) q2 dX1_isSigns_25 ?_
        refine z_iconst (v := (-1)) fx dX1_isSigns_26 rfl ?_
        refine z_icmp_eq (tgt := 32) fx dX1_isSigns_27 (by decide) (fun q4 => ?_) (fun q4 => ?_)
        · rw [if_pos q4] at h
          refine z_iinc (v := (a1 + 1)) fx dX1_isSigns_32 rfl rfl (by decide) rfl ?_
          refine z_goto (tgt := 2) fx dX1_isSigns_35 (by decide) ?_
          exact z_lv2 (ih n0 (a1 + 1) h b0) rfl
        · rw [if_neg q4] at h
          refine z_iconst (v := 0) fx dX1_isSigns_30 rfl ?_
          cases h
          exact z_zret fx rfl hr dX1_isSigns_31
set_option maxRecDepth 100000 in
set_option maxHeartbeats 4000000 in
theorem c_X1_isSigns (l : Launch) (D : va_G) (ad : Nat → Nat) (g : Nat → ClassId) (n0 : Nat) (I : zMi) (J : zMl) (b0 : n0 < 6) {r : Int32} (h : f_X1_isSigns n0 I = some r) : zCM (xw D ad g) l yX1_isSigns cX1_isSigns 2 (some .boolean) rmX1_isSigns [.ref (ad (10 + 2 * n0))] I J (some (.int r)) I J := by
  refine zCM.of (by decide) (Nat.le_of_ble_eq_true rfl) (fun E hl hR fx hr => ?_)
  subst hl
  rw [f_X1_isSigns] at h
  refine z_iconst (v := 0) fx dX1_isSigns_0 rfl ?_
  refine z_istore_n fx dX1_isSigns_1 (by decide) rfl ?_
  exact z_lv2 (w_X1_isSigns_2 fx hR hr fu n0 0 h b0) rfl
set_option maxRecDepth 100000 in
set_option maxHeartbeats 4000000 in
theorem w_X1_isSignsBothWays_2 {E : zE} {D : va_G} {ad : Nat → Nat} {g : Nat → ClassId} (fx : zFX E (xw D ad g) cX1_isSignsBothWays RX1 2 (some .boolean)) (hR : zR E = rmX1_isSignsBothWays) {r : Int32} {I : zMi} {J : zMl} (hr : zRX E (xw D ad g) (some (.int r)) I J) : ∀ (fuel : Nat) (n0 : Nat) (a1 : Int32), f_X1_isSignsBothWays_2 I fuel n0 a1 = some r → n0 < 6 → zAt E (xw D ad g) 2 [(0, .ref (ad (10 + 2 * n0))), (1, .int a1)] [] I J := by
  intro fuel
  induction fuel with
  | zero => intro n0 a1 h b0; rw [f_X1_isSignsBothWays_2] at h; cases h
  | succ f ih =>
    intro n0 a1 h b0
    rw [f_X1_isSignsBothWays_2] at h
    refine z_iload_n fx dX1_isSignsBothWays_2 rfl ?_
    refine z_aload_n fx dX1_isSignsBothWays_3 rfl ?_
    refine gR_size fx b0 wf_X1_15 dX1_isSignsBothWays_4 ?_
    refine z_icmp_ge (tgt := 38) fx dX1_isSignsBothWays_7 (by decide) (fun q1 => ?_) (fun q1 => ?_)
    · rw [if_pos q1] at h
      refine z_aload_n fx dX1_isSignsBothWays_38 rfl ?_
      obtain ⟨x2, ex2, h⟩ := ob h
      refine zVi (k := 10 + 2 * n0) (rest := []) fx hR (c_X1_isSigns (zl E) D ad g n0 I J b0 ex2) (rcR b0) mvX1_isSigns wm_X1_19 dX1_isSignsBothWays_39 rfl ⟨rfl, rfl⟩ rfl rfl rfl ?_
      cases h
      exact z_zret fx (bz_X1_isSigns ex2) hr dX1_isSignsBothWays_42
    · rw [if_neg q1] at h
      refine z_aload_n fx dX1_isSignsBothWays_10 rfl ?_
      refine gR_ints fx b0 wf_X1_9 dX1_isSignsBothWays_11 ?_
      refine z_iload_n fx dX1_isSignsBothWays_14 rfl ?_
      obtain ⟨q3, h⟩ := oi h
      refine x_ild fx (bR1 b0) (cfX_Ri g ad b0) q3 dX1_isSignsBothWays_15 ?_
      refine z_aload_n fx dX1_isSignsBothWays_16 rfl ?_
      refine gR_ints fx b0 wf_X1_9 dX1_isSignsBothWays_17 ?_
      refine z_aload_n fx dX1_isSignsBothWays_20 rfl ?_
      refine gR_size fx b0 wf_X1_15 dX1_isSignsBothWays_21 ?_
      refine z_iload_n fx dX1_isSignsBothWays_24 rfl ?_
      refine z_isub fx dX1_isSignsBothWays_25 ?_
      obtain ⟨q4, h⟩ := oi h
      refine x_ild fx (bR1 b0) (cfX_Ri g ad b0) q4 dX1_isSignsBothWays_26 ?_
      refine z_icmp_eq (tgt := 32) fx dX1_isSignsBothWays_27 (by decide) (fun q5 => ?_) (fun q5 => ?_)
      · rw [if_pos q5] at h
        refine z_iinc (v := (a1 + 1)) fx dX1_isSignsBothWays_32 rfl rfl (by decide) rfl ?_
        refine z_goto (tgt := 2) fx dX1_isSignsBothWays_35 (by decide) ?_
        exact z_lv2 (ih n0 (a1 + 1) h b0) rfl
      · rw [if_neg q5] at h
        refine z_iconst (v := 0) fx dX1_isSignsBothWays_30 rfl ?_
        cases h
        exact z_zret fx rfl hr dX1_isSignsBothWays_31
set_option maxRecDepth 100000 in
set_option maxHeartbeats 4000000 in
theorem c_X1_isSignsBothWays (l : Launch) (D : va_G) (ad : Nat → Nat) (g : Nat → ClassId) (n0 : Nat) (I : zMi) (J : zMl) (b0 : n0 < 6) {r : Int32} (h : f_X1_isSignsBothWays n0 I = some r) : zCM (xw D ad g) l yX1_isSignsBothWays cX1_isSignsBothWays 2 (some .boolean) rmX1_isSignsBothWays [.ref (ad (10 + 2 * n0))] I J (some (.int r)) I J := by
  refine zCM.of (by decide) (Nat.le_of_ble_eq_true rfl) (fun E hl hR fx hr => ?_)
  subst hl
  rw [f_X1_isSignsBothWays] at h
  refine z_iconst (v := 1) fx dX1_isSignsBothWays_0 rfl ?_
  refine z_istore_n fx dX1_isSignsBothWays_1 (by decide) rfl ?_
  exact z_lv2 (w_X1_isSignsBothWays_2 fx hR hr fu n0 1 h b0) rfl
set_option maxRecDepth 100000 in
set_option maxHeartbeats 4000000 in
theorem w_X1_minusBits_4 {E : zE} {D : va_G} {ad : Nat → Nat} {g : Nat → ClassId} (fx : zFX E (xw D ad g) cX1_minusBits RX1 3 (some .int)) (hR : zR E = rmX1_minusBits) {r : Int32} {I : zMi} {J : zMl} (hr : zRX E (xw D ad g) (some (.int r)) I J) : ∀ (fuel : Nat) (n0 : Nat) (a1 : Int32) (a2 : Int32), f_X1_minusBits_4 I fuel n0 a1 a2 = some r → n0 < 6 → zAt E (xw D ad g) 4 [(0, .ref (ad (10 + 2 * n0))), (1, .int a1), (2, .int a2)] [] I J := by
  intro fuel
  induction fuel with
  | zero => intro n0 a1 a2 h b0; rw [f_X1_minusBits_4] at h; cases h
  | succ f ih =>
    intro n0 a1 a2 h b0
    rw [f_X1_minusBits_4] at h
    refine z_iload_n fx dX1_minusBits_4 rfl ?_
    refine z_aload_n fx dX1_minusBits_5 rfl ?_
    refine gR_size fx b0 wf_X1_15 dX1_minusBits_6 ?_
    refine z_icmp_ge (tgt := 33) fx dX1_minusBits_9 (by decide) (fun q1 => ?_) (fun q1 => ?_)
    · rw [if_pos q1] at h
      refine z_iload_n fx dX1_minusBits_33 rfl ?_
      cases h
      exact z_iret fx hr dX1_minusBits_34
    · rw [if_neg q1] at h
      refine z_aload_n fx dX1_minusBits_12 rfl ?_
      refine gR_ints fx b0 wf_X1_9 dX1_minusBits_13 ?_
      refine z_iload_n fx dX1_minusBits_16 rfl ?_
      obtain ⟨q2, h⟩ := oi h
      refine x_ild fx (bR1 b0) (cfX_Ri g ad b0) q2 dX1_minusBits_17 ?_
      refine z_if_ge (tgt := 27) fx dX1_minusBits_18 (by decide) (fun q3 => ?_) (fun q3 => ?_)
      · rw [if_pos q3] at h
        refine z_iinc (v := (a2 + 1)) fx dX1_minusBits_27 rfl rfl (by decide) rfl ?_
        refine z_goto (tgt := 4) fx dX1_minusBits_30 (by decide) ?_
        exact z_lv2 (ih n0 a1 (a2 + 1) h b0) rfl
      · rw [if_neg q3] at h
        refine z_iload_n fx dX1_minusBits_21 rfl ?_
        refine z_iconst (v := 1) fx dX1_minusBits_22 rfl ?_
        refine z_iload_n fx dX1_minusBits_23 rfl ?_
        refine z_ishl fx dX1_minusBits_24 ?_
        refine z_ior fx dX1_minusBits_25 ?_
        refine z_istore_n fx dX1_minusBits_26 (by decide) rfl ?_
        refine z_iinc (v := (a2 + 1)) fx dX1_minusBits_27 rfl rfl (by decide) rfl ?_
        refine z_goto (tgt := 4) fx dX1_minusBits_30 (by decide) ?_
        exact z_lv2 (ih n0 (a1 ||| ((1 : Int32) <<< (a2 &&& 31))) (a2 + 1) h b0) rfl
set_option maxRecDepth 100000 in
set_option maxHeartbeats 4000000 in
theorem c_X1_minusBits (l : Launch) (D : va_G) (ad : Nat → Nat) (g : Nat → ClassId) (n0 : Nat) (I : zMi) (J : zMl) (b0 : n0 < 6) {r : Int32} (h : f_X1_minusBits n0 I = some r) : zCM (xw D ad g) l yX1_minusBits cX1_minusBits 3 (some .int) rmX1_minusBits [.ref (ad (10 + 2 * n0))] I J (some (.int r)) I J := by
  refine zCM.of (by decide) (Nat.le_of_ble_eq_true rfl) (fun E hl hR fx hr => ?_)
  subst hl
  rw [f_X1_minusBits] at h
  refine z_iconst (v := 0) fx dX1_minusBits_0 rfl ?_
  refine z_istore_n fx dX1_minusBits_1 (by decide) rfl ?_
  refine z_iconst (v := 0) fx dX1_minusBits_2 rfl ?_
  refine z_istore_n fx dX1_minusBits_3 (by decide) rfl ?_
  exact z_lv2 (w_X1_minusBits_4 fx hR hr fu n0 0 0 h b0) rfl
set_option maxRecDepth 100000 in
set_option maxHeartbeats 4000000 in
theorem w_X1_addedTo_15 {E : zE} {D : va_G} {ad : Nat → Nat} {g : Nat → ClassId} (fx : zFX E (xw D ad g) cX1_addedTo RX1 6 (some .long)) (hR : zR E = rmX1_addedTo) {r : Int64} {I : zMi} {J : zMl} (hr : zRX E (xw D ad g) (some (.long r)) I J) : ∀ (fuel : Nat) (n0 : Nat) (a3 : Int64) (a5 : Int32), f_X1_addedTo_15 I fuel n0 a3 a5 = some r → n0 < 6 → zAt E (xw D ad g) 15 [(0, .ref (ad (10 + 2 * n0))), (3, .long a3), (5, .int a5)] [] I J := by
  intro fuel
  induction fuel with
  | zero => intro n0 a3 a5 h b0; rw [f_X1_addedTo_15] at h; cases h
  | succ f ih =>
    intro n0 a3 a5 h b0
    rw [f_X1_addedTo_15] at h
    refine z_iload fx dX1_addedTo_15 rfl ?_
    refine z_aload_n fx dX1_addedTo_17 rfl ?_
    refine gR_size fx b0 wf_X1_15 dX1_addedTo_18 ?_
    refine z_icmp_ge (tgt := 45) fx dX1_addedTo_21 (by decide) (fun q1 => ?_) (fun q1 => ?_)
    · rw [if_pos q1] at h
      refine z_lload_n fx dX1_addedTo_45 rfl ?_
      cases h
      exact z_lret fx hr dX1_addedTo_46
    · rw [if_neg q1] at h
      refine z_ldc2 fx wc_X1_23 dX1_addedTo_24 ?_
      refine z_lload_n fx dX1_addedTo_27 rfl ?_
      refine z_lmul fx dX1_addedTo_28 ?_
      refine z_aload_n fx dX1_addedTo_29 rfl ?_
      refine gR_ints fx b0 wf_X1_9 dX1_addedTo_30 ?_
      refine z_iload fx dX1_addedTo_33 rfl ?_
      obtain ⟨q2, h⟩ := oi h
      refine x_ild fx (bR1 b0) (cfX_Ri g ad b0) q2 dX1_addedTo_35 ?_
      refine z_i2l fx dX1_addedTo_36 ?_
      refine z_ladd fx dX1_addedTo_37 ?_
      refine z_lstore_n fx dX1_addedTo_38 (by decide) rfl ?_
      refine z_iinc (v := (a5 + 1)) fx dX1_addedTo_39 rfl rfl (by decide) rfl ?_
      refine z_goto (tgt := 15) fx dX1_addedTo_42 (by decide) ?_
      exact z_lv2 (ih n0 ((31 * a3) + ((I (11 + 2 * n0) a5.toNatClampNeg).toInt64)) (a5 + 1) h b0) rfl
set_option maxRecDepth 100000 in
set_option maxHeartbeats 4000000 in
theorem c_X1_addedTo (l : Launch) (D : va_G) (ad : Nat → Nat) (g : Nat → ClassId) (n0 : Nat) (a1 : Int64) (I : zMi) (J : zMl) (b0 : n0 < 6) {r : Int64} (h : f_X1_addedTo n0 a1 I = some r) : zCM (xw D ad g) l yX1_addedTo cX1_addedTo 6 (some .long) rmX1_addedTo [.ref (ad (10 + 2 * n0)), .long a1] I J (some (.long r)) I J := by
  refine zCM.of (by decide) (Nat.le_of_ble_eq_true rfl) (fun E hl hR fx hr => ?_)
  subst hl
  rw [f_X1_addedTo] at h
  refine z_ldc2 fx wc_X1_23 dX1_addedTo_0 ?_
  refine z_lload_n fx dX1_addedTo_3 rfl ?_
  refine z_lmul fx dX1_addedTo_4 ?_
  refine z_aload_n fx dX1_addedTo_5 rfl ?_
  refine gR_size fx b0 wf_X1_15 dX1_addedTo_6 ?_
  refine z_i2l fx dX1_addedTo_9 ?_
  refine z_ladd fx dX1_addedTo_10 ?_
  refine z_lstore_n fx dX1_addedTo_11 (by decide) rfl ?_
  refine z_iconst (v := 0) fx dX1_addedTo_12 rfl ?_
  refine z_istore fx dX1_addedTo_13 (by decide) rfl ?_
  exact z_lv2 (w_X1_addedTo_15 fx hR hr fu n0 ((31 * a1) + ((I (10 + 2 * n0) 1).toInt64)) 0 h b0) rfl
set_option maxRecDepth 100000 in
set_option maxHeartbeats 4000000 in
theorem c_X2_isMissing (l : Launch) (D : va_G) (ad : Nat → Nat) (g : Nat → ClassId) (n0 : Nat) (I : zMi) (J : zMl) (b0 : n0 < 12) {r : Int32} (h : f_X2_isMissing n0 I = r) : zCM (xw D ad g) l yX2_isMissing cX2_isMissing 1 (some .boolean) rmX2_isMissing [.ref (ad (22 + 3 * n0))] I J (some (.int r)) I J := by
  refine zCM.of (by decide) (Nat.le_of_ble_eq_true rfl) (fun E hl hR fx hr => ?_)
  subst hl
  rw [f_X2_isMissing] at h
  refine z_aload_n fx dX2_isMissing_0 rfl ?_
  refine gT_n fx b0 wf_X2_18 dX2_isMissing_1 ?_
  refine z_if_ne (tgt := 11) fx dX2_isMissing_4 (by decide) (fun q1 => ?_) (fun q1 => ?_)
  · rw [if_neg q1] at h
    refine z_iconst (v := 0) fx dX2_isMissing_11 rfl ?_
    subst h
    exact z_zret fx rfl hr dX2_isMissing_12
  · rw [if_pos q1] at h
    refine z_iconst (v := 1) fx dX2_isMissing_7 rfl ?_
    refine z_goto (tgt := 12) fx dX2_isMissing_8 (by decide) ?_
    subst h
    exact z_zret fx rfl hr dX2_isMissing_12
set_option maxRecDepth 100000 in
set_option maxHeartbeats 4000000 in
theorem c_X2_end (l : Launch) (D : va_G) (ad : Nat → Nat) (g : Nat → ClassId) (n0 : Nat) (I : zMi) (J : zMl) (b0 : n0 < 12) {r : zMi} (h : f_X2_end n0 I = r) : zCM (xw D ad g) l yX2_end cX2_end 1 none rmX2_end [.ref (ad (22 + 3 * n0))] I J none r J := by
  refine zCM.of (by decide) (Nat.le_of_ble_eq_true rfl) (fun E hl hR fx hr => ?_)
  subst hl
  rw [f_X2_end] at h
  refine z_aload_n fx dX2_end_0 rfl ?_
  refine z_iconst (v := 0) fx dX2_end_1 rfl ?_
  refine pT_n fx b0 wf_X2_18 dX2_end_2 ?_
  refine z_aload_n fx dX2_end_5 rfl ?_
  refine z_iconst (v := 0) fx dX2_end_6 rfl ?_
  refine pT_kind fx b0 wf_X2_22 dX2_end_7 ?_
  subst h
  exact z_vret fx hr dX2_end_10
set_option maxRecDepth 100000 in
set_option maxHeartbeats 4000000 in
theorem c_X3_allBits (l : Launch) (D : va_G) (ad : Nat → Nat) (g : Nat → ClassId) (a0 : Int32) (I : zMi) (J : zMl) {r : Int32} (h : f_X3_allBits a0 = r) : zCM (xw D ad g) l yX3_allBits cX3_allBits 1 (some .int) rmX3_allBits [.int a0] I J (some (.int r)) I J := by
  refine zCM.of (by decide) (Nat.le_of_ble_eq_true rfl) (fun E hl hR fx hr => ?_)
  subst hl
  rw [f_X3_allBits] at h
  refine z_iconst (v := 1) fx dX3_allBits_0 rfl ?_
  refine z_iload_n fx dX3_allBits_1 rfl ?_
  refine z_ishl fx dX3_allBits_2 ?_
  refine z_iconst (v := 1) fx dX3_allBits_3 rfl ?_
  refine z_isub fx dX3_allBits_4 ?_
  subst h
  exact z_iret fx hr dX3_allBits_5
set_option maxRecDepth 100000 in
set_option maxHeartbeats 4000000 in
theorem w_X2_begin_7 {E : zE} {D : va_G} {ad : Nat → Nat} {g : Nat → ClassId} (fx : zFX E (xw D ad g) cX2_begin RX2 3 none) (hR : zR E = rmX2_begin) {r : zMi} {J : zMl} (hr : zRX E (xw D ad g) none r J) : ∀ (fuel : Nat) (n0 : Nat) (a2 : Int32) (I : zMi) , f_X2_begin_7 fuel n0 a2 I = some r → n0 < 12 → zAt E (xw D ad g) 7 [(0, .ref (ad (22 + 3 * n0))), (2, .int a2)] [] I J := by
  intro fuel
  induction fuel with
  | zero => intro n0 a2 I h b0; rw [f_X2_begin_7] at h; cases h
  | succ f ih =>
    intro n0 a2 I h b0
    rw [f_X2_begin_7] at h
    refine z_iload_n fx dX2_begin_7 rfl ?_
    refine z_aload_n fx dX2_begin_8 rfl ?_
    refine gT_n fx b0 wf_X2_18 dX2_begin_9 ?_
    refine z_icmp_ge (tgt := 41) fx dX2_begin_12 (by decide) (fun q1 => ?_) (fun q1 => ?_)
    · rw [if_pos q1] at h
      cases h
      exact z_vret fx hr dX2_begin_41
    · rw [if_neg q1] at h
      refine z_aload_n fx dX2_begin_15 rfl ?_
      refine gT_plus fx b0 wf_X2_9 dX2_begin_16 ?_
      refine z_iload_n fx dX2_begin_19 rfl ?_
      refine z_aload_n fx dX2_begin_20 rfl ?_
      refine gT_n fx b0 wf_X2_18 dX2_begin_21 ?_
      refine zNi (rest := [.int a2, .ref (ad (23 + 3 * n0))]) (host := RX3) fx hR (c_X3_allBits (zl E) D ad g (I (22 + 3 * n0) 2) I J rfl) mvX3_allBits fx.2.2.2.2.2.1.2.2.1 dX2_begin_24 rfl ⟨rfl, rfl⟩ rfl rfl rfl ?_
      obtain ⟨q2, h⟩ := oi h
      refine x_ist fx (bT1 b0) (cfX_Tp g ad b0) q2 dX2_begin_27 ?_
      refine z_aload_n fx dX2_begin_28 rfl ?_
      refine gT_minus fx b0 wf_X2_15 dX2_begin_29 ?_
      refine z_iload_n fx dX2_begin_32 rfl ?_
      refine z_iconst (v := 0) fx dX2_begin_33 rfl ?_
      refine x_ist fx (bT2 b0) (cfX_Tm g ad b0) q2 dX2_begin_34 ?_
      refine z_iinc (v := (a2 + 1)) fx dX2_begin_35 rfl rfl (by decide) rfl ?_
      refine z_goto (tgt := 7) fx dX2_begin_38 (by decide) ?_
      exact z_lv2 (ih n0 (a2 + 1) (wI (wI I (23 + 3 * n0) a2.toNatClampNeg (f_X3_allBits (I (22 + 3 * n0) 2))) (24 + 3 * n0) a2.toNatClampNeg 0) h b0) rfl
set_option maxRecDepth 100000 in
set_option maxHeartbeats 4000000 in
theorem c_X2_begin (l : Launch) (D : va_G) (ad : Nat → Nat) (g : Nat → ClassId) (n0 : Nat) (a1 : Int32) (I : zMi) (J : zMl) (b0 : n0 < 12) {r : zMi} (h : f_X2_begin n0 a1 I = some r) : zCM (xw D ad g) l yX2_begin cX2_begin 3 none rmX2_begin [.ref (ad (22 + 3 * n0)), .int a1] I J none r J := by
  refine zCM.of (by decide) (Nat.le_of_ble_eq_true rfl) (fun E hl hR fx hr => ?_)
  subst hl
  rw [f_X2_begin] at h
  refine z_aload_n fx dX2_begin_0 rfl ?_
  refine z_iload_n fx dX2_begin_1 rfl ?_
  refine pT_n fx b0 wf_X2_18 dX2_begin_2 ?_
  refine z_iconst (v := 0) fx dX2_begin_5 rfl ?_
  refine z_istore_n fx dX2_begin_6 (by decide) rfl ?_
  exact z_lv2 (w_X2_begin_7 fx hR hr fu n0 0 (wI I (22 + 3 * n0) 2 a1) h b0) rfl
set_option maxRecDepth 100000 in
set_option maxHeartbeats 4000000 in
theorem w_X2_take_10 {E : zE} {D : va_G} {ad : Nat → Nat} {g : Nat → ClassId} (fx : zFX E (xw D ad g) cX2_take RX2 3 none) (hR : zR E = rmX2_take) {r : zMi} {J : zMl} (hr : zRX E (xw D ad g) none r J) : ∀ (fuel : Nat) (n0 : Nat) (n1 : Nat) (a2 : Int32) (I : zMi) , f_X2_take_10 fuel n0 n1 a2 I = some r → n0 < 12 → n1 < 12 → zAt E (xw D ad g) 10 [(0, .ref (ad (22 + 3 * n0))), (1, .ref (ad (22 + 3 * n1))), (2, .int a2)] [] I J := by
  intro fuel
  induction fuel with
  | zero => intro n0 n1 a2 I h b0 b1; rw [f_X2_take_10] at h; cases h
  | succ f ih =>
    intro n0 n1 a2 I h b0 b1
    rw [f_X2_take_10] at h
    refine z_iload_n fx dX2_take_10 rfl ?_
    refine z_aload_n fx dX2_take_11 rfl ?_
    refine gT_n fx b0 wf_X2_18 dX2_take_12 ?_
    refine z_icmp_ge (tgt := 48) fx dX2_take_15 (by decide) (fun q1 => ?_) (fun q1 => ?_)
    · rw [if_pos q1] at h
      cases h
      exact z_vret fx hr dX2_take_48
    · rw [if_neg q1] at h
      refine z_aload_n fx dX2_take_18 rfl ?_
      refine gT_plus fx b0 wf_X2_9 dX2_take_19 ?_
      refine z_iload_n fx dX2_take_22 rfl ?_
      refine z_aload_n fx dX2_take_23 rfl ?_
      refine gT_plus fx b1 wf_X2_9 dX2_take_24 ?_
      refine z_iload_n fx dX2_take_27 rfl ?_
      obtain ⟨q2, h⟩ := oi h
      refine x_ild fx (bT1 b1) (cfX_Tp g ad b1) q2 dX2_take_28 ?_
      refine x_ist fx (bT1 b0) (cfX_Tp g ad b0) q2 dX2_take_29 ?_
      refine z_aload_n fx dX2_take_30 rfl ?_
      refine gT_minus fx b0 wf_X2_15 dX2_take_31 ?_
      refine z_iload_n fx dX2_take_34 rfl ?_
      refine z_aload_n fx dX2_take_35 rfl ?_
      refine gT_minus fx b1 wf_X2_15 dX2_take_36 ?_
      refine z_iload_n fx dX2_take_39 rfl ?_
      refine x_ild fx (bT2 b1) (cfX_Tm g ad b1) q2 dX2_take_40 ?_
      refine x_ist fx (bT2 b0) (cfX_Tm g ad b0) q2 dX2_take_41 ?_
      refine z_iinc (v := (a2 + 1)) fx dX2_take_42 rfl rfl (by decide) rfl ?_
      refine z_goto (tgt := 10) fx dX2_take_45 (by decide) ?_
      exact z_lv2 (ih n0 n1 (a2 + 1) (wI (wI I (23 + 3 * n0) a2.toNatClampNeg (I (23 + 3 * n1) a2.toNatClampNeg)) (24 + 3 * n0) a2.toNatClampNeg ((wI I (23 + 3 * n0) a2.toNatClampNeg (I (23 + 3 * n1) a2.toNatClampNeg)) (24 + 3 * n1) a2.toNatClampNeg)) h b0 b1) rfl
set_option maxRecDepth 100000 in
set_option maxHeartbeats 4000000 in
theorem c_X2_take (l : Launch) (D : va_G) (ad : Nat → Nat) (g : Nat → ClassId) (n0 : Nat) (n1 : Nat) (I : zMi) (J : zMl) (b0 : n0 < 12) (b1 : n1 < 12) {r : zMi} (h : f_X2_take n0 n1 I = some r) : zCM (xw D ad g) l yX2_take cX2_take 3 none rmX2_take [.ref (ad (22 + 3 * n0)), .ref (ad (22 + 3 * n1))] I J none r J := by
  refine zCM.of (by decide) (Nat.le_of_ble_eq_true rfl) (fun E hl hR fx hr => ?_)
  subst hl
  rw [f_X2_take] at h
  refine z_aload_n fx dX2_take_0 rfl ?_
  refine z_aload_n fx dX2_take_1 rfl ?_
  refine gT_n fx b1 wf_X2_18 dX2_take_2 ?_
  refine pT_n fx b0 wf_X2_18 dX2_take_5 ?_
  refine z_iconst (v := 0) fx dX2_take_8 rfl ?_
  refine z_istore_n fx dX2_take_9 (by decide) rfl ?_
  exact z_lv2 (w_X2_take_10 fx hR hr fu n0 n1 0 (wI I (22 + 3 * n0) 2 (I (22 + 3 * n1) 2)) h b0 b1) rfl
set_option maxRecDepth 100000 in
set_option maxHeartbeats 4000000 in
theorem c_X2_hasLine (l : Launch) (D : va_G) (ad : Nat → Nat) (g : Nat → ClassId) (n0 : Nat) (a1 : Int32) (I : zMi) (J : zMl) (b0 : n0 < 12) {r : Int32} (h : f_X2_hasLine n0 a1 I = r) : zCM (xw D ad g) l yX2_hasLine cX2_hasLine 2 (some .boolean) rmX2_hasLine [.ref (ad (22 + 3 * n0)), .int a1] I J (some (.int r)) I J := by
  refine zCM.of (by decide) (Nat.le_of_ble_eq_true rfl) (fun E hl hR fx hr => ?_)
  subst hl
  rw [f_X2_hasLine] at h
  refine z_iload_n fx dX2_hasLine_0 rfl ?_
  refine z_if_lt (tgt := 16) fx dX2_hasLine_1 (by decide) (fun q1 => ?_) (fun q1 => ?_)
  · rw [if_pos q1] at h
    refine z_iconst (v := 0) fx dX2_hasLine_16 rfl ?_
    subst h
    exact z_zret fx rfl hr dX2_hasLine_17
  · rw [if_neg q1] at h
    refine z_iload_n fx dX2_hasLine_4 rfl ?_
    refine z_aload_n fx dX2_hasLine_5 rfl ?_
    refine gT_n fx b0 wf_X2_18 dX2_hasLine_6 ?_
    refine z_icmp_ge (tgt := 16) fx dX2_hasLine_9 (by decide) (fun q2 => ?_) (fun q2 => ?_)
    · rw [if_pos q2] at h
      refine z_iconst (v := 0) fx dX2_hasLine_16 rfl ?_
      subst h
      exact z_zret fx rfl hr dX2_hasLine_17
    · rw [if_neg q2] at h
      refine z_iconst (v := 1) fx dX2_hasLine_12 rfl ?_
      refine z_goto (tgt := 17) fx dX2_hasLine_13 (by decide) ?_
      subst h
      exact z_zret fx rfl hr dX2_hasLine_17
set_option maxRecDepth 100000 in
set_option maxHeartbeats 4000000 in
theorem c_X2_isBeyond (l : Launch) (D : va_G) (ad : Nat → Nat) (g : Nat → ClassId) (n0 : Nat) (a1 : Int32) (I : zMi) (J : zMl) (b0 : n0 < 12) {r : Int32} (h : f_X2_isBeyond n0 a1 I = r) : zCM (xw D ad g) l yX2_isBeyond cX2_isBeyond 2 (some .boolean) rmX2_isBeyond [.ref (ad (22 + 3 * n0)), .int a1] I J (some (.int r)) I J := by
  refine zCM.of (by decide) (Nat.le_of_ble_eq_true rfl) (fun E hl hR fx hr => ?_)
  subst hl
  rw [f_X2_isBeyond] at h
  refine z_iload_n fx dX2_isBeyond_0 rfl ?_
  refine z_aload_n fx dX2_isBeyond_1 rfl ?_
  refine gT_n fx b0 wf_X2_18 dX2_isBeyond_2 ?_
  refine zNi (rest := [.int a1]) (host := RX3) fx hR (c_X3_allBits (zl E) D ad g (I (22 + 3 * n0) 2) I J rfl) mvX3_allBits fx.2.2.2.2.2.1.2.2.1 dX2_isBeyond_5 rfl ⟨rfl, rfl⟩ rfl rfl rfl ?_
  refine z_iconst (v := (-1)) fx dX2_isBeyond_8 rfl ?_
  refine z_ixor fx dX2_isBeyond_9 ?_
  refine z_iand fx dX2_isBeyond_10 ?_
  refine z_if_eq (tgt := 18) fx dX2_isBeyond_11 (by decide) (fun q1 => ?_) (fun q1 => ?_)
  · rw [if_pos q1] at h
    refine z_iconst (v := 0) fx dX2_isBeyond_18 rfl ?_
    subst h
    exact z_zret fx rfl hr dX2_isBeyond_19
  · rw [if_neg q1] at h
    refine z_iconst (v := 1) fx dX2_isBeyond_14 rfl ?_
    refine z_goto (tgt := 19) fx dX2_isBeyond_15 (by decide) ?_
    subst h
    exact z_zret fx rfl hr dX2_isBeyond_19
set_option maxRecDepth 100000 in
set_option maxHeartbeats 4000000 in
theorem w_X2_write_37 {E : zE} {D : va_G} {ad : Nat → Nat} {g : Nat → ClassId} (fx : zFX E (xw D ad g) cX2_write RX2 5 none) (hR : zR E = rmX2_write) {r : zMi} {J : zMl} (hr : zRX E (xw D ad g) none r J) : ∀ (n0 : Nat) (a1 : Int32) (a3 : Int32) (a4 : Int32) (s0 : Int32) (s1 : Int32) (I : zMi) , f_X2_write_37 n0 a1 a3 a4 s0 s1 I = some r → n0 < 12 → zAt E (xw D ad g) 37 [(0, .ref (ad (22 + 3 * n0))), (1, .int a1), (3, .int a3), (4, .int a4)] [.int s0, .int s1, .ref (ad (23 + 3 * n0))] I J := by
  intro n0 a1 a3 a4 s0 s1 I h b0
  rw [f_X2_write_37] at h
  obtain ⟨q1, h⟩ := oi h
  refine x_ist fx (bT1 b0) (cfX_Tp g ad b0) q1 dX2_write_37 ?_
  refine z_aload_n fx dX2_write_38 rfl ?_
  refine gT_minus fx b0 wf_X2_15 dX2_write_39 ?_
  refine z_iload_n fx dX2_write_42 rfl ?_
  refine z_iload_n fx dX2_write_43 rfl ?_
  refine z_if_ge (tgt := 59) fx dX2_write_44 (by decide) (fun q2 => ?_) (fun q2 => ?_)
  · rw [if_pos q2] at h
    refine z_aload_n fx dX2_write_59 rfl ?_
    refine gT_minus fx b0 wf_X2_15 dX2_write_60 ?_
    refine z_iload_n fx dX2_write_63 rfl ?_
    obtain ⟨q3, h⟩ := oi h
    refine x_ild fx (bT2 b0) (cfX_Tm g ad b0) q3 dX2_write_64 ?_
    refine z_iload fx dX2_write_65 rfl ?_
    refine z_iconst (v := (-1)) fx dX2_write_67 rfl ?_
    refine z_ixor fx dX2_write_68 ?_
    refine z_iand fx dX2_write_69 ?_
    refine x_ist fx (bT2 b0) (cfX_Tm g ad b0) q3 dX2_write_70 ?_
    cases h
    exact z_vret fx hr dX2_write_71
  · rw [if_neg q2] at h
    refine z_aload_n fx dX2_write_47 rfl ?_
    refine gT_minus fx b0 wf_X2_15 dX2_write_48 ?_
    refine z_iload_n fx dX2_write_51 rfl ?_
    obtain ⟨q4, h⟩ := oi h
    refine x_ild fx (bT2 b0) (cfX_Tm g ad b0) q4 dX2_write_52 ?_
    refine z_iload fx dX2_write_53 rfl ?_
    refine z_ior fx dX2_write_55 ?_
    refine z_goto (tgt := 70) fx dX2_write_56 (by decide) ?_
    refine x_ist fx (bT2 b0) (cfX_Tm g ad b0) q4 dX2_write_70 ?_
    cases h
    exact z_vret fx hr dX2_write_71
set_option maxRecDepth 100000 in
set_option maxHeartbeats 4000000 in
theorem c_X2_write (l : Launch) (D : va_G) (ad : Nat → Nat) (g : Nat → ClassId) (n0 : Nat) (a1 : Int32) (a2 : Int32) (a3 : Int32) (I : zMi) (J : zMl) (b0 : n0 < 12) {r : zMi} (h : f_X2_write n0 a1 a2 a3 I = some r) : zCM (xw D ad g) l yX2_write cX2_write 5 none rmX2_write [.ref (ad (22 + 3 * n0)), .int a1, .int a2, .int a3] I J none r J := by
  refine zCM.of (by decide) (Nat.le_of_ble_eq_true rfl) (fun E hl hR fx hr => ?_)
  subst hl
  rw [f_X2_write] at h
  refine z_iconst (v := 1) fx dX2_write_0 rfl ?_
  refine z_iload_n fx dX2_write_1 rfl ?_
  refine z_ishl fx dX2_write_2 ?_
  refine z_istore fx dX2_write_3 (by decide) rfl ?_
  refine z_aload_n fx dX2_write_5 rfl ?_
  refine gT_plus fx b0 wf_X2_9 dX2_write_6 ?_
  refine z_iload_n fx dX2_write_9 rfl ?_
  refine z_iload_n fx dX2_write_10 rfl ?_
  refine z_if_le (tgt := 26) fx dX2_write_11 (by decide) (fun q1 => ?_) (fun q1 => ?_)
  · rw [if_pos q1] at h
    refine z_aload_n fx dX2_write_26 rfl ?_
    refine gT_plus fx b0 wf_X2_9 dX2_write_27 ?_
    refine z_iload_n fx dX2_write_30 rfl ?_
    obtain ⟨q2, h⟩ := oi h
    refine x_ild fx (bT1 b0) (cfX_Tp g ad b0) q2 dX2_write_31 ?_
    refine z_iload fx dX2_write_32 rfl ?_
    refine z_iconst (v := (-1)) fx dX2_write_34 rfl ?_
    refine z_ixor fx dX2_write_35 ?_
    refine z_iand fx dX2_write_36 ?_
    exact z_lv2 (w_X2_write_37 fx hR hr n0 a1 a3 ((1 : Int32) <<< (a2 &&& 31)) ((I (23 + 3 * n0) a1.toNatClampNeg) &&& (((1 : Int32) <<< (a2 &&& 31)) ^^^ (-1))) a1 I h b0) rfl
  · rw [if_neg q1] at h
    refine z_aload_n fx dX2_write_14 rfl ?_
    refine gT_plus fx b0 wf_X2_9 dX2_write_15 ?_
    refine z_iload_n fx dX2_write_18 rfl ?_
    obtain ⟨q3, h⟩ := oi h
    refine x_ild fx (bT1 b0) (cfX_Tp g ad b0) q3 dX2_write_19 ?_
    refine z_iload fx dX2_write_20 rfl ?_
    refine z_ior fx dX2_write_22 ?_
    refine z_goto (tgt := 37) fx dX2_write_23 (by decide) ?_
    exact z_lv2 (w_X2_write_37 fx hR hr n0 a1 a3 ((1 : Int32) <<< (a2 &&& 31)) ((I (23 + 3 * n0) a1.toNatClampNeg) ||| ((1 : Int32) <<< (a2 &&& 31))) a1 I h b0) rfl
set_option maxRecDepth 100000 in
set_option maxHeartbeats 4000000 in
theorem w_X2_isSigns_2 {E : zE} {D : va_G} {ad : Nat → Nat} {g : Nat → ClassId} (fx : zFX E (xw D ad g) cX2_isSigns RX2 2 (some .boolean)) (hR : zR E = rmX2_isSigns) {r : Int32} {I : zMi} {J : zMl} (hr : zRX E (xw D ad g) (some (.int r)) I J) : ∀ (fuel : Nat) (n0 : Nat) (a1 : Int32), f_X2_isSigns_2 I fuel n0 a1 = some r → n0 < 12 → zAt E (xw D ad g) 2 [(0, .ref (ad (22 + 3 * n0))), (1, .int a1)] [] I J := by
  intro fuel
  induction fuel with
  | zero => intro n0 a1 h b0; rw [f_X2_isSigns_2] at h; cases h
  | succ f ih =>
    intro n0 a1 h b0
    rw [f_X2_isSigns_2] at h
    refine z_iload_n fx dX2_isSigns_2 rfl ?_
    refine z_aload_n fx dX2_isSigns_3 rfl ?_
    refine gT_n fx b0 wf_X2_18 dX2_isSigns_4 ?_
    refine z_icmp_ge (tgt := 41) fx dX2_isSigns_7 (by decide) (fun q1 => ?_) (fun q1 => ?_)
    · rw [if_pos q1] at h
      refine z_iconst (v := 1) fx dX2_isSigns_41 rfl ?_
      cases h
      exact z_zret fx rfl hr dX2_isSigns_42
    · rw [if_neg q1] at h
      refine z_aload_n fx dX2_isSigns_10 rfl ?_
      refine gT_plus fx b0 wf_X2_9 dX2_isSigns_11 ?_
      refine z_iload_n fx dX2_isSigns_14 rfl ?_
      obtain ⟨q2, h⟩ := oi h
      refine x_ild fx (bT1 b0) (cfX_Tp g ad b0) q2 dX2_isSigns_15 ?_
      refine z_aload_n fx dX2_isSigns_16 rfl ?_
      refine gT_minus fx b0 wf_X2_15 dX2_isSigns_17 ?_
      refine z_iload_n fx dX2_isSigns_20 rfl ?_
      refine x_ild fx (bT2 b0) (cfX_Tm g ad b0) q2 dX2_isSigns_21 ?_
      refine z_ior fx dX2_isSigns_22 ?_
      refine z_aload_n fx dX2_isSigns_23 rfl ?_
      refine gT_n fx b0 wf_X2_18 dX2_isSigns_24 ?_
      refine zNi (rest := [.int ((I (23 + 3 * n0) a1.toNatClampNeg) ||| (I (24 + 3 * n0) a1.toNatClampNeg))]) (host := RX3) fx hR (c_X3_allBits (zl E) D ad g (I (22 + 3 * n0) 2) I J rfl) mvX3_allBits fx.2.2.2.2.2.1.2.2.1 dX2_isSigns_27 rfl ⟨rfl, rfl⟩ rfl rfl rfl ?_
      refine z_icmp_eq (tgt := 35) fx dX2_isSigns_30 (by decide) (fun q3 => ?_) (fun q3 => ?_)
      · rw [if_pos q3] at h
        refine z_iinc (v := (a1 + 1)) fx dX2_isSigns_35 rfl rfl (by decide) rfl ?_
        refine z_goto (tgt := 2) fx dX2_isSigns_38 (by decide) ?_
        exact z_lv2 (ih n0 (a1 + 1) h b0) rfl
      · rw [if_neg q3] at h
        refine z_iconst (v := 0) fx dX2_isSigns_33 rfl ?_
        cases h
        exact z_zret fx rfl hr dX2_isSigns_34
set_option maxRecDepth 100000 in
set_option maxHeartbeats 4000000 in
theorem c_X2_isSigns (l : Launch) (D : va_G) (ad : Nat → Nat) (g : Nat → ClassId) (n0 : Nat) (I : zMi) (J : zMl) (b0 : n0 < 12) {r : Int32} (h : f_X2_isSigns n0 I = some r) : zCM (xw D ad g) l yX2_isSigns cX2_isSigns 2 (some .boolean) rmX2_isSigns [.ref (ad (22 + 3 * n0))] I J (some (.int r)) I J := by
  refine zCM.of (by decide) (Nat.le_of_ble_eq_true rfl) (fun E hl hR fx hr => ?_)
  subst hl
  rw [f_X2_isSigns] at h
  refine z_iconst (v := 0) fx dX2_isSigns_0 rfl ?_
  refine z_istore_n fx dX2_isSigns_1 (by decide) rfl ?_
  exact z_lv2 (w_X2_isSigns_2 fx hR hr fu n0 0 h b0) rfl
set_option maxRecDepth 100000 in
set_option maxHeartbeats 4000000 in
theorem c_J6_bitCount (l : Launch) (D : va_G) (ad : Nat → Nat) (g : Nat → ClassId) (a0 : Int32) (I : zMi) (J : zMl) {r : Int32} (h : f_J6_bitCount a0 = r) : zCM (xw D ad g) l yJ6_bitCount cJ6_bitCount 1 (some .int) rmJ6_bitCount [.int a0] I J (some (.int r)) I J := by
  refine zCM.of (by decide) (Nat.le_of_ble_eq_true rfl) (fun E hl hR fx hr => ?_)
  subst hl
  rw [f_J6_bitCount] at h
  refine z_iload_n fx dJ6_bitCount_0 rfl ?_
  refine z_iload_n fx dJ6_bitCount_1 rfl ?_
  refine z_iconst (v := 1) fx dJ6_bitCount_2 rfl ?_
  refine z_iushr fx dJ6_bitCount_3 ?_
  refine z_ldcw fx wc_J6_265 dJ6_bitCount_4 ?_
  refine z_iand fx dJ6_bitCount_7 ?_
  refine z_isub fx dJ6_bitCount_8 ?_
  refine z_istore_n fx dJ6_bitCount_9 (by decide) rfl ?_
  refine z_iload_n fx dJ6_bitCount_10 rfl ?_
  refine z_ldcw fx wc_J6_266 dJ6_bitCount_11 ?_
  refine z_iand fx dJ6_bitCount_14 ?_
  refine z_iload_n fx dJ6_bitCount_15 rfl ?_
  refine z_iconst (v := 2) fx dJ6_bitCount_16 rfl ?_
  refine z_iushr fx dJ6_bitCount_17 ?_
  refine z_ldcw fx wc_J6_266 dJ6_bitCount_18 ?_
  refine z_iand fx dJ6_bitCount_21 ?_
  refine z_iadd fx dJ6_bitCount_22 ?_
  refine z_istore_n fx dJ6_bitCount_23 (by decide) rfl ?_
  refine z_iload_n fx dJ6_bitCount_24 rfl ?_
  refine z_iload_n fx dJ6_bitCount_25 rfl ?_
  refine z_iconst (v := 4) fx dJ6_bitCount_26 rfl ?_
  refine z_iushr fx dJ6_bitCount_27 ?_
  refine z_iadd fx dJ6_bitCount_28 ?_
  refine z_ldcw fx wc_J6_267 dJ6_bitCount_29 ?_
  refine z_iand fx dJ6_bitCount_32 ?_
  refine z_istore_n fx dJ6_bitCount_33 (by decide) rfl ?_
  refine z_iload_n fx dJ6_bitCount_34 rfl ?_
  refine z_iload_n fx dJ6_bitCount_35 rfl ?_
  refine z_bipush (v := 8) fx dJ6_bitCount_36 rfl ?_
  refine z_iushr fx dJ6_bitCount_38 ?_
  refine z_iadd fx dJ6_bitCount_39 ?_
  refine z_istore_n fx dJ6_bitCount_40 (by decide) rfl ?_
  refine z_iload_n fx dJ6_bitCount_41 rfl ?_
  refine z_iload_n fx dJ6_bitCount_42 rfl ?_
  refine z_bipush (v := 16) fx dJ6_bitCount_43 rfl ?_
  refine z_iushr fx dJ6_bitCount_45 ?_
  refine z_iadd fx dJ6_bitCount_46 ?_
  refine z_istore_n fx dJ6_bitCount_47 (by decide) rfl ?_
  refine z_iload_n fx dJ6_bitCount_48 rfl ?_
  refine z_bipush (v := 63) fx dJ6_bitCount_49 rfl ?_
  refine z_iand fx dJ6_bitCount_51 ?_
  subst h
  exact z_iret fx hr dJ6_bitCount_52
set_option maxRecDepth 100000 in
set_option maxHeartbeats 4000000 in
theorem w_X2_balancedPairs_14 {E : zE} {D : va_G} {ad : Nat → Nat} {g : Nat → ClassId} (fx : zFX E (xw D ad g) cX2_balancedPairs RX2 6 (some .int)) (hR : zR E = rmX2_balancedPairs) {r : Int32} {I : zMi} {J : zMl} (hr : zRX E (xw D ad g) (some (.int r)) I J) {k4 : Nat → Int32 → Int32 → Option Int32} (hk4 : ∀ (n0 : Nat) (a1 : Int32) (a2 : Int32), k4 n0 a1 a2 = some r → n0 < 12 → zAt E (xw D ad g) 4 [(0, .ref (ad (22 + 3 * n0))), (1, .int a1), (2, .int a2)] [] I J) : ∀ (fuel : Nat) (n0 : Nat) (a1 : Int32) (a2 : Int32) (a3 : Int32), f_X2_balancedPairs_14 I k4 fuel n0 a1 a2 a3 = some r → n0 < 12 → zAt E (xw D ad g) 14 [(0, .ref (ad (22 + 3 * n0))), (1, .int a1), (2, .int a2), (3, .int a3)] [] I J := by
  intro fuel
  induction fuel with
  | zero => intro n0 a1 a2 a3 h b0; rw [f_X2_balancedPairs_14] at h; cases h
  | succ f ih =>
    intro n0 a1 a2 a3 h b0
    rw [f_X2_balancedPairs_14] at h
    refine z_iload_n fx dX2_balancedPairs_14 rfl ?_
    refine z_iload_n fx dX2_balancedPairs_15 rfl ?_
    refine z_icmp_ge (tgt := 99) fx dX2_balancedPairs_16 (by decide) (fun q1 => ?_) (fun q1 => ?_)
    · rw [if_pos q1] at h
      refine z_iinc (v := (a2 + 1)) fx dX2_balancedPairs_99 rfl rfl (by decide) rfl ?_
      refine z_goto (tgt := 4) fx dX2_balancedPairs_102 (by decide) ?_
      exact z_lv2 (hk4 n0 a1 (a2 + 1) h b0) rfl
    · rw [if_neg q1] at h
      refine z_aload_n fx dX2_balancedPairs_19 rfl ?_
      refine gT_plus fx b0 wf_X2_9 dX2_balancedPairs_20 ?_
      refine z_iload_n fx dX2_balancedPairs_23 rfl ?_
      obtain ⟨q2, h⟩ := oi h
      refine x_ild fx (bT1 b0) (cfX_Tp g ad b0) q2 dX2_balancedPairs_24 ?_
      refine z_aload_n fx dX2_balancedPairs_25 rfl ?_
      refine gT_plus fx b0 wf_X2_9 dX2_balancedPairs_26 ?_
      refine z_iload_n fx dX2_balancedPairs_29 rfl ?_
      obtain ⟨q3, h⟩ := oi h
      refine x_ild fx (bT1 b0) (cfX_Tp g ad b0) q3 dX2_balancedPairs_30 ?_
      refine z_iand fx dX2_balancedPairs_31 ?_
      refine z_aload_n fx dX2_balancedPairs_32 rfl ?_
      refine gT_minus fx b0 wf_X2_15 dX2_balancedPairs_33 ?_
      refine z_iload_n fx dX2_balancedPairs_36 rfl ?_
      refine x_ild fx (bT2 b0) (cfX_Tm g ad b0) q2 dX2_balancedPairs_37 ?_
      refine z_aload_n fx dX2_balancedPairs_38 rfl ?_
      refine gT_minus fx b0 wf_X2_15 dX2_balancedPairs_39 ?_
      refine z_iload_n fx dX2_balancedPairs_42 rfl ?_
      refine x_ild fx (bT2 b0) (cfX_Tm g ad b0) q3 dX2_balancedPairs_43 ?_
      refine z_iand fx dX2_balancedPairs_44 ?_
      refine z_ior fx dX2_balancedPairs_45 ?_
      refine z_istore fx dX2_balancedPairs_46 (by decide) rfl ?_
      refine z_aload_n fx dX2_balancedPairs_48 rfl ?_
      refine gT_plus fx b0 wf_X2_9 dX2_balancedPairs_49 ?_
      refine z_iload_n fx dX2_balancedPairs_52 rfl ?_
      refine x_ild fx (bT1 b0) (cfX_Tp g ad b0) q2 dX2_balancedPairs_53 ?_
      refine z_aload_n fx dX2_balancedPairs_54 rfl ?_
      refine gT_minus fx b0 wf_X2_15 dX2_balancedPairs_55 ?_
      refine z_iload_n fx dX2_balancedPairs_58 rfl ?_
      refine x_ild fx (bT2 b0) (cfX_Tm g ad b0) q3 dX2_balancedPairs_59 ?_
      refine z_iand fx dX2_balancedPairs_60 ?_
      refine z_aload_n fx dX2_balancedPairs_61 rfl ?_
      refine gT_minus fx b0 wf_X2_15 dX2_balancedPairs_62 ?_
      refine z_iload_n fx dX2_balancedPairs_65 rfl ?_
      refine x_ild fx (bT2 b0) (cfX_Tm g ad b0) q2 dX2_balancedPairs_66 ?_
      refine z_aload_n fx dX2_balancedPairs_67 rfl ?_
      refine gT_plus fx b0 wf_X2_9 dX2_balancedPairs_68 ?_
      refine z_iload_n fx dX2_balancedPairs_71 rfl ?_
      refine x_ild fx (bT1 b0) (cfX_Tp g ad b0) q3 dX2_balancedPairs_72 ?_
      refine z_iand fx dX2_balancedPairs_73 ?_
      refine z_ior fx dX2_balancedPairs_74 ?_
      refine z_istore fx dX2_balancedPairs_75 (by decide) rfl ?_
      refine z_iload fx dX2_balancedPairs_77 rfl ?_
      refine zSi (rest := []) fx hR (c_J6_bitCount (zl E) D ad g (((I (23 + 3 * n0) a2.toNatClampNeg) &&& (I (23 + 3 * n0) a3.toNatClampNeg)) ||| ((I (24 + 3 * n0) a2.toNatClampNeg) &&& (I (24 + 3 * n0) a3.toNatClampNeg))) I J rfl) mvJ6_bitCount wm_X2_58 dX2_balancedPairs_79 rfl ⟨rfl, rfl⟩ rfl rfl rfl ?_
      refine z_iload fx dX2_balancedPairs_82 rfl ?_
      refine zSi (rest := [.int (f_J6_bitCount (((I (23 + 3 * n0) a2.toNatClampNeg) &&& (I (23 + 3 * n0) a3.toNatClampNeg)) ||| ((I (24 + 3 * n0) a2.toNatClampNeg) &&& (I (24 + 3 * n0) a3.toNatClampNeg))))]) fx hR (c_J6_bitCount (zl E) D ad g (((I (23 + 3 * n0) a2.toNatClampNeg) &&& (I (24 + 3 * n0) a3.toNatClampNeg)) ||| ((I (24 + 3 * n0) a2.toNatClampNeg) &&& (I (23 + 3 * n0) a3.toNatClampNeg))) I J rfl) mvJ6_bitCount wm_X2_58 dX2_balancedPairs_84 rfl ⟨rfl, rfl⟩ rfl rfl rfl ?_
      refine z_icmp_ne (tgt := 93) fx dX2_balancedPairs_87 (by decide) (fun q4 => ?_) (fun q4 => ?_)
      · rw [if_neg q4] at h
        refine z_iinc (v := (a3 + 1)) fx dX2_balancedPairs_93 rfl rfl (by decide) rfl ?_
        refine z_goto (tgt := 14) fx dX2_balancedPairs_96 (by decide) ?_
        exact z_lv2 (ih n0 a1 a2 (a3 + 1) h b0) rfl
      · rw [if_pos q4] at h
        refine z_iinc (v := (a1 + 1)) fx dX2_balancedPairs_90 rfl rfl (by decide) rfl ?_
        refine z_iinc (v := (a3 + 1)) fx dX2_balancedPairs_93 rfl rfl (by decide) rfl ?_
        refine z_goto (tgt := 14) fx dX2_balancedPairs_96 (by decide) ?_
        exact z_lv2 (ih n0 (a1 + 1) a2 (a3 + 1) h b0) rfl
set_option maxRecDepth 100000 in
set_option maxHeartbeats 4000000 in
theorem w_X2_balancedPairs_4 {E : zE} {D : va_G} {ad : Nat → Nat} {g : Nat → ClassId} (fx : zFX E (xw D ad g) cX2_balancedPairs RX2 6 (some .int)) (hR : zR E = rmX2_balancedPairs) {r : Int32} {I : zMi} {J : zMl} (hr : zRX E (xw D ad g) (some (.int r)) I J) : ∀ (fuel : Nat) (n0 : Nat) (a1 : Int32) (a2 : Int32), f_X2_balancedPairs_4 I fuel n0 a1 a2 = some r → n0 < 12 → zAt E (xw D ad g) 4 [(0, .ref (ad (22 + 3 * n0))), (1, .int a1), (2, .int a2)] [] I J := by
  intro fuel
  induction fuel with
  | zero => intro n0 a1 a2 h b0; rw [f_X2_balancedPairs_4] at h; cases h
  | succ f ih =>
    intro n0 a1 a2 h b0
    rw [f_X2_balancedPairs_4] at h
    refine z_iload_n fx dX2_balancedPairs_4 rfl ?_
    refine z_aload_n fx dX2_balancedPairs_5 rfl ?_
    refine gT_n fx b0 wf_X2_18 dX2_balancedPairs_6 ?_
    refine z_icmp_ge (tgt := 105) fx dX2_balancedPairs_9 (by decide) (fun q1 => ?_) (fun q1 => ?_)
    · rw [if_pos q1] at h
      refine z_iload_n fx dX2_balancedPairs_105 rfl ?_
      cases h
      exact z_iret fx hr dX2_balancedPairs_106
    · rw [if_neg q1] at h
      refine z_iconst (v := 0) fx dX2_balancedPairs_12 rfl ?_
      refine z_istore_n fx dX2_balancedPairs_13 (by decide) rfl ?_
      exact z_lv2 (w_X2_balancedPairs_14 fx hR hr ih fu n0 a1 a2 0 h b0) rfl
set_option maxRecDepth 100000 in
set_option maxHeartbeats 4000000 in
theorem c_X2_balancedPairs (l : Launch) (D : va_G) (ad : Nat → Nat) (g : Nat → ClassId) (n0 : Nat) (I : zMi) (J : zMl) (b0 : n0 < 12) {r : Int32} (h : f_X2_balancedPairs n0 I = some r) : zCM (xw D ad g) l yX2_balancedPairs cX2_balancedPairs 6 (some .int) rmX2_balancedPairs [.ref (ad (22 + 3 * n0))] I J (some (.int r)) I J := by
  refine zCM.of (by decide) (Nat.le_of_ble_eq_true rfl) (fun E hl hR fx hr => ?_)
  subst hl
  rw [f_X2_balancedPairs] at h
  refine z_iconst (v := 0) fx dX2_balancedPairs_0 rfl ?_
  refine z_istore_n fx dX2_balancedPairs_1 (by decide) rfl ?_
  refine z_iconst (v := 0) fx dX2_balancedPairs_2 rfl ?_
  refine z_istore_n fx dX2_balancedPairs_3 (by decide) rfl ?_
  exact z_lv2 (w_X2_balancedPairs_4 fx hR hr fu n0 0 0 h b0) rfl
set_option maxRecDepth 100000 in
set_option maxHeartbeats 4000000 in
theorem c_X2_rowsBalance (l : Launch) (D : va_G) (ad : Nat → Nat) (g : Nat → ClassId) (n0 : Nat) (I : zMi) (J : zMl) (b0 : n0 < 12) {r : Int32} (h : f_X2_rowsBalance n0 I = some r) : zCM (xw D ad g) l yX2_rowsBalance cX2_rowsBalance 1 (some .boolean) rmX2_rowsBalance [.ref (ad (22 + 3 * n0))] I J (some (.int r)) I J := by
  refine zCM.of (by decide) (Nat.le_of_ble_eq_true rfl) (fun E hl hR fx hr => ?_)
  subst hl
  rw [f_X2_rowsBalance] at h
  refine z_aload_n fx dX2_rowsBalance_0 rfl ?_
  obtain ⟨x1, ex1, h⟩ := ob h
  refine zVi (k := 22 + 3 * n0) (rest := []) fx hR (c_X2_balancedPairs (zl E) D ad g n0 I J b0 ex1) (rcT b0) mvX2_balancedPairs wm_X2_45 dX2_rowsBalance_1 rfl ⟨rfl, rfl⟩ rfl rfl rfl ?_
  refine z_aload_n fx dX2_rowsBalance_4 rfl ?_
  refine gT_n fx b0 wf_X2_18 dX2_rowsBalance_5 ?_
  refine z_aload_n fx dX2_rowsBalance_8 rfl ?_
  refine gT_n fx b0 wf_X2_18 dX2_rowsBalance_9 ?_
  refine z_iconst (v := 1) fx dX2_rowsBalance_12 rfl ?_
  refine z_isub fx dX2_rowsBalance_13 ?_
  refine z_imul fx dX2_rowsBalance_14 ?_
  refine z_iconst (v := 2) fx dX2_rowsBalance_15 rfl ?_
  refine z_idiv fx dX2_rowsBalance_16 (by decide) ?_
  refine z_icmp_ne (tgt := 24) fx dX2_rowsBalance_17 (by decide) (fun q2 => ?_) (fun q2 => ?_)
  · rw [if_neg q2] at h
    refine z_iconst (v := 0) fx dX2_rowsBalance_24 rfl ?_
    cases h
    exact z_zret fx rfl hr dX2_rowsBalance_25
  · rw [if_pos q2] at h
    refine z_iconst (v := 1) fx dX2_rowsBalance_20 rfl ?_
    refine z_goto (tgt := 25) fx dX2_rowsBalance_21 (by decide) ?_
    cases h
    exact z_zret fx rfl hr dX2_rowsBalance_25
set_option maxRecDepth 100000 in
set_option maxHeartbeats 4000000 in
theorem w_X2_rowsMoveOn_2 {E : zE} {D : va_G} {ad : Nat → Nat} {g : Nat → ClassId} (fx : zFX E (xw D ad g) cX2_rowsMoveOn RX2 3 (some .boolean)) (hR : zR E = rmX2_rowsMoveOn) {r : Int32} {I : zMi} {J : zMl} (hr : zRX E (xw D ad g) (some (.int r)) I J) : ∀ (fuel : Nat) (n0 : Nat) (a1 : Int32), f_X2_rowsMoveOn_2 I fuel n0 a1 = some r → n0 < 12 → zAt E (xw D ad g) 2 [(0, .ref (ad (22 + 3 * n0))), (1, .int a1)] [] I J := by
  intro fuel
  induction fuel with
  | zero => intro n0 a1 h b0; rw [f_X2_rowsMoveOn_2] at h; cases h
  | succ f ih =>
    intro n0 a1 h b0
    rw [f_X2_rowsMoveOn_2] at h
    refine z_iload_n fx dX2_rowsMoveOn_2 rfl ?_
    refine z_aload_n fx dX2_rowsMoveOn_3 rfl ?_
    refine gT_n fx b0 wf_X2_18 dX2_rowsMoveOn_4 ?_
    refine z_icmp_ge (tgt := 56) fx dX2_rowsMoveOn_7 (by decide) (fun q1 => ?_) (fun q1 => ?_)
    · rw [if_pos q1] at h
      refine z_iconst (v := 1) fx dX2_rowsMoveOn_56 rfl ?_
      cases h
      exact z_zret fx rfl hr dX2_rowsMoveOn_57
    · rw [if_neg q1] at h
      refine z_aload_n fx dX2_rowsMoveOn_10 rfl ?_
      refine gT_minus fx b0 wf_X2_15 dX2_rowsMoveOn_11 ?_
      refine z_iload_n fx dX2_rowsMoveOn_14 rfl ?_
      refine z_iconst (v := 1) fx dX2_rowsMoveOn_15 rfl ?_
      refine z_isub fx dX2_rowsMoveOn_16 ?_
      obtain ⟨q2, h⟩ := oi h
      refine x_ild fx (bT2 b0) (cfX_Tm g ad b0) q2 dX2_rowsMoveOn_17 ?_
      refine z_istore_n fx dX2_rowsMoveOn_18 (by decide) rfl ?_
      refine z_aload_n fx dX2_rowsMoveOn_19 rfl ?_
      refine gT_minus fx b0 wf_X2_15 dX2_rowsMoveOn_20 ?_
      refine z_iload_n fx dX2_rowsMoveOn_23 rfl ?_
      obtain ⟨q3, h⟩ := oi h
      refine x_ild fx (bT2 b0) (cfX_Tm g ad b0) q3 dX2_rowsMoveOn_24 ?_
      refine z_iload_n fx dX2_rowsMoveOn_25 rfl ?_
      refine z_iconst (v := 1) fx dX2_rowsMoveOn_26 rfl ?_
      refine z_ishl fx dX2_rowsMoveOn_27 ?_
      refine z_iload_n fx dX2_rowsMoveOn_28 rfl ?_
      refine z_aload_n fx dX2_rowsMoveOn_29 rfl ?_
      refine gT_n fx b0 wf_X2_18 dX2_rowsMoveOn_30 ?_
      refine z_iconst (v := 1) fx dX2_rowsMoveOn_33 rfl ?_
      refine z_isub fx dX2_rowsMoveOn_34 ?_
      refine z_ishr fx dX2_rowsMoveOn_35 ?_
      refine z_ior fx dX2_rowsMoveOn_36 ?_
      refine z_aload_n fx dX2_rowsMoveOn_37 rfl ?_
      refine gT_n fx b0 wf_X2_18 dX2_rowsMoveOn_38 ?_
      refine zNi (rest := [.int (((I (24 + 3 * n0) (a1 - 1).toNatClampNeg) <<< ((1 : Int32) &&& 31)) ||| ((I (24 + 3 * n0) (a1 - 1).toNatClampNeg) >>> (((I (22 + 3 * n0) 2) - 1) &&& 31))), .int (I (24 + 3 * n0) a1.toNatClampNeg)]) (host := RX3) fx hR (c_X3_allBits (zl E) D ad g (I (22 + 3 * n0) 2) I J rfl) mvX3_allBits fx.2.2.2.2.2.1.2.2.1 dX2_rowsMoveOn_41 rfl ⟨rfl, rfl⟩ rfl rfl rfl ?_
      refine z_iand fx dX2_rowsMoveOn_44 ?_
      refine z_icmp_eq (tgt := 50) fx dX2_rowsMoveOn_45 (by decide) (fun q4 => ?_) (fun q4 => ?_)
      · rw [if_pos q4] at h
        refine z_iinc (v := (a1 + 1)) fx dX2_rowsMoveOn_50 rfl rfl (by decide) rfl ?_
        refine z_goto (tgt := 2) fx dX2_rowsMoveOn_53 (by decide) ?_
        exact z_lv2 (ih n0 (a1 + 1) h b0) rfl
      · rw [if_neg q4] at h
        refine z_iconst (v := 0) fx dX2_rowsMoveOn_48 rfl ?_
        cases h
        exact z_zret fx rfl hr dX2_rowsMoveOn_49
set_option maxRecDepth 100000 in
set_option maxHeartbeats 4000000 in
theorem c_X2_rowsMoveOn (l : Launch) (D : va_G) (ad : Nat → Nat) (g : Nat → ClassId) (n0 : Nat) (I : zMi) (J : zMl) (b0 : n0 < 12) {r : Int32} (h : f_X2_rowsMoveOn n0 I = some r) : zCM (xw D ad g) l yX2_rowsMoveOn cX2_rowsMoveOn 3 (some .boolean) rmX2_rowsMoveOn [.ref (ad (22 + 3 * n0))] I J (some (.int r)) I J := by
  refine zCM.of (by decide) (Nat.le_of_ble_eq_true rfl) (fun E hl hR fx hr => ?_)
  subst hl
  rw [f_X2_rowsMoveOn] at h
  refine z_iconst (v := 1) fx dX2_rowsMoveOn_0 rfl ?_
  refine z_istore_n fx dX2_rowsMoveOn_1 (by decide) rfl ?_
  exact z_lv2 (w_X2_rowsMoveOn_2 fx hR hr fu n0 1 h b0) rfl
set_option maxRecDepth 100000 in
set_option maxHeartbeats 4000000 in
theorem w_X2_minusOfColumn_4 {E : zE} {D : va_G} {ad : Nat → Nat} {g : Nat → ClassId} (fx : zFX E (xw D ad g) cX2_minusOfColumn RX2 4 (some .int)) (hR : zR E = rmX2_minusOfColumn) {r : Int32} {I : zMi} {J : zMl} (hr : zRX E (xw D ad g) (some (.int r)) I J) : ∀ (fuel : Nat) (n0 : Nat) (a1 : Int32) (a2 : Int32) (a3 : Int32), f_X2_minusOfColumn_4 I fuel n0 a1 a2 a3 = some r → n0 < 12 → zAt E (xw D ad g) 4 [(0, .ref (ad (22 + 3 * n0))), (1, .int a1), (2, .int a2), (3, .int a3)] [] I J := by
  intro fuel
  induction fuel with
  | zero => intro n0 a1 a2 a3 h b0; rw [f_X2_minusOfColumn_4] at h; cases h
  | succ f ih =>
    intro n0 a1 a2 a3 h b0
    rw [f_X2_minusOfColumn_4] at h
    refine z_iload_n fx dX2_minusOfColumn_4 rfl ?_
    refine z_aload_n fx dX2_minusOfColumn_5 rfl ?_
    refine gT_n fx b0 wf_X2_18 dX2_minusOfColumn_6 ?_
    refine z_icmp_ge (tgt := 33) fx dX2_minusOfColumn_9 (by decide) (fun q1 => ?_) (fun q1 => ?_)
    · rw [if_pos q1] at h
      refine z_iload_n fx dX2_minusOfColumn_33 rfl ?_
      cases h
      exact z_iret fx hr dX2_minusOfColumn_34
    · rw [if_neg q1] at h
      refine z_iload_n fx dX2_minusOfColumn_12 rfl ?_
      refine z_aload_n fx dX2_minusOfColumn_13 rfl ?_
      refine gT_minus fx b0 wf_X2_15 dX2_minusOfColumn_14 ?_
      refine z_iload_n fx dX2_minusOfColumn_17 rfl ?_
      obtain ⟨q2, h⟩ := oi h
      refine x_ild fx (bT2 b0) (cfX_Tm g ad b0) q2 dX2_minusOfColumn_18 ?_
      refine z_iload_n fx dX2_minusOfColumn_19 rfl ?_
      refine z_ishr fx dX2_minusOfColumn_20 ?_
      refine z_iconst (v := 1) fx dX2_minusOfColumn_21 rfl ?_
      refine z_iand fx dX2_minusOfColumn_22 ?_
      refine z_iload_n fx dX2_minusOfColumn_23 rfl ?_
      refine z_ishl fx dX2_minusOfColumn_24 ?_
      refine z_ior fx dX2_minusOfColumn_25 ?_
      refine z_istore_n fx dX2_minusOfColumn_26 (by decide) rfl ?_
      refine z_iinc (v := (a3 + 1)) fx dX2_minusOfColumn_27 rfl rfl (by decide) rfl ?_
      refine z_goto (tgt := 4) fx dX2_minusOfColumn_30 (by decide) ?_
      exact z_lv2 (ih n0 a1 (a2 ||| ((((I (24 + 3 * n0) a3.toNatClampNeg) >>> (a1 &&& 31)) &&& 1) <<< (a3 &&& 31))) (a3 + 1) h b0) rfl
set_option maxRecDepth 100000 in
set_option maxHeartbeats 4000000 in
theorem c_X2_minusOfColumn (l : Launch) (D : va_G) (ad : Nat → Nat) (g : Nat → ClassId) (n0 : Nat) (a1 : Int32) (I : zMi) (J : zMl) (b0 : n0 < 12) {r : Int32} (h : f_X2_minusOfColumn n0 a1 I = some r) : zCM (xw D ad g) l yX2_minusOfColumn cX2_minusOfColumn 4 (some .int) rmX2_minusOfColumn [.ref (ad (22 + 3 * n0)), .int a1] I J (some (.int r)) I J := by
  refine zCM.of (by decide) (Nat.le_of_ble_eq_true rfl) (fun E hl hR fx hr => ?_)
  subst hl
  rw [f_X2_minusOfColumn] at h
  refine z_iconst (v := 0) fx dX2_minusOfColumn_0 rfl ?_
  refine z_istore_n fx dX2_minusOfColumn_1 (by decide) rfl ?_
  refine z_iconst (v := 0) fx dX2_minusOfColumn_2 rfl ?_
  refine z_istore_n fx dX2_minusOfColumn_3 (by decide) rfl ?_
  exact z_lv2 (w_X2_minusOfColumn_4 fx hR hr fu n0 a1 0 0 h b0) rfl
set_option maxRecDepth 100000 in
set_option maxHeartbeats 4000000 in
theorem w_X2_isGraph_2 {E : zE} {D : va_G} {ad : Nat → Nat} {g : Nat → ClassId} (fx : zFX E (xw D ad g) cX2_isGraph RX2 2 (some .boolean)) (hR : zR E = rmX2_isGraph) {r : Int32} {I : zMi} {J : zMl} (hr : zRX E (xw D ad g) (some (.int r)) I J) : ∀ (fuel : Nat) (n0 : Nat) (a1 : Int32), f_X2_isGraph_2 I fuel n0 a1 = some r → n0 < 12 → zAt E (xw D ad g) 2 [(0, .ref (ad (22 + 3 * n0))), (1, .int a1)] [] I J := by
  intro fuel
  induction fuel with
  | zero => intro n0 a1 h b0; rw [f_X2_isGraph_2] at h; cases h
  | succ f ih =>
    intro n0 a1 h b0
    rw [f_X2_isGraph_2] at h
    refine z_iload_n fx dX2_isGraph_2 rfl ?_
    refine z_aload_n fx dX2_isGraph_3 rfl ?_
    refine gT_n fx b0 wf_X2_18 dX2_isGraph_4 ?_
    refine z_icmp_ge (tgt := 59) fx dX2_isGraph_7 (by decide) (fun q1 => ?_) (fun q1 => ?_)
    · rw [if_pos q1] at h
      refine z_iconst (v := 1) fx dX2_isGraph_59 rfl ?_
      cases h
      exact z_zret fx rfl hr dX2_isGraph_60
    · rw [if_neg q1] at h
      refine z_aload_n fx dX2_isGraph_10 rfl ?_
      refine gT_plus fx b0 wf_X2_9 dX2_isGraph_11 ?_
      refine z_iload_n fx dX2_isGraph_14 rfl ?_
      obtain ⟨q2, h⟩ := oi h
      refine x_ild fx (bT1 b0) (cfX_Tp g ad b0) q2 dX2_isGraph_15 ?_
      refine z_aload_n fx dX2_isGraph_16 rfl ?_
      refine gT_minus fx b0 wf_X2_15 dX2_isGraph_17 ?_
      refine z_iload_n fx dX2_isGraph_20 rfl ?_
      refine x_ild fx (bT2 b0) (cfX_Tm g ad b0) q2 dX2_isGraph_21 ?_
      refine z_ior fx dX2_isGraph_22 ?_
      refine z_aload_n fx dX2_isGraph_23 rfl ?_
      refine gT_n fx b0 wf_X2_18 dX2_isGraph_24 ?_
      refine zNi (rest := [.int ((I (23 + 3 * n0) a1.toNatClampNeg) ||| (I (24 + 3 * n0) a1.toNatClampNeg))]) (host := RX3) fx hR (c_X3_allBits (zl E) D ad g (I (22 + 3 * n0) 2) I J rfl) mvX3_allBits fx.2.2.2.2.2.1.2.2.1 dX2_isGraph_27 rfl ⟨rfl, rfl⟩ rfl rfl rfl ?_
      refine z_iconst (v := 1) fx dX2_isGraph_30 rfl ?_
      refine z_iload_n fx dX2_isGraph_31 rfl ?_
      refine z_ishl fx dX2_isGraph_32 ?_
      refine z_isub fx dX2_isGraph_33 ?_
      refine z_icmp_ne (tgt := 51) fx dX2_isGraph_34 (by decide) (fun q3 => ?_) (fun q3 => ?_)
      · rw [if_neg q3] at h
        refine z_iconst (v := 0) fx dX2_isGraph_51 rfl ?_
        cases h
        exact z_zret fx rfl hr dX2_isGraph_52
      · rw [if_pos q3] at h
        refine z_aload_n fx dX2_isGraph_37 rfl ?_
        refine gT_minus fx b0 wf_X2_15 dX2_isGraph_38 ?_
        refine z_iload_n fx dX2_isGraph_41 rfl ?_
        refine x_ild fx (bT2 b0) (cfX_Tm g ad b0) q2 dX2_isGraph_42 ?_
        refine z_aload_n fx dX2_isGraph_43 rfl ?_
        refine z_iload_n fx dX2_isGraph_44 rfl ?_
        obtain ⟨x4, ex4, h⟩ := ob h
        refine zVi (k := 22 + 3 * n0) (rest := [.int (I (24 + 3 * n0) a1.toNatClampNeg)]) fx hR (c_X2_minusOfColumn (zl E) D ad g n0 a1 I J b0 ex4) (rcT b0) mvX2_minusOfColumn wm_X2_49 dX2_isGraph_45 rfl ⟨rfl, rfl⟩ rfl rfl rfl ?_
        refine z_icmp_eq (tgt := 53) fx dX2_isGraph_48 (by decide) (fun q5 => ?_) (fun q5 => ?_)
        · rw [if_pos q5] at h
          refine z_iinc (v := (a1 + 1)) fx dX2_isGraph_53 rfl rfl (by decide) rfl ?_
          refine z_goto (tgt := 2) fx dX2_isGraph_56 (by decide) ?_
          exact z_lv2 (ih n0 (a1 + 1) h b0) rfl
        · rw [if_neg q5] at h
          refine z_iconst (v := 0) fx dX2_isGraph_51 rfl ?_
          cases h
          exact z_zret fx rfl hr dX2_isGraph_52
set_option maxRecDepth 100000 in
set_option maxHeartbeats 4000000 in
theorem c_X2_isGraph (l : Launch) (D : va_G) (ad : Nat → Nat) (g : Nat → ClassId) (n0 : Nat) (I : zMi) (J : zMl) (b0 : n0 < 12) {r : Int32} (h : f_X2_isGraph n0 I = some r) : zCM (xw D ad g) l yX2_isGraph cX2_isGraph 2 (some .boolean) rmX2_isGraph [.ref (ad (22 + 3 * n0))] I J (some (.int r)) I J := by
  refine zCM.of (by decide) (Nat.le_of_ble_eq_true rfl) (fun E hl hR fx hr => ?_)
  subst hl
  rw [f_X2_isGraph] at h
  refine z_iconst (v := 0) fx dX2_isGraph_0 rfl ?_
  refine z_istore_n fx dX2_isGraph_1 (by decide) rfl ?_
  exact z_lv2 (w_X2_isGraph_2 fx hR hr fu n0 0 h b0) rfl
set_option maxRecDepth 100000 in
set_option maxHeartbeats 4000000 in
theorem w_X2_commonOfFirstPair_12 {E : zE} {D : va_G} {ad : Nat → Nat} {g : Nat → ClassId} (fx : zFX E (xw D ad g) cX2_commonOfFirstPair RX2 4 (some .int)) (hR : zR E = rmX2_commonOfFirstPair) {r : Int32} {I : zMi} {J : zMl} (hr : zRX E (xw D ad g) (some (.int r)) I J) {k2 : Nat → Int32 → Int32 → Option Int32} (hk2 : ∀ (n0 : Nat) (a1 : Int32) (a2 : Int32), k2 n0 a1 a2 = some r → n0 < 12 → zAt E (xw D ad g) 2 [(0, .ref (ad (22 + 3 * n0))), (1, .int a1), (2, .int a2)] [] I J) : ∀ (fuel : Nat) (n0 : Nat) (a1 : Int32) (a2 : Int32) (a3 : Int32), f_X2_commonOfFirstPair_12 I k2 fuel n0 a1 a2 a3 = some r → n0 < 12 → zAt E (xw D ad g) 12 [(0, .ref (ad (22 + 3 * n0))), (1, .int a1), (2, .int a2), (3, .int a3)] [] I J := by
  intro fuel
  induction fuel with
  | zero => intro n0 a1 a2 a3 h b0; rw [f_X2_commonOfFirstPair_12] at h; cases h
  | succ f ih =>
    intro n0 a1 a2 a3 h b0
    rw [f_X2_commonOfFirstPair_12] at h
    refine z_iload_n fx dX2_commonOfFirstPair_12 rfl ?_
    refine z_iload_n fx dX2_commonOfFirstPair_13 rfl ?_
    refine z_icmp_ge (tgt := 54) fx dX2_commonOfFirstPair_14 (by decide) (fun q1 => ?_) (fun q1 => ?_)
    · rw [if_pos q1] at h
      refine z_iinc (v := (a2 + 1)) fx dX2_commonOfFirstPair_54 rfl rfl (by decide) rfl ?_
      refine z_goto (tgt := 2) fx dX2_commonOfFirstPair_57 (by decide) ?_
      exact z_lv2 (hk2 n0 a1 (a2 + 1) h b0) rfl
    · rw [if_neg q1] at h
      refine z_aload_n fx dX2_commonOfFirstPair_17 rfl ?_
      refine gT_minus fx b0 wf_X2_15 dX2_commonOfFirstPair_18 ?_
      refine z_iload_n fx dX2_commonOfFirstPair_21 rfl ?_
      obtain ⟨q2, h⟩ := oi h
      refine x_ild fx (bT2 b0) (cfX_Tm g ad b0) q2 dX2_commonOfFirstPair_22 ?_
      refine z_iload_n fx dX2_commonOfFirstPair_23 rfl ?_
      refine z_ishr fx dX2_commonOfFirstPair_24 ?_
      refine z_iconst (v := 1) fx dX2_commonOfFirstPair_25 rfl ?_
      refine z_iand fx dX2_commonOfFirstPair_26 ?_
      refine z_iload_n fx dX2_commonOfFirstPair_27 rfl ?_
      refine z_icmp_ne (tgt := 48) fx dX2_commonOfFirstPair_28 (by decide) (fun q3 => ?_) (fun q3 => ?_)
      · rw [if_neg q3] at h
        refine z_iinc (v := (a3 + 1)) fx dX2_commonOfFirstPair_48 rfl rfl (by decide) rfl ?_
        refine z_goto (tgt := 12) fx dX2_commonOfFirstPair_51 (by decide) ?_
        exact z_lv2 (ih n0 a1 a2 (a3 + 1) h b0) rfl
      · rw [if_pos q3] at h
        refine z_aload_n fx dX2_commonOfFirstPair_31 rfl ?_
        refine gT_minus fx b0 wf_X2_15 dX2_commonOfFirstPair_32 ?_
        refine z_iload_n fx dX2_commonOfFirstPair_35 rfl ?_
        refine x_ild fx (bT2 b0) (cfX_Tm g ad b0) q2 dX2_commonOfFirstPair_36 ?_
        refine z_aload_n fx dX2_commonOfFirstPair_37 rfl ?_
        refine gT_minus fx b0 wf_X2_15 dX2_commonOfFirstPair_38 ?_
        refine z_iload_n fx dX2_commonOfFirstPair_41 rfl ?_
        obtain ⟨q4, h⟩ := oi h
        refine x_ild fx (bT2 b0) (cfX_Tm g ad b0) q4 dX2_commonOfFirstPair_42 ?_
        refine z_iand fx dX2_commonOfFirstPair_43 ?_
        refine zSi (rest := []) fx hR (c_J6_bitCount (zl E) D ad g ((I (24 + 3 * n0) a2.toNatClampNeg) &&& (I (24 + 3 * n0) a3.toNatClampNeg)) I J rfl) mvJ6_bitCount wm_X2_58 dX2_commonOfFirstPair_44 rfl ⟨rfl, rfl⟩ rfl rfl rfl ?_
        cases h
        exact z_iret fx hr dX2_commonOfFirstPair_47
set_option maxRecDepth 100000 in
set_option maxHeartbeats 4000000 in
theorem w_X2_commonOfFirstPair_2 {E : zE} {D : va_G} {ad : Nat → Nat} {g : Nat → ClassId} (fx : zFX E (xw D ad g) cX2_commonOfFirstPair RX2 4 (some .int)) (hR : zR E = rmX2_commonOfFirstPair) {r : Int32} {I : zMi} {J : zMl} (hr : zRX E (xw D ad g) (some (.int r)) I J) : ∀ (fuel : Nat) (n0 : Nat) (a1 : Int32) (a2 : Int32), f_X2_commonOfFirstPair_2 I fuel n0 a1 a2 = some r → n0 < 12 → zAt E (xw D ad g) 2 [(0, .ref (ad (22 + 3 * n0))), (1, .int a1), (2, .int a2)] [] I J := by
  intro fuel
  induction fuel with
  | zero => intro n0 a1 a2 h b0; rw [f_X2_commonOfFirstPair_2] at h; cases h
  | succ f ih =>
    intro n0 a1 a2 h b0
    rw [f_X2_commonOfFirstPair_2] at h
    refine z_iload_n fx dX2_commonOfFirstPair_2 rfl ?_
    refine z_aload_n fx dX2_commonOfFirstPair_3 rfl ?_
    refine gT_n fx b0 wf_X2_18 dX2_commonOfFirstPair_4 ?_
    refine z_icmp_ge (tgt := 60) fx dX2_commonOfFirstPair_7 (by decide) (fun q1 => ?_) (fun q1 => ?_)
    · rw [if_pos q1] at h
      refine z_bipush (v := (-9)) fx dX2_commonOfFirstPair_60 rfl ?_
      cases h
      exact z_iret fx hr dX2_commonOfFirstPair_62
    · rw [if_neg q1] at h
      refine z_iconst (v := 0) fx dX2_commonOfFirstPair_10 rfl ?_
      refine z_istore_n fx dX2_commonOfFirstPair_11 (by decide) rfl ?_
      exact z_lv2 (w_X2_commonOfFirstPair_12 fx hR hr ih fu n0 a1 a2 0 h b0) rfl
set_option maxRecDepth 100000 in
set_option maxHeartbeats 4000000 in
theorem c_X2_commonOfFirstPair (l : Launch) (D : va_G) (ad : Nat → Nat) (g : Nat → ClassId) (n0 : Nat) (a1 : Int32) (I : zMi) (J : zMl) (b0 : n0 < 12) {r : Int32} (h : f_X2_commonOfFirstPair n0 a1 I = some r) : zCM (xw D ad g) l yX2_commonOfFirstPair cX2_commonOfFirstPair 4 (some .int) rmX2_commonOfFirstPair [.ref (ad (22 + 3 * n0)), .int a1] I J (some (.int r)) I J := by
  refine zCM.of (by decide) (Nat.le_of_ble_eq_true rfl) (fun E hl hR fx hr => ?_)
  subst hl
  rw [f_X2_commonOfFirstPair] at h
  refine z_iconst (v := 0) fx dX2_commonOfFirstPair_0 rfl ?_
  refine z_istore_n fx dX2_commonOfFirstPair_1 (by decide) rfl ?_
  exact z_lv2 (w_X2_commonOfFirstPair_2 fx hR hr fu n0 a1 0 h b0) rfl
set_option maxRecDepth 100000 in
set_option maxHeartbeats 4000000 in
theorem c_X2_neighbours (l : Launch) (D : va_G) (ad : Nat → Nat) (g : Nat → ClassId) (n0 : Nat) (a1 : Int32) (I : zMi) (J : zMl) (b0 : n0 < 12) {r : Int32} (h : f_X2_neighbours n0 a1 I = some r) : zCM (xw D ad g) l yX2_neighbours cX2_neighbours 2 (some .int) rmX2_neighbours [.ref (ad (22 + 3 * n0)), .int a1] I J (some (.int r)) I J := by
  refine zCM.of (by decide) (Nat.le_of_ble_eq_true rfl) (fun E hl hR fx hr => ?_)
  subst hl
  rw [f_X2_neighbours] at h
  refine z_aload_n fx dX2_neighbours_0 rfl ?_
  refine gT_minus fx b0 wf_X2_15 dX2_neighbours_1 ?_
  refine z_iload_n fx dX2_neighbours_4 rfl ?_
  obtain ⟨q1, h⟩ := oi h
  refine x_ild fx (bT2 b0) (cfX_Tm g ad b0) q1 dX2_neighbours_5 ?_
  refine zSi (rest := []) fx hR (c_J6_bitCount (zl E) D ad g (I (24 + 3 * n0) a1.toNatClampNeg) I J rfl) mvJ6_bitCount wm_X2_58 dX2_neighbours_6 rfl ⟨rfl, rfl⟩ rfl rfl rfl ?_
  cases h
  exact z_iret fx hr dX2_neighbours_9
set_option maxRecDepth 100000 in
set_option maxHeartbeats 4000000 in
theorem w_X2_isEven_40 {E : zE} {D : va_G} {ad : Nat → Nat} {g : Nat → ClassId} (fx : zFX E (xw D ad g) cX2_isEven RX2 6 (some .boolean)) (hR : zR E = rmX2_isEven) {r : Int32} {I : zMi} {J : zMl} (hr : zRX E (xw D ad g) (some (.int r)) I J) {k14 : Nat → Int32 → Int32 → Int32 → Option Int32} (hk14 : ∀ (n0 : Nat) (a1 : Int32) (a2 : Int32) (a3 : Int32), k14 n0 a1 a2 a3 = some r → n0 < 12 → zAt E (xw D ad g) 14 [(0, .ref (ad (22 + 3 * n0))), (1, .int a1), (2, .int a2), (3, .int a3)] [] I J) : ∀ (fuel : Nat) (n0 : Nat) (a1 : Int32) (a2 : Int32) (a3 : Int32) (a4 : Int32), f_X2_isEven_40 I k14 fuel n0 a1 a2 a3 a4 = some r → n0 < 12 → zAt E (xw D ad g) 40 [(0, .ref (ad (22 + 3 * n0))), (1, .int a1), (2, .int a2), (3, .int a3), (4, .int a4)] [] I J := by
  intro fuel
  induction fuel with
  | zero => intro n0 a1 a2 a3 a4 h b0; rw [f_X2_isEven_40] at h; cases h
  | succ f ih =>
    intro n0 a1 a2 a3 a4 h b0
    rw [f_X2_isEven_40] at h
    refine z_iload fx dX2_isEven_40 rfl ?_
    refine z_iload_n fx dX2_isEven_42 rfl ?_
    refine z_icmp_ge (tgt := 98) fx dX2_isEven_43 (by decide) (fun q1 => ?_) (fun q1 => ?_)
    · rw [if_pos q1] at h
      refine z_iinc (v := (a3 + 1)) fx dX2_isEven_98 rfl rfl (by decide) rfl ?_
      refine z_goto (tgt := 14) fx dX2_isEven_101 (by decide) ?_
      exact z_lv2 (hk14 n0 a1 a2 (a3 + 1) h b0) rfl
    · rw [if_neg q1] at h
      refine z_aload_n fx dX2_isEven_46 rfl ?_
      refine gT_minus fx b0 wf_X2_15 dX2_isEven_47 ?_
      refine z_iload_n fx dX2_isEven_50 rfl ?_
      obtain ⟨q2, h⟩ := oi h
      refine x_ild fx (bT2 b0) (cfX_Tm g ad b0) q2 dX2_isEven_51 ?_
      refine z_iload fx dX2_isEven_52 rfl ?_
      refine z_ishr fx dX2_isEven_54 ?_
      refine z_iconst (v := 1) fx dX2_isEven_55 rfl ?_
      refine z_iand fx dX2_isEven_56 ?_
      refine z_iconst (v := 1) fx dX2_isEven_57 rfl ?_
      refine z_icmp_ne (tgt := 65) fx dX2_isEven_58 (by decide) (fun q3 => ?_) (fun q3 => ?_)
      · rw [if_neg q3] at h
        refine z_iload_n fx dX2_isEven_65 rfl ?_
        refine z_istore fx dX2_isEven_66 (by decide) rfl ?_
        refine z_aload_n fx dX2_isEven_68 rfl ?_
        refine gT_minus fx b0 wf_X2_15 dX2_isEven_69 ?_
        refine z_iload_n fx dX2_isEven_72 rfl ?_
        refine x_ild fx (bT2 b0) (cfX_Tm g ad b0) q2 dX2_isEven_73 ?_
        refine z_aload_n fx dX2_isEven_74 rfl ?_
        refine gT_minus fx b0 wf_X2_15 dX2_isEven_75 ?_
        refine z_iload fx dX2_isEven_78 rfl ?_
        obtain ⟨q4, h⟩ := oi h
        refine x_ild fx (bT2 b0) (cfX_Tm g ad b0) q4 dX2_isEven_80 ?_
        refine z_iand fx dX2_isEven_81 ?_
        refine zSi (rest := []) fx hR (c_J6_bitCount (zl E) D ad g ((I (24 + 3 * n0) a3.toNatClampNeg) &&& (I (24 + 3 * n0) a4.toNatClampNeg)) I J rfl) mvJ6_bitCount wm_X2_58 dX2_isEven_82 rfl ⟨rfl, rfl⟩ rfl rfl rfl ?_
        refine z_iload fx dX2_isEven_85 rfl ?_
        refine z_icmp_eq (tgt := 92) fx dX2_isEven_87 (by decide) (fun q5 => ?_) (fun q5 => ?_)
        · rw [if_pos q5] at h
          refine z_iinc (v := (a4 + 1)) fx dX2_isEven_92 rfl rfl (by decide) rfl ?_
          refine z_goto (tgt := 40) fx dX2_isEven_95 (by decide) ?_
          exact z_lv2 (ih n0 a1 a2 a3 (a4 + 1) h b0) rfl
        · rw [if_neg q5] at h
          refine z_iconst (v := 0) fx dX2_isEven_90 rfl ?_
          cases h
          exact z_zret fx rfl hr dX2_isEven_91
      · rw [if_pos q3] at h
        refine z_iload_n fx dX2_isEven_61 rfl ?_
        refine z_goto (tgt := 66) fx dX2_isEven_62 (by decide) ?_
        refine z_istore fx dX2_isEven_66 (by decide) rfl ?_
        refine z_aload_n fx dX2_isEven_68 rfl ?_
        refine gT_minus fx b0 wf_X2_15 dX2_isEven_69 ?_
        refine z_iload_n fx dX2_isEven_72 rfl ?_
        refine x_ild fx (bT2 b0) (cfX_Tm g ad b0) q2 dX2_isEven_73 ?_
        refine z_aload_n fx dX2_isEven_74 rfl ?_
        refine gT_minus fx b0 wf_X2_15 dX2_isEven_75 ?_
        refine z_iload fx dX2_isEven_78 rfl ?_
        obtain ⟨q6, h⟩ := oi h
        refine x_ild fx (bT2 b0) (cfX_Tm g ad b0) q6 dX2_isEven_80 ?_
        refine z_iand fx dX2_isEven_81 ?_
        refine zSi (rest := []) fx hR (c_J6_bitCount (zl E) D ad g ((I (24 + 3 * n0) a3.toNatClampNeg) &&& (I (24 + 3 * n0) a4.toNatClampNeg)) I J rfl) mvJ6_bitCount wm_X2_58 dX2_isEven_82 rfl ⟨rfl, rfl⟩ rfl rfl rfl ?_
        refine z_iload fx dX2_isEven_85 rfl ?_
        refine z_icmp_eq (tgt := 92) fx dX2_isEven_87 (by decide) (fun q7 => ?_) (fun q7 => ?_)
        · rw [if_pos q7] at h
          refine z_iinc (v := (a4 + 1)) fx dX2_isEven_92 rfl rfl (by decide) rfl ?_
          refine z_goto (tgt := 40) fx dX2_isEven_95 (by decide) ?_
          exact z_lv2 (ih n0 a1 a2 a3 (a4 + 1) h b0) rfl
        · rw [if_neg q7] at h
          refine z_iconst (v := 0) fx dX2_isEven_90 rfl ?_
          cases h
          exact z_zret fx rfl hr dX2_isEven_91
set_option maxRecDepth 100000 in
set_option maxHeartbeats 4000000 in
theorem w_X2_isEven_14 {E : zE} {D : va_G} {ad : Nat → Nat} {g : Nat → ClassId} (fx : zFX E (xw D ad g) cX2_isEven RX2 6 (some .boolean)) (hR : zR E = rmX2_isEven) {r : Int32} {I : zMi} {J : zMl} (hr : zRX E (xw D ad g) (some (.int r)) I J) : ∀ (fuel : Nat) (n0 : Nat) (a1 : Int32) (a2 : Int32) (a3 : Int32), f_X2_isEven_14 I fuel n0 a1 a2 a3 = some r → n0 < 12 → zAt E (xw D ad g) 14 [(0, .ref (ad (22 + 3 * n0))), (1, .int a1), (2, .int a2), (3, .int a3)] [] I J := by
  intro fuel
  induction fuel with
  | zero => intro n0 a1 a2 a3 h b0; rw [f_X2_isEven_14] at h; cases h
  | succ f ih =>
    intro n0 a1 a2 a3 h b0
    rw [f_X2_isEven_14] at h
    refine z_iload_n fx dX2_isEven_14 rfl ?_
    refine z_aload_n fx dX2_isEven_15 rfl ?_
    refine gT_n fx b0 wf_X2_18 dX2_isEven_16 ?_
    refine z_icmp_ge (tgt := 104) fx dX2_isEven_19 (by decide) (fun q1 => ?_) (fun q1 => ?_)
    · rw [if_pos q1] at h
      refine z_iconst (v := 1) fx dX2_isEven_104 rfl ?_
      cases h
      exact z_zret fx rfl hr dX2_isEven_105
    · rw [if_neg q1] at h
      refine z_aload_n fx dX2_isEven_22 rfl ?_
      refine z_iload_n fx dX2_isEven_23 rfl ?_
      obtain ⟨x2, ex2, h⟩ := ob h
      refine zVi (k := 22 + 3 * n0) (rest := []) fx hR (c_X2_neighbours (zl E) D ad g n0 a3 I J b0 ex2) (rcT b0) mvX2_neighbours wm_X2_55 dX2_isEven_24 rfl ⟨rfl, rfl⟩ rfl rfl rfl ?_
      refine z_aload_n fx dX2_isEven_27 rfl ?_
      refine z_iconst (v := 0) fx dX2_isEven_28 rfl ?_
      obtain ⟨x3, ex3, h⟩ := ob h
      refine zVi (k := 22 + 3 * n0) (rest := [.int x2]) fx hR (c_X2_neighbours (zl E) D ad g n0 0 I J b0 ex3) (rcT b0) mvX2_neighbours wm_X2_55 dX2_isEven_29 rfl ⟨rfl, rfl⟩ rfl rfl rfl ?_
      refine z_icmp_eq (tgt := 37) fx dX2_isEven_32 (by decide) (fun q4 => ?_) (fun q4 => ?_)
      · rw [if_pos q4] at h
        refine z_iconst (v := 0) fx dX2_isEven_37 rfl ?_
        refine z_istore fx dX2_isEven_38 (by decide) rfl ?_
        exact z_lv2 (w_X2_isEven_40 fx hR hr ih fu n0 a1 a2 a3 0 h b0) rfl
      · rw [if_neg q4] at h
        refine z_iconst (v := 0) fx dX2_isEven_35 rfl ?_
        cases h
        exact z_zret fx rfl hr dX2_isEven_36
set_option maxRecDepth 100000 in
set_option maxHeartbeats 4000000 in
theorem c_X2_isEven (l : Launch) (D : va_G) (ad : Nat → Nat) (g : Nat → ClassId) (n0 : Nat) (I : zMi) (J : zMl) (b0 : n0 < 12) {r : Int32} (h : f_X2_isEven n0 I = some r) : zCM (xw D ad g) l yX2_isEven cX2_isEven 6 (some .boolean) rmX2_isEven [.ref (ad (22 + 3 * n0))] I J (some (.int r)) I J := by
  refine zCM.of (by decide) (Nat.le_of_ble_eq_true rfl) (fun E hl hR fx hr => ?_)
  subst hl
  rw [f_X2_isEven] at h
  refine z_aload_n fx dX2_isEven_0 rfl ?_
  refine z_iconst (v := 1) fx dX2_isEven_1 rfl ?_
  obtain ⟨x1, ex1, h⟩ := ob h
  refine zVi (k := 22 + 3 * n0) (rest := []) fx hR (c_X2_commonOfFirstPair (zl E) D ad g n0 1 I J b0 ex1) (rcT b0) mvX2_commonOfFirstPair wm_X2_52 dX2_isEven_2 rfl ⟨rfl, rfl⟩ rfl rfl rfl ?_
  refine z_istore_n fx dX2_isEven_5 (by decide) rfl ?_
  refine z_aload_n fx dX2_isEven_6 rfl ?_
  refine z_iconst (v := 0) fx dX2_isEven_7 rfl ?_
  obtain ⟨x2, ex2, h⟩ := ob h
  refine zVi (k := 22 + 3 * n0) (rest := []) fx hR (c_X2_commonOfFirstPair (zl E) D ad g n0 0 I J b0 ex2) (rcT b0) mvX2_commonOfFirstPair wm_X2_52 dX2_isEven_8 rfl ⟨rfl, rfl⟩ rfl rfl rfl ?_
  refine z_istore_n fx dX2_isEven_11 (by decide) rfl ?_
  refine z_iconst (v := 0) fx dX2_isEven_12 rfl ?_
  refine z_istore_n fx dX2_isEven_13 (by decide) rfl ?_
  exact z_lv2 (w_X2_isEven_14 fx hR hr fu n0 x1 x2 0 h b0) rfl
set_option maxRecDepth 100000 in
set_option maxHeartbeats 4000000 in
theorem w_X2_judged_33 {E : zE} {D : va_G} {ad : Nat → Nat} {g : Nat → ClassId} (fx : zFX E (xw D ad g) cX2_judged RX2 1 (some .int)) (hR : zR E = rmX2_judged) {r : Int32 × zMi} {J : zMl} (hr : zRX E (xw D ad g) (some (.int r.1)) r.2 J) : ∀ (n0 : Nat) (I : zMi) , f_X2_judged_33 n0 I = some r → n0 < 12 → zAt E (xw D ad g) 33 [(0, .ref (ad (22 + 3 * n0)))] [] I J := by
  intro n0 I h b0
  rw [f_X2_judged_33] at h
  refine z_aload_n fx dX2_judged_33 rfl ?_
  obtain ⟨x1, ex1, h⟩ := ob h
  refine zVi (k := 22 + 3 * n0) (rest := []) fx hR (c_X2_isGraph (zl E) D ad g n0 I J b0 ex1) (rcT b0) mvX2_isGraph wm_X2_39 dX2_judged_34 rfl ⟨rfl, rfl⟩ rfl rfl rfl ?_
  refine z_if_eq (tgt := 59) fx dX2_judged_37 (by decide) (fun q2 => ?_) (fun q2 => ?_)
  · rw [if_pos q2] at h
    refine z_aload_n fx dX2_judged_59 rfl ?_
    refine z_iconst (v := 0) fx dX2_judged_60 rfl ?_
    refine pT_kind fx b0 wf_X2_22 dX2_judged_61 ?_
    refine z_aload_n fx dX2_judged_64 rfl ?_
    refine gT_kind fx b0 wf_X2_22 dX2_judged_65 ?_
    cases h
    exact z_iret fx hr dX2_judged_68
  · rw [if_neg q2] at h
    refine z_aload_n fx dX2_judged_40 rfl ?_
    refine z_aload_n fx dX2_judged_41 rfl ?_
    obtain ⟨x3, ex3, h⟩ := ob h
    refine zVi (k := 22 + 3 * n0) (rest := [.ref (ad (22 + 3 * n0))]) fx hR (c_X2_isEven (zl E) D ad g n0 I J b0 ex3) (rcT b0) mvX2_isEven wm_X2_42 dX2_judged_42 rfl ⟨rfl, rfl⟩ rfl rfl rfl ?_
    refine z_if_eq (tgt := 52) fx dX2_judged_45 (by decide) (fun q4 => ?_) (fun q4 => ?_)
    · rw [if_pos q4] at h
      refine z_iconst (v := 3) fx dX2_judged_52 rfl ?_
      refine pT_kind fx b0 wf_X2_22 dX2_judged_53 ?_
      refine z_goto (tgt := 64) fx dX2_judged_56 (by decide) ?_
      refine z_aload_n fx dX2_judged_64 rfl ?_
      refine gT_kind fx b0 wf_X2_22 dX2_judged_65 ?_
      cases h
      exact z_iret fx hr dX2_judged_68
    · rw [if_neg q4] at h
      refine z_iconst (v := 4) fx dX2_judged_48 rfl ?_
      refine z_goto (tgt := 53) fx dX2_judged_49 (by decide) ?_
      refine pT_kind fx b0 wf_X2_22 dX2_judged_53 ?_
      refine z_goto (tgt := 64) fx dX2_judged_56 (by decide) ?_
      refine z_aload_n fx dX2_judged_64 rfl ?_
      refine gT_kind fx b0 wf_X2_22 dX2_judged_65 ?_
      cases h
      exact z_iret fx hr dX2_judged_68
set_option maxRecDepth 100000 in
set_option maxHeartbeats 4000000 in
theorem c_X2_judged (l : Launch) (D : va_G) (ad : Nat → Nat) (g : Nat → ClassId) (n0 : Nat) (I : zMi) (J : zMl) (b0 : n0 < 12) {r : Int32 × zMi} (h : f_X2_judged n0 I = some r) : zCM (xw D ad g) l yX2_judged cX2_judged 1 (some .int) rmX2_judged [.ref (ad (22 + 3 * n0))] I J (some (.int r.1)) r.2 J := by
  refine zCM.of (by decide) (Nat.le_of_ble_eq_true rfl) (fun E hl hR fx hr => ?_)
  subst hl
  rw [f_X2_judged] at h
  refine z_aload_n fx dX2_judged_0 rfl ?_
  obtain ⟨x1, ex1, h⟩ := ob h
  refine zVi (k := 22 + 3 * n0) (rest := []) fx hR (c_X2_isSigns (zl E) D ad g n0 I J b0 ex1) (rcT b0) mvX2_isSigns wm_X2_29 dX2_judged_1 rfl ⟨rfl, rfl⟩ rfl rfl rfl ?_
  refine z_if_eq (tgt := 33) fx dX2_judged_4 (by decide) (fun q2 => ?_) (fun q2 => ?_)
  · rw [if_pos q2] at h
    exact z_lv2 (w_X2_judged_33 fx hR hr n0 I h b0) rfl
  · rw [if_neg q2] at h
    refine z_aload_n fx dX2_judged_7 rfl ?_
    obtain ⟨x3, ex3, h⟩ := ob h
    refine zVi (k := 22 + 3 * n0) (rest := []) fx hR (c_X2_rowsBalance (zl E) D ad g n0 I J b0 ex3) (rcT b0) mvX2_rowsBalance wm_X2_33 dX2_judged_8 rfl ⟨rfl, rfl⟩ rfl rfl rfl ?_
    refine z_if_eq (tgt := 33) fx dX2_judged_11 (by decide) (fun q4 => ?_) (fun q4 => ?_)
    · rw [if_pos q4] at h
      exact z_lv2 (w_X2_judged_33 fx hR hr n0 I h b0) rfl
    · rw [if_neg q4] at h
      refine z_aload_n fx dX2_judged_14 rfl ?_
      refine z_aload_n fx dX2_judged_15 rfl ?_
      obtain ⟨x5, ex5, h⟩ := ob h
      refine zVi (k := 22 + 3 * n0) (rest := [.ref (ad (22 + 3 * n0))]) fx hR (c_X2_rowsMoveOn (zl E) D ad g n0 I J b0 ex5) (rcT b0) mvX2_rowsMoveOn wm_X2_36 dX2_judged_16 rfl ⟨rfl, rfl⟩ rfl rfl rfl ?_
      refine z_if_eq (tgt := 26) fx dX2_judged_19 (by decide) (fun q6 => ?_) (fun q6 => ?_)
      · rw [if_pos q6] at h
        refine z_iconst (v := 1) fx dX2_judged_26 rfl ?_
        refine pT_kind fx b0 wf_X2_22 dX2_judged_27 ?_
        refine z_goto (tgt := 64) fx dX2_judged_30 (by decide) ?_
        refine z_aload_n fx dX2_judged_64 rfl ?_
        refine gT_kind fx b0 wf_X2_22 dX2_judged_65 ?_
        cases h
        exact z_iret fx hr dX2_judged_68
      · rw [if_neg q6] at h
        refine z_iconst (v := 2) fx dX2_judged_22 rfl ?_
        refine z_goto (tgt := 27) fx dX2_judged_23 (by decide) ?_
        refine pT_kind fx b0 wf_X2_22 dX2_judged_27 ?_
        refine z_goto (tgt := 64) fx dX2_judged_30 (by decide) ?_
        refine z_aload_n fx dX2_judged_64 rfl ?_
        refine gT_kind fx b0 wf_X2_22 dX2_judged_65 ?_
        cases h
        exact z_iret fx hr dX2_judged_68
set_option maxRecDepth 100000 in
set_option maxHeartbeats 4000000 in
theorem c_X2_isOfKind (l : Launch) (D : va_G) (ad : Nat → Nat) (g : Nat → ClassId) (n0 : Nat) (a1 : Int32) (I : zMi) (J : zMl) (b0 : n0 < 12) {r : Int32} (h : f_X2_isOfKind n0 a1 I = r) : zCM (xw D ad g) l yX2_isOfKind cX2_isOfKind 2 (some .boolean) rmX2_isOfKind [.ref (ad (22 + 3 * n0)), .int a1] I J (some (.int r)) I J := by
  refine zCM.of (by decide) (Nat.le_of_ble_eq_true rfl) (fun E hl hR fx hr => ?_)
  subst hl
  rw [f_X2_isOfKind] at h
  refine z_iload_n fx dX2_isOfKind_0 rfl ?_
  refine z_if_eq (tgt := 38) fx dX2_isOfKind_1 (by decide) (fun q1 => ?_) (fun q1 => ?_)
  · rw [if_pos q1] at h
    refine z_iconst (v := 1) fx dX2_isOfKind_38 rfl ?_
    refine z_goto (tgt := 43) fx dX2_isOfKind_39 (by decide) ?_
    subst h
    exact z_zret fx rfl hr dX2_isOfKind_43
  · rw [if_neg q1] at h
    refine z_aload_n fx dX2_isOfKind_4 rfl ?_
    refine gT_kind fx b0 wf_X2_22 dX2_isOfKind_5 ?_
    refine z_iload_n fx dX2_isOfKind_8 rfl ?_
    refine z_icmp_eq (tgt := 38) fx dX2_isOfKind_9 (by decide) (fun q2 => ?_) (fun q2 => ?_)
    · rw [if_pos q2] at h
      refine z_iconst (v := 1) fx dX2_isOfKind_38 rfl ?_
      refine z_goto (tgt := 43) fx dX2_isOfKind_39 (by decide) ?_
      subst h
      exact z_zret fx rfl hr dX2_isOfKind_43
    · rw [if_neg q2] at h
      refine z_iload_n fx dX2_isOfKind_12 rfl ?_
      refine z_iconst (v := 1) fx dX2_isOfKind_13 rfl ?_
      refine z_icmp_ne (tgt := 25) fx dX2_isOfKind_14 (by decide) (fun q3 => ?_) (fun q3 => ?_)
      · rw [if_neg q3] at h
        refine z_iload_n fx dX2_isOfKind_25 rfl ?_
        refine z_iconst (v := 3) fx dX2_isOfKind_26 rfl ?_
        refine z_icmp_ne (tgt := 42) fx dX2_isOfKind_27 (by decide) (fun q4 => ?_) (fun q4 => ?_)
        · rw [if_neg q4] at h
          refine z_iconst (v := 0) fx dX2_isOfKind_42 rfl ?_
          subst h
          exact z_zret fx rfl hr dX2_isOfKind_43
        · rw [if_pos q4] at h
          refine z_aload_n fx dX2_isOfKind_30 rfl ?_
          refine gT_kind fx b0 wf_X2_22 dX2_isOfKind_31 ?_
          refine z_iconst (v := 4) fx dX2_isOfKind_34 rfl ?_
          refine z_icmp_ne (tgt := 42) fx dX2_isOfKind_35 (by decide) (fun q5 => ?_) (fun q5 => ?_)
          · rw [if_neg q5] at h
            refine z_iconst (v := 0) fx dX2_isOfKind_42 rfl ?_
            subst h
            exact z_zret fx rfl hr dX2_isOfKind_43
          · rw [if_pos q5] at h
            refine z_iconst (v := 1) fx dX2_isOfKind_38 rfl ?_
            refine z_goto (tgt := 43) fx dX2_isOfKind_39 (by decide) ?_
            subst h
            exact z_zret fx rfl hr dX2_isOfKind_43
      · rw [if_pos q3] at h
        refine z_aload_n fx dX2_isOfKind_17 rfl ?_
        refine gT_kind fx b0 wf_X2_22 dX2_isOfKind_18 ?_
        refine z_iconst (v := 2) fx dX2_isOfKind_21 rfl ?_
        refine z_icmp_eq (tgt := 38) fx dX2_isOfKind_22 (by decide) (fun q6 => ?_) (fun q6 => ?_)
        · rw [if_pos q6] at h
          refine z_iconst (v := 1) fx dX2_isOfKind_38 rfl ?_
          refine z_goto (tgt := 43) fx dX2_isOfKind_39 (by decide) ?_
          subst h
          exact z_zret fx rfl hr dX2_isOfKind_43
        · rw [if_neg q6] at h
          refine z_iload_n fx dX2_isOfKind_25 rfl ?_
          refine z_iconst (v := 3) fx dX2_isOfKind_26 rfl ?_
          refine z_icmp_ne (tgt := 42) fx dX2_isOfKind_27 (by decide) (fun q7 => ?_) (fun q7 => ?_)
          · rw [if_neg q7] at h
            refine z_iconst (v := 0) fx dX2_isOfKind_42 rfl ?_
            subst h
            exact z_zret fx rfl hr dX2_isOfKind_43
          · rw [if_pos q7] at h
            refine z_aload_n fx dX2_isOfKind_30 rfl ?_
            refine gT_kind fx b0 wf_X2_22 dX2_isOfKind_31 ?_
            refine z_iconst (v := 4) fx dX2_isOfKind_34 rfl ?_
            refine z_icmp_ne (tgt := 42) fx dX2_isOfKind_35 (by decide) (fun q8 => ?_) (fun q8 => ?_)
            · rw [if_neg q8] at h
              refine z_iconst (v := 0) fx dX2_isOfKind_42 rfl ?_
              subst h
              exact z_zret fx rfl hr dX2_isOfKind_43
            · rw [if_pos q8] at h
              refine z_iconst (v := 1) fx dX2_isOfKind_38 rfl ?_
              refine z_goto (tgt := 43) fx dX2_isOfKind_39 (by decide) ?_
              subst h
              exact z_zret fx rfl hr dX2_isOfKind_43
set_option maxRecDepth 100000 in
set_option maxHeartbeats 4000000 in
theorem c_X2_isNormal (l : Launch) (D : va_G) (ad : Nat → Nat) (g : Nat → ClassId) (n0 : Nat) (I : zMi) (J : zMl) (b0 : n0 < 12) {r : Int32} (h : f_X2_isNormal n0 I = some r) : zCM (xw D ad g) l yX2_isNormal cX2_isNormal 1 (some .boolean) rmX2_isNormal [.ref (ad (22 + 3 * n0))] I J (some (.int r)) I J := by
  refine zCM.of (by decide) (Nat.le_of_ble_eq_true rfl) (fun E hl hR fx hr => ?_)
  subst hl
  rw [f_X2_isNormal] at h
  refine z_aload_n fx dX2_isNormal_0 rfl ?_
  obtain ⟨x1, ex1, h⟩ := ob h
  refine zVi (k := 22 + 3 * n0) (rest := []) fx hR (c_X2_isSigns (zl E) D ad g n0 I J b0 ex1) (rcT b0) mvX2_isSigns wm_X2_29 dX2_isNormal_1 rfl ⟨rfl, rfl⟩ rfl rfl rfl ?_
  refine z_if_eq (tgt := 28) fx dX2_isNormal_4 (by decide) (fun q2 => ?_) (fun q2 => ?_)
  · rw [if_pos q2] at h
    refine z_iconst (v := 0) fx dX2_isNormal_28 rfl ?_
    cases h
    exact z_zret fx rfl hr dX2_isNormal_29
  · rw [if_neg q2] at h
    refine z_aload_n fx dX2_isNormal_7 rfl ?_
    refine gT_minus fx b0 wf_X2_15 dX2_isNormal_8 ?_
    refine z_iconst (v := 0) fx dX2_isNormal_11 rfl ?_
    refine x_ild fx (bT2 b0) (cfX_Tm g ad b0) (by decide) dX2_isNormal_12 ?_
    refine z_if_ne (tgt := 28) fx dX2_isNormal_13 (by decide) (fun q3 => ?_) (fun q3 => ?_)
    · rw [if_neg q3] at h
      refine z_iconst (v := 0) fx dX2_isNormal_28 rfl ?_
      cases h
      exact z_zret fx rfl hr dX2_isNormal_29
    · rw [if_pos q3] at h
      refine z_aload_n fx dX2_isNormal_16 rfl ?_
      refine z_iconst (v := 0) fx dX2_isNormal_17 rfl ?_
      obtain ⟨x4, ex4, h⟩ := ob h
      refine zVi (k := 22 + 3 * n0) (rest := []) fx hR (c_X2_minusOfColumn (zl E) D ad g n0 0 I J b0 ex4) (rcT b0) mvX2_minusOfColumn wm_X2_49 dX2_isNormal_18 rfl ⟨rfl, rfl⟩ rfl rfl rfl ?_
      refine z_if_ne (tgt := 28) fx dX2_isNormal_21 (by decide) (fun q5 => ?_) (fun q5 => ?_)
      · rw [if_neg q5] at h
        refine z_iconst (v := 0) fx dX2_isNormal_28 rfl ?_
        cases h
        exact z_zret fx rfl hr dX2_isNormal_29
      · rw [if_pos q5] at h
        refine z_iconst (v := 1) fx dX2_isNormal_24 rfl ?_
        refine z_goto (tgt := 29) fx dX2_isNormal_25 (by decide) ?_
        cases h
        exact z_zret fx rfl hr dX2_isNormal_29
set_option maxRecDepth 100000 in
set_option maxHeartbeats 4000000 in
theorem w_X2_turnColumns_2 {E : zE} {D : va_G} {ad : Nat → Nat} {g : Nat → ClassId} (fx : zFX E (xw D ad g) cX2_turnColumns RX2 4 none) (hR : zR E = rmX2_turnColumns) {r : zMi} {J : zMl} (hr : zRX E (xw D ad g) none r J) : ∀ (fuel : Nat) (n0 : Nat) (a1 : Int32) (a2 : Int32) (I : zMi) , f_X2_turnColumns_2 fuel n0 a1 a2 I = some r → n0 < 12 → zAt E (xw D ad g) 2 [(0, .ref (ad (22 + 3 * n0))), (1, .int a1), (2, .int a2)] [] I J := by
  intro fuel
  induction fuel with
  | zero => intro n0 a1 a2 I h b0; rw [f_X2_turnColumns_2] at h; cases h
  | succ f ih =>
    intro n0 a1 a2 I h b0
    rw [f_X2_turnColumns_2] at h
    refine z_iload_n fx dX2_turnColumns_2 rfl ?_
    refine z_aload_n fx dX2_turnColumns_3 rfl ?_
    refine gT_n fx b0 wf_X2_18 dX2_turnColumns_4 ?_
    refine z_icmp_ge (tgt := 52) fx dX2_turnColumns_7 (by decide) (fun q1 => ?_) (fun q1 => ?_)
    · rw [if_pos q1] at h
      cases h
      exact z_vret fx hr dX2_turnColumns_52
    · rw [if_neg q1] at h
      refine z_aload_n fx dX2_turnColumns_10 rfl ?_
      refine gT_plus fx b0 wf_X2_9 dX2_turnColumns_11 ?_
      refine z_iload_n fx dX2_turnColumns_14 rfl ?_
      obtain ⟨q2, h⟩ := oi h
      refine x_ild fx (bT1 b0) (cfX_Tp g ad b0) q2 dX2_turnColumns_15 ?_
      refine z_aload_n fx dX2_turnColumns_16 rfl ?_
      refine gT_minus fx b0 wf_X2_15 dX2_turnColumns_17 ?_
      refine z_iload_n fx dX2_turnColumns_20 rfl ?_
      refine x_ild fx (bT2 b0) (cfX_Tm g ad b0) q2 dX2_turnColumns_21 ?_
      refine z_ixor fx dX2_turnColumns_22 ?_
      refine z_iload_n fx dX2_turnColumns_23 rfl ?_
      refine z_iand fx dX2_turnColumns_24 ?_
      refine z_istore_n fx dX2_turnColumns_25 (by decide) rfl ?_
      refine z_aload_n fx dX2_turnColumns_26 rfl ?_
      refine gT_plus fx b0 wf_X2_9 dX2_turnColumns_27 ?_
      refine z_iload_n fx dX2_turnColumns_30 rfl ?_
      refine z_dup2 fx dX2_turnColumns_31 rfl rfl ?_
      refine x_ild fx (bT1 b0) (cfX_Tp g ad b0) q2 dX2_turnColumns_32 ?_
      refine z_iload_n fx dX2_turnColumns_33 rfl ?_
      refine z_ixor fx dX2_turnColumns_34 ?_
      refine x_ist fx (bT1 b0) (cfX_Tp g ad b0) q2 dX2_turnColumns_35 ?_
      refine z_aload_n fx dX2_turnColumns_36 rfl ?_
      refine gT_minus fx b0 wf_X2_15 dX2_turnColumns_37 ?_
      refine z_iload_n fx dX2_turnColumns_40 rfl ?_
      refine z_dup2 fx dX2_turnColumns_41 rfl rfl ?_
      refine x_ild fx (bT2 b0) (cfX_Tm g ad b0) q2 dX2_turnColumns_42 ?_
      refine z_iload_n fx dX2_turnColumns_43 rfl ?_
      refine z_ixor fx dX2_turnColumns_44 ?_
      refine x_ist fx (bT2 b0) (cfX_Tm g ad b0) q2 dX2_turnColumns_45 ?_
      refine z_iinc (v := (a2 + 1)) fx dX2_turnColumns_46 rfl rfl (by decide) rfl ?_
      refine z_goto (tgt := 2) fx dX2_turnColumns_49 (by decide) ?_
      exact z_lv2 (ih n0 a1 (a2 + 1) (wI (wI I (23 + 3 * n0) a2.toNatClampNeg ((I (23 + 3 * n0) a2.toNatClampNeg) ^^^ (((I (23 + 3 * n0) a2.toNatClampNeg) ^^^ (I (24 + 3 * n0) a2.toNatClampNeg)) &&& a1))) (24 + 3 * n0) a2.toNatClampNeg (((wI I (23 + 3 * n0) a2.toNatClampNeg ((I (23 + 3 * n0) a2.toNatClampNeg) ^^^ (((I (23 + 3 * n0) a2.toNatClampNeg) ^^^ (I (24 + 3 * n0) a2.toNatClampNeg)) &&& a1))) (24 + 3 * n0) a2.toNatClampNeg) ^^^ (((I (23 + 3 * n0) a2.toNatClampNeg) ^^^ (I (24 + 3 * n0) a2.toNatClampNeg)) &&& a1))) h b0) rfl
set_option maxRecDepth 100000 in
set_option maxHeartbeats 4000000 in
theorem c_X2_turnColumns (l : Launch) (D : va_G) (ad : Nat → Nat) (g : Nat → ClassId) (n0 : Nat) (a1 : Int32) (I : zMi) (J : zMl) (b0 : n0 < 12) {r : zMi} (h : f_X2_turnColumns n0 a1 I = some r) : zCM (xw D ad g) l yX2_turnColumns cX2_turnColumns 4 none rmX2_turnColumns [.ref (ad (22 + 3 * n0)), .int a1] I J none r J := by
  refine zCM.of (by decide) (Nat.le_of_ble_eq_true rfl) (fun E hl hR fx hr => ?_)
  subst hl
  rw [f_X2_turnColumns] at h
  refine z_iconst (v := 0) fx dX2_turnColumns_0 rfl ?_
  refine z_istore_n fx dX2_turnColumns_1 (by decide) rfl ?_
  exact z_lv2 (w_X2_turnColumns_2 fx hR hr fu n0 a1 0 I h b0) rfl
set_option maxRecDepth 100000 in
set_option maxHeartbeats 4000000 in
theorem w_X2_turnRows_2 {E : zE} {D : va_G} {ad : Nat → Nat} {g : Nat → ClassId} (fx : zFX E (xw D ad g) cX2_turnRows RX2 4 none) (hR : zR E = rmX2_turnRows) {r : zMi} {J : zMl} (hr : zRX E (xw D ad g) none r J) : ∀ (fuel : Nat) (n0 : Nat) (a1 : Int32) (a2 : Int32) (I : zMi) , f_X2_turnRows_2 fuel n0 a1 a2 I = some r → n0 < 12 → zAt E (xw D ad g) 2 [(0, .ref (ad (22 + 3 * n0))), (1, .int a1), (2, .int a2)] [] I J := by
  intro fuel
  induction fuel with
  | zero => intro n0 a1 a2 I h b0; rw [f_X2_turnRows_2] at h; cases h
  | succ f ih =>
    intro n0 a1 a2 I h b0
    rw [f_X2_turnRows_2] at h
    refine z_iload_n fx dX2_turnRows_2 rfl ?_
    refine z_aload_n fx dX2_turnRows_3 rfl ?_
    refine gT_n fx b0 wf_X2_18 dX2_turnRows_4 ?_
    refine z_icmp_ge (tgt := 51) fx dX2_turnRows_7 (by decide) (fun q1 => ?_) (fun q1 => ?_)
    · rw [if_pos q1] at h
      cases h
      exact z_vret fx hr dX2_turnRows_51
    · rw [if_neg q1] at h
      refine z_iload_n fx dX2_turnRows_10 rfl ?_
      refine z_iload_n fx dX2_turnRows_11 rfl ?_
      refine z_ishr fx dX2_turnRows_12 ?_
      refine z_iconst (v := 1) fx dX2_turnRows_13 rfl ?_
      refine z_iand fx dX2_turnRows_14 ?_
      refine z_iconst (v := 1) fx dX2_turnRows_15 rfl ?_
      refine z_icmp_ne (tgt := 45) fx dX2_turnRows_16 (by decide) (fun q2 => ?_) (fun q2 => ?_)
      · rw [if_neg q2] at h
        refine z_iinc (v := (a2 + 1)) fx dX2_turnRows_45 rfl rfl (by decide) rfl ?_
        refine z_goto (tgt := 2) fx dX2_turnRows_48 (by decide) ?_
        exact z_lv2 (ih n0 a1 (a2 + 1) I h b0) rfl
      · rw [if_pos q2] at h
        refine z_aload_n fx dX2_turnRows_19 rfl ?_
        refine gT_plus fx b0 wf_X2_9 dX2_turnRows_20 ?_
        refine z_iload_n fx dX2_turnRows_23 rfl ?_
        obtain ⟨q3, h⟩ := oi h
        refine x_ild fx (bT1 b0) (cfX_Tp g ad b0) q3 dX2_turnRows_24 ?_
        refine z_istore_n fx dX2_turnRows_25 (by decide) rfl ?_
        refine z_aload_n fx dX2_turnRows_26 rfl ?_
        refine gT_plus fx b0 wf_X2_9 dX2_turnRows_27 ?_
        refine z_iload_n fx dX2_turnRows_30 rfl ?_
        refine z_aload_n fx dX2_turnRows_31 rfl ?_
        refine gT_minus fx b0 wf_X2_15 dX2_turnRows_32 ?_
        refine z_iload_n fx dX2_turnRows_35 rfl ?_
        refine x_ild fx (bT2 b0) (cfX_Tm g ad b0) q3 dX2_turnRows_36 ?_
        refine x_ist fx (bT1 b0) (cfX_Tp g ad b0) q3 dX2_turnRows_37 ?_
        refine z_aload_n fx dX2_turnRows_38 rfl ?_
        refine gT_minus fx b0 wf_X2_15 dX2_turnRows_39 ?_
        refine z_iload_n fx dX2_turnRows_42 rfl ?_
        refine z_iload_n fx dX2_turnRows_43 rfl ?_
        refine x_ist fx (bT2 b0) (cfX_Tm g ad b0) q3 dX2_turnRows_44 ?_
        refine z_iinc (v := (a2 + 1)) fx dX2_turnRows_45 rfl rfl (by decide) rfl ?_
        refine z_goto (tgt := 2) fx dX2_turnRows_48 (by decide) ?_
        exact z_lv2 (ih n0 a1 (a2 + 1) (wI (wI I (23 + 3 * n0) a2.toNatClampNeg (I (24 + 3 * n0) a2.toNatClampNeg)) (24 + 3 * n0) a2.toNatClampNeg (I (23 + 3 * n0) a2.toNatClampNeg)) h b0) rfl
set_option maxRecDepth 100000 in
set_option maxHeartbeats 4000000 in
theorem c_X2_turnRows (l : Launch) (D : va_G) (ad : Nat → Nat) (g : Nat → ClassId) (n0 : Nat) (a1 : Int32) (I : zMi) (J : zMl) (b0 : n0 < 12) {r : zMi} (h : f_X2_turnRows n0 a1 I = some r) : zCM (xw D ad g) l yX2_turnRows cX2_turnRows 4 none rmX2_turnRows [.ref (ad (22 + 3 * n0)), .int a1] I J none r J := by
  refine zCM.of (by decide) (Nat.le_of_ble_eq_true rfl) (fun E hl hR fx hr => ?_)
  subst hl
  rw [f_X2_turnRows] at h
  refine z_iconst (v := 0) fx dX2_turnRows_0 rfl ?_
  refine z_istore_n fx dX2_turnRows_1 (by decide) rfl ?_
  exact z_lv2 (w_X2_turnRows_2 fx hR hr fu n0 a1 0 I h b0) rfl
set_option maxRecDepth 100000 in
set_option maxHeartbeats 4000000 in
theorem c_X2_exchangeRows (l : Launch) (D : va_G) (ad : Nat → Nat) (g : Nat → ClassId) (n0 : Nat) (a1 : Int32) (a2 : Int32) (I : zMi) (J : zMl) (b0 : n0 < 12) {r : zMi} (h : f_X2_exchangeRows n0 a1 a2 I = some r) : zCM (xw D ad g) l yX2_exchangeRows cX2_exchangeRows 5 none rmX2_exchangeRows [.ref (ad (22 + 3 * n0)), .int a1, .int a2] I J none r J := by
  refine zCM.of (by decide) (Nat.le_of_ble_eq_true rfl) (fun E hl hR fx hr => ?_)
  subst hl
  rw [f_X2_exchangeRows] at h
  refine z_aload_n fx dX2_exchangeRows_0 rfl ?_
  refine gT_plus fx b0 wf_X2_9 dX2_exchangeRows_1 ?_
  refine z_iload_n fx dX2_exchangeRows_4 rfl ?_
  obtain ⟨q1, h⟩ := oi h
  refine x_ild fx (bT1 b0) (cfX_Tp g ad b0) q1 dX2_exchangeRows_5 ?_
  refine z_istore_n fx dX2_exchangeRows_6 (by decide) rfl ?_
  refine z_aload_n fx dX2_exchangeRows_7 rfl ?_
  refine gT_minus fx b0 wf_X2_15 dX2_exchangeRows_8 ?_
  refine z_iload_n fx dX2_exchangeRows_11 rfl ?_
  refine x_ild fx (bT2 b0) (cfX_Tm g ad b0) q1 dX2_exchangeRows_12 ?_
  refine z_istore fx dX2_exchangeRows_13 (by decide) rfl ?_
  refine z_aload_n fx dX2_exchangeRows_15 rfl ?_
  refine gT_plus fx b0 wf_X2_9 dX2_exchangeRows_16 ?_
  refine z_iload_n fx dX2_exchangeRows_19 rfl ?_
  refine z_aload_n fx dX2_exchangeRows_20 rfl ?_
  refine gT_plus fx b0 wf_X2_9 dX2_exchangeRows_21 ?_
  refine z_iload_n fx dX2_exchangeRows_24 rfl ?_
  obtain ⟨q2, h⟩ := oi h
  refine x_ild fx (bT1 b0) (cfX_Tp g ad b0) q2 dX2_exchangeRows_25 ?_
  refine x_ist fx (bT1 b0) (cfX_Tp g ad b0) q1 dX2_exchangeRows_26 ?_
  refine z_aload_n fx dX2_exchangeRows_27 rfl ?_
  refine gT_minus fx b0 wf_X2_15 dX2_exchangeRows_28 ?_
  refine z_iload_n fx dX2_exchangeRows_31 rfl ?_
  refine z_aload_n fx dX2_exchangeRows_32 rfl ?_
  refine gT_minus fx b0 wf_X2_15 dX2_exchangeRows_33 ?_
  refine z_iload_n fx dX2_exchangeRows_36 rfl ?_
  refine x_ild fx (bT2 b0) (cfX_Tm g ad b0) q2 dX2_exchangeRows_37 ?_
  refine x_ist fx (bT2 b0) (cfX_Tm g ad b0) q1 dX2_exchangeRows_38 ?_
  refine z_aload_n fx dX2_exchangeRows_39 rfl ?_
  refine gT_plus fx b0 wf_X2_9 dX2_exchangeRows_40 ?_
  refine z_iload_n fx dX2_exchangeRows_43 rfl ?_
  refine z_iload_n fx dX2_exchangeRows_44 rfl ?_
  refine x_ist fx (bT1 b0) (cfX_Tp g ad b0) q2 dX2_exchangeRows_45 ?_
  refine z_aload_n fx dX2_exchangeRows_46 rfl ?_
  refine gT_minus fx b0 wf_X2_15 dX2_exchangeRows_47 ?_
  refine z_iload_n fx dX2_exchangeRows_50 rfl ?_
  refine z_iload fx dX2_exchangeRows_51 rfl ?_
  refine x_ist fx (bT2 b0) (cfX_Tm g ad b0) q2 dX2_exchangeRows_53 ?_
  cases h
  exact z_vret fx hr dX2_exchangeRows_54
set_option maxRecDepth 100000 in
set_option maxHeartbeats 4000000 in
theorem w_X2_exchangeColumns_2 {E : zE} {D : va_G} {ad : Nat → Nat} {g : Nat → ClassId} (fx : zFX E (xw D ad g) cX2_exchangeColumns RX2 5 none) (hR : zR E = rmX2_exchangeColumns) {r : zMi} {J : zMl} (hr : zRX E (xw D ad g) none r J) : ∀ (fuel : Nat) (n0 : Nat) (a1 : Int32) (a2 : Int32) (a3 : Int32) (I : zMi) , f_X2_exchangeColumns_2 fuel n0 a1 a2 a3 I = some r → n0 < 12 → zAt E (xw D ad g) 2 [(0, .ref (ad (22 + 3 * n0))), (1, .int a1), (2, .int a2), (3, .int a3)] [] I J := by
  intro fuel
  induction fuel with
  | zero => intro n0 a1 a2 a3 I h b0; rw [f_X2_exchangeColumns_2] at h; cases h
  | succ f ih =>
    intro n0 a1 a2 a3 I h b0
    rw [f_X2_exchangeColumns_2] at h
    refine z_iload_n fx dX2_exchangeColumns_2 rfl ?_
    refine z_aload_n fx dX2_exchangeColumns_3 rfl ?_
    refine gT_n fx b0 wf_X2_18 dX2_exchangeColumns_4 ?_
    refine z_icmp_ge (tgt := 44) fx dX2_exchangeColumns_7 (by decide) (fun q1 => ?_) (fun q1 => ?_)
    · rw [if_pos q1] at h
      cases h
      exact z_vret fx hr dX2_exchangeColumns_44
    · rw [if_neg q1] at h
      refine z_aload_n fx dX2_exchangeColumns_10 rfl ?_
      refine z_iload_n fx dX2_exchangeColumns_11 rfl ?_
      refine z_iload_n fx dX2_exchangeColumns_12 rfl ?_
      obtain ⟨x2, ex2, h⟩ := ob h
      refine zVi (k := 22 + 3 * n0) (rest := []) fx hR (c_X2_number (zl E) D ad g n0 a3 a1 I J b0 ex2) (rcT b0) mvX2_number wm_X2_63 dX2_exchangeColumns_13 rfl ⟨rfl, rfl⟩ rfl rfl rfl ?_
      refine z_istore fx dX2_exchangeColumns_16 (by decide) rfl ?_
      refine z_aload_n fx dX2_exchangeColumns_18 rfl ?_
      refine z_iload_n fx dX2_exchangeColumns_19 rfl ?_
      refine z_iload_n fx dX2_exchangeColumns_20 rfl ?_
      refine z_aload_n fx dX2_exchangeColumns_21 rfl ?_
      refine z_iload_n fx dX2_exchangeColumns_22 rfl ?_
      refine z_iload_n fx dX2_exchangeColumns_23 rfl ?_
      obtain ⟨x3, ex3, h⟩ := ob h
      refine zVi (k := 22 + 3 * n0) (rest := [.int a1, .int a3, .ref (ad (22 + 3 * n0))]) fx hR (c_X2_number (zl E) D ad g n0 a3 a2 I J b0 ex3) (rcT b0) mvX2_number wm_X2_63 dX2_exchangeColumns_24 rfl ⟨rfl, rfl⟩ rfl rfl rfl ?_
      obtain ⟨x4, ex4, h⟩ := ob h
      refine zVv (k := 22 + 3 * n0) (rest := []) fx hR (c_X2_write (zl E) D ad g n0 a3 a1 x3 I J b0 ex4) (rcT b0) mvX2_write wm_X2_67 dX2_exchangeColumns_27 rfl ⟨rfl, rfl⟩ rfl rfl rfl ?_
      refine z_aload_n fx dX2_exchangeColumns_30 rfl ?_
      refine z_iload_n fx dX2_exchangeColumns_31 rfl ?_
      refine z_iload_n fx dX2_exchangeColumns_32 rfl ?_
      refine z_iload fx dX2_exchangeColumns_33 rfl ?_
      obtain ⟨x5, ex5, h⟩ := ob h
      refine zVv (k := 22 + 3 * n0) (rest := []) fx hR (c_X2_write (zl E) D ad g n0 a3 a2 x2 x4 J b0 ex5) (rcT b0) mvX2_write wm_X2_67 dX2_exchangeColumns_35 rfl ⟨rfl, rfl⟩ rfl rfl rfl ?_
      refine z_iinc (v := (a3 + 1)) fx dX2_exchangeColumns_38 rfl rfl (by decide) rfl ?_
      refine z_goto (tgt := 2) fx dX2_exchangeColumns_41 (by decide) ?_
      exact z_lv2 (ih n0 a1 a2 (a3 + 1) x5 h b0) rfl
set_option maxRecDepth 100000 in
set_option maxHeartbeats 4000000 in
theorem c_X2_exchangeColumns (l : Launch) (D : va_G) (ad : Nat → Nat) (g : Nat → ClassId) (n0 : Nat) (a1 : Int32) (a2 : Int32) (I : zMi) (J : zMl) (b0 : n0 < 12) {r : zMi} (h : f_X2_exchangeColumns n0 a1 a2 I = some r) : zCM (xw D ad g) l yX2_exchangeColumns cX2_exchangeColumns 5 none rmX2_exchangeColumns [.ref (ad (22 + 3 * n0)), .int a1, .int a2] I J none r J := by
  refine zCM.of (by decide) (Nat.le_of_ble_eq_true rfl) (fun E hl hR fx hr => ?_)
  subst hl
  rw [f_X2_exchangeColumns] at h
  refine z_iconst (v := 0) fx dX2_exchangeColumns_0 rfl ?_
  refine z_istore_n fx dX2_exchangeColumns_1 (by decide) rfl ?_
  exact z_lv2 (w_X2_exchangeColumns_2 fx hR hr fu n0 a1 a2 0 I h b0) rfl
