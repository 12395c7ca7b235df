set_option maxRecDepth 100000 in
set_option maxHeartbeats 4000000 in
theorem w_X2_beginFlipped_20 {E : zE} {D : va_G} {ad : Nat → Nat} {g : Nat → ClassId} (fx : zFX E (xw D ad g) cX2_beginFlipped RX2 4 none) (hR : zR E = rmX2_beginFlipped) {r : zMi} {J : zMl} (hr : zRX E (xw D ad g) none r J) {k10 : Nat → Nat → Int32 → zMi → Option zMi} (hk10 : ∀ (n0 : Nat) (n1 : Nat) (a2 : Int32) (I : zMi) , k10 n0 n1 a2 I = some r → n0 < 12 → n1 < 12 → zAt E (xw D ad g) 10 [(0, .ref (ad (22 + 3 * n0))), (1, .ref (ad (22 + 3 * n1))), (2, .int a2)] [] I J) : ∀ (fuel : Nat) (n0 : Nat) (n1 : Nat) (a2 : Int32) (a3 : Int32) (I : zMi) , f_X2_beginFlipped_20 k10 fuel n0 n1 a2 a3 I = some r → n0 < 12 → n1 < 12 → zAt E (xw D ad g) 20 [(0, .ref (ad (22 + 3 * n0))), (1, .ref (ad (22 + 3 * n1))), (2, .int a2), (3, .int a3)] [] I J := by
  intro fuel
  induction fuel with
  | zero => intro n0 n1 a2 a3 I h b0 b1; rw [f_X2_beginFlipped_20] at h; cases h
  | succ f ih =>
    intro n0 n1 a2 a3 I h b0 b1
    rw [f_X2_beginFlipped_20] at h
    refine z_iload_n fx dX2_beginFlipped_20 rfl ?_
    refine z_aload_n fx dX2_beginFlipped_21 rfl ?_
    refine gT_n fx b0 wf_X2_18 dX2_beginFlipped_22 ?_
    refine z_icmp_ge (tgt := 46) fx dX2_beginFlipped_25 (by decide) (fun q1 => ?_) (fun q1 => ?_)
    · rw [if_pos q1] at h
      refine z_iinc (v := (a2 + 1)) fx dX2_beginFlipped_46 rfl rfl (by decide) rfl ?_
      refine z_goto (tgt := 10) fx dX2_beginFlipped_49 (by decide) ?_
      exact z_lv2 (hk10 n0 n1 (a2 + 1) I h b0 b1) rfl
    · rw [if_neg q1] at h
      refine z_aload_n fx dX2_beginFlipped_28 rfl ?_
      refine z_iload_n fx dX2_beginFlipped_29 rfl ?_
      refine z_iload_n fx dX2_beginFlipped_30 rfl ?_
      refine z_aload_n fx dX2_beginFlipped_31 rfl ?_
      refine z_iload_n fx dX2_beginFlipped_32 rfl ?_
      refine z_iload_n fx dX2_beginFlipped_33 rfl ?_
      obtain ⟨x2, ex2, h⟩ := ob h
      refine zVi (k := 22 + 3 * n1) (rest := [.int a3, .int a2, .ref (ad (22 + 3 * n0))]) fx hR (c_X2_number (zl E) D ad g n1 a3 a2 I J b1 ex2) (rcT b1) mvX2_number wm_X2_63 dX2_beginFlipped_34 rfl ⟨rfl, rfl⟩ rfl rfl rfl ?_
      obtain ⟨x3, ex3, h⟩ := ob h
      refine zVv (k := 22 + 3 * n0) (rest := []) fx hR (c_X2_write (zl E) D ad g n0 a2 a3 x2 I J b0 ex3) (rcT b0) mvX2_write wm_X2_67 dX2_beginFlipped_37 rfl ⟨rfl, rfl⟩ rfl rfl rfl ?_
      refine z_iinc (v := (a3 + 1)) fx dX2_beginFlipped_40 rfl rfl (by decide) rfl ?_
      refine z_goto (tgt := 20) fx dX2_beginFlipped_43 (by decide) ?_
      exact z_lv2 (ih n0 n1 a2 (a3 + 1) x3 h b0 b1) rfl
set_option maxRecDepth 100000 in
set_option maxHeartbeats 4000000 in
theorem w_X2_beginFlipped_10 {E : zE} {D : va_G} {ad : Nat → Nat} {g : Nat → ClassId} (fx : zFX E (xw D ad g) cX2_beginFlipped RX2 4 none) (hR : zR E = rmX2_beginFlipped) {r : zMi} {J : zMl} (hr : zRX E (xw D ad g) none r J) : ∀ (fuel : Nat) (n0 : Nat) (n1 : Nat) (a2 : Int32) (I : zMi) , f_X2_beginFlipped_10 fuel n0 n1 a2 I = some r → n0 < 12 → n1 < 12 → zAt E (xw D ad g) 10 [(0, .ref (ad (22 + 3 * n0))), (1, .ref (ad (22 + 3 * n1))), (2, .int a2)] [] I J := by
  intro fuel
  induction fuel with
  | zero => intro n0 n1 a2 I h b0 b1; rw [f_X2_beginFlipped_10] at h; cases h
  | succ f ih =>
    intro n0 n1 a2 I h b0 b1
    rw [f_X2_beginFlipped_10] at h
    refine z_iload_n fx dX2_beginFlipped_10 rfl ?_
    refine z_aload_n fx dX2_beginFlipped_11 rfl ?_
    refine gT_n fx b0 wf_X2_18 dX2_beginFlipped_12 ?_
    refine z_icmp_ge (tgt := 52) fx dX2_beginFlipped_15 (by decide) (fun q1 => ?_) (fun q1 => ?_)
    · rw [if_pos q1] at h
      cases h
      exact z_vret fx hr dX2_beginFlipped_52
    · rw [if_neg q1] at h
      refine z_iconst (v := 0) fx dX2_beginFlipped_18 rfl ?_
      refine z_istore_n fx dX2_beginFlipped_19 (by decide) rfl ?_
      exact z_lv2 (w_X2_beginFlipped_20 fx hR hr ih fu n0 n1 a2 0 I h b0 b1) rfl
set_option maxRecDepth 100000 in
set_option maxHeartbeats 4000000 in
theorem c_X2_beginFlipped (l : Launch) (D : va_G) (ad : Nat → Nat) (g : Nat → ClassId) (n0 : Nat) (n1 : Nat) (I : zMi) (J : zMl) (b0 : n0 < 12) (b1 : n1 < 12) {r : zMi} (h : f_X2_beginFlipped n0 n1 I = some r) : zCM (xw D ad g) l yX2_beginFlipped cX2_beginFlipped 4 none rmX2_beginFlipped [.ref (ad (22 + 3 * n0)), .ref (ad (22 + 3 * n1))] I J none r J := by
  refine zCM.of (by decide) (Nat.le_of_ble_eq_true rfl) (fun E hl hR fx hr => ?_)
  subst hl
  rw [f_X2_beginFlipped] at h
  refine z_aload_n fx dX2_beginFlipped_0 rfl ?_
  refine z_aload_n fx dX2_beginFlipped_1 rfl ?_
  refine gT_n fx b1 wf_X2_18 dX2_beginFlipped_2 ?_
  obtain ⟨x1, ex1, h⟩ := ob h
  refine zVv (k := 22 + 3 * n0) (rest := []) fx hR (c_X2_begin (zl E) D ad g n0 (I (22 + 3 * n1) 2) I J b0 ex1) (rcT b0) mvX2_begin wm_X2_71 dX2_beginFlipped_5 rfl ⟨rfl, rfl⟩ rfl rfl rfl ?_
  refine z_iconst (v := 0) fx dX2_beginFlipped_8 rfl ?_
  refine z_istore_n fx dX2_beginFlipped_9 (by decide) rfl ?_
  exact z_lv2 (w_X2_beginFlipped_10 fx hR hr fu n0 n1 0 x1 h b0 b1) rfl
set_option maxRecDepth 100000 in
set_option maxHeartbeats 4000000 in
theorem w_X2_beginProduct_30 {E : zE} {D : va_G} {ad : Nat → Nat} {g : Nat → ClassId} (fx : zFX E (xw D ad g) cX2_beginProduct RX2 6 none) (hR : zR E = rmX2_beginProduct) {r : zMi} {J : zMl} (hr : zRX E (xw D ad g) none r J) {k18 : Nat → Nat → Nat → Int32 → Int32 → zMi → Option zMi} (hk18 : ∀ (n0 : Nat) (n1 : Nat) (n2 : Nat) (a3 : Int32) (a4 : Int32) (I : zMi) , k18 n0 n1 n2 a3 a4 I = some r → n0 < 12 → n1 < 12 → n2 < 12 → zAt E (xw D ad g) 18 [(0, .ref (ad (22 + 3 * n0))), (1, .ref (ad (22 + 3 * n1))), (2, .ref (ad (22 + 3 * n2))), (3, .int a3), (4, .int a4)] [] I J) : ∀ (fuel : Nat) (n0 : Nat) (n1 : Nat) (n2 : Nat) (a3 : Int32) (a4 : Int32) (a5 : Int32) (I : zMi) , f_X2_beginProduct_30 k18 fuel n0 n1 n2 a3 a4 a5 I = some r → n0 < 12 → n1 < 12 → n2 < 12 → zAt E (xw D ad g) 30 [(0, .ref (ad (22 + 3 * n0))), (1, .ref (ad (22 + 3 * n1))), (2, .ref (ad (22 + 3 * n2))), (3, .int a3), (4, .int a4), (5, .int a5)] [] I J := by
  intro fuel
  induction fuel with
  | zero => intro n0 n1 n2 a3 a4 a5 I h b0 b1 b2; rw [f_X2_beginProduct_30] at h; cases h
  | succ f ih =>
    intro n0 n1 n2 a3 a4 a5 I h b0 b1 b2
    rw [f_X2_beginProduct_30] at h
    refine z_iload fx dX2_beginProduct_30 rfl ?_
    refine z_aload_n fx dX2_beginProduct_32 rfl ?_
    refine gT_n fx b0 wf_X2_18 dX2_beginProduct_33 ?_
    refine z_icmp_ge (tgt := 78) fx dX2_beginProduct_36 (by decide) (fun q1 => ?_) (fun q1 => ?_)
    · rw [if_pos q1] at h
      refine z_iinc (v := (a4 + 1)) fx dX2_beginProduct_78 rfl rfl (by decide) rfl ?_
      refine z_goto (tgt := 18) fx dX2_beginProduct_81 (by decide) ?_
      exact z_lv2 (hk18 n0 n1 n2 a3 (a4 + 1) I h b0 b1 b2) rfl
    · rw [if_neg q1] at h
      refine z_aload_n fx dX2_beginProduct_39 rfl ?_
      refine z_iload fx dX2_beginProduct_40 rfl ?_
      refine z_iload fx dX2_beginProduct_42 rfl ?_
      refine z_aload_n fx dX2_beginProduct_44 rfl ?_
      refine z_iload fx dX2_beginProduct_45 rfl ?_
      refine z_iload_n fx dX2_beginProduct_47 rfl ?_
      obtain ⟨q2, h⟩ := on h
      refine z_idiv fx dX2_beginProduct_48 q2 ?_
      refine z_iload fx dX2_beginProduct_49 rfl ?_
      refine z_iload_n fx dX2_beginProduct_51 rfl ?_
      refine z_idiv fx dX2_beginProduct_52 q2 ?_
      obtain ⟨x3, ex3, h⟩ := ob h
      refine zVi (k := 22 + 3 * n1) (rest := [.int a5, .int a4, .ref (ad (22 + 3 * n0))]) fx hR (c_X2_number (zl E) D ad g n1 (a4 / a3) (a5 / a3) I J b1 ex3) (rcT b1) mvX2_number wm_X2_63 dX2_beginProduct_53 rfl ⟨rfl, rfl⟩ rfl rfl rfl ?_
      refine z_aload_n fx dX2_beginProduct_56 rfl ?_
      refine z_iload fx dX2_beginProduct_57 rfl ?_
      refine z_iload_n fx dX2_beginProduct_59 rfl ?_
      refine z_irem fx dX2_beginProduct_60 q2 ?_
      refine z_iload fx dX2_beginProduct_61 rfl ?_
      refine z_iload_n fx dX2_beginProduct_63 rfl ?_
      refine z_irem fx dX2_beginProduct_64 q2 ?_
      obtain ⟨x4, ex4, h⟩ := ob h
      refine zVi (k := 22 + 3 * n2) (rest := [.int x3, .int a5, .int a4, .ref (ad (22 + 3 * n0))]) fx hR (c_X2_number (zl E) D ad g n2 (a4 - a4 / a3 * a3) (a5 - a5 / a3 * a3) I J b2 ex4) (rcT b2) mvX2_number wm_X2_63 dX2_beginProduct_65 rfl ⟨rfl, rfl⟩ rfl rfl rfl ?_
      refine z_imul fx dX2_beginProduct_68 ?_
      obtain ⟨x5, ex5, h⟩ := ob h
      refine zVv (k := 22 + 3 * n0) (rest := []) fx hR (c_X2_write (zl E) D ad g n0 a4 a5 (x3 * x4) I J b0 ex5) (rcT b0) mvX2_write wm_X2_67 dX2_beginProduct_69 rfl ⟨rfl, rfl⟩ rfl rfl rfl ?_
      refine z_iinc (v := (a5 + 1)) fx dX2_beginProduct_72 rfl rfl (by decide) rfl ?_
      refine z_goto (tgt := 30) fx dX2_beginProduct_75 (by decide) ?_
      exact z_lv2 (ih n0 n1 n2 a3 a4 (a5 + 1) x5 h b0 b1 b2) rfl
set_option maxRecDepth 100000 in
set_option maxHeartbeats 4000000 in
theorem w_X2_beginProduct_18 {E : zE} {D : va_G} {ad : Nat → Nat} {g : Nat → ClassId} (fx : zFX E (xw D ad g) cX2_beginProduct RX2 6 none) (hR : zR E = rmX2_beginProduct) {r : zMi} {J : zMl} (hr : zRX E (xw D ad g) none r J) : ∀ (fuel : Nat) (n0 : Nat) (n1 : Nat) (n2 : Nat) (a3 : Int32) (a4 : Int32) (I : zMi) , f_X2_beginProduct_18 fuel n0 n1 n2 a3 a4 I = some r → n0 < 12 → n1 < 12 → n2 < 12 → zAt E (xw D ad g) 18 [(0, .ref (ad (22 + 3 * n0))), (1, .ref (ad (22 + 3 * n1))), (2, .ref (ad (22 + 3 * n2))), (3, .int a3), (4, .int a4)] [] I J := by
  intro fuel
  induction fuel with
  | zero => intro n0 n1 n2 a3 a4 I h b0 b1 b2; rw [f_X2_beginProduct_18] at h; cases h
  | succ f ih =>
    intro n0 n1 n2 a3 a4 I h b0 b1 b2
    rw [f_X2_beginProduct_18] at h
    refine z_iload fx dX2_beginProduct_18 rfl ?_
    refine z_aload_n fx dX2_beginProduct_20 rfl ?_
    refine gT_n fx b0 wf_X2_18 dX2_beginProduct_21 ?_
    refine z_icmp_ge (tgt := 84) fx dX2_beginProduct_24 (by decide) (fun q1 => ?_) (fun q1 => ?_)
    · rw [if_pos q1] at h
      cases h
      exact z_vret fx hr dX2_beginProduct_84
    · rw [if_neg q1] at h
      refine z_iconst (v := 0) fx dX2_beginProduct_27 rfl ?_
      refine z_istore fx dX2_beginProduct_28 (by decide) rfl ?_
      exact z_lv2 (w_X2_beginProduct_30 fx hR hr ih fu n0 n1 n2 a3 a4 0 I h b0 b1 b2) rfl
set_option maxRecDepth 100000 in
set_option maxHeartbeats 4000000 in
theorem c_X2_beginProduct (l : Launch) (D : va_G) (ad : Nat → Nat) (g : Nat → ClassId) (n0 : Nat) (n1 : Nat) (n2 : Nat) (I : zMi) (J : zMl) (b0 : n0 < 12) (b1 : n1 < 12) (b2 : n2 < 12) {r : zMi} (h : f_X2_beginProduct n0 n1 n2 I = some r) : zCM (xw D ad g) l yX2_beginProduct cX2_beginProduct 6 none rmX2_beginProduct [.ref (ad (22 + 3 * n0)), .ref (ad (22 + 3 * n1)), .ref (ad (22 + 3 * n2))] I J none r J := by
  refine zCM.of (by decide) (Nat.le_of_ble_eq_true rfl) (fun E hl hR fx hr => ?_)
  subst hl
  rw [f_X2_beginProduct] at h
  refine z_aload_n fx dX2_beginProduct_0 rfl ?_
  refine gT_n fx b2 wf_X2_18 dX2_beginProduct_1 ?_
  refine z_istore_n fx dX2_beginProduct_4 (by decide) rfl ?_
  refine z_aload_n fx dX2_beginProduct_5 rfl ?_
  refine z_aload_n fx dX2_beginProduct_6 rfl ?_
  refine gT_n fx b1 wf_X2_18 dX2_beginProduct_7 ?_
  refine z_iload_n fx dX2_beginProduct_10 rfl ?_
  refine z_imul fx dX2_beginProduct_11 ?_
  obtain ⟨x1, ex1, h⟩ := ob h
  refine zVv (k := 22 + 3 * n0) (rest := []) fx hR (c_X2_begin (zl E) D ad g n0 ((I (22 + 3 * n1) 2) * (I (22 + 3 * n2) 2)) I J b0 ex1) (rcT b0) mvX2_begin wm_X2_71 dX2_beginProduct_12 rfl ⟨rfl, rfl⟩ rfl rfl rfl ?_
  refine z_iconst (v := 0) fx dX2_beginProduct_15 rfl ?_
  refine z_istore fx dX2_beginProduct_16 (by decide) rfl ?_
  exact z_lv2 (w_X2_beginProduct_18 fx hR hr fu n0 n1 n2 (I (22 + 3 * n2) 2) 0 x1 h b0 b1 b2) rfl
set_option maxRecDepth 100000 in
set_option maxHeartbeats 4000000 in
theorem w_X2_commonOf_4 {E : zE} {D : va_G} {ad : Nat → Nat} {g : Nat → ClassId} (fx : zFX E (xw D ad g) cX2_commonOf RX2 4 (some .int)) (hR : zR E = rmX2_commonOf) {r : Int32} {I : zMi} {J : zMl} (hr : zRX E (xw D ad g) (some (.int r)) I J) : ∀ (fuel : Nat) (n0 : Nat) (a1 : Int32) (a2 : Int32) (a3 : Int32), f_X2_commonOf_4 I fuel n0 a1 a2 a3 = some r → n0 < 12 → zAt E (xw D ad g) 4 [(0, .ref (ad (22 + 3 * n0))), (1, .int a1), (2, .int a2), (3, .int a3)] [] I J := by
  intro fuel
  induction fuel with
  | zero => intro n0 a1 a2 a3 h b0; rw [f_X2_commonOf_4] at h; cases h
  | succ f ih =>
    intro n0 a1 a2 a3 h b0
    rw [f_X2_commonOf_4] at h
    refine z_iload_n fx dX2_commonOf_4 rfl ?_
    refine z_aload_n fx dX2_commonOf_5 rfl ?_
    refine gT_n fx b0 wf_X2_18 dX2_commonOf_6 ?_
    refine z_icmp_ge (tgt := 36) fx dX2_commonOf_9 (by decide) (fun q1 => ?_) (fun q1 => ?_)
    · rw [if_pos q1] at h
      refine z_aload_n fx dX2_commonOf_36 rfl ?_
      refine gT_n fx b0 wf_X2_18 dX2_commonOf_37 ?_
      refine z_iconst (v := 2) fx dX2_commonOf_40 rfl ?_
      refine z_iload_n fx dX2_commonOf_41 rfl ?_
      refine zSi (rest := [.int 2, .int (I (22 + 3 * n0) 2)]) fx hR (c_J6_bitCount (zl E) D ad g a2 I J rfl) mvJ6_bitCount wm_X2_58 dX2_commonOf_42 rfl ⟨rfl, rfl⟩ rfl rfl rfl ?_
      refine z_imul fx dX2_commonOf_45 ?_
      refine z_isub fx dX2_commonOf_46 ?_
      refine zmabs (rest := []) fx wm_X2_75 dX2_commonOf_47 (by rw [hR]; exact ⟨Nat.le_of_ble_eq_true rfl, Nat.le_of_ble_eq_true rfl⟩) ?_
      cases h
      exact z_iret fx hr dX2_commonOf_50
    · rw [if_neg q1] at h
      refine z_iload_n fx dX2_commonOf_12 rfl ?_
      refine z_iload_n fx dX2_commonOf_13 rfl ?_
      refine z_ishr fx dX2_commonOf_14 ?_
      refine z_iconst (v := 1) fx dX2_commonOf_15 rfl ?_
      refine z_iand fx dX2_commonOf_16 ?_
      refine z_iconst (v := 1) fx dX2_commonOf_17 rfl ?_
      refine z_icmp_ne (tgt := 30) fx dX2_commonOf_18 (by decide) (fun q2 => ?_) (fun q2 => ?_)
      · rw [if_neg q2] at h
        refine z_iinc (v := (a3 + 1)) fx dX2_commonOf_30 rfl rfl (by decide) rfl ?_
        refine z_goto (tgt := 4) fx dX2_commonOf_33 (by decide) ?_
        exact z_lv2 (ih n0 a1 a2 (a3 + 1) h b0) rfl
      · rw [if_pos q2] at h
        refine z_iload_n fx dX2_commonOf_21 rfl ?_
        refine z_aload_n fx dX2_commonOf_22 rfl ?_
        refine gT_minus fx b0 wf_X2_15 dX2_commonOf_23 ?_
        refine z_iload_n fx dX2_commonOf_26 rfl ?_
        obtain ⟨q3, h⟩ := oi h
        refine x_ild fx (bT2 b0) (cfX_Tm g ad b0) q3 dX2_commonOf_27 ?_
        refine z_ixor fx dX2_commonOf_28 ?_
        refine z_istore_n fx dX2_commonOf_29 (by decide) rfl ?_
        refine z_iinc (v := (a3 + 1)) fx dX2_commonOf_30 rfl rfl (by decide) rfl ?_
        refine z_goto (tgt := 4) fx dX2_commonOf_33 (by decide) ?_
        exact z_lv2 (ih n0 a1 (a2 ^^^ (I (24 + 3 * n0) a3.toNatClampNeg)) (a3 + 1) h b0) rfl
set_option maxRecDepth 100000 in
set_option maxHeartbeats 4000000 in
theorem c_X2_commonOf (l : Launch) (D : va_G) (ad : Nat → Nat) (g : Nat → ClassId) (n0 : Nat) (a1 : Int32) (I : zMi) (J : zMl) (b0 : n0 < 12) {r : Int32} (h : f_X2_commonOf n0 a1 I = some r) : zCM (xw D ad g) l yX2_commonOf cX2_commonOf 4 (some .int) rmX2_commonOf [.ref (ad (22 + 3 * n0)), .int a1] I J (some (.int r)) I J := by
  refine zCM.of (by decide) (Nat.le_of_ble_eq_true rfl) (fun E hl hR fx hr => ?_)
  subst hl
  rw [f_X2_commonOf] at h
  refine z_iconst (v := 0) fx dX2_commonOf_0 rfl ?_
  refine z_istore_n fx dX2_commonOf_1 (by decide) rfl ?_
  refine z_iconst (v := 0) fx dX2_commonOf_2 rfl ?_
  refine z_istore_n fx dX2_commonOf_3 (by decide) rfl ?_
  exact z_lv2 (w_X2_commonOf_4 fx hR hr fu n0 a1 0 0 h b0) rfl
set_option maxRecDepth 100000 in
set_option maxHeartbeats 4000000 in
theorem w_X2_addProfile_3 {E : zE} {D : va_G} {ad : Nat → Nat} {g : Nat → ClassId} (fx : zFX E (xw D ad g) cX2_addProfile RX2 5 none) (hR : zR E = rmX2_addProfile) {r : zMi} {J : zMl} (hr : zRX E (xw D ad g) none r J) : ∀ (fuel : Nat) (n0 : Nat) (a1 : Int32) (a3 : Int32) (a4 : Int32) (I : zMi) , f_X2_addProfile_3 fuel n0 a1 a3 a4 I = some r → n0 < 12 → zAt E (xw D ad g) 3 [(0, .ref (ad (22 + 3 * n0))), (1, .int a1), (2, .ref (ad (7))), (3, .int a3), (4, .int a4)] [] I J := by
  intro fuel
  induction fuel with
  | zero => intro n0 a1 a3 a4 I h b0; rw [f_X2_addProfile_3] at h; cases h
  | succ f ih =>
    intro n0 a1 a3 a4 I h b0
    rw [f_X2_addProfile_3] at h
    refine z_iload fx dX2_addProfile_3 rfl ?_
    refine z_iconst (v := 1) fx dX2_addProfile_5 rfl ?_
    refine z_aload_n fx dX2_addProfile_6 rfl ?_
    refine gT_n fx b0 wf_X2_18 dX2_addProfile_7 ?_
    refine z_ishl fx dX2_addProfile_10 ?_
    refine z_icmp_ge (tgt := 41) fx dX2_addProfile_11 (by decide) (fun q1 => ?_) (fun q1 => ?_)
    · rw [if_pos q1] at h
      cases h
      exact z_vret fx hr dX2_addProfile_41
    · rw [if_neg q1] at h
      refine z_iload fx dX2_addProfile_14 rfl ?_
      refine zSi (rest := []) fx hR (c_J6_bitCount (zl E) D ad g a4 I J rfl) mvJ6_bitCount wm_X2_58 dX2_addProfile_16 rfl ⟨rfl, rfl⟩ rfl rfl rfl ?_
      refine z_iload_n fx dX2_addProfile_19 rfl ?_
      refine z_icmp_ne (tgt := 35) fx dX2_addProfile_20 (by decide) (fun q2 => ?_) (fun q2 => ?_)
      · rw [if_neg q2] at h
        refine z_iinc (v := (a4 + 1)) fx dX2_addProfile_35 rfl rfl (by decide) rfl ?_
        refine z_goto (tgt := 3) fx dX2_addProfile_38 (by decide) ?_
        exact z_lv2 (ih n0 a1 a3 (a4 + 1) I h b0) rfl
      · rw [if_pos q2] at h
        refine z_aload_n fx dX2_addProfile_23 rfl ?_
        refine z_aload_n fx dX2_addProfile_24 rfl ?_
        refine z_iload fx dX2_addProfile_25 rfl ?_
        obtain ⟨x3, ex3, h⟩ := ob h
        refine zVi (k := 22 + 3 * n0) (rest := [.ref (ad (7))]) fx hR (c_X2_commonOf (zl E) D ad g n0 a4 I J b0 ex3) (rcT b0) mvX2_commonOf wm_X2_80 dX2_addProfile_27 rfl ⟨rfl, rfl⟩ rfl rfl rfl ?_
        refine z_dup2 fx dX2_addProfile_30 rfl rfl ?_
        obtain ⟨q4, h⟩ := oi h
        refine x_ild fx (Nat.le_of_ble_eq_true rfl) (cfX_7 g ad) q4 dX2_addProfile_31 ?_
        refine z_iload_n fx dX2_addProfile_32 rfl ?_
        refine z_iadd fx dX2_addProfile_33 ?_
        refine x_ist fx (Nat.le_of_ble_eq_true rfl) (cfX_7 g ad) q4 dX2_addProfile_34 ?_
        refine z_iinc (v := (a4 + 1)) fx dX2_addProfile_35 rfl rfl (by decide) rfl ?_
        refine z_goto (tgt := 3) fx dX2_addProfile_38 (by decide) ?_
        exact z_lv2 (ih n0 a1 a3 (a4 + 1) (wI I (7) x3.toNatClampNeg ((I (7) x3.toNatClampNeg) + a3)) h b0) rfl
set_option maxRecDepth 100000 in
set_option maxHeartbeats 4000000 in
theorem c_X2_addProfile (l : Launch) (D : va_G) (ad : Nat → Nat) (g : Nat → ClassId) (n0 : Nat) (a1 : Int32) (a3 : Int32) (I : zMi) (J : zMl) (b0 : n0 < 12) {r : zMi} (h : f_X2_addProfile n0 a1 a3 I = some r) : zCM (xw D ad g) l yX2_addProfile cX2_addProfile 5 none rmX2_addProfile [.ref (ad (22 + 3 * n0)), .int a1, .ref (ad (7)), .int a3] I J none r J := by
  refine zCM.of (by decide) (Nat.le_of_ble_eq_true rfl) (fun E hl hR fx hr => ?_)
  subst hl
  rw [f_X2_addProfile] at h
  refine z_iconst (v := 0) fx dX2_addProfile_0 rfl ?_
  refine z_istore fx dX2_addProfile_1 (by decide) rfl ?_
  exact z_lv2 (w_X2_addProfile_3 fx hR hr fu n0 a1 a3 0 I h b0) rfl
set_option maxRecDepth 100000 in
set_option maxHeartbeats 4000000 in
theorem c_X2_rowSum (l : Launch) (D : va_G) (ad : Nat → Nat) (g : Nat → ClassId) (n0 : Nat) (a1 : Int32) (a2 : Int32) (I : zMi) (J : zMl) (b0 : n0 < 12) {r : Int32} (h : f_X2_rowSum n0 a1 a2 I = some r) : zCM (xw D ad g) l yX2_rowSum cX2_rowSum 3 (some .int) rmX2_rowSum [.ref (ad (22 + 3 * n0)), .int a1, .int a2] I J (some (.int r)) I J := by
  refine zCM.of (by decide) (Nat.le_of_ble_eq_true rfl) (fun E hl hR fx hr => ?_)
  subst hl
  rw [f_X2_rowSum] at h
  refine z_aload_n fx dX2_rowSum_0 rfl ?_
  refine gT_plus fx b0 wf_X2_9 dX2_rowSum_1 ?_
  refine z_iload_n fx dX2_rowSum_4 rfl ?_
  obtain ⟨q1, h⟩ := oi h
  refine x_ild fx (bT1 b0) (cfX_Tp g ad b0) q1 dX2_rowSum_5 ?_
  refine zSi (rest := []) fx hR (c_J6_bitCount (zl E) D ad g (I (23 + 3 * n0) a1.toNatClampNeg) I J rfl) mvJ6_bitCount wm_X2_58 dX2_rowSum_6 rfl ⟨rfl, rfl⟩ rfl rfl rfl ?_
  refine z_aload_n fx dX2_rowSum_9 rfl ?_
  refine gT_minus fx b0 wf_X2_15 dX2_rowSum_10 ?_
  refine z_iload_n fx dX2_rowSum_13 rfl ?_
  refine x_ild fx (bT2 b0) (cfX_Tm g ad b0) q1 dX2_rowSum_14 ?_
  refine zSi (rest := [.int (f_J6_bitCount (I (23 + 3 * n0) a1.toNatClampNeg))]) fx hR (c_J6_bitCount (zl E) D ad g (I (24 + 3 * n0) a1.toNatClampNeg) I J rfl) mvJ6_bitCount wm_X2_58 dX2_rowSum_15 rfl ⟨rfl, rfl⟩ rfl rfl rfl ?_
  refine z_isub fx dX2_rowSum_18 ?_
  refine z_iconst (v := 2) fx dX2_rowSum_19 rfl ?_
  refine z_aload_n fx dX2_rowSum_20 rfl ?_
  refine gT_plus fx b0 wf_X2_9 dX2_rowSum_21 ?_
  refine z_iload_n fx dX2_rowSum_24 rfl ?_
  refine x_ild fx (bT1 b0) (cfX_Tp g ad b0) q1 dX2_rowSum_25 ?_
  refine z_iload_n fx dX2_rowSum_26 rfl ?_
  refine z_iand fx dX2_rowSum_27 ?_
  refine zSi (rest := [.int 2, .int ((f_J6_bitCount (I (23 + 3 * n0) a1.toNatClampNeg)) - (f_J6_bitCount (I (24 + 3 * n0) a1.toNatClampNeg)))]) fx hR (c_J6_bitCount (zl E) D ad g ((I (23 + 3 * n0) a1.toNatClampNeg) &&& a2) I J rfl) mvJ6_bitCount wm_X2_58 dX2_rowSum_28 rfl ⟨rfl, rfl⟩ rfl rfl rfl ?_
  refine z_aload_n fx dX2_rowSum_31 rfl ?_
  refine gT_minus fx b0 wf_X2_15 dX2_rowSum_32 ?_
  refine z_iload_n fx dX2_rowSum_35 rfl ?_
  refine x_ild fx (bT2 b0) (cfX_Tm g ad b0) q1 dX2_rowSum_36 ?_
  refine z_iload_n fx dX2_rowSum_37 rfl ?_
  refine z_iand fx dX2_rowSum_38 ?_
  refine zSi (rest := [.int (f_J6_bitCount ((I (23 + 3 * n0) a1.toNatClampNeg) &&& a2)), .int 2, .int ((f_J6_bitCount (I (23 + 3 * n0) a1.toNatClampNeg)) - (f_J6_bitCount (I (24 + 3 * n0) a1.toNatClampNeg)))]) fx hR (c_J6_bitCount (zl E) D ad g ((I (24 + 3 * n0) a1.toNatClampNeg) &&& a2) I J rfl) mvJ6_bitCount wm_X2_58 dX2_rowSum_39 rfl ⟨rfl, rfl⟩ rfl rfl rfl ?_
  refine z_isub fx dX2_rowSum_42 ?_
  refine z_imul fx dX2_rowSum_43 ?_
  refine z_isub fx dX2_rowSum_44 ?_
  cases h
  exact z_iret fx hr dX2_rowSum_45
set_option maxRecDepth 100000 in
set_option maxHeartbeats 4000000 in
theorem w_X2_sumOfSizes_4 {E : zE} {D : va_G} {ad : Nat → Nat} {g : Nat → ClassId} (fx : zFX E (xw D ad g) cX2_sumOfSizes RX2 4 (some .int)) (hR : zR E = rmX2_sumOfSizes) {r : Int32} {I : zMi} {J : zMl} (hr : zRX E (xw D ad g) (some (.int r)) I J) : ∀ (fuel : Nat) (n0 : Nat) (a1 : Int32) (a2 : Int32) (a3 : Int32), f_X2_sumOfSizes_4 I fuel n0 a1 a2 a3 = some r → n0 < 12 → zAt E (xw D ad g) 4 [(0, .ref (ad (22 + 3 * n0))), (1, .int a1), (2, .int a2), (3, .int a3)] [] I J := by
  intro fuel
  induction fuel with
  | zero => intro n0 a1 a2 a3 h b0; rw [f_X2_sumOfSizes_4] at h; cases h
  | succ f ih =>
    intro n0 a1 a2 a3 h b0
    rw [f_X2_sumOfSizes_4] at h
    refine z_iload_n fx dX2_sumOfSizes_4 rfl ?_
    refine z_aload_n fx dX2_sumOfSizes_5 rfl ?_
    refine gT_n fx b0 wf_X2_18 dX2_sumOfSizes_6 ?_
    refine z_icmp_ge (tgt := 30) fx dX2_sumOfSizes_9 (by decide) (fun q1 => ?_) (fun q1 => ?_)
    · rw [if_pos q1] at h
      refine z_iload_n fx dX2_sumOfSizes_30 rfl ?_
      cases h
      exact z_iret fx hr dX2_sumOfSizes_31
    · rw [if_neg q1] at h
      refine z_iload_n fx dX2_sumOfSizes_12 rfl ?_
      refine z_aload_n fx dX2_sumOfSizes_13 rfl ?_
      refine z_iload_n fx dX2_sumOfSizes_14 rfl ?_
      refine z_iload_n fx dX2_sumOfSizes_15 rfl ?_
      obtain ⟨x2, ex2, h⟩ := ob h
      refine zVi (k := 22 + 3 * n0) (rest := [.int a2]) fx hR (c_X2_rowSum (zl E) D ad g n0 a3 a1 I J b0 ex2) (rcT b0) mvX2_rowSum wm_X2_83 dX2_sumOfSizes_16 rfl ⟨rfl, rfl⟩ rfl rfl rfl ?_
      refine zmabs (rest := [.int a2]) fx wm_X2_75 dX2_sumOfSizes_19 (by rw [hR]; exact ⟨Nat.le_of_ble_eq_true rfl, Nat.le_of_ble_eq_true rfl⟩) ?_
      refine z_iadd fx dX2_sumOfSizes_22 ?_
      refine z_istore_n fx dX2_sumOfSizes_23 (by decide) rfl ?_
      refine z_iinc (v := (a3 + 1)) fx dX2_sumOfSizes_24 rfl rfl (by decide) rfl ?_
      refine z_goto (tgt := 4) fx dX2_sumOfSizes_27 (by decide) ?_
      exact z_lv2 (ih n0 a1 (a2 + (f_J9_abs x2)) (a3 + 1) h b0) rfl
set_option maxRecDepth 100000 in
set_option maxHeartbeats 4000000 in
theorem c_X2_sumOfSizes (l : Launch) (D : va_G) (ad : Nat → Nat) (g : Nat → ClassId) (n0 : Nat) (a1 : Int32) (I : zMi) (J : zMl) (b0 : n0 < 12) {r : Int32} (h : f_X2_sumOfSizes n0 a1 I = some r) : zCM (xw D ad g) l yX2_sumOfSizes cX2_sumOfSizes 4 (some .int) rmX2_sumOfSizes [.ref (ad (22 + 3 * n0)), .int a1] I J (some (.int r)) I J := by
  refine zCM.of (by decide) (Nat.le_of_ble_eq_true rfl) (fun E hl hR fx hr => ?_)
  subst hl
  rw [f_X2_sumOfSizes] at h
  refine z_iconst (v := 0) fx dX2_sumOfSizes_0 rfl ?_
  refine z_istore_n fx dX2_sumOfSizes_1 (by decide) rfl ?_
  refine z_iconst (v := 0) fx dX2_sumOfSizes_2 rfl ?_
  refine z_istore_n fx dX2_sumOfSizes_3 (by decide) rfl ?_
  exact z_lv2 (w_X2_sumOfSizes_4 fx hR hr fu n0 a1 0 0 h b0) rfl
set_option maxRecDepth 100000 in
set_option maxHeartbeats 4000000 in
theorem w_X2_greatestSize_5 {E : zE} {D : va_G} {ad : Nat → Nat} {g : Nat → ClassId} (fx : zFX E (xw D ad g) cX2_greatestSize RX2 5 (some .int)) (hR : zR E = rmX2_greatestSize) {r : Int32} {I : zMi} {J : zMl} (hr : zRX E (xw D ad g) (some (.int r)) I J) : ∀ (fuel : Nat) (n0 : Nat) (a1 : Int32) (a2 : Int32) (a3 : Int32) (a4 : Int32), f_X2_greatestSize_5 I fuel n0 a1 a2 a3 a4 = some r → n0 < 12 → zAt E (xw D ad g) 5 [(0, .ref (ad (22 + 3 * n0))), (1, .int a1), (2, .int a2), (3, .int a3), (4, .int a4)] [] I J := by
  intro fuel
  induction fuel with
  | zero => intro n0 a1 a2 a3 a4 h b0; rw [f_X2_greatestSize_5] at h; cases h
  | succ f ih =>
    intro n0 a1 a2 a3 a4 h b0
    rw [f_X2_greatestSize_5] at h
    refine z_iload fx dX2_greatestSize_5 rfl ?_
    refine z_aload_n fx dX2_greatestSize_7 rfl ?_
    refine gT_n fx b0 wf_X2_18 dX2_greatestSize_8 ?_
    refine z_icmp_ge (tgt := 40) fx dX2_greatestSize_11 (by decide) (fun q1 => ?_) (fun q1 => ?_)
    · rw [if_pos q1] at h
      refine z_iload_n fx dX2_greatestSize_40 rfl ?_
      cases h
      exact z_iret fx hr dX2_greatestSize_41
    · rw [if_neg q1] at h
      refine z_iload_n fx dX2_greatestSize_14 rfl ?_
      refine z_iload_n fx dX2_greatestSize_15 rfl ?_
      refine z_icmp_ge (tgt := 40) fx dX2_greatestSize_16 (by decide) (fun q2 => ?_) (fun q2 => ?_)
      · rw [if_pos q2] at h
        refine z_iload_n fx dX2_greatestSize_40 rfl ?_
        cases h
        exact z_iret fx hr dX2_greatestSize_41
      · rw [if_neg q2] at h
        refine z_iload_n fx dX2_greatestSize_19 rfl ?_
        refine z_aload_n fx dX2_greatestSize_20 rfl ?_
        refine z_iload fx dX2_greatestSize_21 rfl ?_
        refine z_iload_n fx dX2_greatestSize_23 rfl ?_
        obtain ⟨x3, ex3, h⟩ := ob h
        refine zVi (k := 22 + 3 * n0) (rest := [.int a3]) fx hR (c_X2_rowSum (zl E) D ad g n0 a4 a1 I J b0 ex3) (rcT b0) mvX2_rowSum wm_X2_83 dX2_greatestSize_24 rfl ⟨rfl, rfl⟩ rfl rfl rfl ?_
        refine zmabs (rest := [.int a3]) fx wm_X2_75 dX2_greatestSize_27 (by rw [hR]; exact ⟨Nat.le_of_ble_eq_true rfl, Nat.le_of_ble_eq_true rfl⟩) ?_
        refine zmmax (rest := []) fx wm_X2_86 dX2_greatestSize_30 (by rw [hR]; exact ⟨Nat.le_of_ble_eq_true rfl, Nat.le_of_ble_eq_true rfl⟩) ?_
        refine z_istore_n fx dX2_greatestSize_33 (by decide) rfl ?_
        refine z_iinc (v := (a4 + 1)) fx dX2_greatestSize_34 rfl rfl (by decide) rfl ?_
        refine z_goto (tgt := 5) fx dX2_greatestSize_37 (by decide) ?_
        exact z_lv2 (ih n0 a1 a2 (f_J9_max a3 (f_J9_abs x3)) (a4 + 1) h b0) rfl
set_option maxRecDepth 100000 in
set_option maxHeartbeats 4000000 in
theorem c_X2_greatestSize (l : Launch) (D : va_G) (ad : Nat → Nat) (g : Nat → ClassId) (n0 : Nat) (a1 : Int32) (a2 : Int32) (I : zMi) (J : zMl) (b0 : n0 < 12) {r : Int32} (h : f_X2_greatestSize n0 a1 a2 I = some r) : zCM (xw D ad g) l yX2_greatestSize cX2_greatestSize 5 (some .int) rmX2_greatestSize [.ref (ad (22 + 3 * n0)), .int a1, .int a2] I J (some (.int r)) I J := by
  refine zCM.of (by decide) (Nat.le_of_ble_eq_true rfl) (fun E hl hR fx hr => ?_)
  subst hl
  rw [f_X2_greatestSize] at h
  refine z_iconst (v := 0) fx dX2_greatestSize_0 rfl ?_
  refine z_istore_n fx dX2_greatestSize_1 (by decide) rfl ?_
  refine z_iconst (v := 0) fx dX2_greatestSize_2 rfl ?_
  refine z_istore fx dX2_greatestSize_3 (by decide) rfl ?_
  exact z_lv2 (w_X2_greatestSize_5 fx hR hr fu n0 a1 a2 0 0 h b0) rfl
set_option maxRecDepth 100000 in
set_option maxHeartbeats 4000000 in
theorem c_X2_normalPlus (l : Launch) (D : va_G) (ad : Nat → Nat) (g : Nat → ClassId) (n0 : Nat) (a1 : Int32) (I : zMi) (J : zMl) (b0 : n0 < 12) {r : Int32} (h : f_X2_normalPlus n0 a1 I = some r) : zCM (xw D ad g) l yX2_normalPlus cX2_normalPlus 4 (some .int) rmX2_normalPlus [.ref (ad (22 + 3 * n0)), .int a1] I J (some (.int r)) I J := by
  refine zCM.of (by decide) (Nat.le_of_ble_eq_true rfl) (fun E hl hR fx hr => ?_)
  subst hl
  rw [f_X2_normalPlus] at h
  refine z_aload_n fx dX2_normalPlus_0 rfl ?_
  refine gT_minus fx b0 wf_X2_15 dX2_normalPlus_1 ?_
  refine z_iload_n fx dX2_normalPlus_4 rfl ?_
  obtain ⟨q1, h⟩ := oi h
  refine x_ild fx (bT2 b0) (cfX_Tm g ad b0) q1 dX2_normalPlus_5 ?_
  refine z_aload_n fx dX2_normalPlus_6 rfl ?_
  refine gT_minus fx b0 wf_X2_15 dX2_normalPlus_7 ?_
  refine z_iconst (v := 0) fx dX2_normalPlus_10 rfl ?_
  refine x_ild fx (bT2 b0) (cfX_Tm g ad b0) (by decide) dX2_normalPlus_11 ?_
  refine z_ixor fx dX2_normalPlus_12 ?_
  refine z_istore_n fx dX2_normalPlus_13 (by decide) rfl ?_
  refine z_iload_n fx dX2_normalPlus_14 rfl ?_
  refine z_iconst (v := 1) fx dX2_normalPlus_15 rfl ?_
  refine z_iand fx dX2_normalPlus_16 ?_
  refine z_iconst (v := 1) fx dX2_normalPlus_17 rfl ?_
  refine z_icmp_ne (tgt := 25) fx dX2_normalPlus_18 (by decide) (fun q2 => ?_) (fun q2 => ?_)
  · rw [if_neg q2] at h
    refine z_iload_n fx dX2_normalPlus_25 rfl ?_
    refine z_iconst (v := (-1)) fx dX2_normalPlus_26 rfl ?_
    refine z_ixor fx dX2_normalPlus_27 ?_
    refine z_istore_n fx dX2_normalPlus_28 (by decide) rfl ?_
    refine z_iload_n fx dX2_normalPlus_29 rfl ?_
    refine z_aload_n fx dX2_normalPlus_30 rfl ?_
    refine gT_n fx b0 wf_X2_18 dX2_normalPlus_31 ?_
    refine zNi (rest := [.int (((I (24 + 3 * n0) a1.toNatClampNeg) ^^^ (I (24 + 3 * n0) (0 : Int32).toNatClampNeg)) ^^^ (-1))]) (host := RX3) fx hR (c_X3_allBits (zl E) D ad g (I (22 + 3 * n0) 2) I J rfl) mvX3_allBits fx.2.2.2.2.2.1.2.2.1 dX2_normalPlus_34 rfl ⟨rfl, rfl⟩ rfl rfl rfl ?_
    refine z_iand fx dX2_normalPlus_37 ?_
    cases h
    exact z_iret fx hr dX2_normalPlus_38
  · rw [if_pos q2] at h
    refine z_iload_n fx dX2_normalPlus_21 rfl ?_
    refine z_goto (tgt := 28) fx dX2_normalPlus_22 (by decide) ?_
    refine z_istore_n fx dX2_normalPlus_28 (by decide) rfl ?_
    refine z_iload_n fx dX2_normalPlus_29 rfl ?_
    refine z_aload_n fx dX2_normalPlus_30 rfl ?_
    refine gT_n fx b0 wf_X2_18 dX2_normalPlus_31 ?_
    refine zNi (rest := [.int ((I (24 + 3 * n0) a1.toNatClampNeg) ^^^ (I (24 + 3 * n0) (0 : Int32).toNatClampNeg))]) (host := RX3) fx hR (c_X3_allBits (zl E) D ad g (I (22 + 3 * n0) 2) I J rfl) mvX3_allBits fx.2.2.2.2.2.1.2.2.1 dX2_normalPlus_34 rfl ⟨rfl, rfl⟩ rfl rfl rfl ?_
    refine z_iand fx dX2_normalPlus_37 ?_
    cases h
    exact z_iret fx hr dX2_normalPlus_38
set_option maxRecDepth 100000 in
set_option maxHeartbeats 4000000 in
theorem w_X2_columnsTold_20 {E : zE} {D : va_G} {ad : Nat → Nat} {g : Nat → ClassId} (fx : zFX E (xw D ad g) cX2_columnsTold RX2 7 (some .int)) (hR : zR E = rmX2_columnsTold) {r : Int32} {I : zMi} {J : zMl} (hr : zRX E (xw D ad g) (some (.int r)) I J) {k5 : Nat → Int32 → Int32 → Int32 → Int32 → Option Int32} (hk5 : ∀ (n0 : Nat) (a1 : Int32) (a2 : Int32) (a3 : Int32) (a4 : Int32), k5 n0 a1 a2 a3 a4 = some r → n0 < 12 → zAt E (xw D ad g) 5 [(0, .ref (ad (22 + 3 * n0))), (1, .int a1), (2, .int a2), (3, .int a3), (4, .int a4)] [] I J) : ∀ (fuel : Nat) (n0 : Nat) (a1 : Int32) (a2 : Int32) (a3 : Int32) (a4 : Int32) (a5 : Int32) (a6 : Int32), f_X2_columnsTold_20 I k5 fuel n0 a1 a2 a3 a4 a5 a6 = some r → n0 < 12 → zAt E (xw D ad g) 20 [(0, .ref (ad (22 + 3 * n0))), (1, .int a1), (2, .int a2), (3, .int a3), (4, .int a4), (5, .int a5), (6, .int a6)] [] I J := by
  intro fuel
  induction fuel with
  | zero => intro n0 a1 a2 a3 a4 a5 a6 h b0; rw [f_X2_columnsTold_20] at h; cases h
  | succ f ih =>
    intro n0 a1 a2 a3 a4 a5 a6 h b0
    rw [f_X2_columnsTold_20] at h
    refine z_iload fx dX2_columnsTold_20 rfl ?_
    refine z_aload_n fx dX2_columnsTold_22 rfl ?_
    refine gT_n fx b0 wf_X2_18 dX2_columnsTold_23 ?_
    refine z_icmp_ge (tgt := 61) fx dX2_columnsTold_26 (by decide) (fun q1 => ?_) (fun q1 => ?_)
    · rw [if_pos q1] at h
      refine z_iload fx dX2_columnsTold_61 rfl ?_
      refine z_iconst (v := 1) fx dX2_columnsTold_63 rfl ?_
      refine z_iand fx dX2_columnsTold_64 ?_
      refine z_iconst (v := 1) fx dX2_columnsTold_65 rfl ?_
      refine z_icmp_ne (tgt := 82) fx dX2_columnsTold_66 (by decide) (fun q2 => ?_) (fun q2 => ?_)
      · rw [if_neg q2] at h
        refine z_iload fx dX2_columnsTold_82 rfl ?_
        refine z_istore fx dX2_columnsTold_84 (by decide) rfl ?_
        refine z_iload_n fx dX2_columnsTold_86 rfl ?_
        refine z_iconst (v := 1) fx dX2_columnsTold_87 rfl ?_
        refine z_iconst (v := 3) fx dX2_columnsTold_88 rfl ?_
        refine z_iload fx dX2_columnsTold_89 rfl ?_
        refine z_iconst (v := 1) fx dX2_columnsTold_91 rfl ?_
        refine z_ishr fx dX2_columnsTold_92 ?_
        refine z_imul fx dX2_columnsTold_93 ?_
        refine z_ishl fx dX2_columnsTold_94 ?_
        refine z_iadd fx dX2_columnsTold_95 ?_
        refine z_istore_n fx dX2_columnsTold_96 (by decide) rfl ?_
        refine z_iinc (v := (a4 + 1)) fx dX2_columnsTold_97 rfl rfl (by decide) rfl ?_
        refine z_goto (tgt := 5) fx dX2_columnsTold_100 (by decide) ?_
        exact z_lv2 (hk5 n0 a1 a2 (a3 + ((1 : Int32) <<< ((3 * (a5 >>> ((1 : Int32) &&& 31))) &&& 31))) (a4 + 1) h b0) rfl
      · rw [if_pos q2] at h
        refine z_iload fx dX2_columnsTold_69 rfl ?_
        refine z_aload_n fx dX2_columnsTold_71 rfl ?_
        refine gT_n fx b0 wf_X2_18 dX2_columnsTold_72 ?_
        refine zNi (rest := [.int a5]) (host := RX3) fx hR (c_X3_allBits (zl E) D ad g (I (22 + 3 * n0) 2) I J rfl) mvX3_allBits fx.2.2.2.2.2.1.2.2.1 dX2_columnsTold_75 rfl ⟨rfl, rfl⟩ rfl rfl rfl ?_
        refine z_ixor fx dX2_columnsTold_78 ?_
        refine z_goto (tgt := 84) fx dX2_columnsTold_79 (by decide) ?_
        refine z_istore fx dX2_columnsTold_84 (by decide) rfl ?_
        refine z_iload_n fx dX2_columnsTold_86 rfl ?_
        refine z_iconst (v := 1) fx dX2_columnsTold_87 rfl ?_
        refine z_iconst (v := 3) fx dX2_columnsTold_88 rfl ?_
        refine z_iload fx dX2_columnsTold_89 rfl ?_
        refine z_iconst (v := 1) fx dX2_columnsTold_91 rfl ?_
        refine z_ishr fx dX2_columnsTold_92 ?_
        refine z_imul fx dX2_columnsTold_93 ?_
        refine z_ishl fx dX2_columnsTold_94 ?_
        refine z_iadd fx dX2_columnsTold_95 ?_
        refine z_istore_n fx dX2_columnsTold_96 (by decide) rfl ?_
        refine z_iinc (v := (a4 + 1)) fx dX2_columnsTold_97 rfl rfl (by decide) rfl ?_
        refine z_goto (tgt := 5) fx dX2_columnsTold_100 (by decide) ?_
        exact z_lv2 (hk5 n0 a1 a2 (a3 + ((1 : Int32) <<< ((3 * ((a5 ^^^ (f_X3_allBits (I (22 + 3 * n0) 2))) >>> ((1 : Int32) &&& 31))) &&& 31))) (a4 + 1) h b0) rfl
    · rw [if_neg q1] at h
      refine z_iload fx dX2_columnsTold_29 rfl ?_
      refine z_aload_n fx dX2_columnsTold_31 rfl ?_
      refine gT_minus fx b0 wf_X2_15 dX2_columnsTold_32 ?_
      refine z_iload_n fx dX2_columnsTold_35 rfl ?_
      refine z_iconst (v := 2) fx dX2_columnsTold_36 rfl ?_
      refine z_iload fx dX2_columnsTold_37 rfl ?_
      refine z_imul fx dX2_columnsTold_39 ?_
      refine z_ishr fx dX2_columnsTold_40 ?_
      refine z_iconst (v := 3) fx dX2_columnsTold_41 rfl ?_
      refine z_iand fx dX2_columnsTold_42 ?_
      obtain ⟨q3, h⟩ := oi h
      refine x_ild fx (bT2 b0) (cfX_Tm g ad b0) q3 dX2_columnsTold_43 ?_
      refine z_iload fx dX2_columnsTold_44 rfl ?_
      refine z_ishr fx dX2_columnsTold_46 ?_
      refine z_iconst (v := 1) fx dX2_columnsTold_47 rfl ?_
      refine z_iand fx dX2_columnsTold_48 ?_
      refine z_iload fx dX2_columnsTold_49 rfl ?_
      refine z_ishl fx dX2_columnsTold_51 ?_
      refine z_ixor fx dX2_columnsTold_52 ?_
      refine z_istore fx dX2_columnsTold_53 (by decide) rfl ?_
      refine z_iinc (v := (a6 + 1)) fx dX2_columnsTold_55 rfl rfl (by decide) rfl ?_
      refine z_goto (tgt := 20) fx dX2_columnsTold_58 (by decide) ?_
      exact z_lv2 (ih n0 a1 a2 a3 a4 (a5 ^^^ ((((I (24 + 3 * n0) ((a1 >>> ((2 * a6) &&& 31)) &&& 3).toNatClampNeg) >>> (a4 &&& 31)) &&& 1) <<< (a6 &&& 31))) (a6 + 1) h b0) rfl
set_option maxRecDepth 100000 in
set_option maxHeartbeats 4000000 in
theorem w_X2_columnsTold_5 {E : zE} {D : va_G} {ad : Nat → Nat} {g : Nat → ClassId} (fx : zFX E (xw D ad g) cX2_columnsTold RX2 7 (some .int)) (hR : zR E = rmX2_columnsTold) {r : Int32} {I : zMi} {J : zMl} (hr : zRX E (xw D ad g) (some (.int r)) I J) : ∀ (fuel : Nat) (n0 : Nat) (a1 : Int32) (a2 : Int32) (a3 : Int32) (a4 : Int32), f_X2_columnsTold_5 I fuel n0 a1 a2 a3 a4 = some r → n0 < 12 → zAt E (xw D ad g) 5 [(0, .ref (ad (22 + 3 * n0))), (1, .int a1), (2, .int a2), (3, .int a3), (4, .int a4)] [] I J := by
  intro fuel
  induction fuel with
  | zero => intro n0 a1 a2 a3 a4 h b0; rw [f_X2_columnsTold_5] at h; cases h
  | succ f ih =>
    intro n0 a1 a2 a3 a4 h b0
    rw [f_X2_columnsTold_5] at h
    refine z_iload fx dX2_columnsTold_5 rfl ?_
    refine z_aload_n fx dX2_columnsTold_7 rfl ?_
    refine gT_n fx b0 wf_X2_18 dX2_columnsTold_8 ?_
    refine z_icmp_ge (tgt := 103) fx dX2_columnsTold_11 (by decide) (fun q1 => ?_) (fun q1 => ?_)
    · rw [if_pos q1] at h
      refine z_iload_n fx dX2_columnsTold_103 rfl ?_
      cases h
      exact z_iret fx hr dX2_columnsTold_104
    · rw [if_neg q1] at h
      refine z_iload_n fx dX2_columnsTold_14 rfl ?_
      refine z_istore fx dX2_columnsTold_15 (by decide) rfl ?_
      refine z_iconst (v := 0) fx dX2_columnsTold_17 rfl ?_
      refine z_istore fx dX2_columnsTold_18 (by decide) rfl ?_
      exact z_lv2 (w_X2_columnsTold_20 fx hR hr ih fu n0 a1 a2 a3 a4 a2 0 h b0) rfl
set_option maxRecDepth 100000 in
set_option maxHeartbeats 4000000 in
theorem c_X2_columnsTold (l : Launch) (D : va_G) (ad : Nat → Nat) (g : Nat → ClassId) (n0 : Nat) (a1 : Int32) (a2 : Int32) (I : zMi) (J : zMl) (b0 : n0 < 12) {r : Int32} (h : f_X2_columnsTold n0 a1 a2 I = some r) : zCM (xw D ad g) l yX2_columnsTold cX2_columnsTold 7 (some .int) rmX2_columnsTold [.ref (ad (22 + 3 * n0)), .int a1, .int a2] I J (some (.int r)) I J := by
  refine zCM.of (by decide) (Nat.le_of_ble_eq_true rfl) (fun E hl hR fx hr => ?_)
  subst hl
  rw [f_X2_columnsTold] at h
  refine z_iconst (v := 0) fx dX2_columnsTold_0 rfl ?_
  refine z_istore_n fx dX2_columnsTold_1 (by decide) rfl ?_
  refine z_iconst (v := 0) fx dX2_columnsTold_2 rfl ?_
  refine z_istore fx dX2_columnsTold_3 (by decide) rfl ?_
  exact z_lv2 (w_X2_columnsTold_5 fx hR hr fu n0 a1 a2 0 0 h b0) rfl
set_option maxRecDepth 100000 in
set_option maxHeartbeats 4000000 in
theorem w_X2_isOrder_4 {E : zE} {D : va_G} {ad : Nat → Nat} {g : Nat → ClassId} (fx : zFX E (xw D ad g) cX2_isOrder RX2 4 (some .boolean)) (hR : zR E = rmX2_isOrder) {r : Int32} {I : zMi} {J : zMl} (hr : zRX E (xw D ad g) (some (.int r)) I J) : ∀ (fuel : Nat) (n0 : Nat) (a1 : Int32) (a2 : Int32) (a3 : Int32), f_X2_isOrder_4 I fuel n0 a1 a2 a3 = some r → n0 < 12 → zAt E (xw D ad g) 4 [(0, .ref (ad (22 + 3 * n0))), (1, .int a1), (2, .int a2), (3, .int a3)] [] I J := by
  intro fuel
  induction fuel with
  | zero => intro n0 a1 a2 a3 h b0; rw [f_X2_isOrder_4] at h; cases h
  | succ f ih =>
    intro n0 a1 a2 a3 h b0
    rw [f_X2_isOrder_4] at h
    refine z_iload_n fx dX2_isOrder_4 rfl ?_
    refine z_aload_n fx dX2_isOrder_5 rfl ?_
    refine gT_n fx b0 wf_X2_18 dX2_isOrder_6 ?_
    refine z_icmp_ge (tgt := 30) fx dX2_isOrder_9 (by decide) (fun q1 => ?_) (fun q1 => ?_)
    · rw [if_pos q1] at h
      refine z_iload_n fx dX2_isOrder_30 rfl ?_
      refine z_aload_n fx dX2_isOrder_31 rfl ?_
      refine gT_n fx b0 wf_X2_18 dX2_isOrder_32 ?_
      refine zNi (rest := [.int a2]) (host := RX3) fx hR (c_X3_allBits (zl E) D ad g (I (22 + 3 * n0) 2) I J rfl) mvX3_allBits fx.2.2.2.2.2.1.2.2.1 dX2_isOrder_35 rfl ⟨rfl, rfl⟩ rfl rfl rfl ?_
      refine z_icmp_ne (tgt := 45) fx dX2_isOrder_38 (by decide) (fun q2 => ?_) (fun q2 => ?_)
      · rw [if_neg q2] at h
        refine z_iconst (v := 0) fx dX2_isOrder_45 rfl ?_
        cases h
        exact z_zret fx rfl hr dX2_isOrder_46
      · rw [if_pos q2] at h
        refine z_iconst (v := 1) fx dX2_isOrder_41 rfl ?_
        refine z_goto (tgt := 46) fx dX2_isOrder_42 (by decide) ?_
        cases h
        exact z_zret fx rfl hr dX2_isOrder_46
    · rw [if_neg q1] at h
      refine z_iload_n fx dX2_isOrder_12 rfl ?_
      refine z_iconst (v := 1) fx dX2_isOrder_13 rfl ?_
      refine z_iload_n fx dX2_isOrder_14 rfl ?_
      refine z_iconst (v := 2) fx dX2_isOrder_15 rfl ?_
      refine z_iload_n fx dX2_isOrder_16 rfl ?_
      refine z_imul fx dX2_isOrder_17 ?_
      refine z_ishr fx dX2_isOrder_18 ?_
      refine z_iconst (v := 3) fx dX2_isOrder_19 rfl ?_
      refine z_iand fx dX2_isOrder_20 ?_
      refine z_ishl fx dX2_isOrder_21 ?_
      refine z_ior fx dX2_isOrder_22 ?_
      refine z_istore_n fx dX2_isOrder_23 (by decide) rfl ?_
      refine z_iinc (v := (a3 + 1)) fx dX2_isOrder_24 rfl rfl (by decide) rfl ?_
      refine z_goto (tgt := 4) fx dX2_isOrder_27 (by decide) ?_
      exact z_lv2 (ih n0 a1 (a2 ||| ((1 : Int32) <<< (((a1 >>> ((2 * a3) &&& 31)) &&& 3) &&& 31))) (a3 + 1) h b0) rfl
set_option maxRecDepth 100000 in
set_option maxHeartbeats 4000000 in
theorem c_X2_isOrder (l : Launch) (D : va_G) (ad : Nat → Nat) (g : Nat → ClassId) (n0 : Nat) (a1 : Int32) (I : zMi) (J : zMl) (b0 : n0 < 12) {r : Int32} (h : f_X2_isOrder n0 a1 I = some r) : zCM (xw D ad g) l yX2_isOrder cX2_isOrder 4 (some .boolean) rmX2_isOrder [.ref (ad (22 + 3 * n0)), .int a1] I J (some (.int r)) I J := by
  refine zCM.of (by decide) (Nat.le_of_ble_eq_true rfl) (fun E hl hR fx hr => ?_)
  subst hl
  rw [f_X2_isOrder] at h
  refine z_iconst (v := 0) fx dX2_isOrder_0 rfl ?_
  refine z_istore_n fx dX2_isOrder_1 (by decide) rfl ?_
  refine z_iconst (v := 0) fx dX2_isOrder_2 rfl ?_
  refine z_istore_n fx dX2_isOrder_3 (by decide) rfl ?_
  exact z_lv2 (w_X2_isOrder_4 fx hR hr fu n0 a1 0 0 h b0) rfl
set_option maxRecDepth 100000 in
set_option maxHeartbeats 4000000 in
theorem w_X2_comesInOrder_2 {E : zE} {D : va_G} {ad : Nat → Nat} {g : Nat → ClassId} (fx : zFX E (xw D ad g) cX2_comesInOrder RX2 4 (some .boolean)) (hR : zR E = rmX2_comesInOrder) {r : Int32} {I : zMi} {J : zMl} (hr : zRX E (xw D ad g) (some (.int r)) I J) : ∀ (fuel : Nat) (n0 : Nat) (a1 : Int32) (a2 : Int32) (a3 : Int32), f_X2_comesInOrder_2 I fuel n0 a1 a2 a3 = some r → n0 < 12 → zAt E (xw D ad g) 2 [(0, .ref (ad (22 + 3 * n0))), (1, .int a1), (2, .int a2), (3, .int a3)] [] I J := by
  intro fuel
  induction fuel with
  | zero => intro n0 a1 a2 a3 h b0; rw [f_X2_comesInOrder_2] at h; cases h
  | succ f ih =>
    intro n0 a1 a2 a3 h b0
    rw [f_X2_comesInOrder_2] at h
    refine z_iload_n fx dX2_comesInOrder_2 rfl ?_
    refine z_iconst (v := 1) fx dX2_comesInOrder_3 rfl ?_
    refine z_aload_n fx dX2_comesInOrder_4 rfl ?_
    refine gT_n fx b0 wf_X2_18 dX2_comesInOrder_5 ?_
    refine z_ishl fx dX2_comesInOrder_8 ?_
    refine z_icmp_ge (tgt := 30) fx dX2_comesInOrder_9 (by decide) (fun q1 => ?_) (fun q1 => ?_)
    · rw [if_pos q1] at h
      refine z_iconst (v := 0) fx dX2_comesInOrder_30 rfl ?_
      cases h
      exact z_zret fx rfl hr dX2_comesInOrder_31
    · rw [if_neg q1] at h
      refine z_aload_n fx dX2_comesInOrder_12 rfl ?_
      refine z_iload_n fx dX2_comesInOrder_13 rfl ?_
      refine z_iload_n fx dX2_comesInOrder_14 rfl ?_
      obtain ⟨x2, ex2, h⟩ := ob h
      refine zVi (k := 22 + 3 * n0) (rest := []) fx hR (c_X2_columnsTold (zl E) D ad g n0 a1 a3 I J b0 ex2) (rcT b0) mvX2_columnsTold wm_X2_89 dX2_comesInOrder_15 rfl ⟨rfl, rfl⟩ rfl rfl rfl ?_
      refine z_iload_n fx dX2_comesInOrder_18 rfl ?_
      refine z_icmp_ne (tgt := 24) fx dX2_comesInOrder_19 (by decide) (fun q3 => ?_) (fun q3 => ?_)
      · rw [if_neg q3] at h
        refine z_iinc (v := (a3 + 1)) fx dX2_comesInOrder_24 rfl rfl (by decide) rfl ?_
        refine z_goto (tgt := 2) fx dX2_comesInOrder_27 (by decide) ?_
        exact z_lv2 (ih n0 a1 a2 (a3 + 1) h b0) rfl
      · rw [if_pos q3] at h
        refine z_iconst (v := 1) fx dX2_comesInOrder_22 rfl ?_
        cases h
        exact z_zret fx rfl hr dX2_comesInOrder_23
set_option maxRecDepth 100000 in
set_option maxHeartbeats 4000000 in
theorem c_X2_comesInOrder (l : Launch) (D : va_G) (ad : Nat → Nat) (g : Nat → ClassId) (n0 : Nat) (a1 : Int32) (a2 : Int32) (I : zMi) (J : zMl) (b0 : n0 < 12) {r : Int32} (h : f_X2_comesInOrder n0 a1 a2 I = some r) : zCM (xw D ad g) l yX2_comesInOrder cX2_comesInOrder 4 (some .boolean) rmX2_comesInOrder [.ref (ad (22 + 3 * n0)), .int a1, .int a2] I J (some (.int r)) I J := by
  refine zCM.of (by decide) (Nat.le_of_ble_eq_true rfl) (fun E hl hR fx hr => ?_)
  subst hl
  rw [f_X2_comesInOrder] at h
  refine z_iconst (v := 0) fx dX2_comesInOrder_0 rfl ?_
  refine z_istore_n fx dX2_comesInOrder_1 (by decide) rfl ?_
  exact z_lv2 (w_X2_comesInOrder_2 fx hR hr fu n0 a1 a2 0 h b0) rfl
set_option maxRecDepth 100000 in
set_option maxHeartbeats 4000000 in
theorem w_X2_comesFrom_11 {E : zE} {D : va_G} {ad : Nat → Nat} {g : Nat → ClassId} (fx : zFX E (xw D ad g) cX2_comesFrom RX2 4 (some .boolean)) (hR : zR E = rmX2_comesFrom) {r : Int32} {I : zMi} {J : zMl} (hr : zRX E (xw D ad g) (some (.int r)) I J) : ∀ (fuel : Nat) (n0 : Nat) (a2 : Int32) (a3 : Int32), f_X2_comesFrom_11 I fuel n0 a2 a3 = some r → n0 < 12 → zAt E (xw D ad g) 11 [(0, .ref (ad (22 + 3 * n0))), (2, .int a2), (3, .int a3)] [] I J := by
  intro fuel
  induction fuel with
  | zero => intro n0 a2 a3 h b0; rw [f_X2_comesFrom_11] at h; cases h
  | succ f ih =>
    intro n0 a2 a3 h b0
    rw [f_X2_comesFrom_11] at h
    refine z_iload_n fx dX2_comesFrom_11 rfl ?_
    refine z_iconst (v := 1) fx dX2_comesFrom_12 rfl ?_
    refine z_iconst (v := 2) fx dX2_comesFrom_13 rfl ?_
    refine z_aload_n fx dX2_comesFrom_14 rfl ?_
    refine gT_n fx b0 wf_X2_18 dX2_comesFrom_15 ?_
    refine z_imul fx dX2_comesFrom_18 ?_
    refine z_ishl fx dX2_comesFrom_19 ?_
    refine z_icmp_ge (tgt := 48) fx dX2_comesFrom_20 (by decide) (fun q1 => ?_) (fun q1 => ?_)
    · rw [if_pos q1] at h
      refine z_iconst (v := 0) fx dX2_comesFrom_48 rfl ?_
      cases h
      exact z_zret fx rfl hr dX2_comesFrom_49
    · rw [if_neg q1] at h
      refine z_aload_n fx dX2_comesFrom_23 rfl ?_
      refine z_iload_n fx dX2_comesFrom_24 rfl ?_
      obtain ⟨x2, ex2, h⟩ := ob h
      refine zVi (k := 22 + 3 * n0) (rest := []) fx hR (c_X2_isOrder (zl E) D ad g n0 a3 I J b0 ex2) (rcT b0) mvX2_isOrder wm_X2_92 dX2_comesFrom_25 rfl ⟨rfl, rfl⟩ rfl rfl rfl ?_
      refine z_if_eq (tgt := 42) fx dX2_comesFrom_28 (by decide) (fun q3 => ?_) (fun q3 => ?_)
      · rw [if_pos q3] at h
        refine z_iinc (v := (a3 + 1)) fx dX2_comesFrom_42 rfl rfl (by decide) rfl ?_
        refine z_goto (tgt := 11) fx dX2_comesFrom_45 (by decide) ?_
        exact z_lv2 (ih n0 a2 (a3 + 1) h b0) rfl
      · rw [if_neg q3] at h
        refine z_aload_n fx dX2_comesFrom_31 rfl ?_
        refine z_iload_n fx dX2_comesFrom_32 rfl ?_
        refine z_iload_n fx dX2_comesFrom_33 rfl ?_
        obtain ⟨x4, ex4, h⟩ := ob h
        refine zVi (k := 22 + 3 * n0) (rest := []) fx hR (c_X2_comesInOrder (zl E) D ad g n0 a3 a2 I J b0 ex4) (rcT b0) mvX2_comesInOrder wm_X2_96 dX2_comesFrom_34 rfl ⟨rfl, rfl⟩ rfl rfl rfl ?_
        refine z_if_eq (tgt := 42) fx dX2_comesFrom_37 (by decide) (fun q5 => ?_) (fun q5 => ?_)
        · rw [if_pos q5] at h
          refine z_iinc (v := (a3 + 1)) fx dX2_comesFrom_42 rfl rfl (by decide) rfl ?_
          refine z_goto (tgt := 11) fx dX2_comesFrom_45 (by decide) ?_
          exact z_lv2 (ih n0 a2 (a3 + 1) h b0) rfl
        · rw [if_neg q5] at h
          refine z_iconst (v := 1) fx dX2_comesFrom_40 rfl ?_
          cases h
          exact z_zret fx rfl hr dX2_comesFrom_41
set_option maxRecDepth 100000 in
set_option maxHeartbeats 4000000 in
theorem c_X2_comesFrom (l : Launch) (D : va_G) (ad : Nat → Nat) (g : Nat → ClassId) (n0 : Nat) (n1 : Nat) (I : zMi) (J : zMl) (b0 : n0 < 12) (b1 : n1 < 12) {r : Int32} (h : f_X2_comesFrom n0 n1 I = some r) : zCM (xw D ad g) l yX2_comesFrom cX2_comesFrom 4 (some .boolean) rmX2_comesFrom [.ref (ad (22 + 3 * n0)), .ref (ad (22 + 3 * n1))] I J (some (.int r)) I J := by
  refine zCM.of (by decide) (Nat.le_of_ble_eq_true rfl) (fun E hl hR fx hr => ?_)
  subst hl
  rw [f_X2_comesFrom] at h
  refine z_aload_n fx dX2_comesFrom_0 rfl ?_
  refine z_sipush (v := 228) fx dX2_comesFrom_1 rfl ?_
  refine z_iconst (v := 0) fx dX2_comesFrom_4 rfl ?_
  obtain ⟨x1, ex1, h⟩ := ob h
  refine zVi (k := 22 + 3 * n1) (rest := []) fx hR (c_X2_columnsTold (zl E) D ad g n1 228 0 I J b1 ex1) (rcT b1) mvX2_columnsTold wm_X2_89 dX2_comesFrom_5 rfl ⟨rfl, rfl⟩ rfl rfl rfl ?_
  refine z_istore_n fx dX2_comesFrom_8 (by decide) rfl ?_
  refine z_iconst (v := 0) fx dX2_comesFrom_9 rfl ?_
  refine z_istore_n fx dX2_comesFrom_10 (by decide) rfl ?_
  exact z_lv2 (w_X2_comesFrom_11 fx hR hr fu n0 x1 0 h b0) rfl
set_option maxRecDepth 100000 in
set_option maxHeartbeats 4000000 in
theorem w_X3_countBits_4 {E : zE} {D : va_G} {ad : Nat → Nat} {g : Nat → ClassId} (fx : zFX E (xw D ad g) cX3_countBits RX3 4 (some .int)) (hR : zR E = rmX3_countBits) {r : Int32} {I : zMi} {J : zMl} (hr : zRX E (xw D ad g) (some (.int r)) I J) : ∀ (fuel : Nat) (n0 : Nat) (a1 : Int32) (a2 : Int32) (a3 : Int32), f_X3_countBits_4 I fuel n0 a1 a2 a3 = some r → (n0 < 58 ∧ ∀ f h, cfX g ad n0 f h = .inl (g 0, 12, .inl f)) → zAt E (xw D ad g) 4 [(0, .ref (ad (n0))), (1, .int a1), (2, .int a2), (3, .int a3)] [] I J := by
  intro fuel
  induction fuel with
  | zero => intro n0 a1 a2 a3 h b0; rw [f_X3_countBits_4] at h; cases h
  | succ f ih =>
    intro n0 a1 a2 a3 h b0
    rw [f_X3_countBits_4] at h
    refine z_iload_n fx dX3_countBits_4 rfl ?_
    refine z_iload_n fx dX3_countBits_5 rfl ?_
    refine z_icmp_ge (tgt := 24) fx dX3_countBits_6 (by decide) (fun q1 => ?_) (fun q1 => ?_)
    · rw [if_pos q1] at h
      refine z_iload_n fx dX3_countBits_24 rfl ?_
      cases h
      exact z_iret fx hr dX3_countBits_25
    · rw [if_neg q1] at h
      refine z_iload_n fx dX3_countBits_9 rfl ?_
      refine z_aload_n fx dX3_countBits_10 rfl ?_
      refine z_iload_n fx dX3_countBits_11 rfl ?_
      obtain ⟨q2, h⟩ := oi h
      refine x_ild fx b0.1 b0.2 q2 dX3_countBits_12 ?_
      refine zSi (rest := [.int a2]) fx hR (c_J6_bitCount (zl E) D ad g (I (n0) a3.toNatClampNeg) I J rfl) mvJ6_bitCount wm_X3_202 dX3_countBits_13 rfl ⟨rfl, rfl⟩ rfl rfl rfl ?_
      refine z_iadd fx dX3_countBits_16 ?_
      refine z_istore_n fx dX3_countBits_17 (by decide) rfl ?_
      refine z_iinc (v := (a3 + 1)) fx dX3_countBits_18 rfl rfl (by decide) rfl ?_
      refine z_goto (tgt := 4) fx dX3_countBits_21 (by decide) ?_
      exact z_lv2 (ih n0 a1 (a2 + (f_J6_bitCount (I (n0) a3.toNatClampNeg))) (a3 + 1) h b0) rfl
set_option maxRecDepth 100000 in
set_option maxHeartbeats 4000000 in
theorem c_X3_countBits (l : Launch) (D : va_G) (ad : Nat → Nat) (g : Nat → ClassId) (n0 : Nat) (a1 : Int32) (I : zMi) (J : zMl) (b0 : (n0 < 58 ∧ ∀ f h, cfX g ad n0 f h = .inl (g 0, 12, .inl f))) {r : Int32} (h : f_X3_countBits n0 a1 I = some r) : zCM (xw D ad g) l yX3_countBits cX3_countBits 4 (some .int) rmX3_countBits [.ref (ad (n0)), .int a1] I J (some (.int r)) I J := by
  refine zCM.of (by decide) (Nat.le_of_ble_eq_true rfl) (fun E hl hR fx hr => ?_)
  subst hl
  rw [f_X3_countBits] at h
  refine z_iconst (v := 0) fx dX3_countBits_0 rfl ?_
  refine z_istore_n fx dX3_countBits_1 (by decide) rfl ?_
  refine z_iconst (v := 0) fx dX3_countBits_2 rfl ?_
  refine z_istore_n fx dX3_countBits_3 (by decide) rfl ?_
  exact z_lv2 (w_X3_countBits_4 fx hR hr fu n0 a1 0 0 h b0) rfl
set_option maxRecDepth 100000 in
set_option maxHeartbeats 4000000 in
theorem c_X2_edges (l : Launch) (D : va_G) (ad : Nat → Nat) (g : Nat → ClassId) (n0 : Nat) (I : zMi) (J : zMl) (b0 : n0 < 12) {r : Int32} (h : f_X2_edges n0 I = some r) : zCM (xw D ad g) l yX2_edges cX2_edges 1 (some .int) rmX2_edges [.ref (ad (22 + 3 * n0))] I J (some (.int r)) I J := by
  refine zCM.of (by decide) (Nat.le_of_ble_eq_true rfl) (fun E hl hR fx hr => ?_)
  subst hl
  rw [f_X2_edges] at h
  refine z_aload_n fx dX2_edges_0 rfl ?_
  refine gT_minus fx b0 wf_X2_15 dX2_edges_1 ?_
  refine z_aload_n fx dX2_edges_4 rfl ?_
  refine gT_n fx b0 wf_X2_18 dX2_edges_5 ?_
  obtain ⟨x1, ex1, h⟩ := ob h
  refine zNi (rest := []) (host := RX3) fx hR (c_X3_countBits (zl E) D ad g (24 + 3 * n0) (I (22 + 3 * n0) 2) I J ⟨(bT2 b0), (cfX_Tm g ad b0)⟩ ex1) mvX3_countBits fx.2.2.2.2.2.1.2.2.2.1 dX2_edges_8 rfl ⟨rfl, rfl⟩ rfl rfl rfl ?_
  refine z_iconst (v := 2) fx dX2_edges_11 rfl ?_
  refine z_idiv fx dX2_edges_12 (by decide) ?_
  cases h
  exact z_iret fx hr dX2_edges_13
set_option maxRecDepth 100000 in
set_option maxHeartbeats 4000000 in
theorem c_X2_neighboursSwitched (l : Launch) (D : va_G) (ad : Nat → Nat) (g : Nat → ClassId) (n0 : Nat) (a1 : Int32) (a2 : Int32) (I : zMi) (J : zMl) (b0 : n0 < 12) {r : Int32} (h : f_X2_neighboursSwitched n0 a1 a2 I = some r) : zCM (xw D ad g) l yX2_neighboursSwitched cX2_neighboursSwitched 4 (some .int) rmX2_neighboursSwitched [.ref (ad (22 + 3 * n0)), .int a1, .int a2] I J (some (.int r)) I J := by
  refine zCM.of (by decide) (Nat.le_of_ble_eq_true rfl) (fun E hl hR fx hr => ?_)
  subst hl
  rw [f_X2_neighboursSwitched] at h
  refine z_iload_n fx dX2_neighboursSwitched_0 rfl ?_
  refine z_iload_n fx dX2_neighboursSwitched_1 rfl ?_
  refine z_ishr fx dX2_neighboursSwitched_2 ?_
  refine z_iconst (v := 1) fx dX2_neighboursSwitched_3 rfl ?_
  refine z_iand fx dX2_neighboursSwitched_4 ?_
  refine z_iconst (v := 1) fx dX2_neighboursSwitched_5 rfl ?_
  refine z_icmp_ne (tgt := 23) fx dX2_neighboursSwitched_6 (by decide) (fun q1 => ?_) (fun q1 => ?_)
  · rw [if_neg q1] at h
    refine z_iload_n fx dX2_neighboursSwitched_23 rfl ?_
    refine z_istore_n fx dX2_neighboursSwitched_24 (by decide) rfl ?_
    refine z_aload_n fx dX2_neighboursSwitched_25 rfl ?_
    refine gT_minus fx b0 wf_X2_15 dX2_neighboursSwitched_26 ?_
    refine z_iload_n fx dX2_neighboursSwitched_29 rfl ?_
    obtain ⟨q2, h⟩ := oi h
    refine x_ild fx (bT2 b0) (cfX_Tm g ad b0) q2 dX2_neighboursSwitched_30 ?_
    refine z_iload_n fx dX2_neighboursSwitched_31 rfl ?_
    refine z_ixor fx dX2_neighboursSwitched_32 ?_
    cases h
    exact z_iret fx hr dX2_neighboursSwitched_33
  · rw [if_pos q1] at h
    refine z_aload_n fx dX2_neighboursSwitched_9 rfl ?_
    refine gT_n fx b0 wf_X2_18 dX2_neighboursSwitched_10 ?_
    refine zNi (rest := []) (host := RX3) fx hR (c_X3_allBits (zl E) D ad g (I (22 + 3 * n0) 2) I J rfl) mvX3_allBits fx.2.2.2.2.2.1.2.2.1 dX2_neighboursSwitched_13 rfl ⟨rfl, rfl⟩ rfl rfl rfl ?_
    refine z_iload_n fx dX2_neighboursSwitched_16 rfl ?_
    refine z_iconst (v := (-1)) fx dX2_neighboursSwitched_17 rfl ?_
    refine z_ixor fx dX2_neighboursSwitched_18 ?_
    refine z_iand fx dX2_neighboursSwitched_19 ?_
    refine z_goto (tgt := 24) fx dX2_neighboursSwitched_20 (by decide) ?_
    refine z_istore_n fx dX2_neighboursSwitched_24 (by decide) rfl ?_
    refine z_aload_n fx dX2_neighboursSwitched_25 rfl ?_
    refine gT_minus fx b0 wf_X2_15 dX2_neighboursSwitched_26 ?_
    refine z_iload_n fx dX2_neighboursSwitched_29 rfl ?_
    obtain ⟨q3, h⟩ := oi h
    refine x_ild fx (bT2 b0) (cfX_Tm g ad b0) q3 dX2_neighboursSwitched_30 ?_
    refine z_iload_n fx dX2_neighboursSwitched_31 rfl ?_
    refine z_ixor fx dX2_neighboursSwitched_32 ?_
    cases h
    exact z_iret fx hr dX2_neighboursSwitched_33
set_option maxRecDepth 100000 in
set_option maxHeartbeats 4000000 in
theorem w_X2_switchBy_2 {E : zE} {D : va_G} {ad : Nat → Nat} {g : Nat → ClassId} (fx : zFX E (xw D ad g) cX2_switchBy RX2 3 none) (hR : zR E = rmX2_switchBy) {r : zMi} {J : zMl} (hr : zRX E (xw D ad g) none r J) : ∀ (fuel : Nat) (n0 : Nat) (a1 : Int32) (a2 : Int32) (I : zMi) , f_X2_switchBy_2 fuel n0 a1 a2 I = some r → n0 < 12 → zAt E (xw D ad g) 2 [(0, .ref (ad (22 + 3 * n0))), (1, .int a1), (2, .int a2)] [] I J := by
  intro fuel
  induction fuel with
  | zero => intro n0 a1 a2 I h b0; rw [f_X2_switchBy_2] at h; cases h
  | succ f ih =>
    intro n0 a1 a2 I h b0
    rw [f_X2_switchBy_2] at h
    refine z_iload_n fx dX2_switchBy_2 rfl ?_
    refine z_aload_n fx dX2_switchBy_3 rfl ?_
    refine gT_n fx b0 wf_X2_18 dX2_switchBy_4 ?_
    refine z_icmp_ge (tgt := 54) fx dX2_switchBy_7 (by decide) (fun q1 => ?_) (fun q1 => ?_)
    · rw [if_pos q1] at h
      cases h
      exact z_vret fx hr dX2_switchBy_54
    · rw [if_neg q1] at h
      refine z_aload_n fx dX2_switchBy_10 rfl ?_
      refine gT_minus fx b0 wf_X2_15 dX2_switchBy_11 ?_
      refine z_iload_n fx dX2_switchBy_14 rfl ?_
      refine z_aload_n fx dX2_switchBy_15 rfl ?_
      refine z_iload_n fx dX2_switchBy_16 rfl ?_
      refine z_iload_n fx dX2_switchBy_17 rfl ?_
      obtain ⟨x2, ex2, h⟩ := ob h
      refine zVi (k := 22 + 3 * n0) (rest := [.int a2, .ref (ad (24 + 3 * n0))]) fx hR (c_X2_neighboursSwitched (zl E) D ad g n0 a2 a1 I J b0 ex2) (rcT b0) mvX2_neighboursSwitched wm_X2_104 dX2_switchBy_18 rfl ⟨rfl, rfl⟩ rfl rfl rfl ?_
      obtain ⟨q3, h⟩ := oi h
      refine x_ist fx (bT2 b0) (cfX_Tm g ad b0) q3 dX2_switchBy_21 ?_
      refine z_aload_n fx dX2_switchBy_22 rfl ?_
      refine gT_plus fx b0 wf_X2_9 dX2_switchBy_23 ?_
      refine z_iload_n fx dX2_switchBy_26 rfl ?_
      refine z_aload_n fx dX2_switchBy_27 rfl ?_
      refine gT_n fx b0 wf_X2_18 dX2_switchBy_28 ?_
      refine zNi (rest := [.int a2, .ref (ad (23 + 3 * n0))]) (host := RX3) fx hR (c_X3_allBits (zl E) D ad g ((wI I (24 + 3 * n0) a2.toNatClampNeg x2) (22 + 3 * n0) 2) (wI I (24 + 3 * n0) a2.toNatClampNeg x2) J rfl) mvX3_allBits fx.2.2.2.2.2.1.2.2.1 dX2_switchBy_31 rfl ⟨rfl, rfl⟩ rfl rfl rfl ?_
      refine z_iconst (v := 1) fx dX2_switchBy_34 rfl ?_
      refine z_iload_n fx dX2_switchBy_35 rfl ?_
      refine z_ishl fx dX2_switchBy_36 ?_
      refine z_isub fx dX2_switchBy_37 ?_
      refine z_aload_n fx dX2_switchBy_38 rfl ?_
      refine gT_minus fx b0 wf_X2_15 dX2_switchBy_39 ?_
      refine z_iload_n fx dX2_switchBy_42 rfl ?_
      refine x_ild fx (bT2 b0) (cfX_Tm g ad b0) q3 dX2_switchBy_43 ?_
      refine z_iconst (v := (-1)) fx dX2_switchBy_44 rfl ?_
      refine z_ixor fx dX2_switchBy_45 ?_
      refine z_iand fx dX2_switchBy_46 ?_
      refine x_ist fx (bT1 b0) (cfX_Tp g ad b0) q3 dX2_switchBy_47 ?_
      refine z_iinc (v := (a2 + 1)) fx dX2_switchBy_48 rfl rfl (by decide) rfl ?_
      refine z_goto (tgt := 2) fx dX2_switchBy_51 (by decide) ?_
      exact z_lv2 (ih n0 a1 (a2 + 1) (wI (wI I (24 + 3 * n0) a2.toNatClampNeg x2) (23 + 3 * n0) a2.toNatClampNeg (((f_X3_allBits ((wI I (24 + 3 * n0) a2.toNatClampNeg x2) (22 + 3 * n0) 2)) - ((1 : Int32) <<< (a2 &&& 31))) &&& (((wI I (24 + 3 * n0) a2.toNatClampNeg x2) (24 + 3 * n0) a2.toNatClampNeg) ^^^ (-1)))) h b0) rfl
set_option maxRecDepth 100000 in
set_option maxHeartbeats 4000000 in
theorem c_X2_switchBy (l : Launch) (D : va_G) (ad : Nat → Nat) (g : Nat → ClassId) (n0 : Nat) (a1 : Int32) (I : zMi) (J : zMl) (b0 : n0 < 12) {r : zMi} (h : f_X2_switchBy n0 a1 I = some r) : zCM (xw D ad g) l yX2_switchBy cX2_switchBy 3 none rmX2_switchBy [.ref (ad (22 + 3 * n0)), .int a1] I J none r J := by
  refine zCM.of (by decide) (Nat.le_of_ble_eq_true rfl) (fun E hl hR fx hr => ?_)
  subst hl
  rw [f_X2_switchBy] at h
  refine z_iconst (v := 0) fx dX2_switchBy_0 rfl ?_
  refine z_istore_n fx dX2_switchBy_1 (by decide) rfl ?_
  exact z_lv2 (w_X2_switchBy_2 fx hR hr fu n0 a1 0 I h b0) rfl
set_option maxRecDepth 100000 in
set_option maxHeartbeats 4000000 in
theorem w_X2_becomesBySwitching_2 {E : zE} {D : va_G} {ad : Nat → Nat} {g : Nat → ClassId} (fx : zFX E (xw D ad g) cX2_becomesBySwitching RX2 4 (some .boolean)) (hR : zR E = rmX2_becomesBySwitching) {r : Int32} {I : zMi} {J : zMl} (hr : zRX E (xw D ad g) (some (.int r)) I J) : ∀ (fuel : Nat) (n0 : Nat) (n1 : Nat) (a2 : Int32) (a3 : Int32), f_X2_becomesBySwitching_2 I fuel n0 n1 a2 a3 = some r → n0 < 12 → n1 < 12 → zAt E (xw D ad g) 2 [(0, .ref (ad (22 + 3 * n0))), (1, .ref (ad (22 + 3 * n1))), (2, .int a2), (3, .int a3)] [] I J := by
  intro fuel
  induction fuel with
  | zero => intro n0 n1 a2 a3 h b0 b1; rw [f_X2_becomesBySwitching_2] at h; cases h
  | succ f ih =>
    intro n0 n1 a2 a3 h b0 b1
    rw [f_X2_becomesBySwitching_2] at h
    refine z_iload_n fx dX2_becomesBySwitching_2 rfl ?_
    refine z_aload_n fx dX2_becomesBySwitching_3 rfl ?_
    refine gT_n fx b0 wf_X2_18 dX2_becomesBySwitching_4 ?_
    refine z_icmp_ge (tgt := 33) fx dX2_becomesBySwitching_7 (by decide) (fun q1 => ?_) (fun q1 => ?_)
    · rw [if_pos q1] at h
      refine z_iconst (v := 1) fx dX2_becomesBySwitching_33 rfl ?_
      cases h
      exact z_zret fx rfl hr dX2_becomesBySwitching_34
    · rw [if_neg q1] at h
      refine z_aload_n fx dX2_becomesBySwitching_10 rfl ?_
      refine z_iload_n fx dX2_becomesBySwitching_11 rfl ?_
      refine z_iload_n fx dX2_becomesBySwitching_12 rfl ?_
      obtain ⟨x2, ex2, h⟩ := ob h
      refine zVi (k := 22 + 3 * n0) (rest := []) fx hR (c_X2_neighboursSwitched (zl E) D ad g n0 a3 a2 I J b0 ex2) (rcT b0) mvX2_neighboursSwitched wm_X2_104 dX2_becomesBySwitching_13 rfl ⟨rfl, rfl⟩ rfl rfl rfl ?_
      refine z_aload_n fx dX2_becomesBySwitching_16 rfl ?_
      refine gT_minus fx b1 wf_X2_15 dX2_becomesBySwitching_17 ?_
      refine z_iload_n fx dX2_becomesBySwitching_20 rfl ?_
      obtain ⟨q3, h⟩ := oi h
      refine x_ild fx (bT2 b1) (cfX_Tm g ad b1) q3 dX2_becomesBySwitching_21 ?_
      refine z_icmp_eq (tgt := 27) fx dX2_becomesBySwitching_22 (by decide) (fun q4 => ?_) (fun q4 => ?_)
      · rw [if_pos q4] at h
        refine z_iinc (v := (a3 + 1)) fx dX2_becomesBySwitching_27 rfl rfl (by decide) rfl ?_
        refine z_goto (tgt := 2) fx dX2_becomesBySwitching_30 (by decide) ?_
        exact z_lv2 (ih n0 n1 a2 (a3 + 1) h b0 b1) rfl
      · rw [if_neg q4] at h
        refine z_iconst (v := 0) fx dX2_becomesBySwitching_25 rfl ?_
        cases h
        exact z_zret fx rfl hr dX2_becomesBySwitching_26
set_option maxRecDepth 100000 in
set_option maxHeartbeats 4000000 in
theorem c_X2_becomesBySwitching (l : Launch) (D : va_G) (ad : Nat → Nat) (g : Nat → ClassId) (n0 : Nat) (n1 : Nat) (a2 : Int32) (I : zMi) (J : zMl) (b0 : n0 < 12) (b1 : n1 < 12) {r : Int32} (h : f_X2_becomesBySwitching n0 n1 a2 I = some r) : zCM (xw D ad g) l yX2_becomesBySwitching cX2_becomesBySwitching 4 (some .boolean) rmX2_becomesBySwitching [.ref (ad (22 + 3 * n0)), .ref (ad (22 + 3 * n1)), .int a2] I J (some (.int r)) I J := by
  refine zCM.of (by decide) (Nat.le_of_ble_eq_true rfl) (fun E hl hR fx hr => ?_)
  subst hl
  rw [f_X2_becomesBySwitching] at h
  refine z_iconst (v := 0) fx dX2_becomesBySwitching_0 rfl ?_
  refine z_istore_n fx dX2_becomesBySwitching_1 (by decide) rfl ?_
  exact z_lv2 (w_X2_becomesBySwitching_2 fx hR hr fu n0 n1 a2 0 h b0 b1) rfl
set_option maxRecDepth 100000 in
set_option maxHeartbeats 4000000 in
theorem w_X2_edgesSwitched_4 {E : zE} {D : va_G} {ad : Nat → Nat} {g : Nat → ClassId} (fx : zFX E (xw D ad g) cX2_edgesSwitched RX2 4 (some .int)) (hR : zR E = rmX2_edgesSwitched) {r : Int32} {I : zMi} {J : zMl} (hr : zRX E (xw D ad g) (some (.int r)) I J) : ∀ (fuel : Nat) (n0 : Nat) (a1 : Int32) (a2 : Int32) (a3 : Int32), f_X2_edgesSwitched_4 I fuel n0 a1 a2 a3 = some r → n0 < 12 → zAt E (xw D ad g) 4 [(0, .ref (ad (22 + 3 * n0))), (1, .int a1), (2, .int a2), (3, .int a3)] [] I J := by
  intro fuel
  induction fuel with
  | zero => intro n0 a1 a2 a3 h b0; rw [f_X2_edgesSwitched_4] at h; cases h
  | succ f ih =>
    intro n0 a1 a2 a3 h b0
    rw [f_X2_edgesSwitched_4] at h
    refine z_iload_n fx dX2_edgesSwitched_4 rfl ?_
    refine z_aload_n fx dX2_edgesSwitched_5 rfl ?_
    refine gT_n fx b0 wf_X2_18 dX2_edgesSwitched_6 ?_
    refine z_icmp_ge (tgt := 30) fx dX2_edgesSwitched_9 (by decide) (fun q1 => ?_) (fun q1 => ?_)
    · rw [if_pos q1] at h
      refine z_iload_n fx dX2_edgesSwitched_30 rfl ?_
      refine z_iconst (v := 2) fx dX2_edgesSwitched_31 rfl ?_
      refine z_idiv fx dX2_edgesSwitched_32 (by decide) ?_
      cases h
      exact z_iret fx hr dX2_edgesSwitched_33
    · rw [if_neg q1] at h
      refine z_iload_n fx dX2_edgesSwitched_12 rfl ?_
      refine z_aload_n fx dX2_edgesSwitched_13 rfl ?_
      refine z_iload_n fx dX2_edgesSwitched_14 rfl ?_
      refine z_iload_n fx dX2_edgesSwitched_15 rfl ?_
      obtain ⟨x2, ex2, h⟩ := ob h
      refine zVi (k := 22 + 3 * n0) (rest := [.int a2]) fx hR (c_X2_neighboursSwitched (zl E) D ad g n0 a3 a1 I J b0 ex2) (rcT b0) mvX2_neighboursSwitched wm_X2_104 dX2_edgesSwitched_16 rfl ⟨rfl, rfl⟩ rfl rfl rfl ?_
      refine zSi (rest := [.int a2]) fx hR (c_J6_bitCount (zl E) D ad g x2 I J rfl) mvJ6_bitCount wm_X2_58 dX2_edgesSwitched_19 rfl ⟨rfl, rfl⟩ rfl rfl rfl ?_
      refine z_iadd fx dX2_edgesSwitched_22 ?_
      refine z_istore_n fx dX2_edgesSwitched_23 (by decide) rfl ?_
      refine z_iinc (v := (a3 + 1)) fx dX2_edgesSwitched_24 rfl rfl (by decide) rfl ?_
      refine z_goto (tgt := 4) fx dX2_edgesSwitched_27 (by decide) ?_
      exact z_lv2 (ih n0 a1 (a2 + (f_J6_bitCount x2)) (a3 + 1) h b0) rfl
set_option maxRecDepth 100000 in
set_option maxHeartbeats 4000000 in
theorem c_X2_edgesSwitched (l : Launch) (D : va_G) (ad : Nat → Nat) (g : Nat → ClassId) (n0 : Nat) (a1 : Int32) (I : zMi) (J : zMl) (b0 : n0 < 12) {r : Int32} (h : f_X2_edgesSwitched n0 a1 I = some r) : zCM (xw D ad g) l yX2_edgesSwitched cX2_edgesSwitched 4 (some .int) rmX2_edgesSwitched [.ref (ad (22 + 3 * n0)), .int a1] I J (some (.int r)) I J := by
  refine zCM.of (by decide) (Nat.le_of_ble_eq_true rfl) (fun E hl hR fx hr => ?_)
  subst hl
  rw [f_X2_edgesSwitched] at h
  refine z_iconst (v := 0) fx dX2_edgesSwitched_0 rfl ?_
  refine z_istore_n fx dX2_edgesSwitched_1 (by decide) rfl ?_
  refine z_iconst (v := 0) fx dX2_edgesSwitched_2 rfl ?_
  refine z_istore_n fx dX2_edgesSwitched_3 (by decide) rfl ?_
  exact z_lv2 (w_X2_edgesSwitched_4 fx hR hr fu n0 a1 0 0 h b0) rfl
set_option maxRecDepth 100000 in
set_option maxHeartbeats 4000000 in
theorem w_X2_oddTriples_16 {E : zE} {D : va_G} {ad : Nat → Nat} {g : Nat → ClassId} (fx : zFX E (xw D ad g) cX2_oddTriples RX2 7 (some .int)) (hR : zR E = rmX2_oddTriples) {r : Int32} {I : zMi} {J : zMl} (hr : zRX E (xw D ad g) (some (.int r)) I J) {k4 : Nat → Int32 → Int32 → Option Int32} (hk4 : ∀ (n0 : Nat) (a1 : Int32) (a2 : Int32), k4 n0 a1 a2 = some r → n0 < 12 → zAt E (xw D ad g) 4 [(0, .ref (ad (22 + 3 * n0))), (1, .int a1), (2, .int a2)] [] I J) : ∀ (fuel : Nat) (n0 : Nat) (a1 : Int32) (a2 : Int32) (a3 : Int32), f_X2_oddTriples_16 I k4 fuel n0 a1 a2 a3 = some r → n0 < 12 → zAt E (xw D ad g) 16 [(0, .ref (ad (22 + 3 * n0))), (1, .int a1), (2, .int a2), (3, .int a3)] [] I J := by
  intro fuel
  induction fuel with
  | zero => intro n0 a1 a2 a3 h b0; rw [f_X2_oddTriples_16] at h; cases h
  | succ f ih =>
    intro n0 a1 a2 a3 h b0
    rw [f_X2_oddTriples_16] at h
    refine z_iload_n fx dX2_oddTriples_16 rfl ?_
    refine z_aload_n fx dX2_oddTriples_17 rfl ?_
    refine gT_n fx b0 wf_X2_18 dX2_oddTriples_18 ?_
    refine z_icmp_ge (tgt := 93) fx dX2_oddTriples_21 (by decide) (fun q1 => ?_) (fun q1 => ?_)
    · rw [if_pos q1] at h
      refine z_iinc (v := (a2 + 1)) fx dX2_oddTriples_93 rfl rfl (by decide) rfl ?_
      refine z_goto (tgt := 4) fx dX2_oddTriples_96 (by decide) ?_
      exact z_lv2 (hk4 n0 a1 (a2 + 1) h b0) rfl
    · rw [if_neg q1] at h
      refine z_aload_n fx dX2_oddTriples_24 rfl ?_
      refine gT_minus fx b0 wf_X2_15 dX2_oddTriples_25 ?_
      refine z_iload_n fx dX2_oddTriples_28 rfl ?_
      obtain ⟨q2, h⟩ := oi h
      refine x_ild fx (bT2 b0) (cfX_Tm g ad b0) q2 dX2_oddTriples_29 ?_
      refine z_aload_n fx dX2_oddTriples_30 rfl ?_
      refine gT_minus fx b0 wf_X2_15 dX2_oddTriples_31 ?_
      refine z_iload_n fx dX2_oddTriples_34 rfl ?_
      obtain ⟨q3, h⟩ := oi h
      refine x_ild fx (bT2 b0) (cfX_Tm g ad b0) q3 dX2_oddTriples_35 ?_
      refine z_ixor fx dX2_oddTriples_36 ?_
      refine z_iload_n fx dX2_oddTriples_37 rfl ?_
      refine z_iconst (v := 1) fx dX2_oddTriples_38 rfl ?_
      refine z_iadd fx dX2_oddTriples_39 ?_
      refine z_ishr fx dX2_oddTriples_40 ?_
      refine z_istore fx dX2_oddTriples_41 (by decide) rfl ?_
      refine z_aload_n fx dX2_oddTriples_43 rfl ?_
      refine gT_n fx b0 wf_X2_18 dX2_oddTriples_44 ?_
      refine z_iload_n fx dX2_oddTriples_47 rfl ?_
      refine z_isub fx dX2_oddTriples_48 ?_
      refine z_iconst (v := 1) fx dX2_oddTriples_49 rfl ?_
      refine z_isub fx dX2_oddTriples_50 ?_
      refine z_istore fx dX2_oddTriples_51 (by decide) rfl ?_
      refine z_iload fx dX2_oddTriples_53 rfl ?_
      refine zSi (rest := []) fx hR (c_J6_bitCount (zl E) D ad g (((I (24 + 3 * n0) a2.toNatClampNeg) ^^^ (I (24 + 3 * n0) a3.toNatClampNeg)) >>> ((a3 + 1) &&& 31)) I J rfl) mvJ6_bitCount wm_X2_58 dX2_oddTriples_55 rfl ⟨rfl, rfl⟩ rfl rfl rfl ?_
      refine z_istore fx dX2_oddTriples_58 (by decide) rfl ?_
      refine z_iload_n fx dX2_oddTriples_60 rfl ?_
      refine z_aload_n fx dX2_oddTriples_61 rfl ?_
      refine gT_minus fx b0 wf_X2_15 dX2_oddTriples_62 ?_
      refine z_iload_n fx dX2_oddTriples_65 rfl ?_
      refine x_ild fx (bT2 b0) (cfX_Tm g ad b0) q2 dX2_oddTriples_66 ?_
      refine z_iload_n fx dX2_oddTriples_67 rfl ?_
      refine z_ishr fx dX2_oddTriples_68 ?_
      refine z_iconst (v := 1) fx dX2_oddTriples_69 rfl ?_
      refine z_iand fx dX2_oddTriples_70 ?_
      refine z_iconst (v := 1) fx dX2_oddTriples_71 rfl ?_
      refine z_icmp_ne (tgt := 83) fx dX2_oddTriples_72 (by decide) (fun q4 => ?_) (fun q4 => ?_)
      · rw [if_neg q4] at h
        refine z_iload fx dX2_oddTriples_83 rfl ?_
        refine z_iadd fx dX2_oddTriples_85 ?_
        refine z_istore_n fx dX2_oddTriples_86 (by decide) rfl ?_
        refine z_iinc (v := (a3 + 1)) fx dX2_oddTriples_87 rfl rfl (by decide) rfl ?_
        refine z_goto (tgt := 16) fx dX2_oddTriples_90 (by decide) ?_
        exact z_lv2 (ih n0 (a1 + (f_J6_bitCount (((I (24 + 3 * n0) a2.toNatClampNeg) ^^^ (I (24 + 3 * n0) a3.toNatClampNeg)) >>> ((a3 + 1) &&& 31)))) a2 (a3 + 1) h b0) rfl
      · rw [if_pos q4] at h
        refine z_iload fx dX2_oddTriples_75 rfl ?_
        refine z_iload fx dX2_oddTriples_77 rfl ?_
        refine z_isub fx dX2_oddTriples_79 ?_
        refine z_goto (tgt := 85) fx dX2_oddTriples_80 (by decide) ?_
        refine z_iadd fx dX2_oddTriples_85 ?_
        refine z_istore_n fx dX2_oddTriples_86 (by decide) rfl ?_
        refine z_iinc (v := (a3 + 1)) fx dX2_oddTriples_87 rfl rfl (by decide) rfl ?_
        refine z_goto (tgt := 16) fx dX2_oddTriples_90 (by decide) ?_
        exact z_lv2 (ih n0 (a1 + ((((I (22 + 3 * n0) 2) - a3) - 1) - (f_J6_bitCount (((I (24 + 3 * n0) a2.toNatClampNeg) ^^^ (I (24 + 3 * n0) a3.toNatClampNeg)) >>> ((a3 + 1) &&& 31))))) a2 (a3 + 1) h b0) rfl
set_option maxRecDepth 100000 in
set_option maxHeartbeats 4000000 in
theorem w_X2_oddTriples_4 {E : zE} {D : va_G} {ad : Nat → Nat} {g : Nat → ClassId} (fx : zFX E (xw D ad g) cX2_oddTriples RX2 7 (some .int)) (hR : zR E = rmX2_oddTriples) {r : Int32} {I : zMi} {J : zMl} (hr : zRX E (xw D ad g) (some (.int r)) I J) : ∀ (fuel : Nat) (n0 : Nat) (a1 : Int32) (a2 : Int32), f_X2_oddTriples_4 I fuel n0 a1 a2 = some r → n0 < 12 → zAt E (xw D ad g) 4 [(0, .ref (ad (22 + 3 * n0))), (1, .int a1), (2, .int a2)] [] I J := by
  intro fuel
  induction fuel with
  | zero => intro n0 a1 a2 h b0; rw [f_X2_oddTriples_4] at h; cases h
  | succ f ih =>
    intro n0 a1 a2 h b0
    rw [f_X2_oddTriples_4] at h
    refine z_iload_n fx dX2_oddTriples_4 rfl ?_
    refine z_aload_n fx dX2_oddTriples_5 rfl ?_
    refine gT_n fx b0 wf_X2_18 dX2_oddTriples_6 ?_
    refine z_icmp_ge (tgt := 99) fx dX2_oddTriples_9 (by decide) (fun q1 => ?_) (fun q1 => ?_)
    · rw [if_pos q1] at h
      refine z_iload_n fx dX2_oddTriples_99 rfl ?_
      cases h
      exact z_iret fx hr dX2_oddTriples_100
    · rw [if_neg q1] at h
      refine z_iload_n fx dX2_oddTriples_12 rfl ?_
      refine z_iconst (v := 1) fx dX2_oddTriples_13 rfl ?_
      refine z_iadd fx dX2_oddTriples_14 ?_
      refine z_istore_n fx dX2_oddTriples_15 (by decide) rfl ?_
      exact z_lv2 (w_X2_oddTriples_16 fx hR hr ih fu n0 a1 a2 (a2 + 1) h b0) rfl
set_option maxRecDepth 100000 in
set_option maxHeartbeats 4000000 in
theorem c_X2_oddTriples (l : Launch) (D : va_G) (ad : Nat → Nat) (g : Nat → ClassId) (n0 : Nat) (I : zMi) (J : zMl) (b0 : n0 < 12) {r : Int32} (h : f_X2_oddTriples n0 I = some r) : zCM (xw D ad g) l yX2_oddTriples cX2_oddTriples 7 (some .int) rmX2_oddTriples [.ref (ad (22 + 3 * n0))] I J (some (.int r)) I J := by
  refine zCM.of (by decide) (Nat.le_of_ble_eq_true rfl) (fun E hl hR fx hr => ?_)
  subst hl
  rw [f_X2_oddTriples] at h
  refine z_iconst (v := 0) fx dX2_oddTriples_0 rfl ?_
  refine z_istore_n fx dX2_oddTriples_1 (by decide) rfl ?_
  refine z_iconst (v := 0) fx dX2_oddTriples_2 rfl ?_
  refine z_istore_n fx dX2_oddTriples_3 (by decide) rfl ?_
  exact z_lv2 (w_X2_oddTriples_4 fx hR hr fu n0 0 0 h b0) rfl
set_option maxRecDepth 100000 in
set_option maxHeartbeats 4000000 in
theorem w_X2_addedTo_52 {E : zE} {D : va_G} {ad : Nat → Nat} {g : Nat → ClassId} (fx : zFX E (xw D ad g) cX2_addedTo RX2 7 (some .long)) (hR : zR E = rmX2_addedTo) {r : Int64} {I : zMi} {J : zMl} (hr : zRX E (xw D ad g) (some (.long r)) I J) {k40 : Nat → Int64 → Int32 → Option Int64} (hk40 : ∀ (n0 : Nat) (a3 : Int64) (a5 : Int32), k40 n0 a3 a5 = some r → n0 < 12 → zAt E (xw D ad g) 40 [(0, .ref (ad (22 + 3 * n0))), (3, .long a3), (5, .int a5)] [] I J) : ∀ (fuel : Nat) (n0 : Nat) (a3 : Int64) (a5 : Int32) (a6 : Int32), f_X2_addedTo_52 I k40 fuel n0 a3 a5 a6 = some r → n0 < 12 → zAt E (xw D ad g) 52 [(0, .ref (ad (22 + 3 * n0))), (3, .long a3), (5, .int a5), (6, .int a6)] [] I J := by
  intro fuel
  induction fuel with
  | zero => intro n0 a3 a5 a6 h b0; rw [f_X2_addedTo_52] at h; cases h
  | succ f ih =>
    intro n0 a3 a5 a6 h b0
    rw [f_X2_addedTo_52] at h
    refine z_iload fx dX2_addedTo_52 rfl ?_
    refine z_aload_n fx dX2_addedTo_54 rfl ?_
    refine gT_n fx b0 wf_X2_18 dX2_addedTo_55 ?_
    refine z_icmp_ge (tgt := 83) fx dX2_addedTo_58 (by decide) (fun q1 => ?_) (fun q1 => ?_)
    · rw [if_pos q1] at h
      refine z_iinc (v := (a5 + 1)) fx dX2_addedTo_83 rfl rfl (by decide) rfl ?_
      refine z_goto (tgt := 40) fx dX2_addedTo_86 (by decide) ?_
      exact z_lv2 (hk40 n0 a3 (a5 + 1) h b0) rfl
    · rw [if_neg q1] at h
      refine z_ldc2 fx wc_X2_110 dX2_addedTo_61 ?_
      refine z_lload_n fx dX2_addedTo_64 rfl ?_
      refine z_lmul fx dX2_addedTo_65 ?_
      refine z_aload_n fx dX2_addedTo_66 rfl ?_
      refine z_iload fx dX2_addedTo_67 rfl ?_
      refine z_iload fx dX2_addedTo_69 rfl ?_
      obtain ⟨x2, ex2, h⟩ := ob h
      refine zVi (k := 22 + 3 * n0) (rest := [.long (31 * a3)]) fx hR (c_X2_number (zl E) D ad g n0 a5 a6 I J b0 ex2) (rcT b0) mvX2_number wm_X2_63 dX2_addedTo_71 rfl ⟨rfl, rfl⟩ rfl rfl rfl ?_
      refine z_i2l fx dX2_addedTo_74 ?_
      refine z_ladd fx dX2_addedTo_75 ?_
      refine z_lstore_n fx dX2_addedTo_76 (by decide) rfl ?_
      refine z_iinc (v := (a6 + 1)) fx dX2_addedTo_77 rfl rfl (by decide) rfl ?_
      refine z_goto (tgt := 52) fx dX2_addedTo_80 (by decide) ?_
      exact z_lv2 (ih n0 ((31 * a3) + (x2.toInt64)) a5 (a6 + 1) h b0) rfl
set_option maxRecDepth 100000 in
set_option maxHeartbeats 4000000 in
theorem w_X2_addedTo_40 {E : zE} {D : va_G} {ad : Nat → Nat} {g : Nat → ClassId} (fx : zFX E (xw D ad g) cX2_addedTo RX2 7 (some .long)) (hR : zR E = rmX2_addedTo) {r : Int64} {I : zMi} {J : zMl} (hr : zRX E (xw D ad g) (some (.long r)) I J) : ∀ (fuel : Nat) (n0 : Nat) (a3 : Int64) (a5 : Int32), f_X2_addedTo_40 I fuel n0 a3 a5 = some r → n0 < 12 → zAt E (xw D ad g) 40 [(0, .ref (ad (22 + 3 * n0))), (3, .long a3), (5, .int a5)] [] I J := by
  intro fuel
  induction fuel with
  | zero => intro n0 a3 a5 h b0; rw [f_X2_addedTo_40] at h; cases h
  | succ f ih =>
    intro n0 a3 a5 h b0
    rw [f_X2_addedTo_40] at h
    refine z_iload fx dX2_addedTo_40 rfl ?_
    refine z_aload_n fx dX2_addedTo_42 rfl ?_
    refine gT_n fx b0 wf_X2_18 dX2_addedTo_43 ?_
    refine z_icmp_ge (tgt := 89) fx dX2_addedTo_46 (by decide) (fun q1 => ?_) (fun q1 => ?_)
    · rw [if_pos q1] at h
      refine z_lload_n fx dX2_addedTo_89 rfl ?_
      cases h
      exact z_lret fx hr dX2_addedTo_90
    · rw [if_neg q1] at h
      refine z_iconst (v := 0) fx dX2_addedTo_49 rfl ?_
      refine z_istore fx dX2_addedTo_50 (by decide) rfl ?_
      exact z_lv2 (w_X2_addedTo_52 fx hR hr ih fu n0 a3 a5 0 h b0) rfl
set_option maxRecDepth 100000 in
set_option maxHeartbeats 4000000 in
theorem c_X2_addedTo (l : Launch) (D : va_G) (ad : Nat → Nat) (g : Nat → ClassId) (n0 : Nat) (a1 : Int64) (I : zMi) (J : zMl) (b0 : n0 < 12) {r : Int64} (h : f_X2_addedTo n0 a1 I = some r) : zCM (xw D ad g) l yX2_addedTo cX2_addedTo 7 (some .long) rmX2_addedTo [.ref (ad (22 + 3 * n0)), .long a1] I J (some (.long r)) I J := by
  refine zCM.of (by decide) (Nat.le_of_ble_eq_true rfl) (fun E hl hR fx hr => ?_)
  subst hl
  rw [f_X2_addedTo] at h
  refine z_aload_n fx dX2_addedTo_0 rfl ?_
  refine zVi (k := 22 + 3 * n0) (rest := []) fx hR (c_X2_isMissing (zl E) D ad g n0 I J b0 rfl) (rcT b0) mvX2_isMissing wm_X2_107 dX2_addedTo_1 rfl ⟨rfl, rfl⟩ rfl rfl rfl ?_
  refine z_if_eq (tgt := 15) fx dX2_addedTo_4 (by decide) (fun q1 => ?_) (fun q1 => ?_)
  · rw [if_pos q1] at h
    refine z_ldc2 fx wc_X2_110 dX2_addedTo_15 ?_
    refine z_ldc2 fx wc_X2_110 dX2_addedTo_18 ?_
    refine z_lload_n fx dX2_addedTo_21 rfl ?_
    refine z_lmul fx dX2_addedTo_22 ?_
    refine z_aload_n fx dX2_addedTo_23 rfl ?_
    refine gT_kind fx b0 wf_X2_22 dX2_addedTo_24 ?_
    refine z_i2l fx dX2_addedTo_27 ?_
    refine z_ladd fx dX2_addedTo_28 ?_
    refine z_lmul fx dX2_addedTo_29 ?_
    refine z_aload_n fx dX2_addedTo_30 rfl ?_
    refine gT_n fx b0 wf_X2_18 dX2_addedTo_31 ?_
    refine z_i2l fx dX2_addedTo_34 ?_
    refine z_ladd fx dX2_addedTo_35 ?_
    refine z_lstore_n fx dX2_addedTo_36 (by decide) rfl ?_
    refine z_iconst (v := 0) fx dX2_addedTo_37 rfl ?_
    refine z_istore fx dX2_addedTo_38 (by decide) rfl ?_
    exact z_lv2 (w_X2_addedTo_40 fx hR hr fu n0 ((31 * ((31 * a1) + ((I (22 + 3 * n0) 3).toInt64))) + ((I (22 + 3 * n0) 2).toInt64)) 0 h b0) rfl
  · rw [if_neg q1] at h
    refine z_ldc2 fx wc_X2_110 dX2_addedTo_7 ?_
    refine z_lload_n fx dX2_addedTo_10 rfl ?_
    refine z_lmul fx dX2_addedTo_11 ?_
    refine z_lconst (v := 1) fx dX2_addedTo_12 rfl ?_
    refine z_lsub fx dX2_addedTo_13 ?_
    cases h
    exact z_lret fx hr dX2_addedTo_14
set_option maxRecDepth 100000 in
set_option maxHeartbeats 4000000 in
theorem c_X3_isRowNumber (l : Launch) (D : va_G) (ad : Nat → Nat) (g : Nat → ClassId) (a0 : Int32) (I : zMi) (J : zMl) {r : Int32} (h : f_X3_isRowNumber a0 = r) : zCM (xw D ad g) l yX3_isRowNumber cX3_isRowNumber 1 (some .boolean) rmX3_isRowNumber [.int a0] I J (some (.int r)) I J := by
  refine zCM.of (by decide) (Nat.le_of_ble_eq_true rfl) (fun E hl hR fx hr => ?_)
  subst hl
  rw [f_X3_isRowNumber] at h
  refine z_iload_n fx dX3_isRowNumber_0 rfl ?_
  refine z_if_lt (tgt := 14) fx dX3_isRowNumber_1 (by decide) (fun q1 => ?_) (fun q1 => ?_)
  · rw [if_pos q1] at h
    refine z_iconst (v := 0) fx dX3_isRowNumber_14 rfl ?_
    subst h
    exact z_zret fx rfl hr dX3_isRowNumber_15
  · rw [if_neg q1] at h
    refine z_iload_n fx dX3_isRowNumber_4 rfl ?_
    refine z_bipush (v := 6) fx dX3_isRowNumber_5 rfl ?_
    refine z_icmp_ge (tgt := 14) fx dX3_isRowNumber_7 (by decide) (fun q2 => ?_) (fun q2 => ?_)
    · rw [if_pos q2] at h
      refine z_iconst (v := 0) fx dX3_isRowNumber_14 rfl ?_
      subst h
      exact z_zret fx rfl hr dX3_isRowNumber_15
    · rw [if_neg q2] at h
      refine z_iconst (v := 1) fx dX3_isRowNumber_10 rfl ?_
      refine z_goto (tgt := 15) fx dX3_isRowNumber_11 (by decide) ?_
      subst h
      exact z_zret fx rfl hr dX3_isRowNumber_15
set_option maxRecDepth 100000 in
set_option maxHeartbeats 4000000 in
theorem c_X3_found (l : Launch) (D : va_G) (ad : Nat → Nat) (g : Nat → ClassId) (a1 : Int32) (I : zMi) (J : zMl) {r : Int32 × zMi} (h : f_X3_found a1 I = some r) : zCM (xw D ad g) l yX3_found cX3_found 2 (some .int) rmX3_found [.ref (ad (0)), .int a1] I J (some (.int r.1)) r.2 J := by
  refine zCM.of (by decide) (Nat.le_of_ble_eq_true rfl) (fun E hl hR fx hr => ?_)
  subst hl
  rw [f_X3_found] at h
  refine z_aload_n fx dX3_found_0 rfl ?_
  refine z_iload_n fx dX3_found_1 rfl ?_
  refine pS_latestFinding fx wf_X3_47 dX3_found_2 ?_
  refine z_aload_n fx dX3_found_5 rfl ?_
  refine gS_findingCounts fx wf_X3_44 dX3_found_6 ?_
  refine z_iload_n fx dX3_found_9 rfl ?_
  refine z_dup2 fx dX3_found_10 rfl rfl ?_
  obtain ⟨q1, h⟩ := oi h
  refine x_ild fx (Nat.le_of_ble_eq_true rfl) (cfX_9 g ad) q1 dX3_found_11 ?_
  refine z_iconst (v := 1) fx dX3_found_12 rfl ?_
  refine z_iadd fx dX3_found_13 ?_
  refine x_ist fx (Nat.le_of_ble_eq_true rfl) (cfX_9 g ad) q1 dX3_found_14 ?_
  refine z_bipush (v := (-3)) fx dX3_found_15 rfl ?_
  cases h
  exact z_iret fx hr dX3_found_17
set_option maxRecDepth 100000 in
set_option maxHeartbeats 4000000 in
theorem c_X3_row (l : Launch) (D : va_G) (ad : Nat → Nat) (g : Nat → ClassId) (a1 : Int32) (a2 : Int32) (I : zMi) (J : zMl) {r : Int32 × zMi} (h : f_X3_row a1 a2 I = some r) : zCM (xw D ad g) l yX3_row cX3_row 3 (some .int) rmX3_row [.ref (ad (0)), .int a1, .int a2] I J (some (.int r.1)) r.2 J := by
  refine zCM.of (by decide) (Nat.le_of_ble_eq_true rfl) (fun E hl hR fx hr => ?_)
  subst hl
  rw [f_X3_row] at h
  refine z_iload_n fx dX3_row_0 rfl ?_
  refine zSi (rest := []) fx hR (c_X3_isRowNumber (zl E) D ad g a1 I J rfl) mvX3_isRowNumber wm_X3_65 dX3_row_1 rfl ⟨rfl, rfl⟩ rfl rfl rfl ?_
  refine z_if_eq (tgt := 13) fx dX3_row_4 (by decide) (fun q1 => ?_) (fun q1 => ?_)
  · rw [if_pos q1] at h
    refine z_iconst (v := (-1)) fx dX3_row_13 rfl ?_
    cases h
    exact z_iret fx hr dX3_row_14
  · rw [if_neg q1] at h
    refine z_iload_n fx dX3_row_7 rfl ?_
    refine z_bipush (v := 24) fx dX3_row_8 rfl ?_
    refine z_icmp_le (tgt := 15) fx dX3_row_10 (by decide) (fun q2 => ?_) (fun q2 => ?_)
    · rw [if_pos q2] at h
      refine z_iload_n fx dX3_row_15 rfl ?_
      refine z_if_ge (tgt := 25) fx dX3_row_16 (by decide) (fun q3 => ?_) (fun q3 => ?_)
      · rw [if_pos q3] at h
        refine z_aload_n fx dX3_row_25 rfl ?_
        refine gS_rows fx wf_X3_11 dX3_row_26 ?_
        refine z_iload_n fx dX3_row_29 rfl ?_
        obtain ⟨q4, h⟩ := oi h
        refine x_rld fx q4 dX3_row_30 ?_
        refine z_iload_n fx dX3_row_31 rfl ?_
        refine z_iconst (v := 0) fx dX3_row_32 rfl ?_
        obtain ⟨x5, ex5, h⟩ := ob h
        refine zVv (k := 10 + 2 * a1.toNatClampNeg) (rest := []) fx hR (c_X1_beginSigns (zl E) D ad g a1.toNatClampNeg a2 0 I J (ix_lt q4) ex5) (rcR (ix_lt q4)) mvX1_beginSigns wm_X3_73 dX3_row_33 rfl ⟨rfl, rfl⟩ rfl rfl rfl ?_
        refine z_iload_n fx dX3_row_36 rfl ?_
        cases h
        exact z_iret fx hr dX3_row_37
      · rw [if_neg q3] at h
        refine z_aload_n fx dX3_row_19 rfl ?_
        refine z_iconst (v := 5) fx dX3_row_20 rfl ?_
        obtain ⟨x6, ex6, h⟩ := ob h
        refine zVi (k := 0) (rest := []) fx hR (c_X3_found (zl E) D ad g 5 I J ex6) rcS mvX3_found wm_X3_69 dX3_row_21 rfl ⟨rfl, rfl⟩ rfl rfl rfl ?_
        cases h
        exact z_iret fx hr dX3_row_24
    · rw [if_neg q2] at h
      refine z_iconst (v := (-1)) fx dX3_row_13 rfl ?_
      cases h
      exact z_iret fx hr dX3_row_14
set_option maxRecDepth 100000 in
set_option maxHeartbeats 4000000 in
theorem c_X3_lay (l : Launch) (D : va_G) (ad : Nat → Nat) (g : Nat → ClassId) (a1 : Int32) (a2 : Int32) (a3 : Int32) (I : zMi) (J : zMl) {r : Int32 × zMi} (h : f_X3_lay a1 a2 a3 I = some r) : zCM (xw D ad g) l yX3_lay cX3_lay 5 (some .int) rmX3_lay [.ref (ad (0)), .int a1, .int a2, .int a3] I J (some (.int r.1)) r.2 J := by
  refine zCM.of (by decide) (Nat.le_of_ble_eq_true rfl) (fun E hl hR fx hr => ?_)
  subst hl
  rw [f_X3_lay] at h
  refine z_iload_n fx dX3_lay_0 rfl ?_
  refine zSi (rest := []) fx hR (c_X3_isRowNumber (zl E) D ad g a1 I J rfl) mvX3_isRowNumber wm_X3_65 dX3_lay_1 rfl ⟨rfl, rfl⟩ rfl rfl rfl ?_
  refine z_if_ne (tgt := 9) fx dX3_lay_4 (by decide) (fun q1 => ?_) (fun q1 => ?_)
  · rw [if_neg q1] at h
    refine z_aload_n fx dX3_lay_9 rfl ?_
    refine gS_rows fx wf_X3_11 dX3_lay_10 ?_
    refine z_iload_n fx dX3_lay_13 rfl ?_
    obtain ⟨q2, h⟩ := oi h
    refine x_rld fx q2 dX3_lay_14 ?_
    refine z_astore fx dX3_lay_15 (by decide) rfl ?_
    refine z_aload fx dX3_lay_17 rfl ?_
    refine zVi (k := 10 + 2 * a1.toNatClampNeg) (rest := []) fx hR (c_X1_isMissing (zl E) D ad g a1.toNatClampNeg I J (ix_lt q2) rfl) (rcR (ix_lt q2)) mvX1_isMissing wm_X3_77 dX3_lay_19 rfl ⟨rfl, rfl⟩ rfl rfl rfl ?_
    refine z_if_eq (tgt := 31) fx dX3_lay_22 (by decide) (fun q3 => ?_) (fun q3 => ?_)
    · rw [if_pos q3] at h
      refine z_aload fx dX3_lay_31 rfl ?_
      refine z_iload_n fx dX3_lay_33 rfl ?_
      refine z_iconst (v := 1) fx dX3_lay_34 rfl ?_
      refine zVi (k := 10 + 2 * a1.toNatClampNeg) (rest := []) fx hR (c_X1_hasPlaces (zl E) D ad g a1.toNatClampNeg a2 1 I J (ix_lt q2) rfl) (rcR (ix_lt q2)) mvX1_hasPlaces wm_X3_81 dX3_lay_35 rfl ⟨rfl, rfl⟩ rfl rfl rfl ?_
      refine z_if_ne (tgt := 47) fx dX3_lay_38 (by decide) (fun q4 => ?_) (fun q4 => ?_)
      · rw [if_neg q4] at h
        refine z_aload_n fx dX3_lay_47 rfl ?_
        refine z_aload fx dX3_lay_48 rfl ?_
        refine gR_ints fx (ix_lt q2) wf_X3_85 dX3_lay_50 ?_
        refine z_iload_n fx dX3_lay_53 rfl ?_
        obtain ⟨q5, h⟩ := oi h
        refine x_ild fx (bR1 (ix_lt q2)) (cfX_Ri g ad (ix_lt q2)) q5 dX3_lay_54 ?_
        refine pS_latestAsked fx wf_X3_51 dX3_lay_55 ?_
        refine z_aload fx dX3_lay_58 rfl ?_
        refine gR_ints fx (ix_lt q2) wf_X3_85 dX3_lay_60 ?_
        refine z_iload_n fx dX3_lay_63 rfl ?_
        refine z_iload_n fx dX3_lay_64 rfl ?_
        refine x_ist fx (bR1 (ix_lt q2)) (cfX_Ri g ad (ix_lt q2)) q5 dX3_lay_65 ?_
        refine z_iconst (v := 1) fx dX3_lay_66 rfl ?_
        cases h
        exact z_iret fx hr dX3_lay_67
      · rw [if_pos q4] at h
        refine z_aload_n fx dX3_lay_41 rfl ?_
        refine z_iconst (v := 2) fx dX3_lay_42 rfl ?_
        obtain ⟨x6, ex6, h⟩ := ob h
        refine zVi (k := 0) (rest := []) fx hR (c_X3_found (zl E) D ad g 2 I J ex6) rcS mvX3_found wm_X3_69 dX3_lay_43 rfl ⟨rfl, rfl⟩ rfl rfl rfl ?_
        cases h
        exact z_iret fx hr dX3_lay_46
    · rw [if_neg q3] at h
      refine z_aload_n fx dX3_lay_25 rfl ?_
      refine z_iconst (v := 1) fx dX3_lay_26 rfl ?_
      obtain ⟨x7, ex7, h⟩ := ob h
      refine zVi (k := 0) (rest := []) fx hR (c_X3_found (zl E) D ad g 1 I J ex7) rcS mvX3_found wm_X3_69 dX3_lay_27 rfl ⟨rfl, rfl⟩ rfl rfl rfl ?_
      cases h
      exact z_iret fx hr dX3_lay_30
  · rw [if_pos q1] at h
    refine z_iconst (v := (-1)) fx dX3_lay_7 rfl ?_
    cases h
    exact z_iret fx hr dX3_lay_8
set_option maxRecDepth 100000 in
set_option maxHeartbeats 4000000 in
theorem c_X3_tear (l : Launch) (D : va_G) (ad : Nat → Nat) (g : Nat → ClassId) (a1 : Int32) (I : zMi) (J : zMl) {r : Int32 × zMi} (h : f_X3_tear a1 I = some r) : zCM (xw D ad g) l yX3_tear cX3_tear 2 (some .int) rmX3_tear [.ref (ad (0)), .int a1] I J (some (.int r.1)) r.2 J := by
  refine zCM.of (by decide) (Nat.le_of_ble_eq_true rfl) (fun E hl hR fx hr => ?_)
  subst hl
  rw [f_X3_tear] at h
  refine z_iload_n fx dX3_tear_0 rfl ?_
  refine zSi (rest := []) fx hR (c_X3_isRowNumber (zl E) D ad g a1 I J rfl) mvX3_isRowNumber wm_X3_65 dX3_tear_1 rfl ⟨rfl, rfl⟩ rfl rfl rfl ?_
  refine z_if_ne (tgt := 9) fx dX3_tear_4 (by decide) (fun q1 => ?_) (fun q1 => ?_)
  · rw [if_neg q1] at h
    refine z_aload_n fx dX3_tear_9 rfl ?_
    refine gS_rows fx wf_X3_11 dX3_tear_10 ?_
    refine z_iload_n fx dX3_tear_13 rfl ?_
    obtain ⟨q2, h⟩ := oi h
    refine x_rld fx q2 dX3_tear_14 ?_
    refine zVi (k := 10 + 2 * a1.toNatClampNeg) (rest := []) fx hR (c_X1_isMissing (zl E) D ad g a1.toNatClampNeg I J (ix_lt q2) rfl) (rcR (ix_lt q2)) mvX1_isMissing wm_X3_77 dX3_tear_15 rfl ⟨rfl, rfl⟩ rfl rfl rfl ?_
    refine z_if_eq (tgt := 27) fx dX3_tear_18 (by decide) (fun q3 => ?_) (fun q3 => ?_)
    · rw [if_pos q3] at h
      refine z_aload_n fx dX3_tear_27 rfl ?_
      refine gS_rows fx wf_X3_11 dX3_tear_28 ?_
      refine z_iload_n fx dX3_tear_31 rfl ?_
      refine x_rld fx q2 dX3_tear_32 ?_
      refine zVv (k := 10 + 2 * a1.toNatClampNeg) (rest := []) fx hR (c_X1_end (zl E) D ad g a1.toNatClampNeg I J (ix_lt q2) rfl) (rcR (ix_lt q2)) mvX1_end wm_X3_88 dX3_tear_33 rfl ⟨rfl, rfl⟩ rfl rfl rfl ?_
      refine z_iconst (v := 1) fx dX3_tear_36 rfl ?_
      cases h
      exact z_iret fx hr dX3_tear_37
    · rw [if_neg q3] at h
      refine z_aload_n fx dX3_tear_21 rfl ?_
      refine z_iconst (v := 1) fx dX3_tear_22 rfl ?_
      obtain ⟨x4, ex4, h⟩ := ob h
      refine zVi (k := 0) (rest := []) fx hR (c_X3_found (zl E) D ad g 1 I J ex4) rcS mvX3_found wm_X3_69 dX3_tear_23 rfl ⟨rfl, rfl⟩ rfl rfl rfl ?_
      cases h
      exact z_iret fx hr dX3_tear_26
  · rw [if_pos q1] at h
    refine z_iconst (v := (-1)) fx dX3_tear_7 rfl ?_
    cases h
    exact z_iret fx hr dX3_tear_8
set_option maxRecDepth 100000 in
set_option maxHeartbeats 4000000 in
theorem c_X3_copy (l : Launch) (D : va_G) (ad : Nat → Nat) (g : Nat → ClassId) (a1 : Int32) (a2 : Int32) (a3 : Int32) (a4 : Int32) (a5 : Int32) (I : zMi) (J : zMl) {r : Int32 × zMi} (h : f_X3_copy a1 a2 a3 a4 a5 I = some r) : zCM (xw D ad g) l yX3_copy cX3_copy 8 (some .int) rmX3_copy [.ref (ad (0)), .int a1, .int a2, .int a3, .int a4, .int a5] I J (some (.int r.1)) r.2 J := by
  refine zCM.of (by decide) (Nat.le_of_ble_eq_true rfl) (fun E hl hR fx hr => ?_)
  subst hl
  rw [f_X3_copy] at h
  refine z_iload_n fx dX3_copy_0 rfl ?_
  refine zSi (rest := []) fx hR (c_X3_isRowNumber (zl E) D ad g a1 I J rfl) mvX3_isRowNumber wm_X3_65 dX3_copy_1 rfl ⟨rfl, rfl⟩ rfl rfl rfl ?_
  refine z_if_eq (tgt := 14) fx dX3_copy_4 (by decide) (fun q1 => ?_) (fun q1 => ?_)
  · rw [if_pos q1] at h
    refine z_iconst (v := (-1)) fx dX3_copy_14 rfl ?_
    cases h
    exact z_iret fx hr dX3_copy_15
  · rw [if_neg q1] at h
    refine z_iload_n fx dX3_copy_7 rfl ?_
    refine zSi (rest := []) fx hR (c_X3_isRowNumber (zl E) D ad g a3 I J rfl) mvX3_isRowNumber wm_X3_65 dX3_copy_8 rfl ⟨rfl, rfl⟩ rfl rfl rfl ?_
    refine z_if_ne (tgt := 16) fx dX3_copy_11 (by decide) (fun q2 => ?_) (fun q2 => ?_)
    · rw [if_neg q2] at h
      refine z_iload fx dX3_copy_16 rfl ?_
      refine z_if_ge (tgt := 27) fx dX3_copy_18 (by decide) (fun q3 => ?_) (fun q3 => ?_)
      · rw [if_pos q3] at h
        refine z_aload_n fx dX3_copy_27 rfl ?_
        refine gS_rows fx wf_X3_11 dX3_copy_28 ?_
        refine z_iload_n fx dX3_copy_31 rfl ?_
        obtain ⟨q4, h⟩ := oi h
        refine x_rld fx q4 dX3_copy_32 ?_
        refine z_astore fx dX3_copy_33 (by decide) rfl ?_
        refine z_aload_n fx dX3_copy_35 rfl ?_
        refine gS_rows fx wf_X3_11 dX3_copy_36 ?_
        refine z_iload_n fx dX3_copy_39 rfl ?_
        obtain ⟨q5, h⟩ := oi h
        refine x_rld fx q5 dX3_copy_40 ?_
        refine z_astore fx dX3_copy_41 (by decide) rfl ?_
        refine z_aload fx dX3_copy_43 rfl ?_
        refine zVi (k := 10 + 2 * a1.toNatClampNeg) (rest := []) fx hR (c_X1_isMissing (zl E) D ad g a1.toNatClampNeg I J (ix_lt q4) rfl) (rcR (ix_lt q4)) mvX1_isMissing wm_X3_77 dX3_copy_45 rfl ⟨rfl, rfl⟩ rfl rfl rfl ?_
        refine z_if_ne (tgt := 59) fx dX3_copy_48 (by decide) (fun q6 => ?_) (fun q6 => ?_)
        · rw [if_neg q6] at h
          refine z_aload_n fx dX3_copy_59 rfl ?_
          refine z_iconst (v := 1) fx dX3_copy_60 rfl ?_
          obtain ⟨x7, ex7, h⟩ := ob h
          refine zVi (k := 0) (rest := []) fx hR (c_X3_found (zl E) D ad g 1 I J ex7) rcS mvX3_found wm_X3_69 dX3_copy_61 rfl ⟨rfl, rfl⟩ rfl rfl rfl ?_
          cases h
          exact z_iret fx hr dX3_copy_64
        · rw [if_pos q6] at h
          refine z_aload fx dX3_copy_51 rfl ?_
          refine zVi (k := 10 + 2 * a3.toNatClampNeg) (rest := []) fx hR (c_X1_isMissing (zl E) D ad g a3.toNatClampNeg I J (ix_lt q5) rfl) (rcR (ix_lt q5)) mvX1_isMissing wm_X3_77 dX3_copy_53 rfl ⟨rfl, rfl⟩ rfl rfl rfl ?_
          refine z_if_eq (tgt := 65) fx dX3_copy_56 (by decide) (fun q8 => ?_) (fun q8 => ?_)
          · rw [if_pos q8] at h
            refine z_aload fx dX3_copy_65 rfl ?_
            refine z_iload_n fx dX3_copy_67 rfl ?_
            refine z_iload fx dX3_copy_68 rfl ?_
            refine zVi (k := 10 + 2 * a1.toNatClampNeg) (rest := []) fx hR (c_X1_hasPlaces (zl E) D ad g a1.toNatClampNeg a2 a5 I J (ix_lt q4) rfl) (rcR (ix_lt q4)) mvX1_hasPlaces wm_X3_81 dX3_copy_70 rfl ⟨rfl, rfl⟩ rfl rfl rfl ?_
            refine z_if_eq (tgt := 88) fx dX3_copy_73 (by decide) (fun q9 => ?_) (fun q9 => ?_)
            · rw [if_pos q9] at h
              refine z_aload_n fx dX3_copy_88 rfl ?_
              refine z_iconst (v := 2) fx dX3_copy_89 rfl ?_
              obtain ⟨x10, ex10, h⟩ := ob h
              refine zVi (k := 0) (rest := []) fx hR (c_X3_found (zl E) D ad g 2 I J ex10) rcS mvX3_found wm_X3_69 dX3_copy_90 rfl ⟨rfl, rfl⟩ rfl rfl rfl ?_
              cases h
              exact z_iret fx hr dX3_copy_93
            · rw [if_neg q9] at h
              refine z_aload fx dX3_copy_76 rfl ?_
              refine z_iload fx dX3_copy_78 rfl ?_
              refine z_iload fx dX3_copy_80 rfl ?_
              refine zVi (k := 10 + 2 * a3.toNatClampNeg) (rest := []) fx hR (c_X1_hasPlaces (zl E) D ad g a3.toNatClampNeg a4 a5 I J (ix_lt q5) rfl) (rcR (ix_lt q5)) mvX1_hasPlaces wm_X3_81 dX3_copy_82 rfl ⟨rfl, rfl⟩ rfl rfl rfl ?_
              refine z_if_ne (tgt := 94) fx dX3_copy_85 (by decide) (fun q11 => ?_) (fun q11 => ?_)
              · rw [if_neg q11] at h
                refine z_aload fx dX3_copy_94 rfl ?_
                refine gR_ints fx (ix_lt q4) wf_X3_85 dX3_copy_96 ?_
                refine z_iload_n fx dX3_copy_99 rfl ?_
                refine z_aload fx dX3_copy_100 rfl ?_
                refine gR_ints fx (ix_lt q5) wf_X3_85 dX3_copy_102 ?_
                refine z_iload fx dX3_copy_105 rfl ?_
                refine z_iload fx dX3_copy_107 rfl ?_
                obtain ⟨q12, h⟩ := oi h
                refine z_acopy (r := a1.toNatClampNeg) (q := a3.toNatClampNeg) fx (ix_lt q4) (ix_lt q5) q12 (by rw [hR]; decide) dX3_copy_109 ?_
                refine z_iconst (v := 1) fx dX3_copy_112 rfl ?_
                cases h
                exact z_iret fx hr dX3_copy_113
              · rw [if_pos q11] at h
                refine z_aload_n fx dX3_copy_88 rfl ?_
                refine z_iconst (v := 2) fx dX3_copy_89 rfl ?_
                obtain ⟨x13, ex13, h⟩ := ob h
                refine zVi (k := 0) (rest := []) fx hR (c_X3_found (zl E) D ad g 2 I J ex13) rcS mvX3_found wm_X3_69 dX3_copy_90 rfl ⟨rfl, rfl⟩ rfl rfl rfl ?_
                cases h
                exact z_iret fx hr dX3_copy_93
          · rw [if_neg q8] at h
            refine z_aload_n fx dX3_copy_59 rfl ?_
            refine z_iconst (v := 1) fx dX3_copy_60 rfl ?_
            obtain ⟨x14, ex14, h⟩ := ob h
            refine zVi (k := 0) (rest := []) fx hR (c_X3_found (zl E) D ad g 1 I J ex14) rcS mvX3_found wm_X3_69 dX3_copy_61 rfl ⟨rfl, rfl⟩ rfl rfl rfl ?_
            cases h
            exact z_iret fx hr dX3_copy_64
      · rw [if_neg q3] at h
        refine z_aload_n fx dX3_copy_21 rfl ?_
        refine z_iconst (v := 5) fx dX3_copy_22 rfl ?_
        obtain ⟨x15, ex15, h⟩ := ob h
        refine zVi (k := 0) (rest := []) fx hR (c_X3_found (zl E) D ad g 5 I J ex15) rcS mvX3_found wm_X3_69 dX3_copy_23 rfl ⟨rfl, rfl⟩ rfl rfl rfl ?_
        cases h
        exact z_iret fx hr dX3_copy_26
    · rw [if_pos q2] at h
      refine z_iconst (v := (-1)) fx dX3_copy_14 rfl ?_
      cases h
      exact z_iret fx hr dX3_copy_15
set_option maxRecDepth 100000 in
set_option maxHeartbeats 4000000 in
theorem c_X3_mean (l : Launch) (D : va_G) (ad : Nat → Nat) (g : Nat → ClassId) (a1 : Int32) (I : zMi) (J : zMl) {r : Int32 × zMi} (h : f_X3_mean a1 I = some r) : zCM (xw D ad g) l yX3_mean cX3_mean 3 (some .int) rmX3_mean [.ref (ad (0)), .int a1] I J (some (.int r.1)) r.2 J := by
  refine zCM.of (by decide) (Nat.le_of_ble_eq_true rfl) (fun E hl hR fx hr => ?_)
  subst hl
  rw [f_X3_mean] at h
  refine z_iload_n fx dX3_mean_0 rfl ?_
  refine zSi (rest := []) fx hR (c_X3_isRowNumber (zl E) D ad g a1 I J rfl) mvX3_isRowNumber wm_X3_65 dX3_mean_1 rfl ⟨rfl, rfl⟩ rfl rfl rfl ?_
  refine z_if_ne (tgt := 9) fx dX3_mean_4 (by decide) (fun q1 => ?_) (fun q1 => ?_)
  · rw [if_neg q1] at h
    refine z_aload_n fx dX3_mean_9 rfl ?_
    refine gS_rows fx wf_X3_11 dX3_mean_10 ?_
    refine z_iload_n fx dX3_mean_13 rfl ?_
    obtain ⟨q2, h⟩ := oi h
    refine x_rld fx q2 dX3_mean_14 ?_
    refine z_astore_n fx dX3_mean_15 (by decide) rfl ?_
    refine z_aload_n fx dX3_mean_16 rfl ?_
    refine zVi (k := 10 + 2 * a1.toNatClampNeg) (rest := []) fx hR (c_X1_isMissing (zl E) D ad g a1.toNatClampNeg I J (ix_lt q2) rfl) (rcR (ix_lt q2)) mvX1_isMissing wm_X3_77 dX3_mean_17 rfl ⟨rfl, rfl⟩ rfl rfl rfl ?_
    refine z_if_eq (tgt := 29) fx dX3_mean_20 (by decide) (fun q3 => ?_) (fun q3 => ?_)
    · rw [if_pos q3] at h
      refine z_aload_n fx dX3_mean_29 rfl ?_
      refine gR_size fx (ix_lt q2) wf_X3_97 dX3_mean_30 ?_
      refine z_if_ne (tgt := 42) fx dX3_mean_33 (by decide) (fun q4 => ?_) (fun q4 => ?_)
      · rw [if_neg q4] at h
        refine z_aload_n fx dX3_mean_42 rfl ?_
        refine z_aload_n fx dX3_mean_43 rfl ?_
        obtain ⟨x5, ex5, h⟩ := ob h
        refine zVl (k := 10 + 2 * a1.toNatClampNeg) (rest := [.ref (ad (0))]) fx hR (c_X1_sum (zl E) D ad g a1.toNatClampNeg I J (ix_lt q2) ex5) (rcR (ix_lt q2)) mvX1_sum wm_X3_100 dX3_mean_44 rfl ⟨rfl, rfl⟩ rfl rfl rfl ?_
        refine z_aload_n fx dX3_mean_47 rfl ?_
        refine gR_size fx (ix_lt q2) wf_X3_97 dX3_mean_48 ?_
        refine z_i2l fx dX3_mean_51 ?_
        obtain ⟨q6, h⟩ := on h
        refine z_ldiv fx dX3_mean_52 q6 ?_
        refine z_l2i fx dX3_mean_53 ?_
        refine pS_latestAsked fx wf_X3_51 dX3_mean_54 ?_
        refine z_iconst (v := 1) fx dX3_mean_57 rfl ?_
        cases h
        exact z_iret fx hr dX3_mean_58
      · rw [if_pos q4] at h
        refine z_aload_n fx dX3_mean_36 rfl ?_
        refine z_iconst (v := 4) fx dX3_mean_37 rfl ?_
        obtain ⟨x7, ex7, h⟩ := ob h
        refine zVi (k := 0) (rest := []) fx hR (c_X3_found (zl E) D ad g 4 I J ex7) rcS mvX3_found wm_X3_69 dX3_mean_38 rfl ⟨rfl, rfl⟩ rfl rfl rfl ?_
        cases h
        exact z_iret fx hr dX3_mean_41
    · rw [if_neg q3] at h
      refine z_aload_n fx dX3_mean_23 rfl ?_
      refine z_iconst (v := 1) fx dX3_mean_24 rfl ?_
      obtain ⟨x8, ex8, h⟩ := ob h
      refine zVi (k := 0) (rest := []) fx hR (c_X3_found (zl E) D ad g 1 I J ex8) rcS mvX3_found wm_X3_69 dX3_mean_25 rfl ⟨rfl, rfl⟩ rfl rfl rfl ?_
      cases h
      exact z_iret fx hr dX3_mean_28
  · rw [if_pos q1] at h
    refine z_iconst (v := (-1)) fx dX3_mean_7 rfl ?_
    cases h
    exact z_iret fx hr dX3_mean_8
set_option maxRecDepth 100000 in
set_option maxHeartbeats 4000000 in
theorem c_X3_isTableNumber (l : Launch) (D : va_G) (ad : Nat → Nat) (g : Nat → ClassId) (a0 : Int32) (I : zMi) (J : zMl) {r : Int32} (h : f_X3_isTableNumber a0 = r) : zCM (xw D ad g) l yX3_isTableNumber cX3_isTableNumber 1 (some .boolean) rmX3_isTableNumber [.int a0] I J (some (.int r)) I J := by
  refine zCM.of (by decide) (Nat.le_of_ble_eq_true rfl) (fun E hl hR fx hr => ?_)
  subst hl
  rw [f_X3_isTableNumber] at h
  refine z_iload_n fx dX3_isTableNumber_0 rfl ?_
  refine z_if_lt (tgt := 14) fx dX3_isTableNumber_1 (by decide) (fun q1 => ?_) (fun q1 => ?_)
  · rw [if_pos q1] at h
    refine z_iconst (v := 0) fx dX3_isTableNumber_14 rfl ?_
    subst h
    exact z_zret fx rfl hr dX3_isTableNumber_15
  · rw [if_neg q1] at h
    refine z_iload_n fx dX3_isTableNumber_4 rfl ?_
    refine z_bipush (v := 10) fx dX3_isTableNumber_5 rfl ?_
    refine z_icmp_ge (tgt := 14) fx dX3_isTableNumber_7 (by decide) (fun q2 => ?_) (fun q2 => ?_)
    · rw [if_pos q2] at h
      refine z_iconst (v := 0) fx dX3_isTableNumber_14 rfl ?_
      subst h
      exact z_zret fx rfl hr dX3_isTableNumber_15
    · rw [if_neg q2] at h
      refine z_iconst (v := 1) fx dX3_isTableNumber_10 rfl ?_
      refine z_goto (tgt := 15) fx dX3_isTableNumber_11 (by decide) ?_
      subst h
      exact z_zret fx rfl hr dX3_isTableNumber_15
set_option maxRecDepth 100000 in
set_option maxHeartbeats 4000000 in
theorem c_X3_table (l : Launch) (D : va_G) (ad : Nat → Nat) (g : Nat → ClassId) (a1 : Int32) (a2 : Int32) (I : zMi) (J : zMl) {r : Int32 × zMi} (h : f_X3_table a1 a2 I = some r) : zCM (xw D ad g) l yX3_table cX3_table 3 (some .int) rmX3_table [.ref (ad (0)), .int a1, .int a2] I J (some (.int r.1)) r.2 J := by
  refine zCM.of (by decide) (Nat.le_of_ble_eq_true rfl) (fun E hl hR fx hr => ?_)
  subst hl
  rw [f_X3_table] at h
  refine z_iload_n fx dX3_table_0 rfl ?_
  refine zSi (rest := []) fx hR (c_X3_isTableNumber (zl E) D ad g a1 I J rfl) mvX3_isTableNumber wm_X3_104 dX3_table_1 rfl ⟨rfl, rfl⟩ rfl rfl rfl ?_
  refine z_if_eq (tgt := 18) fx dX3_table_4 (by decide) (fun q1 => ?_) (fun q1 => ?_)
  · rw [if_pos q1] at h
    refine z_iconst (v := (-1)) fx dX3_table_18 rfl ?_
    cases h
    exact z_iret fx hr dX3_table_19
  · rw [if_neg q1] at h
    refine z_iload_n fx dX3_table_7 rfl ?_
    refine z_iconst (v := 1) fx dX3_table_8 rfl ?_
    refine z_icmp_lt (tgt := 18) fx dX3_table_9 (by decide) (fun q2 => ?_) (fun q2 => ?_)
    · rw [if_pos q2] at h
      refine z_iconst (v := (-1)) fx dX3_table_18 rfl ?_
      cases h
      exact z_iret fx hr dX3_table_19
    · rw [if_neg q2] at h
      refine z_iload_n fx dX3_table_12 rfl ?_
      refine z_bipush (v := 12) fx dX3_table_13 rfl ?_
      refine z_icmp_le (tgt := 20) fx dX3_table_15 (by decide) (fun q3 => ?_) (fun q3 => ?_)
      · rw [if_pos q3] at h
        refine z_aload_n fx dX3_table_20 rfl ?_
        refine gS_tables fx wf_X3_17 dX3_table_21 ?_
        refine z_iload_n fx dX3_table_24 rfl ?_
        obtain ⟨q4, h⟩ := oi h
        refine x_tld fx q4 dX3_table_25 ?_
        refine z_iload_n fx dX3_table_26 rfl ?_
        obtain ⟨x5, ex5, h⟩ := ob h
        refine zVv (k := 22 + 3 * a1.toNatClampNeg) (rest := []) fx hR (c_X2_begin (zl E) D ad g a1.toNatClampNeg a2 I J (ix_12 q4) ex5) (rcT (ix_12 q4)) mvX2_begin wm_X3_107 dX3_table_27 rfl ⟨rfl, rfl⟩ rfl rfl rfl ?_
        refine z_aload_n fx dX3_table_30 rfl ?_
        refine gS_tables fx wf_X3_17 dX3_table_31 ?_
        refine z_iload_n fx dX3_table_34 rfl ?_
        refine x_tld fx q4 dX3_table_35 ?_
        obtain ⟨x6, ex6, h⟩ := ob h
        refine zVi (k := 22 + 3 * a1.toNatClampNeg) (rest := []) fx hR (c_X2_judged (zl E) D ad g a1.toNatClampNeg x5 J (ix_12 q4) ex6) (rcT (ix_12 q4)) mvX2_judged wm_X3_111 dX3_table_36 rfl ⟨rfl, rfl⟩ rfl rfl rfl ?_
        cases h
        exact z_iret fx hr dX3_table_39
      · rw [if_neg q3] at h
        refine z_iconst (v := (-1)) fx dX3_table_18 rfl ?_
        cases h
        exact z_iret fx hr dX3_table_19
set_option maxRecDepth 100000 in
set_option maxHeartbeats 4000000 in
theorem w_X3_put_105 {E : zE} {D : va_G} {ad : Nat → Nat} {g : Nat → ClassId} (fx : zFX E (xw D ad g) cX3_put RX3 7 (some .int)) (hR : zR E = rmX3_put) {r : Int32 × zMi} {J : zMl} (hr : zRX E (xw D ad g) (some (.int r.1)) r.2 J) : ∀ (fuel : Nat) (a2 : Int32) (n4 : Nat) (n5 : Nat) (a6 : Int32) (I : zMi) , f_X3_put_105 fuel a2 n4 n5 a6 I = some r → n4 < 12 → n5 < 6 → zAt E (xw D ad g) 105 [(0, .ref (ad (0))), (2, .int a2), (4, .ref (ad (22 + 3 * n4))), (5, .ref (ad (10 + 2 * n5))), (6, .int a6)] [] I J := by
  intro fuel
  induction fuel with
  | zero => intro a2 n4 n5 a6 I h b4 b5; rw [f_X3_put_105] at h; cases h
  | succ f ih =>
    intro a2 n4 n5 a6 I h b4 b5
    rw [f_X3_put_105] at h
    refine z_iload fx dX3_put_105 rfl ?_
    refine z_aload fx dX3_put_107 rfl ?_
    refine gT_n fx b4 wf_X3_119 dX3_put_109 ?_
    refine z_icmp_ge (tgt := 137) fx dX3_put_112 (by decide) (fun q1 => ?_) (fun q1 => ?_)
    · rw [if_pos q1] at h
      refine z_aload fx dX3_put_137 rfl ?_
      obtain ⟨x2, ex2, h⟩ := ob h
      refine zVi (k := 22 + 3 * n4) (rest := []) fx hR (c_X2_judged (zl E) D ad g n4 I J b4 ex2) (rcT b4) mvX2_judged wm_X3_111 dX3_put_139 rfl ⟨rfl, rfl⟩ rfl rfl rfl ?_
      cases h
      exact z_iret fx hr dX3_put_142
    · rw [if_neg q1] at h
      refine z_aload fx dX3_put_115 rfl ?_
      refine z_iload_n fx dX3_put_117 rfl ?_
      refine z_iload fx dX3_put_118 rfl ?_
      refine z_aload fx dX3_put_120 rfl ?_
      refine gR_ints fx b5 wf_X3_85 dX3_put_122 ?_
      refine z_iload fx dX3_put_125 rfl ?_
      obtain ⟨q3, h⟩ := oi h
      refine x_ild fx (bR1 b5) (cfX_Ri g ad b5) q3 dX3_put_127 ?_
      obtain ⟨x4, ex4, h⟩ := ob h
      refine zVv (k := 22 + 3 * n4) (rest := []) fx hR (c_X2_write (zl E) D ad g n4 a2 a6 (I (11 + 2 * n5) a6.toNatClampNeg) I J b4 ex4) (rcT b4) mvX2_write wm_X3_125 dX3_put_128 rfl ⟨rfl, rfl⟩ rfl rfl rfl ?_
      refine z_iinc (v := (a6 + 1)) fx dX3_put_131 rfl rfl (by decide) rfl ?_
      refine z_goto (tgt := 105) fx dX3_put_134 (by decide) ?_
      exact z_lv2 (ih a2 n4 n5 (a6 + 1) x4 h b4 b5) rfl
set_option maxRecDepth 100000 in
set_option maxHeartbeats 4000000 in
theorem c_X3_put (l : Launch) (D : va_G) (ad : Nat → Nat) (g : Nat → ClassId) (a1 : Int32) (a2 : Int32) (a3 : Int32) (I : zMi) (J : zMl) {r : Int32 × zMi} (h : f_X3_put a1 a2 a3 I = some r) : zCM (xw D ad g) l yX3_put cX3_put 7 (some .int) rmX3_put [.ref (ad (0)), .int a1, .int a2, .int a3] I J (some (.int r.1)) r.2 J := by
  refine zCM.of (by decide) (Nat.le_of_ble_eq_true rfl) (fun E hl hR fx hr => ?_)
  subst hl
  rw [f_X3_put] at h
  refine z_iload_n fx dX3_put_0 rfl ?_
  refine zSi (rest := []) fx hR (c_X3_isTableNumber (zl E) D ad g a1 I J rfl) mvX3_isTableNumber wm_X3_104 dX3_put_1 rfl ⟨rfl, rfl⟩ rfl rfl rfl ?_
  refine z_if_eq (tgt := 14) fx dX3_put_4 (by decide) (fun q1 => ?_) (fun q1 => ?_)
  · rw [if_pos q1] at h
    refine z_iconst (v := (-1)) fx dX3_put_14 rfl ?_
    cases h
    exact z_iret fx hr dX3_put_15
  · rw [if_neg q1] at h
    refine z_iload_n fx dX3_put_7 rfl ?_
    refine zSi (rest := []) fx hR (c_X3_isRowNumber (zl E) D ad g a3 I J rfl) mvX3_isRowNumber wm_X3_65 dX3_put_8 rfl ⟨rfl, rfl⟩ rfl rfl rfl ?_
    refine z_if_ne (tgt := 16) fx dX3_put_11 (by decide) (fun q2 => ?_) (fun q2 => ?_)
    · rw [if_neg q2] at h
      refine z_aload_n fx dX3_put_16 rfl ?_
      refine gS_tables fx wf_X3_17 dX3_put_17 ?_
      refine z_iload_n fx dX3_put_20 rfl ?_
      obtain ⟨q3, h⟩ := oi h
      refine x_tld fx q3 dX3_put_21 ?_
      refine z_astore fx dX3_put_22 (by decide) rfl ?_
      refine z_aload_n fx dX3_put_24 rfl ?_
      refine gS_rows fx wf_X3_11 dX3_put_25 ?_
      refine z_iload_n fx dX3_put_28 rfl ?_
      obtain ⟨q4, h⟩ := oi h
      refine x_rld fx q4 dX3_put_29 ?_
      refine z_astore fx dX3_put_30 (by decide) rfl ?_
      refine z_aload fx dX3_put_32 rfl ?_
      refine zVi (k := 22 + 3 * a1.toNatClampNeg) (rest := []) fx hR (c_X2_isMissing (zl E) D ad g a1.toNatClampNeg I J (ix_12 q3) rfl) (rcT (ix_12 q3)) mvX2_isMissing wm_X3_115 dX3_put_34 rfl ⟨rfl, rfl⟩ rfl rfl rfl ?_
      refine z_if_ne (tgt := 48) fx dX3_put_37 (by decide) (fun q5 => ?_) (fun q5 => ?_)
      · rw [if_neg q5] at h
        refine z_aload_n fx dX3_put_48 rfl ?_
        refine z_iconst (v := 1) fx dX3_put_49 rfl ?_
        obtain ⟨x6, ex6, h⟩ := ob h
        refine zVi (k := 0) (rest := []) fx hR (c_X3_found (zl E) D ad g 1 I J ex6) rcS mvX3_found wm_X3_69 dX3_put_50 rfl ⟨rfl, rfl⟩ rfl rfl rfl ?_
        cases h
        exact z_iret fx hr dX3_put_53
      · rw [if_pos q5] at h
        refine z_aload fx dX3_put_40 rfl ?_
        refine zVi (k := 10 + 2 * a3.toNatClampNeg) (rest := []) fx hR (c_X1_isMissing (zl E) D ad g a3.toNatClampNeg I J (ix_lt q4) rfl) (rcR (ix_lt q4)) mvX1_isMissing wm_X3_77 dX3_put_42 rfl ⟨rfl, rfl⟩ rfl rfl rfl ?_
        refine z_if_eq (tgt := 54) fx dX3_put_45 (by decide) (fun q7 => ?_) (fun q7 => ?_)
        · rw [if_pos q7] at h
          refine z_aload fx dX3_put_54 rfl ?_
          refine z_iload_n fx dX3_put_56 rfl ?_
          refine zVi (k := 22 + 3 * a1.toNatClampNeg) (rest := []) fx hR (c_X2_hasLine (zl E) D ad g a1.toNatClampNeg a2 I J (ix_12 q3) rfl) (rcT (ix_12 q3)) mvX2_hasLine wm_X3_116 dX3_put_57 rfl ⟨rfl, rfl⟩ rfl rfl rfl ?_
          refine z_if_ne (tgt := 69) fx dX3_put_60 (by decide) (fun q8 => ?_) (fun q8 => ?_)
          · rw [if_neg q8] at h
            refine z_aload fx dX3_put_69 rfl ?_
            refine gR_size fx (ix_lt q4) wf_X3_97 dX3_put_71 ?_
            refine z_aload fx dX3_put_74 rfl ?_
            refine gT_n fx (ix_12 q3) wf_X3_119 dX3_put_76 ?_
            refine z_icmp_eq (tgt := 88) fx dX3_put_79 (by decide) (fun q9 => ?_) (fun q9 => ?_)
            · rw [if_pos q9] at h
              refine z_aload fx dX3_put_88 rfl ?_
              obtain ⟨x10, ex10, h⟩ := ob h
              refine zVi (k := 10 + 2 * a3.toNatClampNeg) (rest := []) fx hR (c_X1_isNumbers (zl E) D ad g a3.toNatClampNeg I J (ix_lt q4) ex10) (rcR (ix_lt q4)) mvX1_isNumbers wm_X3_122 dX3_put_90 rfl ⟨rfl, rfl⟩ rfl rfl rfl ?_
              refine z_if_ne (tgt := 102) fx dX3_put_93 (by decide) (fun q11 => ?_) (fun q11 => ?_)
              · rw [if_neg q11] at h
                refine z_iconst (v := 0) fx dX3_put_102 rfl ?_
                refine z_istore fx dX3_put_103 (by decide) rfl ?_
                exact z_lv2 (w_X3_put_105 fx hR hr fu a2 a1.toNatClampNeg a3.toNatClampNeg 0 I h (ix_12 q3) (ix_lt q4)) rfl
              · rw [if_pos q11] at h
                refine z_aload_n fx dX3_put_96 rfl ?_
                refine z_iconst (v := 3) fx dX3_put_97 rfl ?_
                obtain ⟨x12, ex12, h⟩ := ob h
                refine zVi (k := 0) (rest := []) fx hR (c_X3_found (zl E) D ad g 3 I J ex12) rcS mvX3_found wm_X3_69 dX3_put_98 rfl ⟨rfl, rfl⟩ rfl rfl rfl ?_
                cases h
                exact z_iret fx hr dX3_put_101
            · rw [if_neg q9] at h
              refine z_aload_n fx dX3_put_82 rfl ?_
              refine z_iconst (v := 5) fx dX3_put_83 rfl ?_
              obtain ⟨x13, ex13, h⟩ := ob h
              refine zVi (k := 0) (rest := []) fx hR (c_X3_found (zl E) D ad g 5 I J ex13) rcS mvX3_found wm_X3_69 dX3_put_84 rfl ⟨rfl, rfl⟩ rfl rfl rfl ?_
              cases h
              exact z_iret fx hr dX3_put_87
          · rw [if_pos q8] at h
            refine z_aload_n fx dX3_put_63 rfl ?_
            refine z_iconst (v := 2) fx dX3_put_64 rfl ?_
            obtain ⟨x14, ex14, h⟩ := ob h
            refine zVi (k := 0) (rest := []) fx hR (c_X3_found (zl E) D ad g 2 I J ex14) rcS mvX3_found wm_X3_69 dX3_put_65 rfl ⟨rfl, rfl⟩ rfl rfl rfl ?_
            cases h
            exact z_iret fx hr dX3_put_68
        · rw [if_neg q7] at h
          refine z_aload_n fx dX3_put_48 rfl ?_
          refine z_iconst (v := 1) fx dX3_put_49 rfl ?_
          obtain ⟨x15, ex15, h⟩ := ob h
          refine zVi (k := 0) (rest := []) fx hR (c_X3_found (zl E) D ad g 1 I J ex15) rcS mvX3_found wm_X3_69 dX3_put_50 rfl ⟨rfl, rfl⟩ rfl rfl rfl ?_
          cases h
          exact z_iret fx hr dX3_put_53
    · rw [if_pos q2] at h
      refine z_iconst (v := (-1)) fx dX3_put_14 rfl ?_
      cases h
      exact z_iret fx hr dX3_put_15
set_option maxRecDepth 100000 in
set_option maxHeartbeats 4000000 in
theorem c_X3_set (l : Launch) (D : va_G) (ad : Nat → Nat) (g : Nat → ClassId) (a1 : Int32) (a2 : Int32) (a3 : Int32) (a4 : Int32) (a5 : Int32) (I : zMi) (J : zMl) {r : Int32 × zMi} (h : f_X3_set a1 a2 a3 a4 a5 I = some r) : zCM (xw D ad g) l yX3_set cX3_set 7 (some .int) rmX3_set [.ref (ad (0)), .int a1, .int a2, .int a3, .int a4, .int a5] I J (some (.int r.1)) r.2 J := by
  refine zCM.of (by decide) (Nat.le_of_ble_eq_true rfl) (fun E hl hR fx hr => ?_)
  subst hl
  rw [f_X3_set] at h
  refine z_iload_n fx dX3_set_0 rfl ?_
  refine zSi (rest := []) fx hR (c_X3_isTableNumber (zl E) D ad g a1 I J rfl) mvX3_isTableNumber wm_X3_104 dX3_set_1 rfl ⟨rfl, rfl⟩ rfl rfl rfl ?_
  refine z_if_eq (tgt := 19) fx dX3_set_4 (by decide) (fun q1 => ?_) (fun q1 => ?_)
  · rw [if_pos q1] at h
    refine z_iconst (v := (-1)) fx dX3_set_19 rfl ?_
    cases h
    exact z_iret fx hr dX3_set_20
  · rw [if_neg q1] at h
    refine z_iload fx dX3_set_7 rfl ?_
    refine z_iconst (v := (-1)) fx dX3_set_9 rfl ?_
    refine z_icmp_lt (tgt := 19) fx dX3_set_10 (by decide) (fun q2 => ?_) (fun q2 => ?_)
    · rw [if_pos q2] at h
      refine z_iconst (v := (-1)) fx dX3_set_19 rfl ?_
      cases h
      exact z_iret fx hr dX3_set_20
    · rw [if_neg q2] at h
      refine z_iload fx dX3_set_13 rfl ?_
      refine z_iconst (v := 1) fx dX3_set_15 rfl ?_
      refine z_icmp_le (tgt := 21) fx dX3_set_16 (by decide) (fun q3 => ?_) (fun q3 => ?_)
      · rw [if_pos q3] at h
        refine z_aload_n fx dX3_set_21 rfl ?_
        refine gS_tables fx wf_X3_17 dX3_set_22 ?_
        refine z_iload_n fx dX3_set_25 rfl ?_
        obtain ⟨q4, h⟩ := oi h
        refine x_tld fx q4 dX3_set_26 ?_
        refine z_astore fx dX3_set_27 (by decide) rfl ?_
        refine z_aload fx dX3_set_29 rfl ?_
        refine zVi (k := 22 + 3 * a1.toNatClampNeg) (rest := []) fx hR (c_X2_isMissing (zl E) D ad g a1.toNatClampNeg I J (ix_12 q4) rfl) (rcT (ix_12 q4)) mvX2_isMissing wm_X3_115 dX3_set_31 rfl ⟨rfl, rfl⟩ rfl rfl rfl ?_
        refine z_if_eq (tgt := 43) fx dX3_set_34 (by decide) (fun q5 => ?_) (fun q5 => ?_)
        · rw [if_pos q5] at h
          refine z_aload fx dX3_set_43 rfl ?_
          refine z_iload_n fx dX3_set_45 rfl ?_
          refine zVi (k := 22 + 3 * a1.toNatClampNeg) (rest := []) fx hR (c_X2_hasLine (zl E) D ad g a1.toNatClampNeg a2 I J (ix_12 q4) rfl) (rcT (ix_12 q4)) mvX2_hasLine wm_X3_116 dX3_set_46 rfl ⟨rfl, rfl⟩ rfl rfl rfl ?_
          refine z_if_eq (tgt := 61) fx dX3_set_49 (by decide) (fun q6 => ?_) (fun q6 => ?_)
          · rw [if_pos q6] at h
            refine z_aload_n fx dX3_set_61 rfl ?_
            refine z_iconst (v := 2) fx dX3_set_62 rfl ?_
            obtain ⟨x7, ex7, h⟩ := ob h
            refine zVi (k := 0) (rest := []) fx hR (c_X3_found (zl E) D ad g 2 I J ex7) rcS mvX3_found wm_X3_69 dX3_set_63 rfl ⟨rfl, rfl⟩ rfl rfl rfl ?_
            cases h
            exact z_iret fx hr dX3_set_66
          · rw [if_neg q6] at h
            refine z_aload fx dX3_set_52 rfl ?_
            refine z_iload_n fx dX3_set_54 rfl ?_
            refine zVi (k := 22 + 3 * a1.toNatClampNeg) (rest := []) fx hR (c_X2_hasLine (zl E) D ad g a1.toNatClampNeg a3 I J (ix_12 q4) rfl) (rcT (ix_12 q4)) mvX2_hasLine wm_X3_116 dX3_set_55 rfl ⟨rfl, rfl⟩ rfl rfl rfl ?_
            refine z_if_ne (tgt := 67) fx dX3_set_58 (by decide) (fun q8 => ?_) (fun q8 => ?_)
            · rw [if_neg q8] at h
              refine z_aload fx dX3_set_67 rfl ?_
              refine z_iload_n fx dX3_set_69 rfl ?_
              refine z_iload_n fx dX3_set_70 rfl ?_
              refine z_iload fx dX3_set_71 rfl ?_
              obtain ⟨x9, ex9, h⟩ := ob h
              refine zVv (k := 22 + 3 * a1.toNatClampNeg) (rest := []) fx hR (c_X2_write (zl E) D ad g a1.toNatClampNeg a2 a3 a4 I J (ix_12 q4) ex9) (rcT (ix_12 q4)) mvX2_write wm_X3_125 dX3_set_73 rfl ⟨rfl, rfl⟩ rfl rfl rfl ?_
              refine z_iload fx dX3_set_76 rfl ?_
              refine z_if_eq (tgt := 90) fx dX3_set_78 (by decide) (fun q10 => ?_) (fun q10 => ?_)
              · rw [if_pos q10] at h
                refine z_aload fx dX3_set_90 rfl ?_
                obtain ⟨x11, ex11, h⟩ := ob h
                refine zVi (k := 22 + 3 * a1.toNatClampNeg) (rest := []) fx hR (c_X2_judged (zl E) D ad g a1.toNatClampNeg x9 J (ix_12 q4) ex11) (rcT (ix_12 q4)) mvX2_judged wm_X3_111 dX3_set_92 rfl ⟨rfl, rfl⟩ rfl rfl rfl ?_
                cases h
                exact z_iret fx hr dX3_set_95
              · rw [if_neg q10] at h
                refine z_aload fx dX3_set_81 rfl ?_
                refine z_iload_n fx dX3_set_83 rfl ?_
                refine z_iload_n fx dX3_set_84 rfl ?_
                refine z_iload fx dX3_set_85 rfl ?_
                obtain ⟨x12, ex12, h⟩ := ob h
                refine zVv (k := 22 + 3 * a1.toNatClampNeg) (rest := []) fx hR (c_X2_write (zl E) D ad g a1.toNatClampNeg a3 a2 a4 x9 J (ix_12 q4) ex12) (rcT (ix_12 q4)) mvX2_write wm_X3_125 dX3_set_87 rfl ⟨rfl, rfl⟩ rfl rfl rfl ?_
                refine z_aload fx dX3_set_90 rfl ?_
                obtain ⟨x13, ex13, h⟩ := ob h
                refine zVi (k := 22 + 3 * a1.toNatClampNeg) (rest := []) fx hR (c_X2_judged (zl E) D ad g a1.toNatClampNeg x12 J (ix_12 q4) ex13) (rcT (ix_12 q4)) mvX2_judged wm_X3_111 dX3_set_92 rfl ⟨rfl, rfl⟩ rfl rfl rfl ?_
                cases h
                exact z_iret fx hr dX3_set_95
            · rw [if_pos q8] at h
              refine z_aload_n fx dX3_set_61 rfl ?_
              refine z_iconst (v := 2) fx dX3_set_62 rfl ?_
              obtain ⟨x14, ex14, h⟩ := ob h
              refine zVi (k := 0) (rest := []) fx hR (c_X3_found (zl E) D ad g 2 I J ex14) rcS mvX3_found wm_X3_69 dX3_set_63 rfl ⟨rfl, rfl⟩ rfl rfl rfl ?_
              cases h
              exact z_iret fx hr dX3_set_66
        · rw [if_neg q5] at h
          refine z_aload_n fx dX3_set_37 rfl ?_
          refine z_iconst (v := 1) fx dX3_set_38 rfl ?_
          obtain ⟨x15, ex15, h⟩ := ob h
          refine zVi (k := 0) (rest := []) fx hR (c_X3_found (zl E) D ad g 1 I J ex15) rcS mvX3_found wm_X3_69 dX3_set_39 rfl ⟨rfl, rfl⟩ rfl rfl rfl ?_
          cases h
          exact z_iret fx hr dX3_set_42
      · rw [if_neg q3] at h
        refine z_iconst (v := (-1)) fx dX3_set_19 rfl ?_
        cases h
        exact z_iret fx hr dX3_set_20
set_option maxRecDepth 100000 in
set_option maxHeartbeats 4000000 in
theorem c_X3_drop (l : Launch) (D : va_G) (ad : Nat → Nat) (g : Nat → ClassId) (a1 : Int32) (I : zMi) (J : zMl) {r : Int32 × zMi} (h : f_X3_drop a1 I = some r) : zCM (xw D ad g) l yX3_drop cX3_drop 2 (some .int) rmX3_drop [.ref (ad (0)), .int a1] I J (some (.int r.1)) r.2 J := by
  refine zCM.of (by decide) (Nat.le_of_ble_eq_true rfl) (fun E hl hR fx hr => ?_)
  subst hl
  rw [f_X3_drop] at h
  refine z_iload_n fx dX3_drop_0 rfl ?_
  refine zSi (rest := []) fx hR (c_X3_isTableNumber (zl E) D ad g a1 I J rfl) mvX3_isTableNumber wm_X3_104 dX3_drop_1 rfl ⟨rfl, rfl⟩ rfl rfl rfl ?_
  refine z_if_ne (tgt := 9) fx dX3_drop_4 (by decide) (fun q1 => ?_) (fun q1 => ?_)
  · rw [if_neg q1] at h
    refine z_aload_n fx dX3_drop_9 rfl ?_
    refine gS_tables fx wf_X3_17 dX3_drop_10 ?_
    refine z_iload_n fx dX3_drop_13 rfl ?_
    obtain ⟨q2, h⟩ := oi h
    refine x_tld fx q2 dX3_drop_14 ?_
    refine zVi (k := 22 + 3 * a1.toNatClampNeg) (rest := []) fx hR (c_X2_isMissing (zl E) D ad g a1.toNatClampNeg I J (ix_12 q2) rfl) (rcT (ix_12 q2)) mvX2_isMissing wm_X3_115 dX3_drop_15 rfl ⟨rfl, rfl⟩ rfl rfl rfl ?_
    refine z_if_eq (tgt := 27) fx dX3_drop_18 (by decide) (fun q3 => ?_) (fun q3 => ?_)
    · rw [if_pos q3] at h
      refine z_aload_n fx dX3_drop_27 rfl ?_
      refine gS_tables fx wf_X3_17 dX3_drop_28 ?_
      refine z_iload_n fx dX3_drop_31 rfl ?_
      refine x_tld fx q2 dX3_drop_32 ?_
      refine zVv (k := 22 + 3 * a1.toNatClampNeg) (rest := []) fx hR (c_X2_end (zl E) D ad g a1.toNatClampNeg I J (ix_12 q2) rfl) (rcT (ix_12 q2)) mvX2_end wm_X3_129 dX3_drop_33 rfl ⟨rfl, rfl⟩ rfl rfl rfl ?_
      refine z_iconst (v := 1) fx dX3_drop_36 rfl ?_
      cases h
      exact z_iret fx hr dX3_drop_37
    · rw [if_neg q3] at h
      refine z_aload_n fx dX3_drop_21 rfl ?_
      refine z_iconst (v := 1) fx dX3_drop_22 rfl ?_
      obtain ⟨x4, ex4, h⟩ := ob h
      refine zVi (k := 0) (rest := []) fx hR (c_X3_found (zl E) D ad g 1 I J ex4) rcS mvX3_found wm_X3_69 dX3_drop_23 rfl ⟨rfl, rfl⟩ rfl rfl rfl ?_
      cases h
      exact z_iret fx hr dX3_drop_26
  · rw [if_pos q1] at h
    refine z_iconst (v := (-1)) fx dX3_drop_7 rfl ?_
    cases h
    exact z_iret fx hr dX3_drop_8
set_option maxRecDepth 100000 in
set_option maxHeartbeats 4000000 in
theorem c_X3_at (l : Launch) (D : va_G) (ad : Nat → Nat) (g : Nat → ClassId) (a1 : Int32) (a2 : Int32) (a3 : Int32) (I : zMi) (J : zMl) {r : Int32 × zMi} (h : f_X3_at a1 a2 a3 I = some r) : zCM (xw D ad g) l yX3_at cX3_at 5 (some .int) rmX3_at [.ref (ad (0)), .int a1, .int a2, .int a3] I J (some (.int r.1)) r.2 J := by
  refine zCM.of (by decide) (Nat.le_of_ble_eq_true rfl) (fun E hl hR fx hr => ?_)
  subst hl
  rw [f_X3_at] at h
  refine z_iload_n fx dX3_at_0 rfl ?_
  refine zSi (rest := []) fx hR (c_X3_isTableNumber (zl E) D ad g a1 I J rfl) mvX3_isTableNumber wm_X3_104 dX3_at_1 rfl ⟨rfl, rfl⟩ rfl rfl rfl ?_
  refine z_if_ne (tgt := 9) fx dX3_at_4 (by decide) (fun q1 => ?_) (fun q1 => ?_)
  · rw [if_neg q1] at h
    refine z_aload_n fx dX3_at_9 rfl ?_
    refine gS_tables fx wf_X3_17 dX3_at_10 ?_
    refine z_iload_n fx dX3_at_13 rfl ?_
    obtain ⟨q2, h⟩ := oi h
    refine x_tld fx q2 dX3_at_14 ?_
    refine z_astore fx dX3_at_15 (by decide) rfl ?_
    refine z_aload fx dX3_at_17 rfl ?_
    refine zVi (k := 22 + 3 * a1.toNatClampNeg) (rest := []) fx hR (c_X2_isMissing (zl E) D ad g a1.toNatClampNeg I J (ix_12 q2) rfl) (rcT (ix_12 q2)) mvX2_isMissing wm_X3_115 dX3_at_19 rfl ⟨rfl, rfl⟩ rfl rfl rfl ?_
    refine z_if_eq (tgt := 31) fx dX3_at_22 (by decide) (fun q3 => ?_) (fun q3 => ?_)
    · rw [if_pos q3] at h
      refine z_aload fx dX3_at_31 rfl ?_
      refine z_iload_n fx dX3_at_33 rfl ?_
      refine zVi (k := 22 + 3 * a1.toNatClampNeg) (rest := []) fx hR (c_X2_hasLine (zl E) D ad g a1.toNatClampNeg a2 I J (ix_12 q2) rfl) (rcT (ix_12 q2)) mvX2_hasLine wm_X3_116 dX3_at_34 rfl ⟨rfl, rfl⟩ rfl rfl rfl ?_
      refine z_if_eq (tgt := 49) fx dX3_at_37 (by decide) (fun q4 => ?_) (fun q4 => ?_)
      · rw [if_pos q4] at h
        refine z_aload_n fx dX3_at_49 rfl ?_
        refine z_iconst (v := 2) fx dX3_at_50 rfl ?_
        obtain ⟨x5, ex5, h⟩ := ob h
        refine zVi (k := 0) (rest := []) fx hR (c_X3_found (zl E) D ad g 2 I J ex5) rcS mvX3_found wm_X3_69 dX3_at_51 rfl ⟨rfl, rfl⟩ rfl rfl rfl ?_
        cases h
        exact z_iret fx hr dX3_at_54
      · rw [if_neg q4] at h
        refine z_aload fx dX3_at_40 rfl ?_
        refine z_iload_n fx dX3_at_42 rfl ?_
        refine zVi (k := 22 + 3 * a1.toNatClampNeg) (rest := []) fx hR (c_X2_hasLine (zl E) D ad g a1.toNatClampNeg a3 I J (ix_12 q2) rfl) (rcT (ix_12 q2)) mvX2_hasLine wm_X3_116 dX3_at_43 rfl ⟨rfl, rfl⟩ rfl rfl rfl ?_
        refine z_if_ne (tgt := 55) fx dX3_at_46 (by decide) (fun q6 => ?_) (fun q6 => ?_)
        · rw [if_neg q6] at h
          refine z_aload_n fx dX3_at_55 rfl ?_
          refine z_aload fx dX3_at_56 rfl ?_
          refine z_iload_n fx dX3_at_58 rfl ?_
          refine z_iload_n fx dX3_at_59 rfl ?_
          obtain ⟨x7, ex7, h⟩ := ob h
          refine zVi (k := 22 + 3 * a1.toNatClampNeg) (rest := [.ref (ad (0))]) fx hR (c_X2_number (zl E) D ad g a1.toNatClampNeg a2 a3 I J (ix_12 q2) ex7) (rcT (ix_12 q2)) mvX2_number wm_X3_130 dX3_at_60 rfl ⟨rfl, rfl⟩ rfl rfl rfl ?_
          refine pS_latestAsked fx wf_X3_51 dX3_at_63 ?_
          refine z_iconst (v := 1) fx dX3_at_66 rfl ?_
          cases h
          exact z_iret fx hr dX3_at_67
        · rw [if_pos q6] at h
          refine z_aload_n fx dX3_at_49 rfl ?_
          refine z_iconst (v := 2) fx dX3_at_50 rfl ?_
          obtain ⟨x8, ex8, h⟩ := ob h
          refine zVi (k := 0) (rest := []) fx hR (c_X3_found (zl E) D ad g 2 I J ex8) rcS mvX3_found wm_X3_69 dX3_at_51 rfl ⟨rfl, rfl⟩ rfl rfl rfl ?_
          cases h
          exact z_iret fx hr dX3_at_54
    · rw [if_neg q3] at h
      refine z_aload_n fx dX3_at_25 rfl ?_
      refine z_iconst (v := 1) fx dX3_at_26 rfl ?_
      obtain ⟨x9, ex9, h⟩ := ob h
      refine zVi (k := 0) (rest := []) fx hR (c_X3_found (zl E) D ad g 1 I J ex9) rcS mvX3_found wm_X3_69 dX3_at_27 rfl ⟨rfl, rfl⟩ rfl rfl rfl ?_
      cases h
      exact z_iret fx hr dX3_at_30
  · rw [if_pos q1] at h
    refine z_iconst (v := (-1)) fx dX3_at_7 rfl ?_
    cases h
    exact z_iret fx hr dX3_at_8
set_option maxRecDepth 100000 in
set_option maxHeartbeats 4000000 in
theorem c_X3_told (l : Launch) (D : va_G) (ad : Nat → Nat) (g : Nat → ClassId) (a1 : Int32) (a2 : Int32) (I : zMi) (J : zMl) {r : Int32 × zMi} (h : f_X3_told a1 a2 I = some r) : zCM (xw D ad g) l yX3_told cX3_told 4 (some .int) rmX3_told [.ref (ad (0)), .int a1, .int a2] I J (some (.int r.1)) r.2 J := by
  refine zCM.of (by decide) (Nat.le_of_ble_eq_true rfl) (fun E hl hR fx hr => ?_)
  subst hl
  rw [f_X3_told] at h
  refine z_iload_n fx dX3_told_0 rfl ?_
  refine zSi (rest := []) fx hR (c_X3_isTableNumber (zl E) D ad g a1 I J rfl) mvX3_isTableNumber wm_X3_104 dX3_told_1 rfl ⟨rfl, rfl⟩ rfl rfl rfl ?_
  refine z_if_eq (tgt := 16) fx dX3_told_4 (by decide) (fun q1 => ?_) (fun q1 => ?_)
  · rw [if_pos q1] at h
    refine z_iconst (v := (-1)) fx dX3_told_16 rfl ?_
    cases h
    exact z_iret fx hr dX3_told_17
  · rw [if_neg q1] at h
    refine z_iload_n fx dX3_told_7 rfl ?_
    refine z_if_lt (tgt := 16) fx dX3_told_8 (by decide) (fun q2 => ?_) (fun q2 => ?_)
    · rw [if_pos q2] at h
      refine z_iconst (v := (-1)) fx dX3_told_16 rfl ?_
      cases h
      exact z_iret fx hr dX3_told_17
    · rw [if_neg q2] at h
      refine z_iload_n fx dX3_told_11 rfl ?_
      refine z_iconst (v := 4) fx dX3_told_12 rfl ?_
      refine z_icmp_le (tgt := 18) fx dX3_told_13 (by decide) (fun q3 => ?_) (fun q3 => ?_)
      · rw [if_pos q3] at h
        refine z_aload_n fx dX3_told_18 rfl ?_
        refine gS_tables fx wf_X3_17 dX3_told_19 ?_
        refine z_iload_n fx dX3_told_22 rfl ?_
        obtain ⟨q4, h⟩ := oi h
        refine x_tld fx q4 dX3_told_23 ?_
        refine z_astore_n fx dX3_told_24 (by decide) rfl ?_
        refine z_aload_n fx dX3_told_25 rfl ?_
        refine zVi (k := 22 + 3 * a1.toNatClampNeg) (rest := []) fx hR (c_X2_isMissing (zl E) D ad g a1.toNatClampNeg I J (ix_12 q4) rfl) (rcT (ix_12 q4)) mvX2_isMissing wm_X3_115 dX3_told_26 rfl ⟨rfl, rfl⟩ rfl rfl rfl ?_
        refine z_if_eq (tgt := 38) fx dX3_told_29 (by decide) (fun q5 => ?_) (fun q5 => ?_)
        · rw [if_pos q5] at h
          refine z_iload_n fx dX3_told_38 rfl ?_
          by_cases q6 : a2 = 0
          · rw [if_pos q6] at h
            refine z_tin (off := 29) (tgt := 68) fx dX3_told_39 (by rw [q6]; decide) (by rw [q6]; decide) (by rw [q6]; rfl) (by decide) ?_
            refine z_aload_n fx dX3_told_68 rfl ?_
            refine z_aload_n fx dX3_told_69 rfl ?_
            refine gT_kind fx (ix_12 q4) wf_X3_134 dX3_told_70 ?_
            refine pS_latestAsked fx wf_X3_51 dX3_told_73 ?_
            refine z_goto (tgt := 142) fx dX3_told_76 (by decide) ?_
            refine z_iconst (v := 1) fx dX3_told_142 rfl ?_
            cases h
            exact z_iret fx hr dX3_told_143
          · rw [if_neg q6] at h
            by_cases q7 : a2 = 1
            · rw [if_pos q7] at h
              refine z_tin (off := 40) (tgt := 79) fx dX3_told_39 (by rw [q7]; decide) (by rw [q7]; decide) (by rw [q7]; rfl) (by decide) ?_
              refine z_aload_n fx dX3_told_79 rfl ?_
              refine z_aload_n fx dX3_told_80 rfl ?_
              refine gT_n fx (ix_12 q4) wf_X3_119 dX3_told_81 ?_
              refine pS_latestAsked fx wf_X3_51 dX3_told_84 ?_
              refine z_goto (tgt := 142) fx dX3_told_87 (by decide) ?_
              refine z_iconst (v := 1) fx dX3_told_142 rfl ?_
              cases h
              exact z_iret fx hr dX3_told_143
            · rw [if_neg q7] at h
              by_cases q8 : a2 = 2
              · rw [if_pos q8] at h
                refine z_tin (off := 51) (tgt := 90) fx dX3_told_39 (by rw [q8]; decide) (by rw [q8]; decide) (by rw [q8]; rfl) (by decide) ?_
                refine z_aload_n fx dX3_told_90 rfl ?_
                refine z_aload_n fx dX3_told_91 rfl ?_
                refine gT_plus fx (ix_12 q4) wf_X3_137 dX3_told_92 ?_
                refine z_aload_n fx dX3_told_95 rfl ?_
                refine gT_n fx (ix_12 q4) wf_X3_119 dX3_told_96 ?_
                obtain ⟨x9, ex9, h⟩ := ob h
                refine zSi (rest := [.ref (ad (0))]) fx hR (c_X3_countBits (zl E) D ad g (23 + 3 * a1.toNatClampNeg) (I (22 + 3 * a1.toNatClampNeg) 2) I J ⟨(bT1 (ix_12 q4)), (cfX_Tp g ad (ix_12 q4))⟩ ex9) mvX3_countBits wm_X3_140 dX3_told_99 rfl ⟨rfl, rfl⟩ rfl rfl rfl ?_
                refine pS_latestAsked fx wf_X3_51 dX3_told_102 ?_
                refine z_goto (tgt := 142) fx dX3_told_105 (by decide) ?_
                refine z_iconst (v := 1) fx dX3_told_142 rfl ?_
                cases h
                exact z_iret fx hr dX3_told_143
              · rw [if_neg q8] at h
                by_cases q10 : a2 = 3
                · rw [if_pos q10] at h
                  refine z_tin (off := 69) (tgt := 108) fx dX3_told_39 (by rw [q10]; decide) (by rw [q10]; decide) (by rw [q10]; rfl) (by decide) ?_
                  refine z_aload_n fx dX3_told_108 rfl ?_
                  refine z_aload_n fx dX3_told_109 rfl ?_
                  refine gT_minus fx (ix_12 q4) wf_X3_144 dX3_told_110 ?_
                  refine z_aload_n fx dX3_told_113 rfl ?_
                  refine gT_n fx (ix_12 q4) wf_X3_119 dX3_told_114 ?_
                  obtain ⟨x11, ex11, h⟩ := ob h
                  refine zSi (rest := [.ref (ad (0))]) fx hR (c_X3_countBits (zl E) D ad g (24 + 3 * a1.toNatClampNeg) (I (22 + 3 * a1.toNatClampNeg) 2) I J ⟨(bT2 (ix_12 q4)), (cfX_Tm g ad (ix_12 q4))⟩ ex11) mvX3_countBits wm_X3_140 dX3_told_117 rfl ⟨rfl, rfl⟩ rfl rfl rfl ?_
                  refine pS_latestAsked fx wf_X3_51 dX3_told_120 ?_
                  refine z_goto (tgt := 142) fx dX3_told_123 (by decide) ?_
                  refine z_iconst (v := 1) fx dX3_told_142 rfl ?_
                  cases h
                  exact z_iret fx hr dX3_told_143
                · rw [if_neg q10] at h
                  refine z_tout (tgt := 126) fx dX3_told_39 (by have := zne q6 (n := 0) (by decide); have := zne q7 (n := 1) (by decide); have := zne q8 (n := 2) (by decide); have := zne q10 (n := 3) (by decide); omega) (by decide) ?_
                  refine z_aload_n fx dX3_told_126 rfl ?_
                  refine z_aload_n fx dX3_told_127 rfl ?_
                  obtain ⟨x12, ex12, h⟩ := ob h
                  refine zVi (k := 22 + 3 * a1.toNatClampNeg) (rest := [.ref (ad (0))]) fx hR (c_X2_isNormal (zl E) D ad g a1.toNatClampNeg I J (ix_12 q4) ex12) (rcT (ix_12 q4)) mvX2_isNormal wm_X3_147 dX3_told_128 rfl ⟨rfl, rfl⟩ rfl rfl rfl ?_
                  refine z_if_eq (tgt := 138) fx dX3_told_131 (by decide) (fun q13 => ?_) (fun q13 => ?_)
                  · rw [if_pos q13] at h
                    refine z_iconst (v := 0) fx dX3_told_138 rfl ?_
                    refine pS_latestAsked fx wf_X3_51 dX3_told_139 ?_
                    refine z_iconst (v := 1) fx dX3_told_142 rfl ?_
                    cases h
                    exact z_iret fx hr dX3_told_143
                  · rw [if_neg q13] at h
                    refine z_iconst (v := 1) fx dX3_told_134 rfl ?_
                    refine z_goto (tgt := 139) fx dX3_told_135 (by decide) ?_
                    refine pS_latestAsked fx wf_X3_51 dX3_told_139 ?_
                    refine z_iconst (v := 1) fx dX3_told_142 rfl ?_
                    cases h
                    exact z_iret fx hr dX3_told_143
        · rw [if_neg q5] at h
          refine z_aload_n fx dX3_told_32 rfl ?_
          refine z_iconst (v := 1) fx dX3_told_33 rfl ?_
          obtain ⟨x14, ex14, h⟩ := ob h
          refine zVi (k := 0) (rest := []) fx hR (c_X3_found (zl E) D ad g 1 I J ex14) rcS mvX3_found wm_X3_69 dX3_told_34 rfl ⟨rfl, rfl⟩ rfl rfl rfl ?_
          cases h
          exact z_iret fx hr dX3_told_37
      · rw [if_neg q3] at h
        refine z_iconst (v := (-1)) fx dX3_told_16 rfl ?_
        cases h
        exact z_iret fx hr dX3_told_17
set_option maxRecDepth 100000 in
set_option maxHeartbeats 4000000 in
theorem c_X3_mark (l : Launch) (D : va_G) (ad : Nat → Nat) (g : Nat → ClassId) (a1 : Int32) (a2 : Int32) (I : zMi) (J : zMl) {r : Int32 × zMi} (h : f_X3_mark a1 a2 I = some r) : zCM (xw D ad g) l yX3_mark cX3_mark 4 (some .int) rmX3_mark [.ref (ad (0)), .int a1, .int a2] I J (some (.int r.1)) r.2 J := by
  refine zCM.of (by decide) (Nat.le_of_ble_eq_true rfl) (fun E hl hR fx hr => ?_)
  subst hl
  rw [f_X3_mark] at h
  refine z_iload_n fx dX3_mark_0 rfl ?_
  refine zSi (rest := []) fx hR (c_X3_isTableNumber (zl E) D ad g a1 I J rfl) mvX3_isTableNumber wm_X3_104 dX3_mark_1 rfl ⟨rfl, rfl⟩ rfl rfl rfl ?_
  refine z_if_eq (tgt := 17) fx dX3_mark_4 (by decide) (fun q1 => ?_) (fun q1 => ?_)
  · rw [if_pos q1] at h
    refine z_iconst (v := (-1)) fx dX3_mark_17 rfl ?_
    cases h
    exact z_iret fx hr dX3_mark_18
  · rw [if_neg q1] at h
    refine z_iload_n fx dX3_mark_7 rfl ?_
    refine z_iconst (v := 1) fx dX3_mark_8 rfl ?_
    refine z_icmp_lt (tgt := 17) fx dX3_mark_9 (by decide) (fun q2 => ?_) (fun q2 => ?_)
    · rw [if_pos q2] at h
      refine z_iconst (v := (-1)) fx dX3_mark_17 rfl ?_
      cases h
      exact z_iret fx hr dX3_mark_18
    · rw [if_neg q2] at h
      refine z_iload_n fx dX3_mark_12 rfl ?_
      refine z_iconst (v := 4) fx dX3_mark_13 rfl ?_
      refine z_icmp_le (tgt := 19) fx dX3_mark_14 (by decide) (fun q3 => ?_) (fun q3 => ?_)
      · rw [if_pos q3] at h
        refine z_aload_n fx dX3_mark_19 rfl ?_
        refine gS_tables fx wf_X3_17 dX3_mark_20 ?_
        refine z_iload_n fx dX3_mark_23 rfl ?_
        obtain ⟨q4, h⟩ := oi h
        refine x_tld fx q4 dX3_mark_24 ?_
        refine z_astore_n fx dX3_mark_25 (by decide) rfl ?_
        refine z_aload_n fx dX3_mark_26 rfl ?_
        refine zVi (k := 22 + 3 * a1.toNatClampNeg) (rest := []) fx hR (c_X2_isMissing (zl E) D ad g a1.toNatClampNeg I J (ix_12 q4) rfl) (rcT (ix_12 q4)) mvX2_isMissing wm_X3_115 dX3_mark_27 rfl ⟨rfl, rfl⟩ rfl rfl rfl ?_
        refine z_if_eq (tgt := 39) fx dX3_mark_30 (by decide) (fun q5 => ?_) (fun q5 => ?_)
        · rw [if_pos q5] at h
          refine z_aload_n fx dX3_mark_39 rfl ?_
          refine z_iload_n fx dX3_mark_40 rfl ?_
          refine zVi (k := 22 + 3 * a1.toNatClampNeg) (rest := []) fx hR (c_X2_isOfKind (zl E) D ad g a1.toNatClampNeg a2 I J (ix_12 q4) rfl) (rcT (ix_12 q4)) mvX2_isOfKind wm_X3_150 dX3_mark_41 rfl ⟨rfl, rfl⟩ rfl rfl rfl ?_
          refine z_if_ne (tgt := 53) fx dX3_mark_44 (by decide) (fun q6 => ?_) (fun q6 => ?_)
          · rw [if_neg q6] at h
            refine z_iload_n fx dX3_mark_53 rfl ?_
            by_cases q7 : a2 = 1
            · rw [if_pos q7] at h
              refine z_tin (off := 26) (tgt := 80) fx dX3_mark_54 (by rw [q7]; decide) (by rw [q7]; decide) (by rw [q7]; rfl) (by decide) ?_
              refine z_aload_n fx dX3_mark_80 rfl ?_
              refine gT_n fx (ix_12 q4) wf_X3_119 dX3_mark_81 ?_
              refine z_iconst (v := 2) fx dX3_mark_84 rfl ?_
              refine z_idiv fx dX3_mark_85 (by decide) ?_
              cases h
              exact z_iret fx hr dX3_mark_86
            · rw [if_neg q7] at h
              by_cases q8 : a2 = 2
              · rw [if_pos q8] at h
                refine z_tin (off := 33) (tgt := 87) fx dX3_mark_54 (by rw [q8]; decide) (by rw [q8]; decide) (by rw [q8]; rfl) (by decide) ?_
                refine z_aload_n fx dX3_mark_87 rfl ?_
                refine z_iconst (v := 0) fx dX3_mark_88 rfl ?_
                refine z_iconst (v := 0) fx dX3_mark_89 rfl ?_
                obtain ⟨x9, ex9, h⟩ := ob h
                refine zVi (k := 22 + 3 * a1.toNatClampNeg) (rest := []) fx hR (c_X2_rowSum (zl E) D ad g a1.toNatClampNeg 0 0 I J (ix_12 q4) ex9) (rcT (ix_12 q4)) mvX2_rowSum wm_X3_153 dX3_mark_90 rfl ⟨rfl, rfl⟩ rfl rfl rfl ?_
                cases h
                exact z_iret fx hr dX3_mark_93
              · rw [if_neg q8] at h
                by_cases q10 : a2 = 3
                · rw [if_pos q10] at h
                  refine z_tin (off := 40) (tgt := 94) fx dX3_mark_54 (by rw [q10]; decide) (by rw [q10]; decide) (by rw [q10]; rfl) (by decide) ?_
                  refine z_aload_n fx dX3_mark_94 rfl ?_
                  obtain ⟨x11, ex11, h⟩ := ob h
                  refine zVi (k := 22 + 3 * a1.toNatClampNeg) (rest := []) fx hR (c_X2_edges (zl E) D ad g a1.toNatClampNeg I J (ix_12 q4) ex11) (rcT (ix_12 q4)) mvX2_edges wm_X3_156 dX3_mark_95 rfl ⟨rfl, rfl⟩ rfl rfl rfl ?_
                  cases h
                  exact z_iret fx hr dX3_mark_98
                · rw [if_neg q10] at h
                  refine z_tout (tgt := 99) fx dX3_mark_54 (by have := zne q7 (n := 1) (by decide); have := zne q8 (n := 2) (by decide); have := zne q10 (n := 3) (by decide); omega) (by decide) ?_
                  refine z_aload_n fx dX3_mark_99 rfl ?_
                  refine z_iconst (v := 0) fx dX3_mark_100 rfl ?_
                  obtain ⟨x12, ex12, h⟩ := ob h
                  refine zVi (k := 22 + 3 * a1.toNatClampNeg) (rest := []) fx hR (c_X2_neighbours (zl E) D ad g a1.toNatClampNeg 0 I J (ix_12 q4) ex12) (rcT (ix_12 q4)) mvX2_neighbours wm_X3_159 dX3_mark_101 rfl ⟨rfl, rfl⟩ rfl rfl rfl ?_
                  cases h
                  exact z_iret fx hr dX3_mark_104
          · rw [if_pos q6] at h
            refine z_aload_n fx dX3_mark_47 rfl ?_
            refine z_iconst (v := 3) fx dX3_mark_48 rfl ?_
            obtain ⟨x13, ex13, h⟩ := ob h
            refine zVi (k := 0) (rest := []) fx hR (c_X3_found (zl E) D ad g 3 I J ex13) rcS mvX3_found wm_X3_69 dX3_mark_49 rfl ⟨rfl, rfl⟩ rfl rfl rfl ?_
            cases h
            exact z_iret fx hr dX3_mark_52
        · rw [if_neg q5] at h
          refine z_aload_n fx dX3_mark_33 rfl ?_
          refine z_iconst (v := 1) fx dX3_mark_34 rfl ?_
          obtain ⟨x14, ex14, h⟩ := ob h
          refine zVi (k := 0) (rest := []) fx hR (c_X3_found (zl E) D ad g 1 I J ex14) rcS mvX3_found wm_X3_69 dX3_mark_35 rfl ⟨rfl, rfl⟩ rfl rfl rfl ?_
          cases h
          exact z_iret fx hr dX3_mark_38
      · rw [if_neg q3] at h
        refine z_iconst (v := (-1)) fx dX3_mark_17 rfl ?_
        cases h
        exact z_iret fx hr dX3_mark_18
set_option maxRecDepth 100000 in
set_option maxHeartbeats 4000000 in
theorem c_X3_times (l : Launch) (D : va_G) (ad : Nat → Nat) (g : Nat → ClassId) (a1 : Int32) (a2 : Int32) (a3 : Int32) (I : zMi) (J : zMl) {r : Int32 × zMi} (h : f_X3_times a1 a2 a3 I = some r) : zCM (xw D ad g) l yX3_times cX3_times 6 (some .int) rmX3_times [.ref (ad (0)), .int a1, .int a2, .int a3] I J (some (.int r.1)) r.2 J := by
  refine zCM.of (by decide) (Nat.le_of_ble_eq_true rfl) (fun E hl hR fx hr => ?_)
  subst hl
  rw [f_X3_times] at h
  refine z_iload_n fx dX3_times_0 rfl ?_
  refine zSi (rest := []) fx hR (c_X3_isTableNumber (zl E) D ad g a1 I J rfl) mvX3_isTableNumber wm_X3_104 dX3_times_1 rfl ⟨rfl, rfl⟩ rfl rfl rfl ?_
  refine z_if_eq (tgt := 21) fx dX3_times_4 (by decide) (fun q1 => ?_) (fun q1 => ?_)
  · rw [if_pos q1] at h
    refine z_iconst (v := (-1)) fx dX3_times_21 rfl ?_
    cases h
    exact z_iret fx hr dX3_times_22
  · rw [if_neg q1] at h
    refine z_iload_n fx dX3_times_7 rfl ?_
    refine zSi (rest := []) fx hR (c_X3_isTableNumber (zl E) D ad g a2 I J rfl) mvX3_isTableNumber wm_X3_104 dX3_times_8 rfl ⟨rfl, rfl⟩ rfl rfl rfl ?_
    refine z_if_eq (tgt := 21) fx dX3_times_11 (by decide) (fun q2 => ?_) (fun q2 => ?_)
    · rw [if_pos q2] at h
      refine z_iconst (v := (-1)) fx dX3_times_21 rfl ?_
      cases h
      exact z_iret fx hr dX3_times_22
    · rw [if_neg q2] at h
      refine z_iload_n fx dX3_times_14 rfl ?_
      refine zSi (rest := []) fx hR (c_X3_isTableNumber (zl E) D ad g a3 I J rfl) mvX3_isTableNumber wm_X3_104 dX3_times_15 rfl ⟨rfl, rfl⟩ rfl rfl rfl ?_
      refine z_if_ne (tgt := 23) fx dX3_times_18 (by decide) (fun q3 => ?_) (fun q3 => ?_)
      · rw [if_neg q3] at h
        refine z_aload_n fx dX3_times_23 rfl ?_
        refine gS_tables fx wf_X3_17 dX3_times_24 ?_
        refine z_iload_n fx dX3_times_27 rfl ?_
        obtain ⟨q4, h⟩ := oi h
        refine x_tld fx q4 dX3_times_28 ?_
        refine z_astore fx dX3_times_29 (by decide) rfl ?_
        refine z_aload_n fx dX3_times_31 rfl ?_
        refine gS_tables fx wf_X3_17 dX3_times_32 ?_
        refine z_iload_n fx dX3_times_35 rfl ?_
        obtain ⟨q5, h⟩ := oi h
        refine x_tld fx q5 dX3_times_36 ?_
        refine z_astore fx dX3_times_37 (by decide) rfl ?_
        refine z_aload fx dX3_times_39 rfl ?_
        refine zVi (k := 22 + 3 * a1.toNatClampNeg) (rest := []) fx hR (c_X2_isMissing (zl E) D ad g a1.toNatClampNeg I J (ix_12 q4) rfl) (rcT (ix_12 q4)) mvX2_isMissing wm_X3_115 dX3_times_41 rfl ⟨rfl, rfl⟩ rfl rfl rfl ?_
        refine z_if_ne (tgt := 55) fx dX3_times_44 (by decide) (fun q6 => ?_) (fun q6 => ?_)
        · rw [if_neg q6] at h
          refine z_aload_n fx dX3_times_55 rfl ?_
          refine z_iconst (v := 1) fx dX3_times_56 rfl ?_
          obtain ⟨x7, ex7, h⟩ := ob h
          refine zVi (k := 0) (rest := []) fx hR (c_X3_found (zl E) D ad g 1 I J ex7) rcS mvX3_found wm_X3_69 dX3_times_57 rfl ⟨rfl, rfl⟩ rfl rfl rfl ?_
          cases h
          exact z_iret fx hr dX3_times_60
        · rw [if_pos q6] at h
          refine z_aload fx dX3_times_47 rfl ?_
          refine zVi (k := 22 + 3 * a2.toNatClampNeg) (rest := []) fx hR (c_X2_isMissing (zl E) D ad g a2.toNatClampNeg I J (ix_12 q5) rfl) (rcT (ix_12 q5)) mvX2_isMissing wm_X3_115 dX3_times_49 rfl ⟨rfl, rfl⟩ rfl rfl rfl ?_
          refine z_if_eq (tgt := 61) fx dX3_times_52 (by decide) (fun q8 => ?_) (fun q8 => ?_)
          · rw [if_pos q8] at h
            refine z_aload fx dX3_times_61 rfl ?_
            refine gT_n fx (ix_12 q4) wf_X3_119 dX3_times_63 ?_
            refine z_aload fx dX3_times_66 rfl ?_
            refine gT_n fx (ix_12 q5) wf_X3_119 dX3_times_68 ?_
            refine z_imul fx dX3_times_71 ?_
            refine z_bipush (v := 12) fx dX3_times_72 rfl ?_
            refine z_icmp_le (tgt := 83) fx dX3_times_74 (by decide) (fun q9 => ?_) (fun q9 => ?_)
            · rw [if_pos q9] at h
              refine z_aload_n fx dX3_times_83 rfl ?_
              refine gS_work fx wf_X3_22 dX3_times_84 ?_
              refine z_aload fx dX3_times_87 rfl ?_
              refine z_aload fx dX3_times_89 rfl ?_
              obtain ⟨x10, ex10, h⟩ := ob h
              refine zVv (k := 22 + 3 * 10) (rest := []) fx hR (c_X2_beginProduct (zl E) D ad g 10 a1.toNatClampNeg a2.toNatClampNeg I J (by decide) (ix_12 q4) (ix_12 q5) ex10) (rcT (by decide)) mvX2_beginProduct wm_X3_162 dX3_times_91 rfl ⟨rfl, rfl⟩ rfl rfl rfl ?_
              refine z_aload_n fx dX3_times_94 rfl ?_
              refine gS_tables fx wf_X3_17 dX3_times_95 ?_
              refine z_iload_n fx dX3_times_98 rfl ?_
              obtain ⟨q11, h⟩ := oi h
              refine x_tld fx q11 dX3_times_99 ?_
              refine z_aload_n fx dX3_times_100 rfl ?_
              refine gS_work fx wf_X3_22 dX3_times_101 ?_
              obtain ⟨x12, ex12, h⟩ := ob h
              refine zVv (k := 22 + 3 * a3.toNatClampNeg) (rest := []) fx hR (c_X2_take (zl E) D ad g a3.toNatClampNeg 10 x10 J (ix_12 q11) (by decide) ex12) (rcT (ix_12 q11)) mvX2_take wm_X3_166 dX3_times_104 rfl ⟨rfl, rfl⟩ rfl rfl rfl ?_
              refine z_aload_n fx dX3_times_107 rfl ?_
              refine gS_tables fx wf_X3_17 dX3_times_108 ?_
              refine z_iload_n fx dX3_times_111 rfl ?_
              refine x_tld fx q11 dX3_times_112 ?_
              obtain ⟨x13, ex13, h⟩ := ob h
              refine zVi (k := 22 + 3 * a3.toNatClampNeg) (rest := []) fx hR (c_X2_judged (zl E) D ad g a3.toNatClampNeg x12 J (ix_12 q11) ex13) (rcT (ix_12 q11)) mvX2_judged wm_X3_111 dX3_times_113 rfl ⟨rfl, rfl⟩ rfl rfl rfl ?_
              cases h
              exact z_iret fx hr dX3_times_116
            · rw [if_neg q9] at h
              refine z_aload_n fx dX3_times_77 rfl ?_
              refine z_iconst (v := 5) fx dX3_times_78 rfl ?_
              obtain ⟨x14, ex14, h⟩ := ob h
              refine zVi (k := 0) (rest := []) fx hR (c_X3_found (zl E) D ad g 5 I J ex14) rcS mvX3_found wm_X3_69 dX3_times_79 rfl ⟨rfl, rfl⟩ rfl rfl rfl ?_
              cases h
              exact z_iret fx hr dX3_times_82
          · rw [if_neg q8] at h
            refine z_aload_n fx dX3_times_55 rfl ?_
            refine z_iconst (v := 1) fx dX3_times_56 rfl ?_
            obtain ⟨x15, ex15, h⟩ := ob h
            refine zVi (k := 0) (rest := []) fx hR (c_X3_found (zl E) D ad g 1 I J ex15) rcS mvX3_found wm_X3_69 dX3_times_57 rfl ⟨rfl, rfl⟩ rfl rfl rfl ?_
            cases h
            exact z_iret fx hr dX3_times_60
      · rw [if_pos q3] at h
        refine z_iconst (v := (-1)) fx dX3_times_21 rfl ?_
        cases h
        exact z_iret fx hr dX3_times_22
