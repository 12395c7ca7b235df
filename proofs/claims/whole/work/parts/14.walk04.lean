set_option maxRecDepth 100000 in
set_option maxHeartbeats 4000000 in
theorem c_X3_echo (l : Launch) (D : va_G) (ad : Nat → Nat) (g : Nat → ClassId) (a1 : Int32) (a2 : Int32) (a3 : Int32) (I : zMi) (J : zMl) {r : Int32 × zMi} (h : f_X3_echo a1 a2 a3 I = some r) : zCM (xw D ad g) l yX3_echo cX3_echo 6 (some .int) rmX3_echo [.ref (ad (0)), .int a1, .int a2, .int a3] I J (some (.int r.1)) r.2 J := by
  refine zCM.of (by decide) (Nat.le_of_ble_eq_true rfl) (fun E hl hR fx hr => ?_)
  subst hl
  rw [f_X3_echo] at h
  refine z_iload_n fx dX3_echo_0 rfl ?_
  refine zSi (rest := []) fx hR (c_X3_isRowNumber (zl E) D ad g a1 I J rfl) mvX3_isRowNumber wm_X3_65 dX3_echo_1 rfl ⟨rfl, rfl⟩ rfl rfl rfl ?_
  refine z_if_ne (tgt := 9) fx dX3_echo_4 (by decide) (fun q1 => ?_) (fun q1 => ?_)
  · rw [if_neg q1] at h
    refine z_aload_n fx dX3_echo_9 rfl ?_
    refine gS_rows fx wf_X3_11 dX3_echo_10 ?_
    refine z_iload_n fx dX3_echo_13 rfl ?_
    obtain ⟨q2, h⟩ := oi h
    refine x_rld fx q2 dX3_echo_14 ?_
    refine z_astore fx dX3_echo_15 (by decide) rfl ?_
    refine z_aload fx dX3_echo_17 rfl ?_
    obtain ⟨x3, ex3, h⟩ := ob h
    refine zSi (rest := []) fx hR (c_X3_findingOfSigns (zl E) D ad g a1.toNatClampNeg I J (ix_lt q2) ex3) mvX3_findingOfSigns wm_X3_243 dX3_echo_19 rfl ⟨rfl, rfl⟩ rfl rfl rfl ?_
    refine z_istore fx dX3_echo_22 (by decide) rfl ?_
    refine z_iload fx dX3_echo_24 rfl ?_
    refine z_if_eq (tgt := 36) fx dX3_echo_26 (by decide) (fun q4 => ?_) (fun q4 => ?_)
    · rw [if_pos q4] at h
      refine z_iload_n fx dX3_echo_36 rfl ?_
      refine z_if_lt (tgt := 49) fx dX3_echo_37 (by decide) (fun q5 => ?_) (fun q5 => ?_)
      · rw [if_pos q5] at h
        refine z_aload_n fx dX3_echo_49 rfl ?_
        refine z_iconst (v := 2) fx dX3_echo_50 rfl ?_
        obtain ⟨x6, ex6, h⟩ := ob h
        refine zVi (k := 0) (rest := []) fx hR (c_X3_found (zl E) D ad g 2 I J ex6) rcS mvX3_found wm_X3_69 dX3_echo_51 rfl ⟨rfl, rfl⟩ rfl rfl rfl ?_
        cases h
        exact z_iret fx hr dX3_echo_54
      · rw [if_neg q5] at h
        refine z_iload_n fx dX3_echo_40 rfl ?_
        refine z_aload fx dX3_echo_41 rfl ?_
        refine gR_size fx (ix_lt q2) wf_X3_97 dX3_echo_43 ?_
        refine z_icmp_lt (tgt := 55) fx dX3_echo_46 (by decide) (fun q7 => ?_) (fun q7 => ?_)
        · rw [if_pos q7] at h
          refine z_aload_n fx dX3_echo_55 rfl ?_
          refine z_aload fx dX3_echo_56 rfl ?_
          obtain ⟨x8, ex8, h⟩ := ob h
          refine zVi (k := 10 + 2 * a1.toNatClampNeg) (rest := [.ref (ad (0))]) fx hR (c_X1_minusBits (zl E) D ad g a1.toNatClampNeg I J (ix_lt q2) ex8) (rcR (ix_lt q2)) mvX1_minusBits wm_X3_247 dX3_echo_58 rfl ⟨rfl, rfl⟩ rfl rfl rfl ?_
          refine z_aload fx dX3_echo_61 rfl ?_
          refine gR_size fx (ix_lt q2) wf_X3_97 dX3_echo_63 ?_
          refine z_iload_n fx dX3_echo_66 rfl ?_
          refine z_iload_n fx dX3_echo_67 rfl ?_
          refine zSi (rest := [.ref (ad (0))]) fx hR (c_X3_echoOf (zl E) D ad g x8 (I (10 + 2 * a1.toNatClampNeg) 1) a2 a3 I J rfl) mvX3_echoOf wm_X3_250 dX3_echo_68 rfl ⟨rfl, rfl⟩ rfl rfl rfl ?_
          refine pS_latestAsked fx wf_X3_51 dX3_echo_71 ?_
          refine z_iconst (v := 1) fx dX3_echo_74 rfl ?_
          cases h
          exact z_iret fx hr dX3_echo_75
        · rw [if_neg q7] at h
          refine z_aload_n fx dX3_echo_49 rfl ?_
          refine z_iconst (v := 2) fx dX3_echo_50 rfl ?_
          obtain ⟨x9, ex9, h⟩ := ob h
          refine zVi (k := 0) (rest := []) fx hR (c_X3_found (zl E) D ad g 2 I J ex9) rcS mvX3_found wm_X3_69 dX3_echo_51 rfl ⟨rfl, rfl⟩ rfl rfl rfl ?_
          cases h
          exact z_iret fx hr dX3_echo_54
    · rw [if_neg q4] at h
      refine z_aload_n fx dX3_echo_29 rfl ?_
      refine z_iload fx dX3_echo_30 rfl ?_
      obtain ⟨x10, ex10, h⟩ := ob h
      refine zVi (k := 0) (rest := []) fx hR (c_X3_found (zl E) D ad g x3 I J ex10) rcS mvX3_found wm_X3_69 dX3_echo_32 rfl ⟨rfl, rfl⟩ rfl rfl rfl ?_
      cases h
      exact z_iret fx hr dX3_echo_35
  · rw [if_pos q1] at h
    refine z_iconst (v := (-1)) fx dX3_echo_7 rfl ?_
    cases h
    exact z_iret fx hr dX3_echo_8
set_option maxRecDepth 100000 in
set_option maxHeartbeats 4000000 in
theorem w_X3_sideOf_5 {E : zE} {D : va_G} {ad : Nat → Nat} {g : Nat → ClassId} (fx : zFX E (xw D ad g) cX3_sideOf RX3 5 (some .int)) (hR : zR E = rmX3_sideOf) {r : Int32} {I : zMi} {J : zMl} (hr : zRX E (xw D ad g) (some (.int r)) I J) : ∀ (fuel : Nat) (a0 : Int32) (a1 : Int32) (a2 : Int32) (a3 : Int32) (a4 : Int32), f_X3_sideOf_5 fuel a0 a1 a2 a3 a4 = some r → zAt E (xw D ad g) 5 [(0, .int a0), (1, .int a1), (2, .int a2), (3, .int a3), (4, .int a4)] [] I J := by
  intro fuel
  induction fuel with
  | zero => intro a0 a1 a2 a3 a4 h; rw [f_X3_sideOf_5] at h; cases h
  | succ f ih =>
    intro a0 a1 a2 a3 a4 h
    rw [f_X3_sideOf_5] at h
    refine z_iload fx dX3_sideOf_5 rfl ?_
    refine z_iload_n fx dX3_sideOf_7 rfl ?_
    refine z_icmp_ge (tgt := 38) fx dX3_sideOf_8 (by decide) (fun q1 => ?_) (fun q1 => ?_)
    · rw [if_pos q1] at h
      refine z_iload_n fx dX3_sideOf_38 rfl ?_
      cases h
      exact z_iret fx hr dX3_sideOf_39
    · rw [if_neg q1] at h
      refine z_iload_n fx dX3_sideOf_11 rfl ?_
      refine z_iload_n fx dX3_sideOf_12 rfl ?_
      refine z_icmp_ge (tgt := 38) fx dX3_sideOf_13 (by decide) (fun q2 => ?_) (fun q2 => ?_)
      · rw [if_pos q2] at h
        refine z_iload_n fx dX3_sideOf_38 rfl ?_
        cases h
        exact z_iret fx hr dX3_sideOf_39
      · rw [if_neg q2] at h
        refine z_iload_n fx dX3_sideOf_16 rfl ?_
        refine z_iload_n fx dX3_sideOf_17 rfl ?_
        refine z_iload_n fx dX3_sideOf_18 rfl ?_
        refine z_iload fx dX3_sideOf_19 rfl ?_
        refine z_iconst (v := 0) fx dX3_sideOf_21 rfl ?_
        refine zSi (rest := [.int a3]) fx hR (c_X3_echoOf (zl E) D ad g a0 a1 a4 0 I J rfl) mvX3_echoOf wm_X3_250 dX3_sideOf_22 rfl ⟨rfl, rfl⟩ rfl rfl rfl ?_
        refine zmabs (rest := [.int a3]) fx wm_X3_333 dX3_sideOf_25 (by rw [hR]; exact ⟨Nat.le_of_ble_eq_true rfl, Nat.le_of_ble_eq_true rfl⟩) ?_
        refine zmmax (rest := []) fx wm_X3_338 dX3_sideOf_28 (by rw [hR]; exact ⟨Nat.le_of_ble_eq_true rfl, Nat.le_of_ble_eq_true rfl⟩) ?_
        refine z_istore_n fx dX3_sideOf_31 (by decide) rfl ?_
        refine z_iinc (v := (a4 + 1)) fx dX3_sideOf_32 rfl rfl (by decide) rfl ?_
        refine z_goto (tgt := 5) fx dX3_sideOf_35 (by decide) ?_
        exact z_lv2 (ih a0 a1 a2 (f_J9_max a3 (f_J9_abs (f_X3_echoOf a0 a1 a4 0))) (a4 + 1) h) rfl
set_option maxRecDepth 100000 in
set_option maxHeartbeats 4000000 in
theorem c_X3_sideOf (l : Launch) (D : va_G) (ad : Nat → Nat) (g : Nat → ClassId) (a0 : Int32) (a1 : Int32) (a2 : Int32) (I : zMi) (J : zMl) {r : Int32} (h : f_X3_sideOf a0 a1 a2 = some r) : zCM (xw D ad g) l yX3_sideOf cX3_sideOf 5 (some .int) rmX3_sideOf [.int a0, .int a1, .int a2] I J (some (.int r)) I J := by
  refine zCM.of (by decide) (Nat.le_of_ble_eq_true rfl) (fun E hl hR fx hr => ?_)
  subst hl
  rw [f_X3_sideOf] at h
  refine z_iconst (v := 0) fx dX3_sideOf_0 rfl ?_
  refine z_istore_n fx dX3_sideOf_1 (by decide) rfl ?_
  refine z_iconst (v := 1) fx dX3_sideOf_2 rfl ?_
  refine z_istore fx dX3_sideOf_3 (by decide) rfl ?_
  exact z_lv2 (w_X3_sideOf_5 fx hR hr fu a0 a1 a2 0 1 h) rfl
set_option maxRecDepth 100000 in
set_option maxHeartbeats 4000000 in
theorem c_X3_side (l : Launch) (D : va_G) (ad : Nat → Nat) (g : Nat → ClassId) (a1 : Int32) (I : zMi) (J : zMl) {r : Int32 × zMi} (h : f_X3_side a1 I = some r) : zCM (xw D ad g) l yX3_side cX3_side 4 (some .int) rmX3_side [.ref (ad (0)), .int a1] I J (some (.int r.1)) r.2 J := by
  refine zCM.of (by decide) (Nat.le_of_ble_eq_true rfl) (fun E hl hR fx hr => ?_)
  subst hl
  rw [f_X3_side] at h
  refine z_iload_n fx dX3_side_0 rfl ?_
  refine zSi (rest := []) fx hR (c_X3_isRowNumber (zl E) D ad g a1 I J rfl) mvX3_isRowNumber wm_X3_65 dX3_side_1 rfl ⟨rfl, rfl⟩ rfl rfl rfl ?_
  refine z_if_ne (tgt := 9) fx dX3_side_4 (by decide) (fun q1 => ?_) (fun q1 => ?_)
  · rw [if_neg q1] at h
    refine z_aload_n fx dX3_side_9 rfl ?_
    refine gS_rows fx wf_X3_11 dX3_side_10 ?_
    refine z_iload_n fx dX3_side_13 rfl ?_
    obtain ⟨q2, h⟩ := oi h
    refine x_rld fx q2 dX3_side_14 ?_
    refine z_astore_n fx dX3_side_15 (by decide) rfl ?_
    refine z_aload_n fx dX3_side_16 rfl ?_
    obtain ⟨x3, ex3, h⟩ := ob h
    refine zSi (rest := []) fx hR (c_X3_findingOfSigns (zl E) D ad g a1.toNatClampNeg I J (ix_lt q2) ex3) mvX3_findingOfSigns wm_X3_243 dX3_side_17 rfl ⟨rfl, rfl⟩ rfl rfl rfl ?_
    refine z_istore_n fx dX3_side_20 (by decide) rfl ?_
    refine z_iload_n fx dX3_side_21 rfl ?_
    refine z_if_eq (tgt := 31) fx dX3_side_22 (by decide) (fun q4 => ?_) (fun q4 => ?_)
    · rw [if_pos q4] at h
      refine z_aload_n fx dX3_side_31 rfl ?_
      obtain ⟨x5, ex5, h⟩ := ob h
      refine zVi (k := 10 + 2 * a1.toNatClampNeg) (rest := []) fx hR (c_X1_minusBits (zl E) D ad g a1.toNatClampNeg I J (ix_lt q2) ex5) (rcR (ix_lt q2)) mvX1_minusBits wm_X3_247 dX3_side_32 rfl ⟨rfl, rfl⟩ rfl rfl rfl ?_
      refine z_aload_n fx dX3_side_35 rfl ?_
      refine gR_size fx (ix_lt q2) wf_X3_97 dX3_side_36 ?_
      refine z_aload_n fx dX3_side_39 rfl ?_
      refine gR_size fx (ix_lt q2) wf_X3_97 dX3_side_40 ?_
      obtain ⟨x6, ex6, h⟩ := ob h
      refine zSi (rest := []) fx hR (c_X3_sideOf (zl E) D ad g x5 (I (10 + 2 * a1.toNatClampNeg) 1) (I (10 + 2 * a1.toNatClampNeg) 1) I J ex6) mvX3_sideOf wm_X3_254 dX3_side_43 rfl ⟨rfl, rfl⟩ rfl rfl rfl ?_
      cases h
      exact z_iret fx hr dX3_side_46
    · rw [if_neg q4] at h
      refine z_aload_n fx dX3_side_25 rfl ?_
      refine z_iload_n fx dX3_side_26 rfl ?_
      obtain ⟨x7, ex7, h⟩ := ob h
      refine zVi (k := 0) (rest := []) fx hR (c_X3_found (zl E) D ad g x3 I J ex7) rcS mvX3_found wm_X3_69 dX3_side_27 rfl ⟨rfl, rfl⟩ rfl rfl rfl ?_
      cases h
      exact z_iret fx hr dX3_side_30
  · rw [if_pos q1] at h
    refine z_iconst (v := (-1)) fx dX3_side_7 rfl ?_
    cases h
    exact z_iret fx hr dX3_side_8
set_option maxRecDepth 100000 in
set_option maxHeartbeats 4000000 in
theorem c_X3_findingOfPair (l : Launch) (D : va_G) (ad : Nat → Nat) (g : Nat → ClassId) (n0 : Nat) (n1 : Nat) (a2 : Int32) (I : zMi) (J : zMl) (b0 : n0 < 6) (b1 : n1 < 6) {r : Int32} (h : f_X3_findingOfPair n0 n1 a2 I = some r) : zCM (xw D ad g) l yX3_findingOfPair cX3_findingOfPair 3 (some .int) rmX3_findingOfPair [.ref (ad (10 + 2 * n0)), .ref (ad (10 + 2 * n1)), .int a2] I J (some (.int r)) I J := by
  refine zCM.of (by decide) (Nat.le_of_ble_eq_true rfl) (fun E hl hR fx hr => ?_)
  subst hl
  rw [f_X3_findingOfPair] at h
  refine z_aload_n fx dX3_findingOfPair_0 rfl ?_
  refine zVi (k := 10 + 2 * n0) (rest := []) fx hR (c_X1_isMissing (zl E) D ad g n0 I J b0 rfl) (rcR b0) mvX1_isMissing wm_X3_77 dX3_findingOfPair_1 rfl ⟨rfl, rfl⟩ rfl rfl rfl ?_
  refine z_if_ne (tgt := 14) fx dX3_findingOfPair_4 (by decide) (fun q1 => ?_) (fun q1 => ?_)
  · rw [if_neg q1] at h
    refine z_iconst (v := 1) fx dX3_findingOfPair_14 rfl ?_
    cases h
    exact z_iret fx hr dX3_findingOfPair_15
  · rw [if_pos q1] at h
    refine z_aload_n fx dX3_findingOfPair_7 rfl ?_
    refine zVi (k := 10 + 2 * n1) (rest := []) fx hR (c_X1_isMissing (zl E) D ad g n1 I J b1 rfl) (rcR b1) mvX1_isMissing wm_X3_77 dX3_findingOfPair_8 rfl ⟨rfl, rfl⟩ rfl rfl rfl ?_
    refine z_if_eq (tgt := 16) fx dX3_findingOfPair_11 (by decide) (fun q2 => ?_) (fun q2 => ?_)
    · rw [if_pos q2] at h
      refine z_aload_n fx dX3_findingOfPair_16 rfl ?_
      refine gR_size fx b0 wf_X3_97 dX3_findingOfPair_17 ?_
      refine z_if_eq (tgt := 42) fx dX3_findingOfPair_20 (by decide) (fun q3 => ?_) (fun q3 => ?_)
      · rw [if_pos q3] at h
        refine z_iconst (v := 5) fx dX3_findingOfPair_42 rfl ?_
        cases h
        exact z_iret fx hr dX3_findingOfPair_43
      · rw [if_neg q3] at h
        refine z_aload_n fx dX3_findingOfPair_23 rfl ?_
        refine gR_size fx b0 wf_X3_97 dX3_findingOfPair_24 ?_
        refine z_aload_n fx dX3_findingOfPair_27 rfl ?_
        refine gR_size fx b1 wf_X3_97 dX3_findingOfPair_28 ?_
        refine z_icmp_ne (tgt := 42) fx dX3_findingOfPair_31 (by decide) (fun q4 => ?_) (fun q4 => ?_)
        · rw [if_neg q4] at h
          refine z_iconst (v := 5) fx dX3_findingOfPair_42 rfl ?_
          cases h
          exact z_iret fx hr dX3_findingOfPair_43
        · rw [if_pos q4] at h
          refine z_aload_n fx dX3_findingOfPair_34 rfl ?_
          refine gR_size fx b0 wf_X3_97 dX3_findingOfPair_35 ?_
          refine z_iload_n fx dX3_findingOfPair_38 rfl ?_
          refine z_icmp_le (tgt := 44) fx dX3_findingOfPair_39 (by decide) (fun q5 => ?_) (fun q5 => ?_)
          · rw [if_pos q5] at h
            refine z_aload_n fx dX3_findingOfPair_44 rfl ?_
            obtain ⟨x6, ex6, h⟩ := ob h
            refine zVi (k := 10 + 2 * n0) (rest := []) fx hR (c_X1_isSigns (zl E) D ad g n0 I J b0 ex6) (rcR b0) mvX1_isSigns wm_X3_312 dX3_findingOfPair_45 rfl ⟨rfl, rfl⟩ rfl rfl rfl ?_
            refine z_if_eq (tgt := 62) fx dX3_findingOfPair_48 (by decide) (fun q7 => ?_) (fun q7 => ?_)
            · rw [if_pos q7] at h
              refine z_iconst (v := 3) fx dX3_findingOfPair_62 rfl ?_
              cases h
              exact z_iret fx hr dX3_findingOfPair_63
            · rw [if_neg q7] at h
              refine z_aload_n fx dX3_findingOfPair_51 rfl ?_
              obtain ⟨x8, ex8, h⟩ := ob h
              refine zVi (k := 10 + 2 * n1) (rest := []) fx hR (c_X1_isSigns (zl E) D ad g n1 I J b1 ex8) (rcR b1) mvX1_isSigns wm_X3_312 dX3_findingOfPair_52 rfl ⟨rfl, rfl⟩ rfl rfl rfl ?_
              refine z_if_eq (tgt := 62) fx dX3_findingOfPair_55 (by decide) (fun q9 => ?_) (fun q9 => ?_)
              · rw [if_pos q9] at h
                refine z_iconst (v := 3) fx dX3_findingOfPair_62 rfl ?_
                cases h
                exact z_iret fx hr dX3_findingOfPair_63
              · rw [if_neg q9] at h
                refine z_iconst (v := 0) fx dX3_findingOfPair_58 rfl ?_
                refine z_goto (tgt := 63) fx dX3_findingOfPair_59 (by decide) ?_
                cases h
                exact z_iret fx hr dX3_findingOfPair_63
          · rw [if_neg q5] at h
            refine z_iconst (v := 5) fx dX3_findingOfPair_42 rfl ?_
            cases h
            exact z_iret fx hr dX3_findingOfPair_43
    · rw [if_neg q2] at h
      refine z_iconst (v := 1) fx dX3_findingOfPair_14 rfl ?_
      cases h
      exact z_iret fx hr dX3_findingOfPair_15
set_option maxRecDepth 100000 in
set_option maxHeartbeats 4000000 in
theorem w_X3_pairCancels_20 {E : zE} {D : va_G} {ad : Nat → Nat} {g : Nat → ClassId} (fx : zFX E (xw D ad g) cX3_pairCancels RX3 7 (some .boolean)) (hR : zR E = rmX3_pairCancels) {r : Int32} {I : zMi} {J : zMl} (hr : zRX E (xw D ad g) (some (.int r)) I J) : ∀ (fuel : Nat) (a2 : Int32) (a3 : Int32) (a4 : Int32) (a5 : Int32) (a6 : Int32), f_X3_pairCancels_20 I fuel a2 a3 a4 a5 a6 = some r → zAt E (xw D ad g) 20 [(2, .int a2), (3, .int a3), (4, .int a4), (5, .int a5), (6, .int a6)] [] I J := by
  intro fuel
  induction fuel with
  | zero => intro a2 a3 a4 a5 a6 h; rw [f_X3_pairCancels_20] at h; cases h
  | succ f ih =>
    intro a2 a3 a4 a5 a6 h
    rw [f_X3_pairCancels_20] at h
    refine z_iload fx dX3_pairCancels_20 rfl ?_
    refine z_iload_n fx dX3_pairCancels_22 rfl ?_
    refine z_icmp_ge (tgt := 56) fx dX3_pairCancels_23 (by decide) (fun q1 => ?_) (fun q1 => ?_)
    · rw [if_pos q1] at h
      refine z_iconst (v := 1) fx dX3_pairCancels_56 rfl ?_
      cases h
      exact z_zret fx rfl hr dX3_pairCancels_57
    · rw [if_neg q1] at h
      refine z_iload fx dX3_pairCancels_26 rfl ?_
      refine z_iload_n fx dX3_pairCancels_28 rfl ?_
      refine z_iload fx dX3_pairCancels_29 rfl ?_
      refine z_iload_n fx dX3_pairCancels_31 rfl ?_
      refine zSi (rest := []) fx hR (c_X3_echoOf (zl E) D ad g a4 a3 a6 a2 I J rfl) mvX3_echoOf wm_X3_250 dX3_pairCancels_32 rfl ⟨rfl, rfl⟩ rfl rfl rfl ?_
      refine z_iload fx dX3_pairCancels_35 rfl ?_
      refine z_iload_n fx dX3_pairCancels_37 rfl ?_
      refine z_iload fx dX3_pairCancels_38 rfl ?_
      refine z_iload_n fx dX3_pairCancels_40 rfl ?_
      refine zSi (rest := [.int (f_X3_echoOf a4 a3 a6 a2)]) fx hR (c_X3_echoOf (zl E) D ad g a5 a3 a6 a2 I J rfl) mvX3_echoOf wm_X3_250 dX3_pairCancels_41 rfl ⟨rfl, rfl⟩ rfl rfl rfl ?_
      refine z_iadd fx dX3_pairCancels_44 ?_
      refine z_if_eq (tgt := 50) fx dX3_pairCancels_45 (by decide) (fun q2 => ?_) (fun q2 => ?_)
      · rw [if_pos q2] at h
        refine z_iinc (v := (a6 + 1)) fx dX3_pairCancels_50 rfl rfl (by decide) rfl ?_
        refine z_goto (tgt := 20) fx dX3_pairCancels_53 (by decide) ?_
        exact z_lv2 (ih a2 a3 a4 a5 (a6 + 1) h) rfl
      · rw [if_neg q2] at h
        refine z_iconst (v := 0) fx dX3_pairCancels_48 rfl ?_
        cases h
        exact z_zret fx rfl hr dX3_pairCancels_49
set_option maxRecDepth 100000 in
set_option maxHeartbeats 4000000 in
theorem c_X3_pairCancels (l : Launch) (D : va_G) (ad : Nat → Nat) (g : Nat → ClassId) (n0 : Nat) (n1 : Nat) (a2 : Int32) (I : zMi) (J : zMl) (b0 : n0 < 6) (b1 : n1 < 6) {r : Int32} (h : f_X3_pairCancels n0 n1 a2 I = some r) : zCM (xw D ad g) l yX3_pairCancels cX3_pairCancels 7 (some .boolean) rmX3_pairCancels [.ref (ad (10 + 2 * n0)), .ref (ad (10 + 2 * n1)), .int a2] I J (some (.int r)) I J := by
  refine zCM.of (by decide) (Nat.le_of_ble_eq_true rfl) (fun E hl hR fx hr => ?_)
  subst hl
  rw [f_X3_pairCancels] at h
  refine z_aload_n fx dX3_pairCancels_0 rfl ?_
  refine gR_size fx b0 wf_X3_97 dX3_pairCancels_1 ?_
  refine z_istore_n fx dX3_pairCancels_4 (by decide) rfl ?_
  refine z_aload_n fx dX3_pairCancels_5 rfl ?_
  obtain ⟨x1, ex1, h⟩ := ob h
  refine zVi (k := 10 + 2 * n0) (rest := []) fx hR (c_X1_minusBits (zl E) D ad g n0 I J b0 ex1) (rcR b0) mvX1_minusBits wm_X3_247 dX3_pairCancels_6 rfl ⟨rfl, rfl⟩ rfl rfl rfl ?_
  refine z_istore fx dX3_pairCancels_9 (by decide) rfl ?_
  refine z_aload_n fx dX3_pairCancels_11 rfl ?_
  obtain ⟨x2, ex2, h⟩ := ob h
  refine zVi (k := 10 + 2 * n1) (rest := []) fx hR (c_X1_minusBits (zl E) D ad g n1 I J b1 ex2) (rcR b1) mvX1_minusBits wm_X3_247 dX3_pairCancels_12 rfl ⟨rfl, rfl⟩ rfl rfl rfl ?_
  refine z_istore fx dX3_pairCancels_15 (by decide) rfl ?_
  refine z_iconst (v := 1) fx dX3_pairCancels_17 rfl ?_
  refine z_istore fx dX3_pairCancels_18 (by decide) rfl ?_
  exact z_lv2 (w_X3_pairCancels_20 fx hR hr fu a2 (I (10 + 2 * n0) 1) x1 x2 1 h) rfl
set_option maxRecDepth 100000 in
set_option maxHeartbeats 4000000 in
theorem c_X3_cancels (l : Launch) (D : va_G) (ad : Nat → Nat) (g : Nat → ClassId) (a1 : Int32) (a2 : Int32) (a3 : Int32) (I : zMi) (J : zMl) {r : Int32 × zMi} (h : f_X3_cancels a1 a2 a3 I = some r) : zCM (xw D ad g) l yX3_cancels cX3_cancels 7 (some .int) rmX3_cancels [.ref (ad (0)), .int a1, .int a2, .int a3] I J (some (.int r.1)) r.2 J := by
  refine zCM.of (by decide) (Nat.le_of_ble_eq_true rfl) (fun E hl hR fx hr => ?_)
  subst hl
  rw [f_X3_cancels] at h
  refine z_iload_n fx dX3_cancels_0 rfl ?_
  refine zSi (rest := []) fx hR (c_X3_isRowNumber (zl E) D ad g a1 I J rfl) mvX3_isRowNumber wm_X3_65 dX3_cancels_1 rfl ⟨rfl, rfl⟩ rfl rfl rfl ?_
  refine z_if_eq (tgt := 14) fx dX3_cancels_4 (by decide) (fun q1 => ?_) (fun q1 => ?_)
  · rw [if_pos q1] at h
    refine z_iconst (v := (-1)) fx dX3_cancels_14 rfl ?_
    cases h
    exact z_iret fx hr dX3_cancels_15
  · rw [if_neg q1] at h
    refine z_iload_n fx dX3_cancels_7 rfl ?_
    refine zSi (rest := []) fx hR (c_X3_isRowNumber (zl E) D ad g a2 I J rfl) mvX3_isRowNumber wm_X3_65 dX3_cancels_8 rfl ⟨rfl, rfl⟩ rfl rfl rfl ?_
    refine z_if_ne (tgt := 16) fx dX3_cancels_11 (by decide) (fun q2 => ?_) (fun q2 => ?_)
    · rw [if_neg q2] at h
      refine z_aload_n fx dX3_cancels_16 rfl ?_
      refine gS_rows fx wf_X3_11 dX3_cancels_17 ?_
      refine z_iload_n fx dX3_cancels_20 rfl ?_
      obtain ⟨q3, h⟩ := oi h
      refine x_rld fx q3 dX3_cancels_21 ?_
      refine z_astore fx dX3_cancels_22 (by decide) rfl ?_
      refine z_aload_n fx dX3_cancels_24 rfl ?_
      refine gS_rows fx wf_X3_11 dX3_cancels_25 ?_
      refine z_iload_n fx dX3_cancels_28 rfl ?_
      obtain ⟨q4, h⟩ := oi h
      refine x_rld fx q4 dX3_cancels_29 ?_
      refine z_astore fx dX3_cancels_30 (by decide) rfl ?_
      refine z_aload fx dX3_cancels_32 rfl ?_
      refine z_aload fx dX3_cancels_34 rfl ?_
      refine z_bipush (v := 24) fx dX3_cancels_36 rfl ?_
      obtain ⟨x5, ex5, h⟩ := ob h
      refine zSi (rest := []) fx hR (c_X3_findingOfPair (zl E) D ad g a1.toNatClampNeg a2.toNatClampNeg 24 I J (ix_lt q3) (ix_lt q4) ex5) mvX3_findingOfPair wm_X3_258 dX3_cancels_38 rfl ⟨rfl, rfl⟩ rfl rfl rfl ?_
      refine z_istore fx dX3_cancels_41 (by decide) rfl ?_
      refine z_iload fx dX3_cancels_43 rfl ?_
      refine z_if_eq (tgt := 55) fx dX3_cancels_45 (by decide) (fun q6 => ?_) (fun q6 => ?_)
      · rw [if_pos q6] at h
        refine z_aload fx dX3_cancels_55 rfl ?_
        refine z_aload fx dX3_cancels_57 rfl ?_
        refine z_iload_n fx dX3_cancels_59 rfl ?_
        obtain ⟨x7, ex7, h⟩ := ob h
        refine zSi (rest := []) fx hR (c_X3_pairCancels (zl E) D ad g a1.toNatClampNeg a2.toNatClampNeg a3 I J (ix_lt q3) (ix_lt q4) ex7) mvX3_pairCancels wm_X3_262 dX3_cancels_60 rfl ⟨rfl, rfl⟩ rfl rfl rfl ?_
        refine z_if_eq (tgt := 70) fx dX3_cancels_63 (by decide) (fun q8 => ?_) (fun q8 => ?_)
        · rw [if_pos q8] at h
          refine z_iconst (v := 0) fx dX3_cancels_70 rfl ?_
          cases h
          exact z_iret fx hr dX3_cancels_71
        · rw [if_neg q8] at h
          refine z_iconst (v := 1) fx dX3_cancels_66 rfl ?_
          refine z_goto (tgt := 71) fx dX3_cancels_67 (by decide) ?_
          cases h
          exact z_iret fx hr dX3_cancels_71
      · rw [if_neg q6] at h
        refine z_aload_n fx dX3_cancels_48 rfl ?_
        refine z_iload fx dX3_cancels_49 rfl ?_
        obtain ⟨x9, ex9, h⟩ := ob h
        refine zVi (k := 0) (rest := []) fx hR (c_X3_found (zl E) D ad g x5 I J ex9) rcS mvX3_found wm_X3_69 dX3_cancels_51 rfl ⟨rfl, rfl⟩ rfl rfl rfl ?_
        cases h
        exact z_iret fx hr dX3_cancels_54
    · rw [if_pos q2] at h
      refine z_iconst (v := (-1)) fx dX3_cancels_14 rfl ?_
      cases h
      exact z_iret fx hr dX3_cancels_15
set_option maxRecDepth 100000 in
set_option maxHeartbeats 4000000 in
theorem w_X3_echoKey_5 {E : zE} {D : va_G} {ad : Nat → Nat} {g : Nat → ClassId} (fx : zFX E (xw D ad g) cX3_echoKey RX3 5 (some .long)) (hR : zR E = rmX3_echoKey) {r : Int64} {I : zMi} {J : zMl} (hr : zRX E (xw D ad g) (some (.long r)) I J) : ∀ (fuel : Nat) (a0 : Int32) (a1 : Int32) (a2 : Int64) (a4 : Int32), f_X3_echoKey_5 fuel a0 a1 a2 a4 = some r → zAt E (xw D ad g) 5 [(0, .int a0), (1, .int a1), (2, .long a2), (4, .int a4)] [] I J := by
  intro fuel
  induction fuel with
  | zero => intro a0 a1 a2 a4 h; rw [f_X3_echoKey_5] at h; cases h
  | succ f ih =>
    intro a0 a1 a2 a4 h
    rw [f_X3_echoKey_5] at h
    refine z_iload fx dX3_echoKey_5 rfl ?_
    refine z_iload_n fx dX3_echoKey_7 rfl ?_
    refine z_icmp_ge (tgt := 33) fx dX3_echoKey_8 (by decide) (fun q1 => ?_) (fun q1 => ?_)
    · rw [if_pos q1] at h
      refine z_lload_n fx dX3_echoKey_33 rfl ?_
      cases h
      exact z_lret fx hr dX3_echoKey_34
    · rw [if_neg q1] at h
      refine z_lload_n fx dX3_echoKey_11 rfl ?_
      refine z_ldc2 fx wc_X3_341 dX3_echoKey_12 ?_
      refine z_lmul fx dX3_echoKey_15 ?_
      refine z_iload_n fx dX3_echoKey_16 rfl ?_
      refine z_iload_n fx dX3_echoKey_17 rfl ?_
      refine z_iload fx dX3_echoKey_18 rfl ?_
      refine z_iconst (v := 0) fx dX3_echoKey_20 rfl ?_
      refine zSi (rest := [.long (a2 * 32)]) fx hR (c_X3_echoOf (zl E) D ad g a0 a1 a4 0 I J rfl) mvX3_echoOf wm_X3_250 dX3_echoKey_21 rfl ⟨rfl, rfl⟩ rfl rfl rfl ?_
      refine z_i2l fx dX3_echoKey_24 ?_
      refine z_ladd fx dX3_echoKey_25 ?_
      refine z_lstore_n fx dX3_echoKey_26 (by decide) rfl ?_
      refine z_iinc (v := (a4 + 1)) fx dX3_echoKey_27 rfl rfl (by decide) rfl ?_
      refine z_goto (tgt := 5) fx dX3_echoKey_30 (by decide) ?_
      exact z_lv2 (ih a0 a1 ((a2 * 32) + ((f_X3_echoOf a0 a1 a4 0).toInt64)) (a4 + 1) h) rfl
set_option maxRecDepth 100000 in
set_option maxHeartbeats 4000000 in
theorem c_X3_echoKey (l : Launch) (D : va_G) (ad : Nat → Nat) (g : Nat → ClassId) (a0 : Int32) (a1 : Int32) (I : zMi) (J : zMl) {r : Int64} (h : f_X3_echoKey a0 a1 = some r) : zCM (xw D ad g) l yX3_echoKey cX3_echoKey 5 (some .long) rmX3_echoKey [.int a0, .int a1] I J (some (.long r)) I J := by
  refine zCM.of (by decide) (Nat.le_of_ble_eq_true rfl) (fun E hl hR fx hr => ?_)
  subst hl
  rw [f_X3_echoKey] at h
  refine z_lconst (v := 0) fx dX3_echoKey_0 rfl ?_
  refine z_lstore_n fx dX3_echoKey_1 (by decide) rfl ?_
  refine z_iconst (v := 1) fx dX3_echoKey_2 rfl ?_
  refine z_istore fx dX3_echoKey_3 (by decide) rfl ?_
  exact z_lv2 (w_X3_echoKey_5 fx hR hr fu a0 a1 0 1 h) rfl
set_option maxRecDepth 100000 in
set_option maxHeartbeats 4000000 in
theorem w_X3_pairs_57 {E : zE} {D : va_G} {ad : Nat → Nat} {g : Nat → ClassId} (fx : zFX E (xw D ad g) cX3_pairs RX3 6 (some .int)) (hR : zR E = rmX3_pairs) {r : Int32 × zMl} {I : zMi} (hr : zRX E (xw D ad g) (some (.int r.1)) I r.2) {k48 : Int32 → Int32 → Int32 → zMl → Option (Int32 × zMl)} (hk48 : ∀ (a2 : Int32) (a3 : Int32) (a4 : Int32) (J : zMl) , k48 a2 a3 a4 J = some r → zAt E (xw D ad g) 48 [(0, .ref (ad (0))), (2, .int a2), (3, .int a3), (4, .int a4)] [] I J) : ∀ (fuel : Nat) (a2 : Int32) (a3 : Int32) (a4 : Int32) (a5 : Int32) (J : zMl) , f_X3_pairs_57 k48 fuel a2 a3 a4 a5 J = some r → zAt E (xw D ad g) 57 [(0, .ref (ad (0))), (2, .int a2), (3, .int a3), (4, .int a4), (5, .int a5)] [] I J := by
  intro fuel
  induction fuel with
  | zero => intro a2 a3 a4 a5 J h; rw [f_X3_pairs_57] at h; cases h
  | succ f ih =>
    intro a2 a3 a4 a5 J h
    rw [f_X3_pairs_57] at h
    refine z_iload fx dX3_pairs_57 rfl ?_
    refine z_iload_n fx dX3_pairs_59 rfl ?_
    refine z_icmp_ge (tgt := 92) fx dX3_pairs_60 (by decide) (fun q1 => ?_) (fun q1 => ?_)
    · rw [if_pos q1] at h
      refine z_iinc (v := (a4 + 1)) fx dX3_pairs_92 rfl rfl (by decide) rfl ?_
      refine z_goto (tgt := 48) fx dX3_pairs_95 (by decide) ?_
      exact z_lv2 (hk48 a2 a3 (a4 + 1) J h) rfl
    · rw [if_neg q1] at h
      refine z_aload_n fx dX3_pairs_63 rfl ?_
      refine gS_echoKeys fx wf_X3_40 dX3_pairs_64 ?_
      refine z_iload fx dX3_pairs_67 rfl ?_
      obtain ⟨q2, h⟩ := oi h
      refine x_lld fx (Nat.le_of_ble_eq_true rfl) (cfX_8 g ad) q2 dX3_pairs_69 ?_
      refine z_aload_n fx dX3_pairs_70 rfl ?_
      refine gS_echoKeys fx wf_X3_40 dX3_pairs_71 ?_
      refine z_iload fx dX3_pairs_74 rfl ?_
      obtain ⟨q3, h⟩ := oi h
      refine x_lld fx (Nat.le_of_ble_eq_true rfl) (cfX_8 g ad) q3 dX3_pairs_76 ?_
      refine z_ladd fx dX3_pairs_77 ?_
      refine z_lconst (v := 0) fx dX3_pairs_78 rfl ?_
      refine z_lcmp fx dX3_pairs_79 ?_
      refine z_if_ne (tgt := 86) fx dX3_pairs_80 (by decide) (fun q4 => ?_) (fun q4 => ?_)
      · rw [if_neg q4] at h
        refine z_iinc (v := (a5 + 1)) fx dX3_pairs_86 rfl rfl (by decide) rfl ?_
        refine z_goto (tgt := 57) fx dX3_pairs_89 (by decide) ?_
        exact z_lv2 (ih a2 a3 a4 (a5 + 1) J h) rfl
      · rw [if_pos q4] at h
        refine z_iinc (v := (a3 + 1)) fx dX3_pairs_83 rfl rfl (by decide) rfl ?_
        refine z_iinc (v := (a5 + 1)) fx dX3_pairs_86 rfl rfl (by decide) rfl ?_
        refine z_goto (tgt := 57) fx dX3_pairs_89 (by decide) ?_
        exact z_lv2 (ih a2 (a3 + 1) a4 (a5 + 1) J h) rfl
set_option maxRecDepth 100000 in
set_option maxHeartbeats 4000000 in
theorem w_X3_pairs_48 {E : zE} {D : va_G} {ad : Nat → Nat} {g : Nat → ClassId} (fx : zFX E (xw D ad g) cX3_pairs RX3 6 (some .int)) (hR : zR E = rmX3_pairs) {r : Int32 × zMl} {I : zMi} (hr : zRX E (xw D ad g) (some (.int r.1)) I r.2) : ∀ (fuel : Nat) (a2 : Int32) (a3 : Int32) (a4 : Int32) (J : zMl) , f_X3_pairs_48 fuel a2 a3 a4 J = some r → zAt E (xw D ad g) 48 [(0, .ref (ad (0))), (2, .int a2), (3, .int a3), (4, .int a4)] [] I J := by
  intro fuel
  induction fuel with
  | zero => intro a2 a3 a4 J h; rw [f_X3_pairs_48] at h; cases h
  | succ f ih =>
    intro a2 a3 a4 J h
    rw [f_X3_pairs_48] at h
    refine z_iload fx dX3_pairs_48 rfl ?_
    refine z_iload_n fx dX3_pairs_50 rfl ?_
    refine z_icmp_ge (tgt := 98) fx dX3_pairs_51 (by decide) (fun q1 => ?_) (fun q1 => ?_)
    · rw [if_pos q1] at h
      refine z_iconst (v := 4) fx dX3_pairs_98 rfl ?_
      refine z_iload_n fx dX3_pairs_99 rfl ?_
      refine z_imul fx dX3_pairs_100 ?_
      cases h
      exact z_iret fx hr dX3_pairs_101
    · rw [if_neg q1] at h
      refine z_iconst (v := 0) fx dX3_pairs_54 rfl ?_
      refine z_istore fx dX3_pairs_55 (by decide) rfl ?_
      exact z_lv2 (w_X3_pairs_57 fx hR hr ih fu a2 a3 a4 0 J h) rfl
set_option maxRecDepth 100000 in
set_option maxHeartbeats 4000000 in
theorem w_X3_pairs_21 {E : zE} {D : va_G} {ad : Nat → Nat} {g : Nat → ClassId} (fx : zFX E (xw D ad g) cX3_pairs RX3 6 (some .int)) (hR : zR E = rmX3_pairs) {r : Int32 × zMl} {I : zMi} (hr : zRX E (xw D ad g) (some (.int r.1)) I r.2) : ∀ (fuel : Nat) (a1 : Int32) (a2 : Int32) (a3 : Int32) (J : zMl) , f_X3_pairs_21 fuel a1 a2 a3 J = some r → zAt E (xw D ad g) 21 [(0, .ref (ad (0))), (1, .int a1), (2, .int a2), (3, .int a3)] [] I J := by
  intro fuel
  induction fuel with
  | zero => intro a1 a2 a3 J h; rw [f_X3_pairs_21] at h; cases h
  | succ f ih =>
    intro a1 a2 a3 J h
    rw [f_X3_pairs_21] at h
    refine z_iload_n fx dX3_pairs_21 rfl ?_
    refine z_iload_n fx dX3_pairs_22 rfl ?_
    refine z_icmp_ge (tgt := 43) fx dX3_pairs_23 (by decide) (fun q1 => ?_) (fun q1 => ?_)
    · rw [if_pos q1] at h
      refine z_iconst (v := 0) fx dX3_pairs_43 rfl ?_
      refine z_istore_n fx dX3_pairs_44 (by decide) rfl ?_
      refine z_iconst (v := 0) fx dX3_pairs_45 rfl ?_
      refine z_istore fx dX3_pairs_46 (by decide) rfl ?_
      exact z_lv2 (w_X3_pairs_48 fx hR hr fu a2 0 0 J h) rfl
    · rw [if_neg q1] at h
      refine z_aload_n fx dX3_pairs_26 rfl ?_
      refine gS_echoKeys fx wf_X3_40 dX3_pairs_27 ?_
      refine z_iload_n fx dX3_pairs_30 rfl ?_
      refine z_iload_n fx dX3_pairs_31 rfl ?_
      refine z_iload_n fx dX3_pairs_32 rfl ?_
      obtain ⟨x2, ex2, h⟩ := ob h
      refine zSl (rest := [.int a3, .ref (ad (8))]) fx hR (c_X3_echoKey (zl E) D ad g a3 a1 I J ex2) mvX3_echoKey wm_X3_266 dX3_pairs_33 rfl ⟨rfl, rfl⟩ rfl rfl rfl ?_
      obtain ⟨q3, h⟩ := oi h
      refine x_lst fx (Nat.le_of_ble_eq_true rfl) (cfX_8 g ad) q3 dX3_pairs_36 ?_
      refine z_iinc (v := (a3 + 1)) fx dX3_pairs_37 rfl rfl (by decide) rfl ?_
      refine z_goto (tgt := 21) fx dX3_pairs_40 (by decide) ?_
      exact z_lv2 (ih a1 a2 (a3 + 1) (wJ J (8) a3.toNatClampNeg x2) h) rfl
set_option maxRecDepth 100000 in
set_option maxHeartbeats 4000000 in
theorem c_X3_pairs (l : Launch) (D : va_G) (ad : Nat → Nat) (g : Nat → ClassId) (a1 : Int32) (I : zMi) (J : zMl) {r : Int32 × zMl} (h : f_X3_pairs a1 J = some r) : zCM (xw D ad g) l yX3_pairs cX3_pairs 6 (some .int) rmX3_pairs [.ref (ad (0)), .int a1] I J (some (.int r.1)) I r.2 := by
  refine zCM.of (by decide) (Nat.le_of_ble_eq_true rfl) (fun E hl hR fx hr => ?_)
  subst hl
  rw [f_X3_pairs] at h
  refine z_iload_n fx dX3_pairs_0 rfl ?_
  refine z_iconst (v := 1) fx dX3_pairs_1 rfl ?_
  refine z_icmp_lt (tgt := 11) fx dX3_pairs_2 (by decide) (fun q1 => ?_) (fun q1 => ?_)
  · rw [if_pos q1] at h
    refine z_iconst (v := (-1)) fx dX3_pairs_11 rfl ?_
    cases h
    exact z_iret fx hr dX3_pairs_12
  · rw [if_neg q1] at h
    refine z_iload_n fx dX3_pairs_5 rfl ?_
    refine z_bipush (v := 8) fx dX3_pairs_6 rfl ?_
    refine z_icmp_le (tgt := 13) fx dX3_pairs_8 (by decide) (fun q2 => ?_) (fun q2 => ?_)
    · rw [if_pos q2] at h
      refine z_iconst (v := 1) fx dX3_pairs_13 rfl ?_
      refine z_iload_n fx dX3_pairs_14 rfl ?_
      refine z_iconst (v := 1) fx dX3_pairs_15 rfl ?_
      refine z_isub fx dX3_pairs_16 ?_
      refine z_ishl fx dX3_pairs_17 ?_
      refine z_istore_n fx dX3_pairs_18 (by decide) rfl ?_
      refine z_iconst (v := 0) fx dX3_pairs_19 rfl ?_
      refine z_istore_n fx dX3_pairs_20 (by decide) rfl ?_
      exact z_lv2 (w_X3_pairs_21 fx hR hr fu a1 ((1 : Int32) <<< ((a1 - 1) &&& 31)) 0 J h) rfl
    · rw [if_neg q2] at h
      refine z_iconst (v := (-1)) fx dX3_pairs_11 rfl ?_
      cases h
      exact z_iret fx hr dX3_pairs_12
set_option maxRecDepth 100000 in
set_option maxHeartbeats 4000000 in
theorem w_X3_leastSide_28 {E : zE} {D : va_G} {ad : Nat → Nat} {g : Nat → ClassId} (fx : zFX E (xw D ad g) cX3_leastSide RX3 7 (some .int)) (hR : zR E = rmX3_leastSide) {r : Int32 × zMi} {J : zMl} (hr : zRX E (xw D ad g) (some (.int r.1)) r.2 J) : ∀ (fuel : Nat) (a1 : Int32) (a2 : Int32) (a3 : Int32) (a4 : Int32) (a5 : Int32) (I : zMi) , f_X3_leastSide_28 fuel a1 a2 a3 a4 a5 I = some r → zAt E (xw D ad g) 28 [(0, .ref (ad (0))), (1, .int a1), (2, .int a2), (3, .int a3), (4, .int a4), (5, .int a5)] [] I J := by
  intro fuel
  induction fuel with
  | zero => intro a1 a2 a3 a4 a5 I h; rw [f_X3_leastSide_28] at h; cases h
  | succ f ih =>
    intro a1 a2 a3 a4 a5 I h
    rw [f_X3_leastSide_28] at h
    refine z_iload fx dX3_leastSide_28 rfl ?_
    refine z_iconst (v := 1) fx dX3_leastSide_30 rfl ?_
    refine z_iload_n fx dX3_leastSide_31 rfl ?_
    refine z_iconst (v := 1) fx dX3_leastSide_32 rfl ?_
    refine z_isub fx dX3_leastSide_33 ?_
    refine z_ishl fx dX3_leastSide_34 ?_
    refine z_icmp_ge (tgt := 66) fx dX3_leastSide_35 (by decide) (fun q1 => ?_) (fun q1 => ?_)
    · rw [if_pos q1] at h
      refine z_aload_n fx dX3_leastSide_66 rfl ?_
      refine gS_rows fx wf_X3_11 dX3_leastSide_67 ?_
      refine z_iload_n fx dX3_leastSide_70 rfl ?_
      obtain ⟨q2, h⟩ := oi h
      refine x_rld fx q2 dX3_leastSide_71 ?_
      refine z_iload_n fx dX3_leastSide_72 rfl ?_
      refine z_iload fx dX3_leastSide_73 rfl ?_
      obtain ⟨x3, ex3, h⟩ := ob h
      refine zVv (k := 10 + 2 * a2.toNatClampNeg) (rest := []) fx hR (c_X1_beginSigns (zl E) D ad g a2.toNatClampNeg a1 a4 I J (ix_lt q2) ex3) (rcR (ix_lt q2)) mvX1_beginSigns wm_X3_73 dX3_leastSide_75 rfl ⟨rfl, rfl⟩ rfl rfl rfl ?_
      refine z_iload_n fx dX3_leastSide_78 rfl ?_
      cases h
      exact z_iret fx hr dX3_leastSide_79
    · rw [if_neg q1] at h
      refine z_iload fx dX3_leastSide_38 rfl ?_
      refine z_iload_n fx dX3_leastSide_40 rfl ?_
      refine z_iload_n fx dX3_leastSide_41 rfl ?_
      obtain ⟨x4, ex4, h⟩ := ob h
      refine zSi (rest := []) fx hR (c_X3_sideOf (zl E) D ad g a5 a1 a3 I J ex4) mvX3_sideOf wm_X3_254 dX3_leastSide_42 rfl ⟨rfl, rfl⟩ rfl rfl rfl ?_
      refine z_istore fx dX3_leastSide_45 (by decide) rfl ?_
      refine z_iload fx dX3_leastSide_47 rfl ?_
      refine z_iload_n fx dX3_leastSide_49 rfl ?_
      refine z_icmp_ge (tgt := 60) fx dX3_leastSide_50 (by decide) (fun q5 => ?_) (fun q5 => ?_)
      · rw [if_pos q5] at h
        refine z_iinc (v := (a5 + 1)) fx dX3_leastSide_60 rfl rfl (by decide) rfl ?_
        refine z_goto (tgt := 28) fx dX3_leastSide_63 (by decide) ?_
        exact z_lv2 (ih a1 a2 a3 a4 (a5 + 1) I h) rfl
      · rw [if_neg q5] at h
        refine z_iload fx dX3_leastSide_53 rfl ?_
        refine z_istore_n fx dX3_leastSide_55 (by decide) rfl ?_
        refine z_iload fx dX3_leastSide_56 rfl ?_
        refine z_istore fx dX3_leastSide_58 (by decide) rfl ?_
        refine z_iinc (v := (a5 + 1)) fx dX3_leastSide_60 rfl rfl (by decide) rfl ?_
        refine z_goto (tgt := 28) fx dX3_leastSide_63 (by decide) ?_
        exact z_lv2 (ih a1 a2 x4 a5 (a5 + 1) I h) rfl
set_option maxRecDepth 100000 in
set_option maxHeartbeats 4000000 in
theorem c_X3_leastSide (l : Launch) (D : va_G) (ad : Nat → Nat) (g : Nat → ClassId) (a1 : Int32) (a2 : Int32) (I : zMi) (J : zMl) {r : Int32 × zMi} (h : f_X3_leastSide a1 a2 I = some r) : zCM (xw D ad g) l yX3_leastSide cX3_leastSide 7 (some .int) rmX3_leastSide [.ref (ad (0)), .int a1, .int a2] I J (some (.int r.1)) r.2 J := by
  refine zCM.of (by decide) (Nat.le_of_ble_eq_true rfl) (fun E hl hR fx hr => ?_)
  subst hl
  rw [f_X3_leastSide] at h
  refine z_iload_n fx dX3_leastSide_0 rfl ?_
  refine z_iconst (v := 1) fx dX3_leastSide_1 rfl ?_
  refine z_icmp_lt (tgt := 18) fx dX3_leastSide_2 (by decide) (fun q1 => ?_) (fun q1 => ?_)
  · rw [if_pos q1] at h
    refine z_iconst (v := (-1)) fx dX3_leastSide_18 rfl ?_
    cases h
    exact z_iret fx hr dX3_leastSide_19
  · rw [if_neg q1] at h
    refine z_iload_n fx dX3_leastSide_5 rfl ?_
    refine z_bipush (v := 12) fx dX3_leastSide_6 rfl ?_
    refine z_icmp_gt (tgt := 18) fx dX3_leastSide_8 (by decide) (fun q2 => ?_) (fun q2 => ?_)
    · rw [if_pos q2] at h
      refine z_iconst (v := (-1)) fx dX3_leastSide_18 rfl ?_
      cases h
      exact z_iret fx hr dX3_leastSide_19
    · rw [if_neg q2] at h
      refine z_iload_n fx dX3_leastSide_11 rfl ?_
      refine zSi (rest := []) fx hR (c_X3_isRowNumber (zl E) D ad g a2 I J rfl) mvX3_isRowNumber wm_X3_65 dX3_leastSide_12 rfl ⟨rfl, rfl⟩ rfl rfl rfl ?_
      refine z_if_ne (tgt := 20) fx dX3_leastSide_15 (by decide) (fun q3 => ?_) (fun q3 => ?_)
      · rw [if_neg q3] at h
        refine z_iload_n fx dX3_leastSide_20 rfl ?_
        refine z_istore_n fx dX3_leastSide_21 (by decide) rfl ?_
        refine z_iconst (v := 0) fx dX3_leastSide_22 rfl ?_
        refine z_istore fx dX3_leastSide_23 (by decide) rfl ?_
        refine z_iconst (v := 0) fx dX3_leastSide_25 rfl ?_
        refine z_istore fx dX3_leastSide_26 (by decide) rfl ?_
        exact z_lv2 (w_X3_leastSide_28 fx hR hr fu a1 a2 a1 0 0 I h) rfl
      · rw [if_pos q3] at h
        refine z_iconst (v := (-1)) fx dX3_leastSide_18 rfl ?_
        cases h
        exact z_iret fx hr dX3_leastSide_19
set_option maxRecDepth 100000 in
set_option maxHeartbeats 4000000 in
theorem c_X3_longer (l : Launch) (D : va_G) (ad : Nat → Nat) (g : Nat → ClassId) (a1 : Int32) (a2 : Int32) (a3 : Int32) (a4 : Int32) (I : zMi) (J : zMl) {r : Int32 × zMi} (h : f_X3_longer a1 a2 a3 a4 I = some r) : zCM (xw D ad g) l yX3_longer cX3_longer 11 (some .int) rmX3_longer [.ref (ad (0)), .int a1, .int a2, .int a3, .int a4] I J (some (.int r.1)) r.2 J := by
  refine zCM.of (by decide) (Nat.le_of_ble_eq_true rfl) (fun E hl hR fx hr => ?_)
  subst hl
  rw [f_X3_longer] at h
  refine z_iload_n fx dX3_longer_0 rfl ?_
  refine zSi (rest := []) fx hR (c_X3_isRowNumber (zl E) D ad g a1 I J rfl) mvX3_isRowNumber wm_X3_65 dX3_longer_1 rfl ⟨rfl, rfl⟩ rfl rfl rfl ?_
  refine z_if_eq (tgt := 35) fx dX3_longer_4 (by decide) (fun q1 => ?_) (fun q1 => ?_)
  · rw [if_pos q1] at h
    refine z_iconst (v := (-1)) fx dX3_longer_35 rfl ?_
    cases h
    exact z_iret fx hr dX3_longer_36
  · rw [if_neg q1] at h
    refine z_iload_n fx dX3_longer_7 rfl ?_
    refine zSi (rest := []) fx hR (c_X3_isRowNumber (zl E) D ad g a2 I J rfl) mvX3_isRowNumber wm_X3_65 dX3_longer_8 rfl ⟨rfl, rfl⟩ rfl rfl rfl ?_
    refine z_if_eq (tgt := 35) fx dX3_longer_11 (by decide) (fun q2 => ?_) (fun q2 => ?_)
    · rw [if_pos q2] at h
      refine z_iconst (v := (-1)) fx dX3_longer_35 rfl ?_
      cases h
      exact z_iret fx hr dX3_longer_36
    · rw [if_neg q2] at h
      refine z_iload_n fx dX3_longer_14 rfl ?_
      refine zSi (rest := []) fx hR (c_X3_isRowNumber (zl E) D ad g a3 I J rfl) mvX3_isRowNumber wm_X3_65 dX3_longer_15 rfl ⟨rfl, rfl⟩ rfl rfl rfl ?_
      refine z_if_eq (tgt := 35) fx dX3_longer_18 (by decide) (fun q3 => ?_) (fun q3 => ?_)
      · rw [if_pos q3] at h
        refine z_iconst (v := (-1)) fx dX3_longer_35 rfl ?_
        cases h
        exact z_iret fx hr dX3_longer_36
      · rw [if_neg q3] at h
        refine z_iload fx dX3_longer_21 rfl ?_
        refine zSi (rest := []) fx hR (c_X3_isRowNumber (zl E) D ad g a4 I J rfl) mvX3_isRowNumber wm_X3_65 dX3_longer_23 rfl ⟨rfl, rfl⟩ rfl rfl rfl ?_
        refine z_if_eq (tgt := 35) fx dX3_longer_26 (by decide) (fun q4 => ?_) (fun q4 => ?_)
        · rw [if_pos q4] at h
          refine z_iconst (v := (-1)) fx dX3_longer_35 rfl ?_
          cases h
          exact z_iret fx hr dX3_longer_36
        · rw [if_neg q4] at h
          refine z_iload_n fx dX3_longer_29 rfl ?_
          refine z_iload fx dX3_longer_30 rfl ?_
          refine z_icmp_ne (tgt := 37) fx dX3_longer_32 (by decide) (fun q5 => ?_) (fun q5 => ?_)
          · rw [if_neg q5] at h
            refine z_aload_n fx dX3_longer_37 rfl ?_
            refine gS_rows fx wf_X3_11 dX3_longer_38 ?_
            refine z_iload_n fx dX3_longer_41 rfl ?_
            obtain ⟨q6, h⟩ := oi h
            refine x_rld fx q6 dX3_longer_42 ?_
            refine z_astore fx dX3_longer_43 (by decide) rfl ?_
            refine z_aload_n fx dX3_longer_45 rfl ?_
            refine gS_rows fx wf_X3_11 dX3_longer_46 ?_
            refine z_iload_n fx dX3_longer_49 rfl ?_
            obtain ⟨q7, h⟩ := oi h
            refine x_rld fx q7 dX3_longer_50 ?_
            refine z_astore fx dX3_longer_51 (by decide) rfl ?_
            refine z_aload fx dX3_longer_53 rfl ?_
            refine z_aload fx dX3_longer_55 rfl ?_
            refine z_bipush (v := 12) fx dX3_longer_57 rfl ?_
            obtain ⟨x8, ex8, h⟩ := ob h
            refine zSi (rest := []) fx hR (c_X3_findingOfPair (zl E) D ad g a1.toNatClampNeg a2.toNatClampNeg 12 I J (ix_lt q6) (ix_lt q7) ex8) mvX3_findingOfPair wm_X3_258 dX3_longer_59 rfl ⟨rfl, rfl⟩ rfl rfl rfl ?_
            refine z_istore fx dX3_longer_62 (by decide) rfl ?_
            refine z_iload fx dX3_longer_64 rfl ?_
            refine z_if_eq (tgt := 76) fx dX3_longer_66 (by decide) (fun q9 => ?_) (fun q9 => ?_)
            · rw [if_pos q9] at h
              refine z_aload fx dX3_longer_76 rfl ?_
              refine z_aload fx dX3_longer_78 rfl ?_
              refine z_iconst (v := 0) fx dX3_longer_80 rfl ?_
              obtain ⟨x10, ex10, h⟩ := ob h
              refine zSi (rest := []) fx hR (c_X3_pairCancels (zl E) D ad g a1.toNatClampNeg a2.toNatClampNeg 0 I J (ix_lt q6) (ix_lt q7) ex10) mvX3_pairCancels wm_X3_262 dX3_longer_81 rfl ⟨rfl, rfl⟩ rfl rfl rfl ?_
              refine z_if_ne (tgt := 90) fx dX3_longer_84 (by decide) (fun q11 => ?_) (fun q11 => ?_)
              · rw [if_neg q11] at h
                refine z_aload fx dX3_longer_90 rfl ?_
                refine gR_size fx (ix_lt q6) wf_X3_97 dX3_longer_92 ?_
                refine z_istore fx dX3_longer_95 (by decide) rfl ?_
                refine z_aload fx dX3_longer_97 rfl ?_
                obtain ⟨x12, ex12, h⟩ := ob h
                refine zVi (k := 10 + 2 * a1.toNatClampNeg) (rest := []) fx hR (c_X1_minusBits (zl E) D ad g a1.toNatClampNeg I J (ix_lt q6) ex12) (rcR (ix_lt q6)) mvX1_minusBits wm_X3_247 dX3_longer_99 rfl ⟨rfl, rfl⟩ rfl rfl rfl ?_
                refine z_istore fx dX3_longer_102 (by decide) rfl ?_
                refine z_aload fx dX3_longer_104 rfl ?_
                obtain ⟨x13, ex13, h⟩ := ob h
                refine zVi (k := 10 + 2 * a2.toNatClampNeg) (rest := []) fx hR (c_X1_minusBits (zl E) D ad g a2.toNatClampNeg I J (ix_lt q7) ex13) (rcR (ix_lt q7)) mvX1_minusBits wm_X3_247 dX3_longer_106 rfl ⟨rfl, rfl⟩ rfl rfl rfl ?_
                refine z_istore fx dX3_longer_109 (by decide) rfl ?_
                refine z_aload_n fx dX3_longer_111 rfl ?_
                refine gS_rows fx wf_X3_11 dX3_longer_112 ?_
                refine z_iload_n fx dX3_longer_115 rfl ?_
                obtain ⟨q14, h⟩ := oi h
                refine x_rld fx q14 dX3_longer_116 ?_
                refine z_iconst (v := 2) fx dX3_longer_117 rfl ?_
                refine z_iload fx dX3_longer_118 rfl ?_
                refine z_imul fx dX3_longer_120 ?_
                refine z_iload fx dX3_longer_121 rfl ?_
                refine z_iload fx dX3_longer_123 rfl ?_
                refine z_iload fx dX3_longer_125 rfl ?_
                refine z_ishl fx dX3_longer_127 ?_
                refine z_ior fx dX3_longer_128 ?_
                obtain ⟨x15, ex15, h⟩ := ob h
                refine zVv (k := 10 + 2 * a3.toNatClampNeg) (rest := []) fx hR (c_X1_beginSigns (zl E) D ad g a3.toNatClampNeg (2 * (I (10 + 2 * a1.toNatClampNeg) 1)) (x12 ||| (x13 <<< ((I (10 + 2 * a1.toNatClampNeg) 1) &&& 31))) I J (ix_lt q14) ex15) (rcR (ix_lt q14)) mvX1_beginSigns wm_X3_73 dX3_longer_129 rfl ⟨rfl, rfl⟩ rfl rfl rfl ?_
                refine z_aload_n fx dX3_longer_132 rfl ?_
                refine gS_rows fx wf_X3_11 dX3_longer_133 ?_
                refine z_iload fx dX3_longer_136 rfl ?_
                obtain ⟨q16, h⟩ := oi h
                refine x_rld fx q16 dX3_longer_138 ?_
                refine z_iconst (v := 2) fx dX3_longer_139 rfl ?_
                refine z_iload fx dX3_longer_140 rfl ?_
                refine z_imul fx dX3_longer_142 ?_
                refine z_iload fx dX3_longer_143 rfl ?_
                refine z_iload fx dX3_longer_145 rfl ?_
                refine z_iload fx dX3_longer_147 rfl ?_
                refine zSi (rest := [.int x13, .int x12, .int (2 * (I (10 + 2 * a1.toNatClampNeg) 1)), .ref (ad (10 + 2 * a4.toNatClampNeg))]) fx hR (c_X3_allBits (zl E) D ad g (I (10 + 2 * a1.toNatClampNeg) 1) x15 J rfl) mvX3_allBits wm_X3_270 dX3_longer_149 rfl ⟨rfl, rfl⟩ rfl rfl rfl ?_
                refine z_ixor fx dX3_longer_152 ?_
                refine z_iload fx dX3_longer_153 rfl ?_
                refine z_ishl fx dX3_longer_155 ?_
                refine z_ior fx dX3_longer_156 ?_
                obtain ⟨x17, ex17, h⟩ := ob h
                refine zVv (k := 10 + 2 * a4.toNatClampNeg) (rest := []) fx hR (c_X1_beginSigns (zl E) D ad g a4.toNatClampNeg (2 * (I (10 + 2 * a1.toNatClampNeg) 1)) (x12 ||| ((x13 ^^^ (f_X3_allBits (I (10 + 2 * a1.toNatClampNeg) 1))) <<< ((I (10 + 2 * a1.toNatClampNeg) 1) &&& 31))) x15 J (ix_lt q16) ex17) (rcR (ix_lt q16)) mvX1_beginSigns wm_X3_73 dX3_longer_157 rfl ⟨rfl, rfl⟩ rfl rfl rfl ?_
                refine z_iconst (v := 2) fx dX3_longer_160 rfl ?_
                refine z_iload fx dX3_longer_161 rfl ?_
                refine z_imul fx dX3_longer_163 ?_
                cases h
                exact z_iret fx hr dX3_longer_164
              · rw [if_pos q11] at h
                refine z_bipush (v := (-4)) fx dX3_longer_87 rfl ?_
                cases h
                exact z_iret fx hr dX3_longer_89
            · rw [if_neg q9] at h
              refine z_aload_n fx dX3_longer_69 rfl ?_
              refine z_iload fx dX3_longer_70 rfl ?_
              obtain ⟨x18, ex18, h⟩ := ob h
              refine zVi (k := 0) (rest := []) fx hR (c_X3_found (zl E) D ad g x8 I J ex18) rcS mvX3_found wm_X3_69 dX3_longer_72 rfl ⟨rfl, rfl⟩ rfl rfl rfl ?_
              cases h
              exact z_iret fx hr dX3_longer_75
          · rw [if_pos q5] at h
            refine z_iconst (v := (-1)) fx dX3_longer_35 rfl ?_
            cases h
            exact z_iret fx hr dX3_longer_36
set_option maxRecDepth 100000 in
set_option maxHeartbeats 4000000 in
theorem c_X3_findingOfGraph (l : Launch) (D : va_G) (ad : Nat → Nat) (g : Nat → ClassId) (n0 : Nat) (I : zMi) (J : zMl) (b0 : n0 < 12) {r : Int32} (h : f_X3_findingOfGraph n0 I = r) : zCM (xw D ad g) l yX3_findingOfGraph cX3_findingOfGraph 1 (some .int) rmX3_findingOfGraph [.ref (ad (22 + 3 * n0))] I J (some (.int r)) I J := by
  refine zCM.of (by decide) (Nat.le_of_ble_eq_true rfl) (fun E hl hR fx hr => ?_)
  subst hl
  rw [f_X3_findingOfGraph] at h
  refine z_aload_n fx dX3_findingOfGraph_0 rfl ?_
  refine zVi (k := 22 + 3 * n0) (rest := []) fx hR (c_X2_isMissing (zl E) D ad g n0 I J b0 rfl) (rcT b0) mvX2_isMissing wm_X3_115 dX3_findingOfGraph_1 rfl ⟨rfl, rfl⟩ rfl rfl rfl ?_
  refine z_if_eq (tgt := 9) fx dX3_findingOfGraph_4 (by decide) (fun q1 => ?_) (fun q1 => ?_)
  · rw [if_pos q1] at h
    refine z_aload_n fx dX3_findingOfGraph_9 rfl ?_
    refine z_iconst (v := 3) fx dX3_findingOfGraph_10 rfl ?_
    refine zVi (k := 22 + 3 * n0) (rest := []) fx hR (c_X2_isOfKind (zl E) D ad g n0 3 I J b0 rfl) (rcT b0) mvX2_isOfKind wm_X3_150 dX3_findingOfGraph_11 rfl ⟨rfl, rfl⟩ rfl rfl rfl ?_
    refine z_if_eq (tgt := 21) fx dX3_findingOfGraph_14 (by decide) (fun q2 => ?_) (fun q2 => ?_)
    · rw [if_pos q2] at h
      refine z_iconst (v := 3) fx dX3_findingOfGraph_21 rfl ?_
      subst h
      exact z_iret fx hr dX3_findingOfGraph_22
    · rw [if_neg q2] at h
      refine z_iconst (v := 0) fx dX3_findingOfGraph_17 rfl ?_
      refine z_goto (tgt := 22) fx dX3_findingOfGraph_18 (by decide) ?_
      subst h
      exact z_iret fx hr dX3_findingOfGraph_22
  · rw [if_neg q1] at h
    refine z_iconst (v := 1) fx dX3_findingOfGraph_7 rfl ?_
    subst h
    exact z_iret fx hr dX3_findingOfGraph_8
set_option maxRecDepth 100000 in
set_option maxHeartbeats 4000000 in
theorem c_X3_switched (l : Launch) (D : va_G) (ad : Nat → Nat) (g : Nat → ClassId) (a1 : Int32) (a2 : Int32) (I : zMi) (J : zMl) {r : Int32 × zMi} (h : f_X3_switched a1 a2 I = some r) : zCM (xw D ad g) l yX3_switched cX3_switched 5 (some .int) rmX3_switched [.ref (ad (0)), .int a1, .int a2] I J (some (.int r.1)) r.2 J := by
  refine zCM.of (by decide) (Nat.le_of_ble_eq_true rfl) (fun E hl hR fx hr => ?_)
  subst hl
  rw [f_X3_switched] at h
  refine z_iload_n fx dX3_switched_0 rfl ?_
  refine zSi (rest := []) fx hR (c_X3_isTableNumber (zl E) D ad g a1 I J rfl) mvX3_isTableNumber wm_X3_104 dX3_switched_1 rfl ⟨rfl, rfl⟩ rfl rfl rfl ?_
  refine z_if_ne (tgt := 9) fx dX3_switched_4 (by decide) (fun q1 => ?_) (fun q1 => ?_)
  · rw [if_neg q1] at h
    refine z_aload_n fx dX3_switched_9 rfl ?_
    refine gS_tables fx wf_X3_17 dX3_switched_10 ?_
    refine z_iload_n fx dX3_switched_13 rfl ?_
    obtain ⟨q2, h⟩ := oi h
    refine x_tld fx q2 dX3_switched_14 ?_
    refine z_astore_n fx dX3_switched_15 (by decide) rfl ?_
    refine z_aload_n fx dX3_switched_16 rfl ?_
    refine zSi (rest := []) fx hR (c_X3_findingOfGraph (zl E) D ad g a1.toNatClampNeg I J (ix_12 q2) rfl) mvX3_findingOfGraph wm_X3_273 dX3_switched_17 rfl ⟨rfl, rfl⟩ rfl rfl rfl ?_
    refine z_istore fx dX3_switched_20 (by decide) rfl ?_
    refine z_iload fx dX3_switched_22 rfl ?_
    refine z_if_eq (tgt := 34) fx dX3_switched_24 (by decide) (fun q3 => ?_) (fun q3 => ?_)
    · rw [if_pos q3] at h
      refine z_aload_n fx dX3_switched_34 rfl ?_
      refine z_iload_n fx dX3_switched_35 rfl ?_
      refine zVi (k := 22 + 3 * a1.toNatClampNeg) (rest := []) fx hR (c_X2_isBeyond (zl E) D ad g a1.toNatClampNeg a2 I J (ix_12 q2) rfl) (rcT (ix_12 q2)) mvX2_isBeyond wm_X3_178 dX3_switched_36 rfl ⟨rfl, rfl⟩ rfl rfl rfl ?_
      refine z_if_eq (tgt := 48) fx dX3_switched_39 (by decide) (fun q4 => ?_) (fun q4 => ?_)
      · rw [if_pos q4] at h
        refine z_aload_n fx dX3_switched_48 rfl ?_
        refine z_iload_n fx dX3_switched_49 rfl ?_
        obtain ⟨x5, ex5, h⟩ := ob h
        refine zVv (k := 22 + 3 * a1.toNatClampNeg) (rest := []) fx hR (c_X2_switchBy (zl E) D ad g a1.toNatClampNeg a2 I J (ix_12 q2) ex5) (rcT (ix_12 q2)) mvX2_switchBy wm_X3_277 dX3_switched_50 rfl ⟨rfl, rfl⟩ rfl rfl rfl ?_
        refine z_aload_n fx dX3_switched_53 rfl ?_
        obtain ⟨x6, ex6, h⟩ := ob h
        refine zVi (k := 22 + 3 * a1.toNatClampNeg) (rest := []) fx hR (c_X2_judged (zl E) D ad g a1.toNatClampNeg x5 J (ix_12 q2) ex6) (rcT (ix_12 q2)) mvX2_judged wm_X3_111 dX3_switched_54 rfl ⟨rfl, rfl⟩ rfl rfl rfl ?_
        cases h
        exact z_iret fx hr dX3_switched_57
      · rw [if_neg q4] at h
        refine z_aload_n fx dX3_switched_42 rfl ?_
        refine z_iconst (v := 2) fx dX3_switched_43 rfl ?_
        obtain ⟨x7, ex7, h⟩ := ob h
        refine zVi (k := 0) (rest := []) fx hR (c_X3_found (zl E) D ad g 2 I J ex7) rcS mvX3_found wm_X3_69 dX3_switched_44 rfl ⟨rfl, rfl⟩ rfl rfl rfl ?_
        cases h
        exact z_iret fx hr dX3_switched_47
    · rw [if_neg q3] at h
      refine z_aload_n fx dX3_switched_27 rfl ?_
      refine z_iload fx dX3_switched_28 rfl ?_
      obtain ⟨x8, ex8, h⟩ := ob h
      refine zVi (k := 0) (rest := []) fx hR (c_X3_found (zl E) D ad g (f_X3_findingOfGraph a1.toNatClampNeg I) I J ex8) rcS mvX3_found wm_X3_69 dX3_switched_30 rfl ⟨rfl, rfl⟩ rfl rfl rfl ?_
      cases h
      exact z_iret fx hr dX3_switched_33
  · rw [if_pos q1] at h
    refine z_iconst (v := (-1)) fx dX3_switched_7 rfl ?_
    cases h
    exact z_iret fx hr dX3_switched_8
set_option maxRecDepth 100000 in
set_option maxHeartbeats 4000000 in
theorem c_X3_odd (l : Launch) (D : va_G) (ad : Nat → Nat) (g : Nat → ClassId) (a1 : Int32) (I : zMi) (J : zMl) {r : Int32 × zMi} (h : f_X3_odd a1 I = some r) : zCM (xw D ad g) l yX3_odd cX3_odd 3 (some .int) rmX3_odd [.ref (ad (0)), .int a1] I J (some (.int r.1)) r.2 J := by
  refine zCM.of (by decide) (Nat.le_of_ble_eq_true rfl) (fun E hl hR fx hr => ?_)
  subst hl
  rw [f_X3_odd] at h
  refine z_iload_n fx dX3_odd_0 rfl ?_
  refine zSi (rest := []) fx hR (c_X3_isTableNumber (zl E) D ad g a1 I J rfl) mvX3_isTableNumber wm_X3_104 dX3_odd_1 rfl ⟨rfl, rfl⟩ rfl rfl rfl ?_
  refine z_if_ne (tgt := 9) fx dX3_odd_4 (by decide) (fun q1 => ?_) (fun q1 => ?_)
  · rw [if_neg q1] at h
    refine z_aload_n fx dX3_odd_9 rfl ?_
    refine gS_tables fx wf_X3_17 dX3_odd_10 ?_
    refine z_iload_n fx dX3_odd_13 rfl ?_
    obtain ⟨q2, h⟩ := oi h
    refine x_tld fx q2 dX3_odd_14 ?_
    refine zSi (rest := []) fx hR (c_X3_findingOfGraph (zl E) D ad g a1.toNatClampNeg I J (ix_12 q2) rfl) mvX3_findingOfGraph wm_X3_273 dX3_odd_15 rfl ⟨rfl, rfl⟩ rfl rfl rfl ?_
    refine z_istore_n fx dX3_odd_18 (by decide) rfl ?_
    refine z_iload_n fx dX3_odd_19 rfl ?_
    refine z_if_eq (tgt := 29) fx dX3_odd_20 (by decide) (fun q3 => ?_) (fun q3 => ?_)
    · rw [if_pos q3] at h
      refine z_aload_n fx dX3_odd_29 rfl ?_
      refine gS_tables fx wf_X3_17 dX3_odd_30 ?_
      refine z_iload_n fx dX3_odd_33 rfl ?_
      refine x_tld fx q2 dX3_odd_34 ?_
      obtain ⟨x4, ex4, h⟩ := ob h
      refine zVi (k := 22 + 3 * a1.toNatClampNeg) (rest := []) fx hR (c_X2_oddTriples (zl E) D ad g a1.toNatClampNeg I J (ix_12 q2) ex4) (rcT (ix_12 q2)) mvX2_oddTriples wm_X3_280 dX3_odd_35 rfl ⟨rfl, rfl⟩ rfl rfl rfl ?_
      cases h
      exact z_iret fx hr dX3_odd_38
    · rw [if_neg q3] at h
      refine z_aload_n fx dX3_odd_23 rfl ?_
      refine z_iload_n fx dX3_odd_24 rfl ?_
      obtain ⟨x5, ex5, h⟩ := ob h
      refine zVi (k := 0) (rest := []) fx hR (c_X3_found (zl E) D ad g (f_X3_findingOfGraph a1.toNatClampNeg I) I J ex5) rcS mvX3_found wm_X3_69 dX3_odd_25 rfl ⟨rfl, rfl⟩ rfl rfl rfl ?_
      cases h
      exact z_iret fx hr dX3_odd_28
  · rw [if_pos q1] at h
    refine z_iconst (v := (-1)) fx dX3_odd_7 rfl ?_
    cases h
    exact z_iret fx hr dX3_odd_8
set_option maxRecDepth 100000 in
set_option maxHeartbeats 4000000 in
theorem c_X3_alike (l : Launch) (D : va_G) (ad : Nat → Nat) (g : Nat → ClassId) (a1 : Int32) (a2 : Int32) (I : zMi) (J : zMl) {r : Int32 × zMi} (h : f_X3_alike a1 a2 I = some r) : zCM (xw D ad g) l yX3_alike cX3_alike 6 (some .int) rmX3_alike [.ref (ad (0)), .int a1, .int a2] I J (some (.int r.1)) r.2 J := by
  refine zCM.of (by decide) (Nat.le_of_ble_eq_true rfl) (fun E hl hR fx hr => ?_)
  subst hl
  rw [f_X3_alike] at h
  refine z_iload_n fx dX3_alike_0 rfl ?_
  refine zSi (rest := []) fx hR (c_X3_isTableNumber (zl E) D ad g a1 I J rfl) mvX3_isTableNumber wm_X3_104 dX3_alike_1 rfl ⟨rfl, rfl⟩ rfl rfl rfl ?_
  refine z_if_eq (tgt := 14) fx dX3_alike_4 (by decide) (fun q1 => ?_) (fun q1 => ?_)
  · rw [if_pos q1] at h
    refine z_iconst (v := (-1)) fx dX3_alike_14 rfl ?_
    cases h
    exact z_iret fx hr dX3_alike_15
  · rw [if_neg q1] at h
    refine z_iload_n fx dX3_alike_7 rfl ?_
    refine zSi (rest := []) fx hR (c_X3_isTableNumber (zl E) D ad g a2 I J rfl) mvX3_isTableNumber wm_X3_104 dX3_alike_8 rfl ⟨rfl, rfl⟩ rfl rfl rfl ?_
    refine z_if_ne (tgt := 16) fx dX3_alike_11 (by decide) (fun q2 => ?_) (fun q2 => ?_)
    · rw [if_neg q2] at h
      refine z_aload_n fx dX3_alike_16 rfl ?_
      refine gS_tables fx wf_X3_17 dX3_alike_17 ?_
      refine z_iload_n fx dX3_alike_20 rfl ?_
      obtain ⟨q3, h⟩ := oi h
      refine x_tld fx q3 dX3_alike_21 ?_
      refine z_astore_n fx dX3_alike_22 (by decide) rfl ?_
      refine z_aload_n fx dX3_alike_23 rfl ?_
      refine gS_tables fx wf_X3_17 dX3_alike_24 ?_
      refine z_iload_n fx dX3_alike_27 rfl ?_
      obtain ⟨q4, h⟩ := oi h
      refine x_tld fx q4 dX3_alike_28 ?_
      refine z_astore fx dX3_alike_29 (by decide) rfl ?_
      refine z_aload_n fx dX3_alike_31 rfl ?_
      refine zVi (k := 22 + 3 * a1.toNatClampNeg) (rest := []) fx hR (c_X2_isMissing (zl E) D ad g a1.toNatClampNeg I J (ix_12 q3) rfl) (rcT (ix_12 q3)) mvX2_isMissing wm_X3_115 dX3_alike_32 rfl ⟨rfl, rfl⟩ rfl rfl rfl ?_
      refine z_if_ne (tgt := 46) fx dX3_alike_35 (by decide) (fun q5 => ?_) (fun q5 => ?_)
      · rw [if_neg q5] at h
        refine z_aload_n fx dX3_alike_46 rfl ?_
        refine z_iconst (v := 1) fx dX3_alike_47 rfl ?_
        obtain ⟨x6, ex6, h⟩ := ob h
        refine zVi (k := 0) (rest := []) fx hR (c_X3_found (zl E) D ad g 1 I J ex6) rcS mvX3_found wm_X3_69 dX3_alike_48 rfl ⟨rfl, rfl⟩ rfl rfl rfl ?_
        cases h
        exact z_iret fx hr dX3_alike_51
      · rw [if_pos q5] at h
        refine z_aload fx dX3_alike_38 rfl ?_
        refine zVi (k := 22 + 3 * a2.toNatClampNeg) (rest := []) fx hR (c_X2_isMissing (zl E) D ad g a2.toNatClampNeg I J (ix_12 q4) rfl) (rcT (ix_12 q4)) mvX2_isMissing wm_X3_115 dX3_alike_40 rfl ⟨rfl, rfl⟩ rfl rfl rfl ?_
        refine z_if_eq (tgt := 52) fx dX3_alike_43 (by decide) (fun q7 => ?_) (fun q7 => ?_)
        · rw [if_pos q7] at h
          refine z_aload_n fx dX3_alike_52 rfl ?_
          refine z_iconst (v := 3) fx dX3_alike_53 rfl ?_
          refine zVi (k := 22 + 3 * a1.toNatClampNeg) (rest := []) fx hR (c_X2_isOfKind (zl E) D ad g a1.toNatClampNeg 3 I J (ix_12 q3) rfl) (rcT (ix_12 q3)) mvX2_isOfKind wm_X3_150 dX3_alike_54 rfl ⟨rfl, rfl⟩ rfl rfl rfl ?_
          refine z_if_eq (tgt := 81) fx dX3_alike_57 (by decide) (fun q8 => ?_) (fun q8 => ?_)
          · rw [if_pos q8] at h
            refine z_aload_n fx dX3_alike_81 rfl ?_
            refine z_iconst (v := 3) fx dX3_alike_82 rfl ?_
            obtain ⟨x9, ex9, h⟩ := ob h
            refine zVi (k := 0) (rest := []) fx hR (c_X3_found (zl E) D ad g 3 I J ex9) rcS mvX3_found wm_X3_69 dX3_alike_83 rfl ⟨rfl, rfl⟩ rfl rfl rfl ?_
            cases h
            exact z_iret fx hr dX3_alike_86
          · rw [if_neg q8] at h
            refine z_aload fx dX3_alike_60 rfl ?_
            refine z_iconst (v := 3) fx dX3_alike_62 rfl ?_
            refine zVi (k := 22 + 3 * a2.toNatClampNeg) (rest := []) fx hR (c_X2_isOfKind (zl E) D ad g a2.toNatClampNeg 3 I J (ix_12 q4) rfl) (rcT (ix_12 q4)) mvX2_isOfKind wm_X3_150 dX3_alike_63 rfl ⟨rfl, rfl⟩ rfl rfl rfl ?_
            refine z_if_eq (tgt := 81) fx dX3_alike_66 (by decide) (fun q10 => ?_) (fun q10 => ?_)
            · rw [if_pos q10] at h
              refine z_aload_n fx dX3_alike_81 rfl ?_
              refine z_iconst (v := 3) fx dX3_alike_82 rfl ?_
              obtain ⟨x11, ex11, h⟩ := ob h
              refine zVi (k := 0) (rest := []) fx hR (c_X3_found (zl E) D ad g 3 I J ex11) rcS mvX3_found wm_X3_69 dX3_alike_83 rfl ⟨rfl, rfl⟩ rfl rfl rfl ?_
              cases h
              exact z_iret fx hr dX3_alike_86
            · rw [if_neg q10] at h
              refine z_aload_n fx dX3_alike_69 rfl ?_
              refine gT_n fx (ix_12 q3) wf_X3_119 dX3_alike_70 ?_
              refine z_aload fx dX3_alike_73 rfl ?_
              refine gT_n fx (ix_12 q4) wf_X3_119 dX3_alike_75 ?_
              refine z_icmp_eq (tgt := 87) fx dX3_alike_78 (by decide) (fun q12 => ?_) (fun q12 => ?_)
              · rw [if_pos q12] at h
                refine z_aload_n fx dX3_alike_87 rfl ?_
                refine gT_minus fx (ix_12 q3) wf_X3_144 dX3_alike_88 ?_
                refine z_iconst (v := 0) fx dX3_alike_91 rfl ?_
                refine x_ild fx (bT2 (ix_12 q3)) (cfX_Tm g ad (ix_12 q3)) (by decide) dX3_alike_92 ?_
                refine z_aload fx dX3_alike_93 rfl ?_
                refine gT_minus fx (ix_12 q4) wf_X3_144 dX3_alike_95 ?_
                refine z_iconst (v := 0) fx dX3_alike_98 rfl ?_
                refine x_ild fx (bT2 (ix_12 q4)) (cfX_Tm g ad (ix_12 q4)) (by decide) dX3_alike_99 ?_
                refine z_ixor fx dX3_alike_100 ?_
                refine z_istore fx dX3_alike_101 (by decide) rfl ?_
                refine z_aload_n fx dX3_alike_103 rfl ?_
                refine z_aload fx dX3_alike_104 rfl ?_
                refine z_iload fx dX3_alike_106 rfl ?_
                obtain ⟨x13, ex13, h⟩ := ob h
                refine zVi (k := 22 + 3 * a1.toNatClampNeg) (rest := []) fx hR (c_X2_becomesBySwitching (zl E) D ad g a1.toNatClampNeg a2.toNatClampNeg ((I (24 + 3 * a1.toNatClampNeg) (0 : Int32).toNatClampNeg) ^^^ (I (24 + 3 * a2.toNatClampNeg) (0 : Int32).toNatClampNeg)) I J (ix_12 q3) (ix_12 q4) ex13) (rcT (ix_12 q3)) mvX2_becomesBySwitching wm_X3_283 dX3_alike_108 rfl ⟨rfl, rfl⟩ rfl rfl rfl ?_
                refine z_if_ne (tgt := 116) fx dX3_alike_111 (by decide) (fun q14 => ?_) (fun q14 => ?_)
                · rw [if_neg q14] at h
                  refine z_aload_n fx dX3_alike_116 rfl ?_
                  refine z_iload fx dX3_alike_117 rfl ?_
                  refine pS_latestAsked fx wf_X3_51 dX3_alike_119 ?_
                  refine z_iconst (v := 1) fx dX3_alike_122 rfl ?_
                  cases h
                  exact z_iret fx hr dX3_alike_123
                · rw [if_pos q14] at h
                  refine z_iconst (v := 0) fx dX3_alike_114 rfl ?_
                  cases h
                  exact z_iret fx hr dX3_alike_115
              · rw [if_neg q12] at h
                refine z_aload_n fx dX3_alike_81 rfl ?_
                refine z_iconst (v := 3) fx dX3_alike_82 rfl ?_
                obtain ⟨x15, ex15, h⟩ := ob h
                refine zVi (k := 0) (rest := []) fx hR (c_X3_found (zl E) D ad g 3 I J ex15) rcS mvX3_found wm_X3_69 dX3_alike_83 rfl ⟨rfl, rfl⟩ rfl rfl rfl ?_
                cases h
                exact z_iret fx hr dX3_alike_86
        · rw [if_neg q7] at h
          refine z_aload_n fx dX3_alike_46 rfl ?_
          refine z_iconst (v := 1) fx dX3_alike_47 rfl ?_
          obtain ⟨x16, ex16, h⟩ := ob h
          refine zVi (k := 0) (rest := []) fx hR (c_X3_found (zl E) D ad g 1 I J ex16) rcS mvX3_found wm_X3_69 dX3_alike_48 rfl ⟨rfl, rfl⟩ rfl rfl rfl ?_
          cases h
          exact z_iret fx hr dX3_alike_51
    · rw [if_pos q2] at h
      refine z_iconst (v := (-1)) fx dX3_alike_14 rfl ?_
      cases h
      exact z_iret fx hr dX3_alike_15
set_option maxRecDepth 100000 in
set_option maxHeartbeats 4000000 in
theorem w_X3_fewest_39 {E : zE} {D : va_G} {ad : Nat → Nat} {g : Nat → ClassId} (fx : zFX E (xw D ad g) cX3_fewest RX3 7 (some .int)) (hR : zR E = rmX3_fewest) {r : Int32 × zMi} {J : zMl} (hr : zRX E (xw D ad g) (some (.int r.1)) r.2 J) : ∀ (fuel : Nat) (n2 : Nat) (a4 : Int32) (a5 : Int32) (I : zMi) , f_X3_fewest_39 fuel n2 a4 a5 I = some r → n2 < 12 → zAt E (xw D ad g) 39 [(0, .ref (ad (0))), (2, .ref (ad (22 + 3 * n2))), (4, .int a4), (5, .int a5)] [] I J := by
  intro fuel
  induction fuel with
  | zero => intro n2 a4 a5 I h b2; rw [f_X3_fewest_39] at h; cases h
  | succ f ih =>
    intro n2 a4 a5 I h b2
    rw [f_X3_fewest_39] at h
    refine z_iload fx dX3_fewest_39 rfl ?_
    refine z_iconst (v := 1) fx dX3_fewest_41 rfl ?_
    refine z_aload_n fx dX3_fewest_42 rfl ?_
    refine gT_n fx b2 wf_X3_119 dX3_fewest_43 ?_
    refine z_ishl fx dX3_fewest_46 ?_
    refine z_icmp_ge (tgt := 81) fx dX3_fewest_47 (by decide) (fun q1 => ?_) (fun q1 => ?_)
    · rw [if_pos q1] at h
      refine z_iload fx dX3_fewest_81 rfl ?_
      cases h
      exact z_iret fx hr dX3_fewest_83
    · rw [if_neg q1] at h
      refine z_aload_n fx dX3_fewest_50 rfl ?_
      refine z_iload fx dX3_fewest_51 rfl ?_
      obtain ⟨x2, ex2, h⟩ := ob h
      refine zVi (k := 22 + 3 * n2) (rest := []) fx hR (c_X2_edgesSwitched (zl E) D ad g n2 a5 I J b2 ex2) (rcT b2) mvX2_edgesSwitched wm_X3_287 dX3_fewest_53 rfl ⟨rfl, rfl⟩ rfl rfl rfl ?_
      refine z_istore fx dX3_fewest_56 (by decide) rfl ?_
      refine z_iload fx dX3_fewest_58 rfl ?_
      refine z_iload fx dX3_fewest_60 rfl ?_
      refine z_icmp_ge (tgt := 75) fx dX3_fewest_62 (by decide) (fun q3 => ?_) (fun q3 => ?_)
      · rw [if_pos q3] at h
        refine z_iinc (v := (a5 + 2)) fx dX3_fewest_75 rfl rfl (by decide) rfl ?_
        refine z_goto (tgt := 39) fx dX3_fewest_78 (by decide) ?_
        exact z_lv2 (ih n2 a4 (a5 + 2) I h b2) rfl
      · rw [if_neg q3] at h
        refine z_iload fx dX3_fewest_65 rfl ?_
        refine z_istore fx dX3_fewest_67 (by decide) rfl ?_
        refine z_aload_n fx dX3_fewest_69 rfl ?_
        refine z_iload fx dX3_fewest_70 rfl ?_
        refine pS_latestAsked fx wf_X3_51 dX3_fewest_72 ?_
        refine z_iinc (v := (a5 + 2)) fx dX3_fewest_75 rfl rfl (by decide) rfl ?_
        refine z_goto (tgt := 39) fx dX3_fewest_78 (by decide) ?_
        exact z_lv2 (ih n2 x2 (a5 + 2) (wI I (0) 9 a5) h b2) rfl
set_option maxRecDepth 100000 in
set_option maxHeartbeats 4000000 in
theorem c_X3_fewest (l : Launch) (D : va_G) (ad : Nat → Nat) (g : Nat → ClassId) (a1 : Int32) (I : zMi) (J : zMl) {r : Int32 × zMi} (h : f_X3_fewest a1 I = some r) : zCM (xw D ad g) l yX3_fewest cX3_fewest 7 (some .int) rmX3_fewest [.ref (ad (0)), .int a1] I J (some (.int r.1)) r.2 J := by
  refine zCM.of (by decide) (Nat.le_of_ble_eq_true rfl) (fun E hl hR fx hr => ?_)
  subst hl
  rw [f_X3_fewest] at h
  refine z_iload_n fx dX3_fewest_0 rfl ?_
  refine zSi (rest := []) fx hR (c_X3_isTableNumber (zl E) D ad g a1 I J rfl) mvX3_isTableNumber wm_X3_104 dX3_fewest_1 rfl ⟨rfl, rfl⟩ rfl rfl rfl ?_
  refine z_if_ne (tgt := 9) fx dX3_fewest_4 (by decide) (fun q1 => ?_) (fun q1 => ?_)
  · rw [if_neg q1] at h
    refine z_aload_n fx dX3_fewest_9 rfl ?_
    refine gS_tables fx wf_X3_17 dX3_fewest_10 ?_
    refine z_iload_n fx dX3_fewest_13 rfl ?_
    obtain ⟨q2, h⟩ := oi h
    refine x_tld fx q2 dX3_fewest_14 ?_
    refine z_astore_n fx dX3_fewest_15 (by decide) rfl ?_
    refine z_aload_n fx dX3_fewest_16 rfl ?_
    refine zSi (rest := []) fx hR (c_X3_findingOfGraph (zl E) D ad g a1.toNatClampNeg I J (ix_12 q2) rfl) mvX3_findingOfGraph wm_X3_273 dX3_fewest_17 rfl ⟨rfl, rfl⟩ rfl rfl rfl ?_
    refine z_istore_n fx dX3_fewest_20 (by decide) rfl ?_
    refine z_iload_n fx dX3_fewest_21 rfl ?_
    refine z_if_eq (tgt := 31) fx dX3_fewest_22 (by decide) (fun q3 => ?_) (fun q3 => ?_)
    · rw [if_pos q3] at h
      refine z_sipush (v := 144) fx dX3_fewest_31 rfl ?_
      refine z_istore fx dX3_fewest_34 (by decide) rfl ?_
      refine z_iconst (v := 0) fx dX3_fewest_36 rfl ?_
      refine z_istore fx dX3_fewest_37 (by decide) rfl ?_
      exact z_lv2 (w_X3_fewest_39 fx hR hr fu a1.toNatClampNeg 144 0 I h (ix_12 q2)) rfl
    · rw [if_neg q3] at h
      refine z_aload_n fx dX3_fewest_25 rfl ?_
      refine z_iload_n fx dX3_fewest_26 rfl ?_
      obtain ⟨x4, ex4, h⟩ := ob h
      refine zVi (k := 0) (rest := []) fx hR (c_X3_found (zl E) D ad g (f_X3_findingOfGraph a1.toNatClampNeg I) I J ex4) rcS mvX3_found wm_X3_69 dX3_fewest_27 rfl ⟨rfl, rfl⟩ rfl rfl rfl ?_
      cases h
      exact z_iret fx hr dX3_fewest_30
  · rw [if_pos q1] at h
    refine z_iconst (v := (-1)) fx dX3_fewest_7 rfl ?_
    cases h
    exact z_iret fx hr dX3_fewest_8
set_option maxRecDepth 100000 in
set_option maxHeartbeats 4000000 in
theorem c_X3_even (l : Launch) (D : va_G) (ad : Nat → Nat) (g : Nat → ClassId) (a1 : Int32) (a2 : Int32) (I : zMi) (J : zMl) {r : Int32 × zMi} (h : f_X3_even a1 a2 I = some r) : zCM (xw D ad g) l yX3_even cX3_even 4 (some .int) rmX3_even [.ref (ad (0)), .int a1, .int a2] I J (some (.int r.1)) r.2 J := by
  refine zCM.of (by decide) (Nat.le_of_ble_eq_true rfl) (fun E hl hR fx hr => ?_)
  subst hl
  rw [f_X3_even] at h
  refine z_iload_n fx dX3_even_0 rfl ?_
  refine zSi (rest := []) fx hR (c_X3_isTableNumber (zl E) D ad g a1 I J rfl) mvX3_isTableNumber wm_X3_104 dX3_even_1 rfl ⟨rfl, rfl⟩ rfl rfl rfl ?_
  refine z_if_eq (tgt := 16) fx dX3_even_4 (by decide) (fun q1 => ?_) (fun q1 => ?_)
  · rw [if_pos q1] at h
    refine z_iconst (v := (-1)) fx dX3_even_16 rfl ?_
    cases h
    exact z_iret fx hr dX3_even_17
  · rw [if_neg q1] at h
    refine z_iload_n fx dX3_even_7 rfl ?_
    refine z_if_lt (tgt := 16) fx dX3_even_8 (by decide) (fun q2 => ?_) (fun q2 => ?_)
    · rw [if_pos q2] at h
      refine z_iconst (v := (-1)) fx dX3_even_16 rfl ?_
      cases h
      exact z_iret fx hr dX3_even_17
    · rw [if_neg q2] at h
      refine z_iload_n fx dX3_even_11 rfl ?_
      refine z_iconst (v := 3) fx dX3_even_12 rfl ?_
      refine z_icmp_le (tgt := 18) fx dX3_even_13 (by decide) (fun q3 => ?_) (fun q3 => ?_)
      · rw [if_pos q3] at h
        refine z_aload_n fx dX3_even_18 rfl ?_
        refine gS_tables fx wf_X3_17 dX3_even_19 ?_
        refine z_iload_n fx dX3_even_22 rfl ?_
        obtain ⟨q4, h⟩ := oi h
        refine x_tld fx q4 dX3_even_23 ?_
        refine z_astore_n fx dX3_even_24 (by decide) rfl ?_
        refine z_aload_n fx dX3_even_25 rfl ?_
        refine zVi (k := 22 + 3 * a1.toNatClampNeg) (rest := []) fx hR (c_X2_isMissing (zl E) D ad g a1.toNatClampNeg I J (ix_12 q4) rfl) (rcT (ix_12 q4)) mvX2_isMissing wm_X3_115 dX3_even_26 rfl ⟨rfl, rfl⟩ rfl rfl rfl ?_
        refine z_if_eq (tgt := 38) fx dX3_even_29 (by decide) (fun q5 => ?_) (fun q5 => ?_)
        · rw [if_pos q5] at h
          refine z_aload_n fx dX3_even_38 rfl ?_
          refine z_iconst (v := 4) fx dX3_even_39 rfl ?_
          refine zVi (k := 22 + 3 * a1.toNatClampNeg) (rest := []) fx hR (c_X2_isOfKind (zl E) D ad g a1.toNatClampNeg 4 I J (ix_12 q4) rfl) (rcT (ix_12 q4)) mvX2_isOfKind wm_X3_150 dX3_even_40 rfl ⟨rfl, rfl⟩ rfl rfl rfl ?_
          refine z_if_ne (tgt := 52) fx dX3_even_43 (by decide) (fun q6 => ?_) (fun q6 => ?_)
          · rw [if_neg q6] at h
            refine z_iload_n fx dX3_even_52 rfl ?_
            by_cases q7 : a2 = 0
            · rw [if_pos q7] at h
              refine z_tin (off := 27) (tgt := 80) fx dX3_even_53 (by rw [q7]; decide) (by rw [q7]; decide) (by rw [q7]; rfl) (by decide) ?_
              refine z_aload_n fx dX3_even_80 rfl ?_
              refine gT_n fx (ix_12 q4) wf_X3_119 dX3_even_81 ?_
              cases h
              exact z_iret fx hr dX3_even_84
            · rw [if_neg q7] at h
              by_cases q8 : a2 = 1
              · rw [if_pos q8] at h
                refine z_tin (off := 32) (tgt := 85) fx dX3_even_53 (by rw [q8]; decide) (by rw [q8]; decide) (by rw [q8]; rfl) (by decide) ?_
                refine z_aload_n fx dX3_even_85 rfl ?_
                refine z_iconst (v := 0) fx dX3_even_86 rfl ?_
                obtain ⟨x9, ex9, h⟩ := ob h
                refine zVi (k := 22 + 3 * a1.toNatClampNeg) (rest := []) fx hR (c_X2_neighbours (zl E) D ad g a1.toNatClampNeg 0 I J (ix_12 q4) ex9) (rcT (ix_12 q4)) mvX2_neighbours wm_X3_159 dX3_even_87 rfl ⟨rfl, rfl⟩ rfl rfl rfl ?_
                cases h
                exact z_iret fx hr dX3_even_90
              · rw [if_neg q8] at h
                by_cases q10 : a2 = 2
                · rw [if_pos q10] at h
                  refine z_tin (off := 38) (tgt := 91) fx dX3_even_53 (by rw [q10]; decide) (by rw [q10]; decide) (by rw [q10]; rfl) (by decide) ?_
                  refine z_aload_n fx dX3_even_91 rfl ?_
                  refine z_iconst (v := 1) fx dX3_even_92 rfl ?_
                  obtain ⟨x11, ex11, h⟩ := ob h
                  refine zVi (k := 22 + 3 * a1.toNatClampNeg) (rest := []) fx hR (c_X2_commonOfFirstPair (zl E) D ad g a1.toNatClampNeg 1 I J (ix_12 q4) ex11) (rcT (ix_12 q4)) mvX2_commonOfFirstPair wm_X3_290 dX3_even_93 rfl ⟨rfl, rfl⟩ rfl rfl rfl ?_
                  cases h
                  exact z_iret fx hr dX3_even_96
                · rw [if_neg q10] at h
                  refine z_tout (tgt := 97) fx dX3_even_53 (by have := zne q7 (n := 0) (by decide); have := zne q8 (n := 1) (by decide); have := zne q10 (n := 2) (by decide); omega) (by decide) ?_
                  refine z_aload_n fx dX3_even_97 rfl ?_
                  refine z_iconst (v := 0) fx dX3_even_98 rfl ?_
                  obtain ⟨x12, ex12, h⟩ := ob h
                  refine zVi (k := 22 + 3 * a1.toNatClampNeg) (rest := []) fx hR (c_X2_commonOfFirstPair (zl E) D ad g a1.toNatClampNeg 0 I J (ix_12 q4) ex12) (rcT (ix_12 q4)) mvX2_commonOfFirstPair wm_X3_290 dX3_even_99 rfl ⟨rfl, rfl⟩ rfl rfl rfl ?_
                  cases h
                  exact z_iret fx hr dX3_even_102
          · rw [if_pos q6] at h
            refine z_aload_n fx dX3_even_46 rfl ?_
            refine z_iconst (v := 3) fx dX3_even_47 rfl ?_
            obtain ⟨x13, ex13, h⟩ := ob h
            refine zVi (k := 0) (rest := []) fx hR (c_X3_found (zl E) D ad g 3 I J ex13) rcS mvX3_found wm_X3_69 dX3_even_48 rfl ⟨rfl, rfl⟩ rfl rfl rfl ?_
            cases h
            exact z_iret fx hr dX3_even_51
        · rw [if_neg q5] at h
          refine z_aload_n fx dX3_even_32 rfl ?_
          refine z_iconst (v := 1) fx dX3_even_33 rfl ?_
          obtain ⟨x14, ex14, h⟩ := ob h
          refine zVi (k := 0) (rest := []) fx hR (c_X3_found (zl E) D ad g 1 I J ex14) rcS mvX3_found wm_X3_69 dX3_even_34 rfl ⟨rfl, rfl⟩ rfl rfl rfl ?_
          cases h
          exact z_iret fx hr dX3_even_37
      · rw [if_neg q3] at h
        refine z_iconst (v := (-1)) fx dX3_even_16 rfl ?_
        cases h
        exact z_iret fx hr dX3_even_17
set_option maxRecDepth 100000 in
set_option maxHeartbeats 4000000 in
theorem c_X3_own (l : Launch) (D : va_G) (ad : Nat → Nat) (g : Nat → ClassId) (a1 : Int32) (a2 : Int32) (I : zMi) (J : zMl) {r : Int32 × zMi × zMl} (h : f_X3_own a1 a2 I J = some r) : zCM (xw D ad g) l yX3_own cX3_own 3 (some .int) rmX3_own [.ref (ad (0)), .int a1, .int a2] I J (some (.int r.1)) r.2.1 r.2.2 := by
  refine zCM.of (by decide) (Nat.le_of_ble_eq_true rfl) (fun E hl hR fx hr => ?_)
  subst hl
  rw [f_X3_own] at h
  refine z_iload_n fx dX3_own_0 rfl ?_
  refine zSi (rest := []) fx hR (c_X3_isTableNumber (zl E) D ad g a1 I J rfl) mvX3_isTableNumber wm_X3_104 dX3_own_1 rfl ⟨rfl, rfl⟩ rfl rfl rfl ?_
  refine z_if_eq (tgt := 19) fx dX3_own_4 (by decide) (fun q1 => ?_) (fun q1 => ?_)
  · rw [if_pos q1] at h
    refine z_iconst (v := (-1)) fx dX3_own_19 rfl ?_
    cases h
    exact z_iret fx hr dX3_own_20
  · rw [if_neg q1] at h
    refine z_iload_n fx dX3_own_7 rfl ?_
    refine z_bipush (v := (-12)) fx dX3_own_8 rfl ?_
    refine z_icmp_lt (tgt := 19) fx dX3_own_10 (by decide) (fun q2 => ?_) (fun q2 => ?_)
    · rw [if_pos q2] at h
      refine z_iconst (v := (-1)) fx dX3_own_19 rfl ?_
      cases h
      exact z_iret fx hr dX3_own_20
    · rw [if_neg q2] at h
      refine z_iload_n fx dX3_own_13 rfl ?_
      refine z_bipush (v := 12) fx dX3_own_14 rfl ?_
      refine z_icmp_le (tgt := 21) fx dX3_own_16 (by decide) (fun q3 => ?_) (fun q3 => ?_)
      · rw [if_pos q3] at h
        refine z_aload_n fx dX3_own_21 rfl ?_
        refine gS_tables fx wf_X3_17 dX3_own_22 ?_
        refine z_iload_n fx dX3_own_25 rfl ?_
        obtain ⟨q4, h⟩ := oi h
        refine x_tld fx q4 dX3_own_26 ?_
        refine zVi (k := 22 + 3 * a1.toNatClampNeg) (rest := []) fx hR (c_X2_isMissing (zl E) D ad g a1.toNatClampNeg I J (ix_12 q4) rfl) (rcT (ix_12 q4)) mvX2_isMissing wm_X3_115 dX3_own_27 rfl ⟨rfl, rfl⟩ rfl rfl rfl ?_
        refine z_if_eq (tgt := 39) fx dX3_own_30 (by decide) (fun q5 => ?_) (fun q5 => ?_)
        · rw [if_pos q5] at h
          refine z_aload_n fx dX3_own_39 rfl ?_
          refine gS_polynomial fx wf_X3_32 dX3_own_40 ?_
          refine z_aload_n fx dX3_own_43 rfl ?_
          refine gS_tables fx wf_X3_17 dX3_own_44 ?_
          refine z_iload_n fx dX3_own_47 rfl ?_
          refine x_tld fx q4 dX3_own_48 ?_
          obtain ⟨x6, ex6, h⟩ := ob h
          refine zVv (k := 3) (rest := []) fx hR (c_X0_tellOf (zl E) D ad g a1.toNatClampNeg I J (ix_12 q4) ex6) rcP mvX0_tellOf wm_X3_207 dX3_own_49 rfl ⟨rfl, rfl⟩ rfl rfl rfl ?_
          refine z_aload_n fx dX3_own_52 rfl ?_
          refine gS_polynomial fx wf_X3_32 dX3_own_53 ?_
          refine z_iload_n fx dX3_own_56 rfl ?_
          obtain ⟨x7, ex7, h⟩ := ob h
          refine zVi (k := 3) (rest := []) fx hR (c_X0_takeRoots (zl E) D ad g a2 x6.1 x6.2 ex7) rcP mvX0_takeRoots wm_X3_293 dX3_own_57 rfl ⟨rfl, rfl⟩ rfl rfl rfl ?_
          cases h
          exact z_iret fx hr dX3_own_60
        · rw [if_neg q5] at h
          refine z_aload_n fx dX3_own_33 rfl ?_
          refine z_iconst (v := 1) fx dX3_own_34 rfl ?_
          obtain ⟨x8, ex8, h⟩ := ob h
          refine zVi (k := 0) (rest := []) fx hR (c_X3_found (zl E) D ad g 1 I J ex8) rcS mvX3_found wm_X3_69 dX3_own_35 rfl ⟨rfl, rfl⟩ rfl rfl rfl ?_
          cases h
          exact z_iret fx hr dX3_own_38
      · rw [if_neg q3] at h
        refine z_iconst (v := (-1)) fx dX3_own_19 rfl ?_
        cases h
        exact z_iret fx hr dX3_own_20
set_option maxRecDepth 100000 in
set_option maxHeartbeats 4000000 in
theorem c_X3_form (l : Launch) (D : va_G) (ad : Nat → Nat) (g : Nat → ClassId) (a1 : Int32) (a2 : Int32) (I : zMi) (J : zMl) {r : Int32 × zMi × zMl} (h : f_X3_form a1 a2 I J = some r) : zCM (xw D ad g) l yX3_form cX3_form 4 (some .int) rmX3_form [.ref (ad (0)), .int a1, .int a2] I J (some (.int r.1)) r.2.1 r.2.2 := by
  refine zCM.of (by decide) (Nat.le_of_ble_eq_true rfl) (fun E hl hR fx hr => ?_)
  subst hl
  rw [f_X3_form] at h
  refine z_iload_n fx dX3_form_0 rfl ?_
  refine zSi (rest := []) fx hR (c_X3_isTableNumber (zl E) D ad g a1 I J rfl) mvX3_isTableNumber wm_X3_104 dX3_form_1 rfl ⟨rfl, rfl⟩ rfl rfl rfl ?_
  refine z_if_eq (tgt := 11) fx dX3_form_4 (by decide) (fun q1 => ?_) (fun q1 => ?_)
  · rw [if_pos q1] at h
    refine z_iconst (v := (-1)) fx dX3_form_11 rfl ?_
    cases h
    exact z_iret fx hr dX3_form_12
  · rw [if_neg q1] at h
    refine z_iload_n fx dX3_form_7 rfl ?_
    refine z_if_ge (tgt := 13) fx dX3_form_8 (by decide) (fun q2 => ?_) (fun q2 => ?_)
    · rw [if_pos q2] at h
      refine z_aload_n fx dX3_form_13 rfl ?_
      refine gS_tables fx wf_X3_17 dX3_form_14 ?_
      refine z_iload_n fx dX3_form_17 rfl ?_
      obtain ⟨q3, h⟩ := oi h
      refine x_tld fx q3 dX3_form_18 ?_
      refine z_astore_n fx dX3_form_19 (by decide) rfl ?_
      refine z_aload_n fx dX3_form_20 rfl ?_
      refine zVi (k := 22 + 3 * a1.toNatClampNeg) (rest := []) fx hR (c_X2_isMissing (zl E) D ad g a1.toNatClampNeg I J (ix_12 q3) rfl) (rcT (ix_12 q3)) mvX2_isMissing wm_X3_115 dX3_form_21 rfl ⟨rfl, rfl⟩ rfl rfl rfl ?_
      refine z_if_eq (tgt := 33) fx dX3_form_24 (by decide) (fun q4 => ?_) (fun q4 => ?_)
      · rw [if_pos q4] at h
        refine z_iload_n fx dX3_form_33 rfl ?_
        refine z_aload_n fx dX3_form_34 rfl ?_
        refine gT_n fx (ix_12 q3) wf_X3_119 dX3_form_35 ?_
        refine z_icmp_le (tgt := 47) fx dX3_form_38 (by decide) (fun q5 => ?_) (fun q5 => ?_)
        · rw [if_pos q5] at h
          refine z_aload_n fx dX3_form_47 rfl ?_
          refine gS_polynomial fx wf_X3_32 dX3_form_48 ?_
          refine z_aload_n fx dX3_form_51 rfl ?_
          obtain ⟨x6, ex6, h⟩ := ob h
          refine zVv (k := 3) (rest := []) fx hR (c_X0_tellOf (zl E) D ad g a1.toNatClampNeg I J (ix_12 q3) ex6) rcP mvX0_tellOf wm_X3_207 dX3_form_52 rfl ⟨rfl, rfl⟩ rfl rfl rfl ?_
          refine z_aload_n fx dX3_form_55 rfl ?_
          refine z_aload_n fx dX3_form_56 rfl ?_
          refine gS_polynomial fx wf_X3_32 dX3_form_57 ?_
          refine gP_coefficients fx wf_X3_210 dX3_form_60 ?_
          refine z_iload_n fx dX3_form_63 rfl ?_
          obtain ⟨q7, h⟩ := oi h
          refine x_lld fx (Nat.le_of_ble_eq_true rfl) (cfX_4 g ad) q7 dX3_form_64 ?_
          refine pS_latestWorth fx wf_X3_54 dX3_form_65 ?_
          refine z_iconst (v := 1) fx dX3_form_68 rfl ?_
          cases h
          exact z_iret fx hr dX3_form_69
        · rw [if_neg q5] at h
          refine z_aload_n fx dX3_form_41 rfl ?_
          refine z_iconst (v := 2) fx dX3_form_42 rfl ?_
          obtain ⟨x8, ex8, h⟩ := ob h
          refine zVi (k := 0) (rest := []) fx hR (c_X3_found (zl E) D ad g 2 I J ex8) rcS mvX3_found wm_X3_69 dX3_form_43 rfl ⟨rfl, rfl⟩ rfl rfl rfl ?_
          cases h
          exact z_iret fx hr dX3_form_46
      · rw [if_neg q4] at h
        refine z_aload_n fx dX3_form_27 rfl ?_
        refine z_iconst (v := 1) fx dX3_form_28 rfl ?_
        obtain ⟨x9, ex9, h⟩ := ob h
        refine zVi (k := 0) (rest := []) fx hR (c_X3_found (zl E) D ad g 1 I J ex9) rcS mvX3_found wm_X3_69 dX3_form_29 rfl ⟨rfl, rfl⟩ rfl rfl rfl ?_
        cases h
        exact z_iret fx hr dX3_form_32
    · rw [if_neg q2] at h
      refine z_iconst (v := (-1)) fx dX3_form_11 rfl ?_
      cases h
      exact z_iret fx hr dX3_form_12
set_option maxRecDepth 100000 in
set_option maxHeartbeats 4000000 in
theorem w_X3_tellFraction_14 {E : zE} {D : va_G} {ad : Nat → Nat} {g : Nat → ClassId} (fx : zFX E (xw D ad g) cX3_tellFraction RX3 4 none) (hR : zR E = rmX3_tellFraction) {r : zMl} {I : zMi} (hr : zRX E (xw D ad g) none I r) : ∀ (fuel : Nat) (a1 : Int32) (a2 : Int32) (a3 : Int32) (J : zMl) , f_X3_tellFraction_14 fuel a1 a2 a3 J = some r → zAt E (xw D ad g) 14 [(0, .ref (ad (0))), (1, .int a1), (2, .int a2), (3, .int a3)] [] I J := by
  intro fuel
  induction fuel with
  | zero => intro a1 a2 a3 J h; rw [f_X3_tellFraction_14] at h; cases h
  | succ f ih =>
    intro a1 a2 a3 J h
    rw [f_X3_tellFraction_14] at h
    refine z_iload_n fx dX3_tellFraction_14 rfl ?_
    refine z_iconst (v := 1) fx dX3_tellFraction_15 rfl ?_
    refine z_icmp_le (tgt := 54) fx dX3_tellFraction_16 (by decide) (fun q1 => ?_) (fun q1 => ?_)
    · rw [if_pos q1] at h
      cases h
      exact z_vret fx hr dX3_tellFraction_54
    · rw [if_neg q1] at h
      refine z_iload_n fx dX3_tellFraction_19 rfl ?_
      refine z_iload_n fx dX3_tellFraction_20 rfl ?_
      obtain ⟨q2, h⟩ := on h
      refine z_irem fx dX3_tellFraction_21 q2 ?_
      refine z_if_ne (tgt := 48) fx dX3_tellFraction_22 (by decide) (fun q3 => ?_) (fun q3 => ?_)
      · rw [if_neg q3] at h
        refine z_iinc (v := (a3 + (-1))) fx dX3_tellFraction_48 rfl rfl (by decide) rfl ?_
        refine z_goto (tgt := 14) fx dX3_tellFraction_51 (by decide) ?_
        exact z_lv2 (ih a1 a2 (a3 + (-1)) J h) rfl
      · rw [if_pos q3] at h
        refine z_iload_n fx dX3_tellFraction_25 rfl ?_
        refine z_iload_n fx dX3_tellFraction_26 rfl ?_
        refine z_irem fx dX3_tellFraction_27 q2 ?_
        refine z_if_ne (tgt := 48) fx dX3_tellFraction_28 (by decide) (fun q4 => ?_) (fun q4 => ?_)
        · rw [if_neg q4] at h
          refine z_iinc (v := (a3 + (-1))) fx dX3_tellFraction_48 rfl rfl (by decide) rfl ?_
          refine z_goto (tgt := 14) fx dX3_tellFraction_51 (by decide) ?_
          exact z_lv2 (ih a1 a2 (a3 + (-1)) J h) rfl
        · rw [if_pos q4] at h
          refine z_aload_n fx dX3_tellFraction_31 rfl ?_
          refine z_iload_n fx dX3_tellFraction_32 rfl ?_
          refine z_iload_n fx dX3_tellFraction_33 rfl ?_
          refine z_idiv fx dX3_tellFraction_34 q2 ?_
          refine z_i2l fx dX3_tellFraction_35 ?_
          refine pS_latestUpper fx wf_X3_58 dX3_tellFraction_36 ?_
          refine z_aload_n fx dX3_tellFraction_39 rfl ?_
          refine z_iload_n fx dX3_tellFraction_40 rfl ?_
          refine z_iload_n fx dX3_tellFraction_41 rfl ?_
          refine z_idiv fx dX3_tellFraction_42 q2 ?_
          refine z_i2l fx dX3_tellFraction_43 ?_
          refine pS_latestLower fx wf_X3_61 dX3_tellFraction_44 ?_
          cases h
          exact z_vret fx hr dX3_tellFraction_47
set_option maxRecDepth 100000 in
set_option maxHeartbeats 4000000 in
theorem c_X3_tellFraction (l : Launch) (D : va_G) (ad : Nat → Nat) (g : Nat → ClassId) (a1 : Int32) (a2 : Int32) (I : zMi) (J : zMl) {r : zMl} (h : f_X3_tellFraction a1 a2 J = some r) : zCM (xw D ad g) l yX3_tellFraction cX3_tellFraction 4 none rmX3_tellFraction [.ref (ad (0)), .int a1, .int a2] I J none I r := by
  refine zCM.of (by decide) (Nat.le_of_ble_eq_true rfl) (fun E hl hR fx hr => ?_)
  subst hl
  rw [f_X3_tellFraction] at h
  refine z_aload_n fx dX3_tellFraction_0 rfl ?_
  refine z_iload_n fx dX3_tellFraction_1 rfl ?_
  refine z_i2l fx dX3_tellFraction_2 ?_
  refine pS_latestUpper fx wf_X3_58 dX3_tellFraction_3 ?_
  refine z_aload_n fx dX3_tellFraction_6 rfl ?_
  refine z_iload_n fx dX3_tellFraction_7 rfl ?_
  refine z_i2l fx dX3_tellFraction_8 ?_
  refine pS_latestLower fx wf_X3_61 dX3_tellFraction_9 ?_
  refine z_iload_n fx dX3_tellFraction_12 rfl ?_
  refine z_istore_n fx dX3_tellFraction_13 (by decide) rfl ?_
  exact z_lv2 (w_X3_tellFraction_14 fx hR hr fu a1 a2 a2 (wJ (wJ J (0) 11 (a1.toInt64)) (0) 12 (a2.toInt64)) h) rfl
set_option maxRecDepth 100000 in
set_option maxHeartbeats 4000000 in
theorem c_X3_weight (l : Launch) (D : va_G) (ad : Nat → Nat) (g : Nat → ClassId) (a1 : Int32) (I : zMi) (J : zMl) {r : Int32 × zMi × zMl} (h : f_X3_weight a1 I J = some r) : zCM (xw D ad g) l yX3_weight cX3_weight 3 (some .int) rmX3_weight [.ref (ad (0)), .int a1] I J (some (.int r.1)) r.2.1 r.2.2 := by
  refine zCM.of (by decide) (Nat.le_of_ble_eq_true rfl) (fun E hl hR fx hr => ?_)
  subst hl
  rw [f_X3_weight] at h
  refine z_iload_n fx dX3_weight_0 rfl ?_
  refine zSi (rest := []) fx hR (c_X3_isTableNumber (zl E) D ad g a1 I J rfl) mvX3_isTableNumber wm_X3_104 dX3_weight_1 rfl ⟨rfl, rfl⟩ rfl rfl rfl ?_
  refine z_if_ne (tgt := 9) fx dX3_weight_4 (by decide) (fun q1 => ?_) (fun q1 => ?_)
  · rw [if_neg q1] at h
    refine z_aload_n fx dX3_weight_9 rfl ?_
    refine gS_tables fx wf_X3_17 dX3_weight_10 ?_
    refine z_iload_n fx dX3_weight_13 rfl ?_
    obtain ⟨q2, h⟩ := oi h
    refine x_tld fx q2 dX3_weight_14 ?_
    refine z_astore_n fx dX3_weight_15 (by decide) rfl ?_
    refine z_aload_n fx dX3_weight_16 rfl ?_
    refine zVi (k := 22 + 3 * a1.toNatClampNeg) (rest := []) fx hR (c_X2_isMissing (zl E) D ad g a1.toNatClampNeg I J (ix_12 q2) rfl) (rcT (ix_12 q2)) mvX2_isMissing wm_X3_115 dX3_weight_17 rfl ⟨rfl, rfl⟩ rfl rfl rfl ?_
    refine z_if_eq (tgt := 29) fx dX3_weight_20 (by decide) (fun q3 => ?_) (fun q3 => ?_)
    · rw [if_pos q3] at h
      refine z_aload_n fx dX3_weight_29 rfl ?_
      refine z_aload_n fx dX3_weight_30 rfl ?_
      refine gT_plus fx (ix_12 q2) wf_X3_137 dX3_weight_31 ?_
      refine z_aload_n fx dX3_weight_34 rfl ?_
      refine gT_n fx (ix_12 q2) wf_X3_119 dX3_weight_35 ?_
      obtain ⟨x4, ex4, h⟩ := ob h
      refine zSi (rest := [.ref (ad (0))]) fx hR (c_X3_countBits (zl E) D ad g (23 + 3 * a1.toNatClampNeg) (I (22 + 3 * a1.toNatClampNeg) 2) I J ⟨(bT1 (ix_12 q2)), (cfX_Tp g ad (ix_12 q2))⟩ ex4) mvX3_countBits wm_X3_140 dX3_weight_38 rfl ⟨rfl, rfl⟩ rfl rfl rfl ?_
      refine z_aload_n fx dX3_weight_41 rfl ?_
      refine gT_minus fx (ix_12 q2) wf_X3_144 dX3_weight_42 ?_
      refine z_aload_n fx dX3_weight_45 rfl ?_
      refine gT_n fx (ix_12 q2) wf_X3_119 dX3_weight_46 ?_
      obtain ⟨x5, ex5, h⟩ := ob h
      refine zSi (rest := [.int x4, .ref (ad (0))]) fx hR (c_X3_countBits (zl E) D ad g (24 + 3 * a1.toNatClampNeg) (I (22 + 3 * a1.toNatClampNeg) 2) I J ⟨(bT2 (ix_12 q2)), (cfX_Tm g ad (ix_12 q2))⟩ ex5) mvX3_countBits wm_X3_140 dX3_weight_49 rfl ⟨rfl, rfl⟩ rfl rfl rfl ?_
      refine z_isub fx dX3_weight_52 ?_
      refine z_aload_n fx dX3_weight_53 rfl ?_
      refine gT_n fx (ix_12 q2) wf_X3_119 dX3_weight_54 ?_
      obtain ⟨x6, ex6, h⟩ := ob h
      refine zVv (k := 0) (rest := []) fx hR (c_X3_tellFraction (zl E) D ad g (x4 - x5) (I (22 + 3 * a1.toNatClampNeg) 2) I J ex6) rcS mvX3_tellFraction wm_X3_296 dX3_weight_57 rfl ⟨rfl, rfl⟩ rfl rfl rfl ?_
      refine z_iconst (v := 1) fx dX3_weight_60 rfl ?_
      cases h
      exact z_iret fx hr dX3_weight_61
    · rw [if_neg q3] at h
      refine z_aload_n fx dX3_weight_23 rfl ?_
      refine z_iconst (v := 1) fx dX3_weight_24 rfl ?_
      obtain ⟨x7, ex7, h⟩ := ob h
      refine zVi (k := 0) (rest := []) fx hR (c_X3_found (zl E) D ad g 1 I J ex7) rcS mvX3_found wm_X3_69 dX3_weight_25 rfl ⟨rfl, rfl⟩ rfl rfl rfl ?_
      cases h
      exact z_iret fx hr dX3_weight_28
  · rw [if_pos q1] at h
    refine z_iconst (v := (-1)) fx dX3_weight_7 rfl ?_
    cases h
    exact z_iret fx hr dX3_weight_8
set_option maxRecDepth 100000 in
set_option maxHeartbeats 4000000 in
theorem c_X3_worthTold (l : Launch) (D : va_G) (ad : Nat → Nat) (g : Nat → ClassId) (I : zMi) (J : zMl) {r : Int64} (h : f_X3_worthTold J = r) : zCM (xw D ad g) l yX3_worthTold cX3_worthTold 1 (some .long) rmX3_worthTold [.ref (ad (0))] I J (some (.long r)) I J := by
  refine zCM.of (by decide) (Nat.le_of_ble_eq_true rfl) (fun E hl hR fx hr => ?_)
  subst hl
  rw [f_X3_worthTold] at h
  refine z_aload_n fx dX3_worthTold_0 rfl ?_
  refine gS_latestWorth fx wf_X3_54 dX3_worthTold_1 ?_
  subst h
  exact z_lret fx hr dX3_worthTold_4
set_option maxRecDepth 100000 in
set_option maxHeartbeats 4000000 in
theorem c_X3_asked (l : Launch) (D : va_G) (ad : Nat → Nat) (g : Nat → ClassId) (I : zMi) (J : zMl) {r : Int32} (h : f_X3_asked I = r) : zCM (xw D ad g) l yX3_asked cX3_asked 1 (some .int) rmX3_asked [.ref (ad (0))] I J (some (.int r)) I J := by
  refine zCM.of (by decide) (Nat.le_of_ble_eq_true rfl) (fun E hl hR fx hr => ?_)
  subst hl
  rw [f_X3_asked] at h
  refine z_aload_n fx dX3_asked_0 rfl ?_
  refine gS_latestAsked fx wf_X3_51 dX3_asked_1 ?_
  subst h
  exact z_iret fx hr dX3_asked_4
set_option maxRecDepth 100000 in
set_option maxHeartbeats 4000000 in
theorem c_X3_upper (l : Launch) (D : va_G) (ad : Nat → Nat) (g : Nat → ClassId) (I : zMi) (J : zMl) {r : Int64} (h : f_X3_upper J = r) : zCM (xw D ad g) l yX3_upper cX3_upper 1 (some .long) rmX3_upper [.ref (ad (0))] I J (some (.long r)) I J := by
  refine zCM.of (by decide) (Nat.le_of_ble_eq_true rfl) (fun E hl hR fx hr => ?_)
  subst hl
  rw [f_X3_upper] at h
  refine z_aload_n fx dX3_upper_0 rfl ?_
  refine gS_latestUpper fx wf_X3_58 dX3_upper_1 ?_
  subst h
  exact z_lret fx hr dX3_upper_4
set_option maxRecDepth 100000 in
set_option maxHeartbeats 4000000 in
theorem c_X3_lower (l : Launch) (D : va_G) (ad : Nat → Nat) (g : Nat → ClassId) (I : zMi) (J : zMl) {r : Int64} (h : f_X3_lower J = r) : zCM (xw D ad g) l yX3_lower cX3_lower 1 (some .long) rmX3_lower [.ref (ad (0))] I J (some (.long r)) I J := by
  refine zCM.of (by decide) (Nat.le_of_ble_eq_true rfl) (fun E hl hR fx hr => ?_)
  subst hl
  rw [f_X3_lower] at h
  refine z_aload_n fx dX3_lower_0 rfl ?_
  refine gS_latestLower fx wf_X3_61 dX3_lower_1 ?_
  subst h
  exact z_lret fx hr dX3_lower_4
set_option maxRecDepth 100000 in
set_option maxHeartbeats 4000000 in
theorem w_X3_countRows_4 {E : zE} {D : va_G} {ad : Nat → Nat} {g : Nat → ClassId} (fx : zFX E (xw D ad g) cX3_countRows RX3 3 (some .int)) (hR : zR E = rmX3_countRows) {r : Int32} {I : zMi} {J : zMl} (hr : zRX E (xw D ad g) (some (.int r)) I J) : ∀ (fuel : Nat) (a1 : Int32) (a2 : Int32), f_X3_countRows_4 I fuel a1 a2 = some r → zAt E (xw D ad g) 4 [(0, .ref (ad (0))), (1, .int a1), (2, .int a2)] [] I J := by
  intro fuel
  induction fuel with
  | zero => intro a1 a2 h; rw [f_X3_countRows_4] at h; cases h
  | succ f ih =>
    intro a1 a2 h
    rw [f_X3_countRows_4] at h
    refine z_iload_n fx dX3_countRows_4 rfl ?_
    refine z_bipush (v := 6) fx dX3_countRows_5 rfl ?_
    refine z_icmp_ge (tgt := 31) fx dX3_countRows_7 (by decide) (fun q1 => ?_) (fun q1 => ?_)
    · rw [if_pos q1] at h
      refine z_iload_n fx dX3_countRows_31 rfl ?_
      cases h
      exact z_iret fx hr dX3_countRows_32
    · rw [if_neg q1] at h
      refine z_aload_n fx dX3_countRows_10 rfl ?_
      refine gS_rows fx wf_X3_11 dX3_countRows_11 ?_
      refine z_iload_n fx dX3_countRows_14 rfl ?_
      obtain ⟨q2, h⟩ := oi h
      refine x_rld fx q2 dX3_countRows_15 ?_
      refine zVi (k := 10 + 2 * a2.toNatClampNeg) (rest := []) fx hR (c_X1_isMissing (zl E) D ad g a2.toNatClampNeg I J (ix_lt q2) rfl) (rcR (ix_lt q2)) mvX1_isMissing wm_X3_77 dX3_countRows_16 rfl ⟨rfl, rfl⟩ rfl rfl rfl ?_
      refine z_if_ne (tgt := 25) fx dX3_countRows_19 (by decide) (fun q3 => ?_) (fun q3 => ?_)
      · rw [if_neg q3] at h
        refine z_iinc (v := (a2 + 1)) fx dX3_countRows_25 rfl rfl (by decide) rfl ?_
        refine z_goto (tgt := 4) fx dX3_countRows_28 (by decide) ?_
        exact z_lv2 (ih a1 (a2 + 1) h) rfl
      · rw [if_pos q3] at h
        refine z_iinc (v := (a1 + 1)) fx dX3_countRows_22 rfl rfl (by decide) rfl ?_
        refine z_iinc (v := (a2 + 1)) fx dX3_countRows_25 rfl rfl (by decide) rfl ?_
        refine z_goto (tgt := 4) fx dX3_countRows_28 (by decide) ?_
        exact z_lv2 (ih (a1 + 1) (a2 + 1) h) rfl
set_option maxRecDepth 100000 in
set_option maxHeartbeats 4000000 in
theorem c_X3_countRows (l : Launch) (D : va_G) (ad : Nat → Nat) (g : Nat → ClassId) (I : zMi) (J : zMl) {r : Int32} (h : f_X3_countRows I = some r) : zCM (xw D ad g) l yX3_countRows cX3_countRows 3 (some .int) rmX3_countRows [.ref (ad (0))] I J (some (.int r)) I J := by
  refine zCM.of (by decide) (Nat.le_of_ble_eq_true rfl) (fun E hl hR fx hr => ?_)
  subst hl
  rw [f_X3_countRows] at h
  refine z_iconst (v := 0) fx dX3_countRows_0 rfl ?_
  refine z_istore_n fx dX3_countRows_1 (by decide) rfl ?_
  refine z_iconst (v := 0) fx dX3_countRows_2 rfl ?_
  refine z_istore_n fx dX3_countRows_3 (by decide) rfl ?_
  exact z_lv2 (w_X3_countRows_4 fx hR hr fu 0 0 h) rfl
set_option maxRecDepth 100000 in
set_option maxHeartbeats 4000000 in
theorem w_X3_countTables_4 {E : zE} {D : va_G} {ad : Nat → Nat} {g : Nat → ClassId} (fx : zFX E (xw D ad g) cX3_countTables RX3 4 (some .int)) (hR : zR E = rmX3_countTables) {r : Int32} {I : zMi} {J : zMl} (hr : zRX E (xw D ad g) (some (.int r)) I J) : ∀ (fuel : Nat) (a1 : Int32) (a2 : Int32) (a3 : Int32), f_X3_countTables_4 I fuel a1 a2 a3 = some r → zAt E (xw D ad g) 4 [(0, .ref (ad (0))), (1, .int a1), (2, .int a2), (3, .int a3)] [] I J := by
  intro fuel
  induction fuel with
  | zero => intro a1 a2 a3 h; rw [f_X3_countTables_4] at h; cases h
  | succ f ih =>
    intro a1 a2 a3 h
    rw [f_X3_countTables_4] at h
    refine z_iload_n fx dX3_countTables_4 rfl ?_
    refine z_bipush (v := 10) fx dX3_countTables_5 rfl ?_
    refine z_icmp_ge (tgt := 44) fx dX3_countTables_7 (by decide) (fun q1 => ?_) (fun q1 => ?_)
    · rw [if_pos q1] at h
      refine z_iload_n fx dX3_countTables_44 rfl ?_
      cases h
      exact z_iret fx hr dX3_countTables_45
    · rw [if_neg q1] at h
      refine z_aload_n fx dX3_countTables_10 rfl ?_
      refine gS_tables fx wf_X3_17 dX3_countTables_11 ?_
      refine z_iload_n fx dX3_countTables_14 rfl ?_
      obtain ⟨q2, h⟩ := oi h
      refine x_tld fx q2 dX3_countTables_15 ?_
      refine zVi (k := 22 + 3 * a3.toNatClampNeg) (rest := []) fx hR (c_X2_isMissing (zl E) D ad g a3.toNatClampNeg I J (ix_12 q2) rfl) (rcT (ix_12 q2)) mvX2_isMissing wm_X3_115 dX3_countTables_16 rfl ⟨rfl, rfl⟩ rfl rfl rfl ?_
      refine z_if_ne (tgt := 38) fx dX3_countTables_19 (by decide) (fun q3 => ?_) (fun q3 => ?_)
      · rw [if_neg q3] at h
        refine z_iinc (v := (a3 + 1)) fx dX3_countTables_38 rfl rfl (by decide) rfl ?_
        refine z_goto (tgt := 4) fx dX3_countTables_41 (by decide) ?_
        exact z_lv2 (ih a1 a2 (a3 + 1) h) rfl
      · rw [if_pos q3] at h
        refine z_aload_n fx dX3_countTables_22 rfl ?_
        refine gS_tables fx wf_X3_17 dX3_countTables_23 ?_
        refine z_iload_n fx dX3_countTables_26 rfl ?_
        refine x_tld fx q2 dX3_countTables_27 ?_
        refine z_iload_n fx dX3_countTables_28 rfl ?_
        refine zVi (k := 22 + 3 * a3.toNatClampNeg) (rest := []) fx hR (c_X2_isOfKind (zl E) D ad g a3.toNatClampNeg a1 I J (ix_12 q2) rfl) (rcT (ix_12 q2)) mvX2_isOfKind wm_X3_150 dX3_countTables_29 rfl ⟨rfl, rfl⟩ rfl rfl rfl ?_
        refine z_if_eq (tgt := 38) fx dX3_countTables_32 (by decide) (fun q4 => ?_) (fun q4 => ?_)
        · rw [if_pos q4] at h
          refine z_iinc (v := (a3 + 1)) fx dX3_countTables_38 rfl rfl (by decide) rfl ?_
          refine z_goto (tgt := 4) fx dX3_countTables_41 (by decide) ?_
          exact z_lv2 (ih a1 a2 (a3 + 1) h) rfl
        · rw [if_neg q4] at h
          refine z_iinc (v := (a2 + 1)) fx dX3_countTables_35 rfl rfl (by decide) rfl ?_
          refine z_iinc (v := (a3 + 1)) fx dX3_countTables_38 rfl rfl (by decide) rfl ?_
          refine z_goto (tgt := 4) fx dX3_countTables_41 (by decide) ?_
          exact z_lv2 (ih a1 (a2 + 1) (a3 + 1) h) rfl
set_option maxRecDepth 100000 in
set_option maxHeartbeats 4000000 in
theorem c_X3_countTables (l : Launch) (D : va_G) (ad : Nat → Nat) (g : Nat → ClassId) (a1 : Int32) (I : zMi) (J : zMl) {r : Int32} (h : f_X3_countTables a1 I = some r) : zCM (xw D ad g) l yX3_countTables cX3_countTables 4 (some .int) rmX3_countTables [.ref (ad (0)), .int a1] I J (some (.int r)) I J := by
  refine zCM.of (by decide) (Nat.le_of_ble_eq_true rfl) (fun E hl hR fx hr => ?_)
  subst hl
  rw [f_X3_countTables] at h
  refine z_iconst (v := 0) fx dX3_countTables_0 rfl ?_
  refine z_istore_n fx dX3_countTables_1 (by decide) rfl ?_
  refine z_iconst (v := 0) fx dX3_countTables_2 rfl ?_
  refine z_istore_n fx dX3_countTables_3 (by decide) rfl ?_
  exact z_lv2 (w_X3_countTables_4 fx hR hr fu a1 0 0 h) rfl
set_option maxRecDepth 100000 in
set_option maxHeartbeats 4000000 in
theorem c_X3_count (l : Launch) (D : va_G) (ad : Nat → Nat) (g : Nat → ClassId) (a1 : Int32) (I : zMi) (J : zMl) {r : Int32} (h : f_X3_count a1 I = some r) : zCM (xw D ad g) l yX3_count cX3_count 2 (some .int) rmX3_count [.ref (ad (0)), .int a1] I J (some (.int r)) I J := by
  refine zCM.of (by decide) (Nat.le_of_ble_eq_true rfl) (fun E hl hR fx hr => ?_)
  subst hl
  rw [f_X3_count] at h
  refine z_iload_n fx dX3_count_0 rfl ?_
  by_cases q1 : a1 = 0
  · rw [if_pos q1] at h
    refine z_tin (off := 31) (tgt := 32) fx dX3_count_1 (by rw [q1]; decide) (by rw [q1]; decide) (by rw [q1]; rfl) (by decide) ?_
    refine z_aload_n fx dX3_count_32 rfl ?_
    obtain ⟨x2, ex2, h⟩ := ob h
    refine zVi (k := 0) (rest := []) fx hR (c_X3_countRows (zl E) D ad g I J ex2) rcS mvX3_countRows wm_X3_299 dX3_count_33 rfl ⟨rfl, rfl⟩ rfl rfl rfl ?_
    cases h
    exact z_iret fx hr dX3_count_36
  · rw [if_neg q1] at h
    by_cases q3 : a1 = 1
    · rw [if_pos q3] at h
      refine z_tin (off := 36) (tgt := 37) fx dX3_count_1 (by rw [q3]; decide) (by rw [q3]; decide) (by rw [q3]; rfl) (by decide) ?_
      refine z_aload_n fx dX3_count_37 rfl ?_
      refine z_iconst (v := 0) fx dX3_count_38 rfl ?_
      obtain ⟨x4, ex4, h⟩ := ob h
      refine zVi (k := 0) (rest := []) fx hR (c_X3_countTables (zl E) D ad g 0 I J ex4) rcS mvX3_countTables wm_X3_302 dX3_count_39 rfl ⟨rfl, rfl⟩ rfl rfl rfl ?_
      cases h
      exact z_iret fx hr dX3_count_42
    · rw [if_neg q3] at h
      by_cases q5 : a1 = 2
      · rw [if_pos q5] at h
        refine z_tin (off := 42) (tgt := 43) fx dX3_count_1 (by rw [q5]; decide) (by rw [q5]; decide) (by rw [q5]; rfl) (by decide) ?_
        refine z_aload_n fx dX3_count_43 rfl ?_
        refine z_iconst (v := 1) fx dX3_count_44 rfl ?_
        obtain ⟨x6, ex6, h⟩ := ob h
        refine zVi (k := 0) (rest := []) fx hR (c_X3_countTables (zl E) D ad g 1 I J ex6) rcS mvX3_countTables wm_X3_302 dX3_count_45 rfl ⟨rfl, rfl⟩ rfl rfl rfl ?_
        cases h
        exact z_iret fx hr dX3_count_48
      · rw [if_neg q5] at h
        by_cases q7 : a1 = 3
        · rw [if_pos q7] at h
          refine z_tin (off := 48) (tgt := 49) fx dX3_count_1 (by rw [q7]; decide) (by rw [q7]; decide) (by rw [q7]; rfl) (by decide) ?_
          refine z_aload_n fx dX3_count_49 rfl ?_
          refine z_iconst (v := 3) fx dX3_count_50 rfl ?_
          obtain ⟨x8, ex8, h⟩ := ob h
          refine zVi (k := 0) (rest := []) fx hR (c_X3_countTables (zl E) D ad g 3 I J ex8) rcS mvX3_countTables wm_X3_302 dX3_count_51 rfl ⟨rfl, rfl⟩ rfl rfl rfl ?_
          cases h
          exact z_iret fx hr dX3_count_54
        · rw [if_neg q7] at h
          refine z_tout (tgt := 55) fx dX3_count_1 (by have := zne q1 (n := 0) (by decide); have := zne q3 (n := 1) (by decide); have := zne q5 (n := 2) (by decide); have := zne q7 (n := 3) (by decide); omega) (by decide) ?_
          refine z_iconst (v := (-1)) fx dX3_count_55 rfl ?_
          cases h
          exact z_iret fx hr dX3_count_56
set_option maxRecDepth 100000 in
set_option maxHeartbeats 4000000 in
theorem c_X3_finding (l : Launch) (D : va_G) (ad : Nat → Nat) (g : Nat → ClassId) (I : zMi) (J : zMl) {r : Int32} (h : f_X3_finding I = r) : zCM (xw D ad g) l yX3_finding cX3_finding 1 (some .int) rmX3_finding [.ref (ad (0))] I J (some (.int r)) I J := by
  refine zCM.of (by decide) (Nat.le_of_ble_eq_true rfl) (fun E hl hR fx hr => ?_)
  subst hl
  rw [f_X3_finding] at h
  refine z_aload_n fx dX3_finding_0 rfl ?_
  refine gS_latestFinding fx wf_X3_47 dX3_finding_1 ?_
  subst h
  exact z_iret fx hr dX3_finding_4
set_option maxRecDepth 100000 in
set_option maxHeartbeats 4000000 in
theorem c_X3_findings (l : Launch) (D : va_G) (ad : Nat → Nat) (g : Nat → ClassId) (a1 : Int32) (I : zMi) (J : zMl) {r : Int32} (h : f_X3_findings a1 I = some r) : zCM (xw D ad g) l yX3_findings cX3_findings 2 (some .int) rmX3_findings [.ref (ad (0)), .int a1] I J (some (.int r)) I J := by
  refine zCM.of (by decide) (Nat.le_of_ble_eq_true rfl) (fun E hl hR fx hr => ?_)
  subst hl
  rw [f_X3_findings] at h
  refine z_iload_n fx dX3_findings_0 rfl ?_
  refine z_iconst (v := 1) fx dX3_findings_1 rfl ?_
  refine z_icmp_lt (tgt := 10) fx dX3_findings_2 (by decide) (fun q1 => ?_) (fun q1 => ?_)
  · rw [if_pos q1] at h
    refine z_iconst (v := (-1)) fx dX3_findings_10 rfl ?_
    refine z_goto (tgt := 20) fx dX3_findings_11 (by decide) ?_
    cases h
    exact z_iret fx hr dX3_findings_20
  · rw [if_neg q1] at h
    refine z_iload_n fx dX3_findings_5 rfl ?_
    refine z_iconst (v := 5) fx dX3_findings_6 rfl ?_
    refine z_icmp_le (tgt := 14) fx dX3_findings_7 (by decide) (fun q2 => ?_) (fun q2 => ?_)
    · rw [if_pos q2] at h
      refine z_aload_n fx dX3_findings_14 rfl ?_
      refine gS_findingCounts fx wf_X3_44 dX3_findings_15 ?_
      refine z_iload_n fx dX3_findings_18 rfl ?_
      obtain ⟨q3, h⟩ := oi h
      refine x_ild fx (Nat.le_of_ble_eq_true rfl) (cfX_9 g ad) q3 dX3_findings_19 ?_
      cases h
      exact z_iret fx hr dX3_findings_20
    · rw [if_neg q2] at h
      refine z_iconst (v := (-1)) fx dX3_findings_10 rfl ?_
      refine z_goto (tgt := 20) fx dX3_findings_11 (by decide) ?_
      cases h
      exact z_iret fx hr dX3_findings_20
set_option maxRecDepth 100000 in
set_option maxHeartbeats 4000000 in
theorem w_X3_digest_31 {E : zE} {D : va_G} {ad : Nat → Nat} {g : Nat → ClassId} (fx : zFX E (xw D ad g) cX3_digest RX3 4 (some .long)) (hR : zR E = rmX3_digest) {r : Int64} {I : zMi} {J : zMl} (hr : zRX E (xw D ad g) (some (.long r)) I J) : ∀ (fuel : Nat) (a1 : Int64) (a3 : Int32), f_X3_digest_31 I fuel a1 a3 = some r → zAt E (xw D ad g) 31 [(0, .ref (ad (0))), (1, .long a1), (3, .int a3)] [] I J := by
  intro fuel
  induction fuel with
  | zero => intro a1 a3 h; rw [f_X3_digest_31] at h; cases h
  | succ f ih =>
    intro a1 a3 h
    rw [f_X3_digest_31] at h
    refine z_iload_n fx dX3_digest_31 rfl ?_
    refine z_bipush (v := 6) fx dX3_digest_32 rfl ?_
    refine z_icmp_ge (tgt := 54) fx dX3_digest_34 (by decide) (fun q1 => ?_) (fun q1 => ?_)
    · rw [if_pos q1] at h
      refine z_lload_n fx dX3_digest_54 rfl ?_
      cases h
      exact z_lret fx hr dX3_digest_55
    · rw [if_neg q1] at h
      refine z_aload_n fx dX3_digest_37 rfl ?_
      refine gS_rows fx wf_X3_11 dX3_digest_38 ?_
      refine z_iload_n fx dX3_digest_41 rfl ?_
      obtain ⟨q2, h⟩ := oi h
      refine x_rld fx q2 dX3_digest_42 ?_
      refine z_lload_n fx dX3_digest_43 rfl ?_
      obtain ⟨x3, ex3, h⟩ := ob h
      refine zVl (k := 10 + 2 * a3.toNatClampNeg) (rest := []) fx hR (c_X1_addedTo (zl E) D ad g a3.toNatClampNeg a1 I J (ix_lt q2) ex3) (rcR (ix_lt q2)) mvX1_addedTo wm_X3_311 dX3_digest_44 rfl ⟨rfl, rfl⟩ rfl rfl rfl ?_
      refine z_lstore_n fx dX3_digest_47 (by decide) rfl ?_
      refine z_iinc (v := (a3 + 1)) fx dX3_digest_48 rfl rfl (by decide) rfl ?_
      refine z_goto (tgt := 31) fx dX3_digest_51 (by decide) ?_
      exact z_lv2 (ih x3 (a3 + 1) h) rfl
set_option maxRecDepth 100000 in
set_option maxHeartbeats 4000000 in
theorem w_X3_digest_6 {E : zE} {D : va_G} {ad : Nat → Nat} {g : Nat → ClassId} (fx : zFX E (xw D ad g) cX3_digest RX3 4 (some .long)) (hR : zR E = rmX3_digest) {r : Int64} {I : zMi} {J : zMl} (hr : zRX E (xw D ad g) (some (.long r)) I J) : ∀ (fuel : Nat) (a1 : Int64) (a3 : Int32), f_X3_digest_6 I fuel a1 a3 = some r → zAt E (xw D ad g) 6 [(0, .ref (ad (0))), (1, .long a1), (3, .int a3)] [] I J := by
  intro fuel
  induction fuel with
  | zero => intro a1 a3 h; rw [f_X3_digest_6] at h; cases h
  | succ f ih =>
    intro a1 a3 h
    rw [f_X3_digest_6] at h
    refine z_iload_n fx dX3_digest_6 rfl ?_
    refine z_bipush (v := 10) fx dX3_digest_7 rfl ?_
    refine z_icmp_ge (tgt := 29) fx dX3_digest_9 (by decide) (fun q1 => ?_) (fun q1 => ?_)
    · rw [if_pos q1] at h
      refine z_iconst (v := 0) fx dX3_digest_29 rfl ?_
      refine z_istore_n fx dX3_digest_30 (by decide) rfl ?_
      exact z_lv2 (w_X3_digest_31 fx hR hr fu a1 0 h) rfl
    · rw [if_neg q1] at h
      refine z_aload_n fx dX3_digest_12 rfl ?_
      refine gS_tables fx wf_X3_17 dX3_digest_13 ?_
      refine z_iload_n fx dX3_digest_16 rfl ?_
      obtain ⟨q2, h⟩ := oi h
      refine x_tld fx q2 dX3_digest_17 ?_
      refine z_lload_n fx dX3_digest_18 rfl ?_
      obtain ⟨x3, ex3, h⟩ := ob h
      refine zVl (k := 22 + 3 * a3.toNatClampNeg) (rest := []) fx hR (c_X2_addedTo (zl E) D ad g a3.toNatClampNeg a1 I J (ix_12 q2) ex3) (rcT (ix_12 q2)) mvX2_addedTo wm_X3_307 dX3_digest_19 rfl ⟨rfl, rfl⟩ rfl rfl rfl ?_
      refine z_lstore_n fx dX3_digest_22 (by decide) rfl ?_
      refine z_iinc (v := (a3 + 1)) fx dX3_digest_23 rfl rfl (by decide) rfl ?_
      refine z_goto (tgt := 6) fx dX3_digest_26 (by decide) ?_
      exact z_lv2 (ih x3 (a3 + 1) h) rfl
set_option maxRecDepth 100000 in
set_option maxHeartbeats 4000000 in
theorem c_X3_digest (l : Launch) (D : va_G) (ad : Nat → Nat) (g : Nat → ClassId) (I : zMi) (J : zMl) {r : Int64} (h : f_X3_digest I = some r) : zCM (xw D ad g) l yX3_digest cX3_digest 4 (some .long) rmX3_digest [.ref (ad (0))] I J (some (.long r)) I J := by
  refine zCM.of (by decide) (Nat.le_of_ble_eq_true rfl) (fun E hl hR fx hr => ?_)
  subst hl
  rw [f_X3_digest] at h
  refine z_ldc2 fx wc_X3_305 dX3_digest_0 ?_
  refine z_lstore_n fx dX3_digest_3 (by decide) rfl ?_
  refine z_iconst (v := 0) fx dX3_digest_4 rfl ?_
  refine z_istore_n fx dX3_digest_5 (by decide) rfl ?_
  exact z_lv2 (w_X3_digest_6 fx hR hr fu 17 0 h) rfl
set_option maxRecDepth 100000 in
set_option maxHeartbeats 4000000 in
theorem c_X4_in (l : Launch) (D : va_G) (ad : Nat → Nat) (g : Nat → ClassId) (a0 : Int32) (a1 : Int32) (a2 : Int32) (I : zMi) (J : zMl) {r : Int32} (h : f_X4_in a0 a1 a2 = r) : zCM (mw D ad g) l yX4_in cX4_in 3 (some .boolean) rmX4_in [.int a0, .int a1, .int a2] I J (some (.int r)) I J := by
  refine zCM.of (by decide) (Nat.le_of_ble_eq_true rfl) (fun E hl hR fx hr => ?_)
  subst hl
  rw [f_X4_in] at h
  refine z_iload_n fx dX4_in_0 rfl ?_
  refine z_iload_n fx dX4_in_1 rfl ?_
  refine z_icmp_lt (tgt := 14) fx dX4_in_2 (by decide) (fun q1 => ?_) (fun q1 => ?_)
  · rw [if_pos q1] at h
    refine z_iconst (v := 0) fx dX4_in_14 rfl ?_
    subst h
    exact z_zret fx rfl hr dX4_in_15
  · rw [if_neg q1] at h
    refine z_iload_n fx dX4_in_5 rfl ?_
    refine z_iload_n fx dX4_in_6 rfl ?_
    refine z_icmp_gt (tgt := 14) fx dX4_in_7 (by decide) (fun q2 => ?_) (fun q2 => ?_)
    · rw [if_pos q2] at h
      refine z_iconst (v := 0) fx dX4_in_14 rfl ?_
      subst h
      exact z_zret fx rfl hr dX4_in_15
    · rw [if_neg q2] at h
      refine z_iconst (v := 1) fx dX4_in_10 rfl ?_
      refine z_goto (tgt := 15) fx dX4_in_11 (by decide) ?_
      subst h
      exact z_zret fx rfl hr dX4_in_15
set_option maxRecDepth 100000 in
set_option maxHeartbeats 4000000 in
theorem c_X4_meets (l : Launch) (D : va_G) (ad : Nat → Nat) (g : Nat → ClassId) (a1 : Int32) (I : zMi) (J : zMl) {r : Int32 × zMi} (h : f_X4_meets a1 I = some r) : zCM (mw D ad g) l yX4_meets cX4_meets 2 (some .int) rmX4_meets [.ref (ad (0)), .int a1] I J (some (.int r.1)) r.2 J := by
  refine zCM.of (by decide) (Nat.le_of_ble_eq_true rfl) (fun E hl hR fx hr => ?_)
  subst hl
  rw [f_X4_meets] at h
  refine z_aload_n fx dX4_meets_0 rfl ?_
  refine z_iload_n fx dX4_meets_1 rfl ?_
  refine pM_finding fx wf_X4_66 dX4_meets_2 ?_
  refine z_aload_n fx dX4_meets_5 rfl ?_
  refine gM_findings fx wf_X4_7 dX4_meets_6 ?_
  refine z_iload_n fx dX4_meets_9 rfl ?_
  refine z_dup2 fx dX4_meets_10 rfl rfl ?_
  obtain ⟨q1, h⟩ := oi h
  refine m_ild fx (Nat.le_of_ble_eq_true rfl) (cfM_1 g ad) q1 dX4_meets_11 ?_
  refine z_iconst (v := 1) fx dX4_meets_12 rfl ?_
  refine z_iadd fx dX4_meets_13 ?_
  refine m_ist fx (Nat.le_of_ble_eq_true rfl) (cfM_1 g ad) q1 dX4_meets_14 ?_
  refine z_bipush (v := (-3)) fx dX4_meets_15 rfl ?_
  cases h
  exact z_iret fx hr dX4_meets_17
set_option maxRecDepth 100000 in
set_option maxHeartbeats 4000000 in
theorem c_X4_ask (l : Launch) (D : va_G) (ad : Nat → Nat) (g : Nat → ClassId) (a1 : Int32) (a2 : Int32) (I : zMi) (J : zMl) {r : Int32 × zMi} (h : f_X4_ask a1 a2 I = r) : zCM (mw D ad g) l yX4_ask cX4_ask 3 (some .int) rmX4_ask [.ref (ad (0)), .int a1, .int a2] I J (some (.int r.1)) r.2 J := by
  refine zCM.of (by decide) (Nat.le_of_ble_eq_true rfl) (fun E hl hR fx hr => ?_)
  subst hl
  rw [f_X4_ask] at h
  refine z_aload_n fx dX4_ask_0 rfl ?_
  refine z_iload_n fx dX4_ask_1 rfl ?_
  refine pM_asked fx wf_X4_70 dX4_ask_2 ?_
  refine z_iload_n fx dX4_ask_5 rfl ?_
  subst h
  exact z_iret fx hr dX4_ask_6
set_option maxRecDepth 100000 in
set_option maxHeartbeats 4000000 in
theorem c_X4_abs (l : Launch) (D : va_G) (ad : Nat → Nat) (g : Nat → ClassId) (a0 : Int32) (I : zMi) (J : zMl) {r : Int32} (h : f_X4_abs a0 = r) : zCM (mw D ad g) l yX4_abs cX4_abs 1 (some .int) rmX4_abs [.int a0] I J (some (.int r)) I J := by
  refine zCM.of (by decide) (Nat.le_of_ble_eq_true rfl) (fun E hl hR fx hr => ?_)
  subst hl
  rw [f_X4_abs] at h
  refine z_iload_n fx dX4_abs_0 rfl ?_
  refine z_if_ge (tgt := 9) fx dX4_abs_1 (by decide) (fun q1 => ?_) (fun q1 => ?_)
  · rw [if_pos q1] at h
    refine z_iload_n fx dX4_abs_9 rfl ?_
    subst h
    exact z_iret fx hr dX4_abs_10
  · rw [if_neg q1] at h
    refine z_iload_n fx dX4_abs_4 rfl ?_
    refine z_ineg fx dX4_abs_5 ?_
    refine z_goto (tgt := 10) fx dX4_abs_6 (by decide) ?_
    subst h
    exact z_iret fx hr dX4_abs_10
set_option maxRecDepth 100000 in
set_option maxHeartbeats 4000000 in
theorem w_X4_bits_4 {E : zE} {D : va_G} {ad : Nat → Nat} {g : Nat → ClassId} (fx : zFX E (mw D ad g) cX4_bits RX4 3 (some .int)) (hR : zR E = rmX4_bits) {r : Int32} {I : zMi} {J : zMl} (hr : zRX E (mw D ad g) (some (.int r)) I J) : ∀ (fuel : Nat) (a0 : Int32) (a1 : Int32) (a2 : Int32), f_X4_bits_4 fuel a0 a1 a2 = some r → zAt E (mw D ad g) 4 [(0, .int a0), (1, .int a1), (2, .int a2)] [] I J := by
  intro fuel
  induction fuel with
  | zero => intro a0 a1 a2 h; rw [f_X4_bits_4] at h; cases h
  | succ f ih =>
    intro a0 a1 a2 h
    rw [f_X4_bits_4] at h
    refine z_iload_n fx dX4_bits_4 rfl ?_
    refine z_bipush (v := 12) fx dX4_bits_5 rfl ?_
    refine z_icmp_ge (tgt := 24) fx dX4_bits_7 (by decide) (fun q1 => ?_) (fun q1 => ?_)
    · rw [if_pos q1] at h
      refine z_iload_n fx dX4_bits_24 rfl ?_
      cases h
      exact z_iret fx hr dX4_bits_25
    · rw [if_neg q1] at h
      refine z_iload_n fx dX4_bits_10 rfl ?_
      refine z_iload_n fx dX4_bits_11 rfl ?_
      refine z_iload_n fx dX4_bits_12 rfl ?_
      refine z_ishr fx dX4_bits_13 ?_
      refine z_iconst (v := 1) fx dX4_bits_14 rfl ?_
      refine z_iand fx dX4_bits_15 ?_
      refine z_iadd fx dX4_bits_16 ?_
      refine z_istore_n fx dX4_bits_17 (by decide) rfl ?_
      refine z_iinc (v := (a2 + 1)) fx dX4_bits_18 rfl rfl (by decide) rfl ?_
      refine z_goto (tgt := 4) fx dX4_bits_21 (by decide) ?_
      exact z_lv2 (ih a0 (a1 + ((a0 >>> (a2 &&& 31)) &&& 1)) (a2 + 1) h) rfl
set_option maxRecDepth 100000 in
set_option maxHeartbeats 4000000 in
theorem c_X4_bits (l : Launch) (D : va_G) (ad : Nat → Nat) (g : Nat → ClassId) (a0 : Int32) (I : zMi) (J : zMl) {r : Int32} (h : f_X4_bits a0 = some r) : zCM (mw D ad g) l yX4_bits cX4_bits 3 (some .int) rmX4_bits [.int a0] I J (some (.int r)) I J := by
  refine zCM.of (by decide) (Nat.le_of_ble_eq_true rfl) (fun E hl hR fx hr => ?_)
  subst hl
  rw [f_X4_bits] at h
  refine z_iconst (v := 0) fx dX4_bits_0 rfl ?_
  refine z_istore_n fx dX4_bits_1 (by decide) rfl ?_
  refine z_iconst (v := 0) fx dX4_bits_2 rfl ?_
  refine z_istore_n fx dX4_bits_3 (by decide) rfl ?_
  exact z_lv2 (w_X4_bits_4 fx hR hr fu a0 0 0 h) rfl
set_option maxRecDepth 100000 in
set_option maxHeartbeats 4000000 in
theorem c_X4_isRow (l : Launch) (D : va_G) (ad : Nat → Nat) (g : Nat → ClassId) (a0 : Int32) (I : zMi) (J : zMl) {r : Int32} (h : f_X4_isRow a0 = r) : zCM (mw D ad g) l yX4_isRow cX4_isRow 1 (some .boolean) rmX4_isRow [.int a0] I J (some (.int r)) I J := by
  refine zCM.of (by decide) (Nat.le_of_ble_eq_true rfl) (fun E hl hR fx hr => ?_)
  subst hl
  rw [f_X4_isRow] at h
  refine z_iload_n fx dX4_isRow_0 rfl ?_
  refine z_iconst (v := 0) fx dX4_isRow_1 rfl ?_
  refine z_iconst (v := 5) fx dX4_isRow_2 rfl ?_
  refine zSi (rest := []) fx hR (c_X4_in (zl E) D ad g a0 0 5 I J rfl) mvX4_in wm_X4_73 dX4_isRow_3 rfl ⟨rfl, rfl⟩ rfl rfl rfl ?_
  subst h
  exact z_zret fx (bz_X4_in ) hr dX4_isRow_6
set_option maxRecDepth 100000 in
set_option maxHeartbeats 4000000 in
theorem c_X4_askedRow (l : Launch) (D : va_G) (ad : Nat → Nat) (g : Nat → ClassId) (a1 : Int32) (I : zMi) (J : zMl) {r : Int32 × zMi} (h : f_X4_askedRow a1 I = some r) : zCM (mw D ad g) l yX4_askedRow cX4_askedRow 2 (some .int) rmX4_askedRow [.ref (ad (0)), .int a1] I J (some (.int r.1)) r.2 J := by
  refine zCM.of (by decide) (Nat.le_of_ble_eq_true rfl) (fun E hl hR fx hr => ?_)
  subst hl
  rw [f_X4_askedRow] at h
  refine z_iload_n fx dX4_askedRow_0 rfl ?_
  refine zSi (rest := []) fx hR (c_X4_isRow (zl E) D ad g a1 I J rfl) mvX4_isRow wm_X4_77 dX4_askedRow_1 rfl ⟨rfl, rfl⟩ rfl rfl rfl ?_
  refine z_if_ne (tgt := 11) fx dX4_askedRow_4 (by decide) (fun q1 => ?_) (fun q1 => ?_)
  · rw [if_neg q1] at h
    refine z_aload_n fx dX4_askedRow_11 rfl ?_
    refine gM_sizes fx wf_X4_17 dX4_askedRow_12 ?_
    refine z_iload_n fx dX4_askedRow_15 rfl ?_
    obtain ⟨q2, h⟩ := oi h
    refine m_ild fx (Nat.le_of_ble_eq_true rfl) (cfM_2 g ad) q2 dX4_askedRow_16 ?_
    refine z_if_ge (tgt := 28) fx dX4_askedRow_17 (by decide) (fun q3 => ?_) (fun q3 => ?_)
    · rw [if_pos q3] at h
      refine z_iconst (v := 0) fx dX4_askedRow_28 rfl ?_
      cases h
      exact z_iret fx hr dX4_askedRow_29
    · rw [if_neg q3] at h
      refine z_aload_n fx dX4_askedRow_20 rfl ?_
      refine z_iconst (v := 1) fx dX4_askedRow_21 rfl ?_
      obtain ⟨x4, ex4, h⟩ := ob h
      refine zVi (k := 0) (rest := []) fx hR (c_X4_meets (zl E) D ad g 1 I J ex4) rcM mvX4_meets wm_X4_81 dX4_askedRow_22 rfl ⟨rfl, rfl⟩ rfl rfl rfl ?_
      refine z_goto (tgt := 29) fx dX4_askedRow_25 (by decide) ?_
      cases h
      exact z_iret fx hr dX4_askedRow_29
  · rw [if_pos q1] at h
    refine z_iconst (v := (-1)) fx dX4_askedRow_7 rfl ?_
    refine z_goto (tgt := 29) fx dX4_askedRow_8 (by decide) ?_
    cases h
    exact z_iret fx hr dX4_askedRow_29
set_option maxRecDepth 100000 in
set_option maxHeartbeats 4000000 in
theorem w_X4_begin_9 {E : zE} {D : va_G} {ad : Nat → Nat} {g : Nat → ClassId} (fx : zFX E (mw D ad g) cX4_begin RX4 4 none) (hR : zR E = rmX4_begin) {r : zMi} {J : zMl} (hr : zRX E (mw D ad g) none r J) : ∀ (fuel : Nat) (a1 : Int32) (a3 : Int32) (I : zMi) , f_X4_begin_9 fuel a1 a3 I = some r → zAt E (mw D ad g) 9 [(0, .ref (ad (0))), (1, .int a1), (3, .int a3)] [] I J := by
  intro fuel
  induction fuel with
  | zero => intro a1 a3 I h; rw [f_X4_begin_9] at h; cases h
  | succ f ih =>
    intro a1 a3 I h
    rw [f_X4_begin_9] at h
    refine z_iload_n fx dX4_begin_9 rfl ?_
    refine z_bipush (v := 24) fx dX4_begin_10 rfl ?_
    refine z_icmp_ge (tgt := 33) fx dX4_begin_12 (by decide) (fun q1 => ?_) (fun q1 => ?_)
    · rw [if_pos q1] at h
      cases h
      exact z_vret fx hr dX4_begin_33
    · rw [if_neg q1] at h
      refine z_aload_n fx dX4_begin_15 rfl ?_
      refine gM_rows fx wf_X4_20 dX4_begin_16 ?_
      refine z_bipush (v := 24) fx dX4_begin_19 rfl ?_
      refine z_iload_n fx dX4_begin_21 rfl ?_
      refine z_imul fx dX4_begin_22 ?_
      refine z_iload_n fx dX4_begin_23 rfl ?_
      refine z_iadd fx dX4_begin_24 ?_
      refine z_iconst (v := 1) fx dX4_begin_25 rfl ?_
      obtain ⟨q2, h⟩ := oi h
      refine m_ist fx (Nat.le_of_ble_eq_true rfl) (cfM_3 g ad) q2 dX4_begin_26 ?_
      refine z_iinc (v := (a3 + 1)) fx dX4_begin_27 rfl rfl (by decide) rfl ?_
      refine z_goto (tgt := 9) fx dX4_begin_30 (by decide) ?_
      exact z_lv2 (ih a1 (a3 + 1) (wI I (3) ((24 * a1) + a3).toNatClampNeg 1) h) rfl
set_option maxRecDepth 100000 in
set_option maxHeartbeats 4000000 in
theorem c_X4_begin (l : Launch) (D : va_G) (ad : Nat → Nat) (g : Nat → ClassId) (a1 : Int32) (a2 : Int32) (I : zMi) (J : zMl) {r : zMi} (h : f_X4_begin a1 a2 I = some r) : zCM (mw D ad g) l yX4_begin cX4_begin 4 none rmX4_begin [.ref (ad (0)), .int a1, .int a2] I J none r J := by
  refine zCM.of (by decide) (Nat.le_of_ble_eq_true rfl) (fun E hl hR fx hr => ?_)
  subst hl
  rw [f_X4_begin] at h
  refine z_aload_n fx dX4_begin_0 rfl ?_
  refine gM_sizes fx wf_X4_17 dX4_begin_1 ?_
  refine z_iload_n fx dX4_begin_4 rfl ?_
  refine z_iload_n fx dX4_begin_5 rfl ?_
  obtain ⟨q1, h⟩ := oi h
  refine m_ist fx (Nat.le_of_ble_eq_true rfl) (cfM_2 g ad) q1 dX4_begin_6 ?_
  refine z_iconst (v := 0) fx dX4_begin_7 rfl ?_
  refine z_istore_n fx dX4_begin_8 (by decide) rfl ?_
  exact z_lv2 (w_X4_begin_9 fx hR hr fu a1 0 (wI I (2) a1.toNatClampNeg a2) h) rfl
set_option maxRecDepth 100000 in
set_option maxHeartbeats 4000000 in
theorem c_X4_row (l : Launch) (D : va_G) (ad : Nat → Nat) (g : Nat → ClassId) (a1 : Int32) (a2 : Int32) (I : zMi) (J : zMl) {r : Int32 × zMi} (h : f_X4_row a1 a2 I = some r) : zCM (mw D ad g) l yX4_row cX4_row 3 (some .int) rmX4_row [.ref (ad (0)), .int a1, .int a2] I J (some (.int r.1)) r.2 J := by
  refine zCM.of (by decide) (Nat.le_of_ble_eq_true rfl) (fun E hl hR fx hr => ?_)
  subst hl
  rw [f_X4_row] at h
  refine z_iload_n fx dX4_row_0 rfl ?_
  refine zSi (rest := []) fx hR (c_X4_isRow (zl E) D ad g a1 I J rfl) mvX4_isRow wm_X4_77 dX4_row_1 rfl ⟨rfl, rfl⟩ rfl rfl rfl ?_
  refine z_if_eq (tgt := 13) fx dX4_row_4 (by decide) (fun q1 => ?_) (fun q1 => ?_)
  · rw [if_pos q1] at h
    refine z_iconst (v := (-1)) fx dX4_row_13 rfl ?_
    cases h
    exact z_iret fx hr dX4_row_14
  · rw [if_neg q1] at h
    refine z_iload_n fx dX4_row_7 rfl ?_
    refine z_bipush (v := 24) fx dX4_row_8 rfl ?_
    refine z_icmp_le (tgt := 15) fx dX4_row_10 (by decide) (fun q2 => ?_) (fun q2 => ?_)
    · rw [if_pos q2] at h
      refine z_iload_n fx dX4_row_15 rfl ?_
      refine z_if_ge (tgt := 25) fx dX4_row_16 (by decide) (fun q3 => ?_) (fun q3 => ?_)
      · rw [if_pos q3] at h
        refine z_aload_n fx dX4_row_25 rfl ?_
        refine z_iload_n fx dX4_row_26 rfl ?_
        refine z_iload_n fx dX4_row_27 rfl ?_
        obtain ⟨x4, ex4, h⟩ := ob h
        refine zVv (k := 0) (rest := []) fx hR (c_X4_begin (zl E) D ad g a1 a2 I J ex4) rcM mvX4_begin wm_X4_85 dX4_row_28 rfl ⟨rfl, rfl⟩ rfl rfl rfl ?_
        refine z_iload_n fx dX4_row_31 rfl ?_
        cases h
        exact z_iret fx hr dX4_row_32
      · rw [if_neg q3] at h
        refine z_aload_n fx dX4_row_19 rfl ?_
        refine z_iconst (v := 5) fx dX4_row_20 rfl ?_
        obtain ⟨x5, ex5, h⟩ := ob h
        refine zVi (k := 0) (rest := []) fx hR (c_X4_meets (zl E) D ad g 5 I J ex5) rcM mvX4_meets wm_X4_81 dX4_row_21 rfl ⟨rfl, rfl⟩ rfl rfl rfl ?_
        cases h
        exact z_iret fx hr dX4_row_24
    · rw [if_neg q2] at h
      refine z_iconst (v := (-1)) fx dX4_row_13 rfl ?_
      cases h
      exact z_iret fx hr dX4_row_14
set_option maxRecDepth 100000 in
set_option maxHeartbeats 4000000 in
theorem c_X4_lay (l : Launch) (D : va_G) (ad : Nat → Nat) (g : Nat → ClassId) (a1 : Int32) (a2 : Int32) (a3 : Int32) (I : zMi) (J : zMl) {r : Int32 × zMi} (h : f_X4_lay a1 a2 a3 I = some r) : zCM (mw D ad g) l yX4_lay cX4_lay 5 (some .int) rmX4_lay [.ref (ad (0)), .int a1, .int a2, .int a3] I J (some (.int r.1)) r.2 J := by
  refine zCM.of (by decide) (Nat.le_of_ble_eq_true rfl) (fun E hl hR fx hr => ?_)
  subst hl
  rw [f_X4_lay] at h
  refine z_aload_n fx dX4_lay_0 rfl ?_
  refine z_iload_n fx dX4_lay_1 rfl ?_
  obtain ⟨x1, ex1, h⟩ := ob h
  refine zVi (k := 0) (rest := []) fx hR (c_X4_askedRow (zl E) D ad g a1 I J ex1) rcM mvX4_askedRow wm_X4_89 dX4_lay_2 rfl ⟨rfl, rfl⟩ rfl rfl rfl ?_
  refine z_istore fx dX4_lay_5 (by decide) rfl ?_
  refine z_iload fx dX4_lay_7 rfl ?_
  refine z_if_ge (tgt := 15) fx dX4_lay_9 (by decide) (fun q2 => ?_) (fun q2 => ?_)
  · rw [if_pos q2] at h
    refine z_iload_n fx dX4_lay_15 rfl ?_
    refine z_iconst (v := 0) fx dX4_lay_16 rfl ?_
    refine z_aload_n fx dX4_lay_17 rfl ?_
    refine gM_sizes fx wf_X4_17 dX4_lay_18 ?_
    refine z_iload_n fx dX4_lay_21 rfl ?_
    obtain ⟨q3, h⟩ := oi h
    refine m_ild fx (Nat.le_of_ble_eq_true rfl) (cfM_2 g ad) q3 dX4_lay_22 ?_
    refine z_iconst (v := 1) fx dX4_lay_23 rfl ?_
    refine z_isub fx dX4_lay_24 ?_
    refine zSi (rest := []) fx hR (c_X4_in (zl E) D ad g a2 0 ((x1.2 (2) a1.toNatClampNeg) - 1) x1.2 J rfl) mvX4_in wm_X4_73 dX4_lay_25 rfl ⟨rfl, rfl⟩ rfl rfl rfl ?_
    refine z_if_ne (tgt := 37) fx dX4_lay_28 (by decide) (fun q4 => ?_) (fun q4 => ?_)
    · rw [if_neg q4] at h
      refine z_aload_n fx dX4_lay_37 rfl ?_
      refine z_aload_n fx dX4_lay_38 rfl ?_
      refine gM_rows fx wf_X4_20 dX4_lay_39 ?_
      refine z_bipush (v := 24) fx dX4_lay_42 rfl ?_
      refine z_iload_n fx dX4_lay_44 rfl ?_
      refine z_imul fx dX4_lay_45 ?_
      refine z_iload_n fx dX4_lay_46 rfl ?_
      refine z_iadd fx dX4_lay_47 ?_
      obtain ⟨q5, h⟩ := oi h
      refine m_ild fx (Nat.le_of_ble_eq_true rfl) (cfM_3 g ad) q5 dX4_lay_48 ?_
      refine pM_asked fx wf_X4_70 dX4_lay_49 ?_
      refine z_aload_n fx dX4_lay_52 rfl ?_
      refine gM_rows fx wf_X4_20 dX4_lay_53 ?_
      refine z_bipush (v := 24) fx dX4_lay_56 rfl ?_
      refine z_iload_n fx dX4_lay_58 rfl ?_
      refine z_imul fx dX4_lay_59 ?_
      refine z_iload_n fx dX4_lay_60 rfl ?_
      refine z_iadd fx dX4_lay_61 ?_
      refine z_iload_n fx dX4_lay_62 rfl ?_
      refine m_ist fx (Nat.le_of_ble_eq_true rfl) (cfM_3 g ad) q5 dX4_lay_63 ?_
      refine z_iconst (v := 1) fx dX4_lay_64 rfl ?_
      cases h
      exact z_iret fx hr dX4_lay_65
    · rw [if_pos q4] at h
      refine z_aload_n fx dX4_lay_31 rfl ?_
      refine z_iconst (v := 2) fx dX4_lay_32 rfl ?_
      obtain ⟨x6, ex6, h⟩ := ob h
      refine zVi (k := 0) (rest := []) fx hR (c_X4_meets (zl E) D ad g 2 x1.2 J ex6) rcM mvX4_meets wm_X4_81 dX4_lay_33 rfl ⟨rfl, rfl⟩ rfl rfl rfl ?_
      cases h
      exact z_iret fx hr dX4_lay_36
  · rw [if_neg q2] at h
    refine z_iload fx dX4_lay_12 rfl ?_
    cases h
    exact z_iret fx hr dX4_lay_14
set_option maxRecDepth 100000 in
set_option maxHeartbeats 4000000 in
theorem c_X4_tear (l : Launch) (D : va_G) (ad : Nat → Nat) (g : Nat → ClassId) (a1 : Int32) (I : zMi) (J : zMl) {r : Int32 × zMi} (h : f_X4_tear a1 I = some r) : zCM (mw D ad g) l yX4_tear cX4_tear 3 (some .int) rmX4_tear [.ref (ad (0)), .int a1] I J (some (.int r.1)) r.2 J := by
  refine zCM.of (by decide) (Nat.le_of_ble_eq_true rfl) (fun E hl hR fx hr => ?_)
  subst hl
  rw [f_X4_tear] at h
  refine z_aload_n fx dX4_tear_0 rfl ?_
  refine z_iload_n fx dX4_tear_1 rfl ?_
  obtain ⟨x1, ex1, h⟩ := ob h
  refine zVi (k := 0) (rest := []) fx hR (c_X4_askedRow (zl E) D ad g a1 I J ex1) rcM mvX4_askedRow wm_X4_89 dX4_tear_2 rfl ⟨rfl, rfl⟩ rfl rfl rfl ?_
  refine z_istore_n fx dX4_tear_5 (by decide) rfl ?_
  refine z_iload_n fx dX4_tear_6 rfl ?_
  refine z_if_ge (tgt := 12) fx dX4_tear_7 (by decide) (fun q2 => ?_) (fun q2 => ?_)
  · rw [if_pos q2] at h
    refine z_aload_n fx dX4_tear_12 rfl ?_
    refine gM_sizes fx wf_X4_17 dX4_tear_13 ?_
    refine z_iload_n fx dX4_tear_16 rfl ?_
    refine z_bipush (v := (-9)) fx dX4_tear_17 rfl ?_
    obtain ⟨q3, h⟩ := oi h
    refine m_ist fx (Nat.le_of_ble_eq_true rfl) (cfM_2 g ad) q3 dX4_tear_19 ?_
    refine z_iconst (v := 1) fx dX4_tear_20 rfl ?_
    cases h
    exact z_iret fx hr dX4_tear_21
  · rw [if_neg q2] at h
    refine z_iload_n fx dX4_tear_10 rfl ?_
    cases h
    exact z_iret fx hr dX4_tear_11
set_option maxRecDepth 100000 in
set_option maxHeartbeats 4000000 in
theorem w_X4_copy_141 {E : zE} {D : va_G} {ad : Nat → Nat} {g : Nat → ClassId} (fx : zFX E (mw D ad g) cX4_copy RX4 7 (some .int)) (hR : zR E = rmX4_copy) {r : Int32 × zMi} {J : zMl} (hr : zRX E (mw D ad g) (some (.int r.1)) r.2 J) : ∀ (fuel : Nat) (a3 : Int32) (a4 : Int32) (a5 : Int32) (a6 : Int32) (I : zMi) , f_X4_copy_141 fuel a3 a4 a5 a6 I = some r → zAt E (mw D ad g) 141 [(0, .ref (ad (0))), (3, .int a3), (4, .int a4), (5, .int a5), (6, .int a6)] [] I J := by
  intro fuel
  induction fuel with
  | zero => intro a3 a4 a5 a6 I h; rw [f_X4_copy_141] at h; cases h
  | succ f ih =>
    intro a3 a4 a5 a6 I h
    rw [f_X4_copy_141] at h
    refine z_iload fx dX4_copy_141 rfl ?_
    refine z_iload fx dX4_copy_143 rfl ?_
    refine z_icmp_ge (tgt := 176) fx dX4_copy_145 (by decide) (fun q1 => ?_) (fun q1 => ?_)
    · rw [if_pos q1] at h
      refine z_iconst (v := 1) fx dX4_copy_176 rfl ?_
      cases h
      exact z_iret fx hr dX4_copy_177
    · rw [if_neg q1] at h
      refine z_aload_n fx dX4_copy_148 rfl ?_
      refine gM_rows fx wf_X4_20 dX4_copy_149 ?_
      refine z_bipush (v := 24) fx dX4_copy_152 rfl ?_
      refine z_iload_n fx dX4_copy_154 rfl ?_
      refine z_imul fx dX4_copy_155 ?_
      refine z_iload fx dX4_copy_156 rfl ?_
      refine z_iadd fx dX4_copy_158 ?_
      refine z_iload fx dX4_copy_159 rfl ?_
      refine z_iadd fx dX4_copy_161 ?_
      refine z_aload_n fx dX4_copy_162 rfl ?_
      refine gM_moving fx wf_X4_23 dX4_copy_163 ?_
      refine z_iload fx dX4_copy_166 rfl ?_
      obtain ⟨q2, h⟩ := oi h
      refine m_ild fx (Nat.le_of_ble_eq_true rfl) (cfM_4 g ad) q2 dX4_copy_168 ?_
      obtain ⟨q3, h⟩ := oi h
      refine m_ist fx (Nat.le_of_ble_eq_true rfl) (cfM_3 g ad) q3 dX4_copy_169 ?_
      refine z_iinc (v := (a6 + 1)) fx dX4_copy_170 rfl rfl (by decide) rfl ?_
      refine z_goto (tgt := 141) fx dX4_copy_173 (by decide) ?_
      exact z_lv2 (ih a3 a4 a5 (a6 + 1) (wI I (3) (((24 * a3) + a4) + a6).toNatClampNeg (I (4) a6.toNatClampNeg)) h) rfl
set_option maxRecDepth 100000 in
set_option maxHeartbeats 4000000 in
theorem w_X4_copy_104 {E : zE} {D : va_G} {ad : Nat → Nat} {g : Nat → ClassId} (fx : zFX E (mw D ad g) cX4_copy RX4 7 (some .int)) (hR : zR E = rmX4_copy) {r : Int32 × zMi} {J : zMl} (hr : zRX E (mw D ad g) (some (.int r.1)) r.2 J) : ∀ (fuel : Nat) (a1 : Int32) (a2 : Int32) (a3 : Int32) (a4 : Int32) (a5 : Int32) (a6 : Int32) (I : zMi) , f_X4_copy_104 fuel a1 a2 a3 a4 a5 a6 I = some r → zAt E (mw D ad g) 104 [(0, .ref (ad (0))), (1, .int a1), (2, .int a2), (3, .int a3), (4, .int a4), (5, .int a5), (6, .int a6)] [] I J := by
  intro fuel
  induction fuel with
  | zero => intro a1 a2 a3 a4 a5 a6 I h; rw [f_X4_copy_104] at h; cases h
  | succ f ih =>
    intro a1 a2 a3 a4 a5 a6 I h
    rw [f_X4_copy_104] at h
    refine z_iload fx dX4_copy_104 rfl ?_
    refine z_iload fx dX4_copy_106 rfl ?_
    refine z_icmp_ge (tgt := 138) fx dX4_copy_108 (by decide) (fun q1 => ?_) (fun q1 => ?_)
    · rw [if_pos q1] at h
      refine z_iconst (v := 0) fx dX4_copy_138 rfl ?_
      refine z_istore fx dX4_copy_139 (by decide) rfl ?_
      exact z_lv2 (w_X4_copy_141 fx hR hr fu a3 a4 a5 0 I h) rfl
    · rw [if_neg q1] at h
      refine z_aload_n fx dX4_copy_111 rfl ?_
      refine gM_moving fx wf_X4_23 dX4_copy_112 ?_
      refine z_iload fx dX4_copy_115 rfl ?_
      refine z_aload_n fx dX4_copy_117 rfl ?_
      refine gM_rows fx wf_X4_20 dX4_copy_118 ?_
      refine z_bipush (v := 24) fx dX4_copy_121 rfl ?_
      refine z_iload_n fx dX4_copy_123 rfl ?_
      refine z_imul fx dX4_copy_124 ?_
      refine z_iload_n fx dX4_copy_125 rfl ?_
      refine z_iadd fx dX4_copy_126 ?_
      refine z_iload fx dX4_copy_127 rfl ?_
      refine z_iadd fx dX4_copy_129 ?_
      obtain ⟨q2, h⟩ := oi h
      refine m_ild fx (Nat.le_of_ble_eq_true rfl) (cfM_3 g ad) q2 dX4_copy_130 ?_
      obtain ⟨q3, h⟩ := oi h
      refine m_ist fx (Nat.le_of_ble_eq_true rfl) (cfM_4 g ad) q3 dX4_copy_131 ?_
      refine z_iinc (v := (a6 + 1)) fx dX4_copy_132 rfl rfl (by decide) rfl ?_
      refine z_goto (tgt := 104) fx dX4_copy_135 (by decide) ?_
      exact z_lv2 (ih a1 a2 a3 a4 a5 (a6 + 1) (wI I (4) a6.toNatClampNeg (I (3) (((24 * a1) + a2) + a6).toNatClampNeg)) h) rfl
set_option maxRecDepth 100000 in
set_option maxHeartbeats 4000000 in
theorem c_X4_copy (l : Launch) (D : va_G) (ad : Nat → Nat) (g : Nat → ClassId) (a1 : Int32) (a2 : Int32) (a3 : Int32) (a4 : Int32) (a5 : Int32) (I : zMi) (J : zMl) {r : Int32 × zMi} (h : f_X4_copy a1 a2 a3 a4 a5 I = some r) : zCM (mw D ad g) l yX4_copy cX4_copy 7 (some .int) rmX4_copy [.ref (ad (0)), .int a1, .int a2, .int a3, .int a4, .int a5] I J (some (.int r.1)) r.2 J := by
  refine zCM.of (by decide) (Nat.le_of_ble_eq_true rfl) (fun E hl hR fx hr => ?_)
  subst hl
  rw [f_X4_copy] at h
  refine z_iload_n fx dX4_copy_0 rfl ?_
  refine zSi (rest := []) fx hR (c_X4_isRow (zl E) D ad g a1 I J rfl) mvX4_isRow wm_X4_77 dX4_copy_1 rfl ⟨rfl, rfl⟩ rfl rfl rfl ?_
  refine z_if_eq (tgt := 14) fx dX4_copy_4 (by decide) (fun q1 => ?_) (fun q1 => ?_)
  · rw [if_pos q1] at h
    refine z_iconst (v := (-1)) fx dX4_copy_14 rfl ?_
    cases h
    exact z_iret fx hr dX4_copy_15
  · rw [if_neg q1] at h
    refine z_iload_n fx dX4_copy_7 rfl ?_
    refine zSi (rest := []) fx hR (c_X4_isRow (zl E) D ad g a3 I J rfl) mvX4_isRow wm_X4_77 dX4_copy_8 rfl ⟨rfl, rfl⟩ rfl rfl rfl ?_
    refine z_if_ne (tgt := 16) fx dX4_copy_11 (by decide) (fun q2 => ?_) (fun q2 => ?_)
    · rw [if_neg q2] at h
      refine z_iload fx dX4_copy_16 rfl ?_
      refine z_if_ge (tgt := 27) fx dX4_copy_18 (by decide) (fun q3 => ?_) (fun q3 => ?_)
      · rw [if_pos q3] at h
        refine z_aload_n fx dX4_copy_27 rfl ?_
        refine gM_sizes fx wf_X4_17 dX4_copy_28 ?_
        refine z_iload_n fx dX4_copy_31 rfl ?_
        obtain ⟨q4, h⟩ := oi h
        refine m_ild fx (Nat.le_of_ble_eq_true rfl) (cfM_2 g ad) q4 dX4_copy_32 ?_
        refine z_if_lt (tgt := 45) fx dX4_copy_33 (by decide) (fun q5 => ?_) (fun q5 => ?_)
        · rw [if_pos q5] at h
          refine z_aload_n fx dX4_copy_45 rfl ?_
          refine z_iconst (v := 1) fx dX4_copy_46 rfl ?_
          obtain ⟨x6, ex6, h⟩ := ob h
          refine zVi (k := 0) (rest := []) fx hR (c_X4_meets (zl E) D ad g 1 I J ex6) rcM mvX4_meets wm_X4_81 dX4_copy_47 rfl ⟨rfl, rfl⟩ rfl rfl rfl ?_
          cases h
          exact z_iret fx hr dX4_copy_50
        · rw [if_neg q5] at h
          refine z_aload_n fx dX4_copy_36 rfl ?_
          refine gM_sizes fx wf_X4_17 dX4_copy_37 ?_
          refine z_iload_n fx dX4_copy_40 rfl ?_
          obtain ⟨q7, h⟩ := oi h
          refine m_ild fx (Nat.le_of_ble_eq_true rfl) (cfM_2 g ad) q7 dX4_copy_41 ?_
          refine z_if_ge (tgt := 51) fx dX4_copy_42 (by decide) (fun q8 => ?_) (fun q8 => ?_)
          · rw [if_pos q8] at h
            refine z_iload_n fx dX4_copy_51 rfl ?_
            refine z_if_lt (tgt := 95) fx dX4_copy_52 (by decide) (fun q9 => ?_) (fun q9 => ?_)
            · rw [if_pos q9] at h
              refine z_aload_n fx dX4_copy_95 rfl ?_
              refine z_iconst (v := 2) fx dX4_copy_96 rfl ?_
              obtain ⟨x10, ex10, h⟩ := ob h
              refine zVi (k := 0) (rest := []) fx hR (c_X4_meets (zl E) D ad g 2 I J ex10) rcM mvX4_meets wm_X4_81 dX4_copy_97 rfl ⟨rfl, rfl⟩ rfl rfl rfl ?_
              cases h
              exact z_iret fx hr dX4_copy_100
            · rw [if_neg q9] at h
              refine z_iload fx dX4_copy_55 rfl ?_
              refine z_if_lt (tgt := 95) fx dX4_copy_57 (by decide) (fun q11 => ?_) (fun q11 => ?_)
              · rw [if_pos q11] at h
                refine z_aload_n fx dX4_copy_95 rfl ?_
                refine z_iconst (v := 2) fx dX4_copy_96 rfl ?_
                obtain ⟨x12, ex12, h⟩ := ob h
                refine zVi (k := 0) (rest := []) fx hR (c_X4_meets (zl E) D ad g 2 I J ex12) rcM mvX4_meets wm_X4_81 dX4_copy_97 rfl ⟨rfl, rfl⟩ rfl rfl rfl ?_
                cases h
                exact z_iret fx hr dX4_copy_100
              · rw [if_neg q11] at h
                refine z_iload_n fx dX4_copy_60 rfl ?_
                refine z_i2l fx dX4_copy_61 ?_
                refine z_iload fx dX4_copy_62 rfl ?_
                refine z_i2l fx dX4_copy_64 ?_
                refine z_ladd fx dX4_copy_65 ?_
                refine z_aload_n fx dX4_copy_66 rfl ?_
                refine gM_sizes fx wf_X4_17 dX4_copy_67 ?_
                refine z_iload_n fx dX4_copy_70 rfl ?_
                refine m_ild fx (Nat.le_of_ble_eq_true rfl) (cfM_2 g ad) q4 dX4_copy_71 ?_
                refine z_i2l fx dX4_copy_72 ?_
                refine z_lcmp fx dX4_copy_73 ?_
                refine z_if_gt (tgt := 95) fx dX4_copy_74 (by decide) (fun q13 => ?_) (fun q13 => ?_)
                · rw [if_pos q13] at h
                  refine z_aload_n fx dX4_copy_95 rfl ?_
                  refine z_iconst (v := 2) fx dX4_copy_96 rfl ?_
                  obtain ⟨x14, ex14, h⟩ := ob h
                  refine zVi (k := 0) (rest := []) fx hR (c_X4_meets (zl E) D ad g 2 I J ex14) rcM mvX4_meets wm_X4_81 dX4_copy_97 rfl ⟨rfl, rfl⟩ rfl rfl rfl ?_
                  cases h
                  exact z_iret fx hr dX4_copy_100
                · rw [if_neg q13] at h
                  refine z_iload fx dX4_copy_77 rfl ?_
                  refine z_i2l fx dX4_copy_79 ?_
                  refine z_iload fx dX4_copy_80 rfl ?_
                  refine z_i2l fx dX4_copy_82 ?_
                  refine z_ladd fx dX4_copy_83 ?_
                  refine z_aload_n fx dX4_copy_84 rfl ?_
                  refine gM_sizes fx wf_X4_17 dX4_copy_85 ?_
                  refine z_iload_n fx dX4_copy_88 rfl ?_
                  refine m_ild fx (Nat.le_of_ble_eq_true rfl) (cfM_2 g ad) q7 dX4_copy_89 ?_
                  refine z_i2l fx dX4_copy_90 ?_
                  refine z_lcmp fx dX4_copy_91 ?_
                  refine z_if_le (tgt := 101) fx dX4_copy_92 (by decide) (fun q15 => ?_) (fun q15 => ?_)
                  · rw [if_pos q15] at h
                    refine z_iconst (v := 0) fx dX4_copy_101 rfl ?_
                    refine z_istore fx dX4_copy_102 (by decide) rfl ?_
                    exact z_lv2 (w_X4_copy_104 fx hR hr fu a1 a2 a3 a4 a5 0 I h) rfl
                  · rw [if_neg q15] at h
                    refine z_aload_n fx dX4_copy_95 rfl ?_
                    refine z_iconst (v := 2) fx dX4_copy_96 rfl ?_
                    obtain ⟨x16, ex16, h⟩ := ob h
                    refine zVi (k := 0) (rest := []) fx hR (c_X4_meets (zl E) D ad g 2 I J ex16) rcM mvX4_meets wm_X4_81 dX4_copy_97 rfl ⟨rfl, rfl⟩ rfl rfl rfl ?_
                    cases h
                    exact z_iret fx hr dX4_copy_100
          · rw [if_neg q8] at h
            refine z_aload_n fx dX4_copy_45 rfl ?_
            refine z_iconst (v := 1) fx dX4_copy_46 rfl ?_
            obtain ⟨x17, ex17, h⟩ := ob h
            refine zVi (k := 0) (rest := []) fx hR (c_X4_meets (zl E) D ad g 1 I J ex17) rcM mvX4_meets wm_X4_81 dX4_copy_47 rfl ⟨rfl, rfl⟩ rfl rfl rfl ?_
            cases h
            exact z_iret fx hr dX4_copy_50
      · rw [if_neg q3] at h
        refine z_aload_n fx dX4_copy_21 rfl ?_
        refine z_iconst (v := 5) fx dX4_copy_22 rfl ?_
        obtain ⟨x18, ex18, h⟩ := ob h
        refine zVi (k := 0) (rest := []) fx hR (c_X4_meets (zl E) D ad g 5 I J ex18) rcM mvX4_meets wm_X4_81 dX4_copy_23 rfl ⟨rfl, rfl⟩ rfl rfl rfl ?_
        cases h
        exact z_iret fx hr dX4_copy_26
    · rw [if_pos q2] at h
      refine z_iconst (v := (-1)) fx dX4_copy_14 rfl ?_
      cases h
      exact z_iret fx hr dX4_copy_15
set_option maxRecDepth 100000 in
set_option maxHeartbeats 4000000 in
theorem w_X4_mean_17 {E : zE} {D : va_G} {ad : Nat → Nat} {g : Nat → ClassId} (fx : zFX E (mw D ad g) cX4_mean RX4 6 (some .int)) (hR : zR E = rmX4_mean) {r : Int32 × zMi} {J : zMl} (hr : zRX E (mw D ad g) (some (.int r.1)) r.2 J) : ∀ (fuel : Nat) (a1 : Int32) (a3 : Int64) (a5 : Int32) (I : zMi) , f_X4_mean_17 fuel a1 a3 a5 I = some r → zAt E (mw D ad g) 17 [(0, .ref (ad (0))), (1, .int a1), (3, .long a3), (5, .int a5)] [] I J := by
  intro fuel
  induction fuel with
  | zero => intro a1 a3 a5 I h; rw [f_X4_mean_17] at h; cases h
  | succ f ih =>
    intro a1 a3 a5 I h
    rw [f_X4_mean_17] at h
    refine z_iload fx dX4_mean_17 rfl ?_
    refine z_aload_n fx dX4_mean_19 rfl ?_
    refine gM_sizes fx wf_X4_17 dX4_mean_20 ?_
    refine z_iload_n fx dX4_mean_23 rfl ?_
    obtain ⟨q1, h⟩ := oi h
    refine m_ild fx (Nat.le_of_ble_eq_true rfl) (cfM_2 g ad) q1 dX4_mean_24 ?_
    refine z_icmp_ge (tgt := 50) fx dX4_mean_25 (by decide) (fun q2 => ?_) (fun q2 => ?_)
    · rw [if_pos q2] at h
      refine z_aload_n fx dX4_mean_50 rfl ?_
      refine gM_sizes fx wf_X4_17 dX4_mean_51 ?_
      refine z_iload_n fx dX4_mean_54 rfl ?_
      refine m_ild fx (Nat.le_of_ble_eq_true rfl) (cfM_2 g ad) q1 dX4_mean_55 ?_
      refine z_if_ne (tgt := 67) fx dX4_mean_56 (by decide) (fun q3 => ?_) (fun q3 => ?_)
      · rw [if_neg q3] at h
        refine z_aload_n fx dX4_mean_67 rfl ?_
        refine z_lload_n fx dX4_mean_68 rfl ?_
        refine z_aload_n fx dX4_mean_69 rfl ?_
        refine gM_sizes fx wf_X4_17 dX4_mean_70 ?_
        refine z_iload_n fx dX4_mean_73 rfl ?_
        refine m_ild fx (Nat.le_of_ble_eq_true rfl) (cfM_2 g ad) q1 dX4_mean_74 ?_
        refine z_i2l fx dX4_mean_75 ?_
        obtain ⟨q4, h⟩ := on h
        refine z_ldiv fx dX4_mean_76 q4 ?_
        refine z_l2i fx dX4_mean_77 ?_
        refine z_iconst (v := 1) fx dX4_mean_78 rfl ?_
        refine zVi (k := 0) (rest := []) fx hR (c_X4_ask (zl E) D ad g ((a3 / ((I (2) a1.toNatClampNeg).toInt64)).toInt32) 1 I J rfl) rcM mvX4_ask wm_X4_92 dX4_mean_79 rfl ⟨rfl, rfl⟩ rfl rfl rfl ?_
        cases h
        exact z_iret fx hr dX4_mean_82
      · rw [if_pos q3] at h
        refine z_aload_n fx dX4_mean_59 rfl ?_
        refine z_iconst (v := 4) fx dX4_mean_60 rfl ?_
        obtain ⟨x5, ex5, h⟩ := ob h
        refine zVi (k := 0) (rest := []) fx hR (c_X4_meets (zl E) D ad g 4 I J ex5) rcM mvX4_meets wm_X4_81 dX4_mean_61 rfl ⟨rfl, rfl⟩ rfl rfl rfl ?_
        refine z_goto (tgt := 82) fx dX4_mean_64 (by decide) ?_
        cases h
        exact z_iret fx hr dX4_mean_82
    · rw [if_neg q2] at h
      refine z_lload_n fx dX4_mean_28 rfl ?_
      refine z_aload_n fx dX4_mean_29 rfl ?_
      refine gM_rows fx wf_X4_20 dX4_mean_30 ?_
      refine z_bipush (v := 24) fx dX4_mean_33 rfl ?_
      refine z_iload_n fx dX4_mean_35 rfl ?_
      refine z_imul fx dX4_mean_36 ?_
      refine z_iload fx dX4_mean_37 rfl ?_
      refine z_iadd fx dX4_mean_39 ?_
      obtain ⟨q6, h⟩ := oi h
      refine m_ild fx (Nat.le_of_ble_eq_true rfl) (cfM_3 g ad) q6 dX4_mean_40 ?_
      refine z_i2l fx dX4_mean_41 ?_
      refine z_ladd fx dX4_mean_42 ?_
      refine z_lstore_n fx dX4_mean_43 (by decide) rfl ?_
      refine z_iinc (v := (a5 + 1)) fx dX4_mean_44 rfl rfl (by decide) rfl ?_
      refine z_goto (tgt := 17) fx dX4_mean_47 (by decide) ?_
      exact z_lv2 (ih a1 (a3 + ((I (3) ((24 * a1) + a5).toNatClampNeg).toInt64)) (a5 + 1) I h) rfl
set_option maxRecDepth 100000 in
set_option maxHeartbeats 4000000 in
theorem c_X4_mean (l : Launch) (D : va_G) (ad : Nat → Nat) (g : Nat → ClassId) (a1 : Int32) (I : zMi) (J : zMl) {r : Int32 × zMi} (h : f_X4_mean a1 I = some r) : zCM (mw D ad g) l yX4_mean cX4_mean 6 (some .int) rmX4_mean [.ref (ad (0)), .int a1] I J (some (.int r.1)) r.2 J := by
  refine zCM.of (by decide) (Nat.le_of_ble_eq_true rfl) (fun E hl hR fx hr => ?_)
  subst hl
  rw [f_X4_mean] at h
  refine z_aload_n fx dX4_mean_0 rfl ?_
  refine z_iload_n fx dX4_mean_1 rfl ?_
  obtain ⟨x1, ex1, h⟩ := ob h
  refine zVi (k := 0) (rest := []) fx hR (c_X4_askedRow (zl E) D ad g a1 I J ex1) rcM mvX4_askedRow wm_X4_89 dX4_mean_2 rfl ⟨rfl, rfl⟩ rfl rfl rfl ?_
  refine z_istore_n fx dX4_mean_5 (by decide) rfl ?_
  refine z_iload_n fx dX4_mean_6 rfl ?_
  refine z_if_ge (tgt := 12) fx dX4_mean_7 (by decide) (fun q2 => ?_) (fun q2 => ?_)
  · rw [if_pos q2] at h
    refine z_lconst (v := 0) fx dX4_mean_12 rfl ?_
    refine z_lstore_n fx dX4_mean_13 (by decide) rfl ?_
    refine z_iconst (v := 0) fx dX4_mean_14 rfl ?_
    refine z_istore fx dX4_mean_15 (by decide) rfl ?_
    exact z_lv2 (w_X4_mean_17 fx hR hr fu a1 0 0 x1.2 h) rfl
  · rw [if_neg q2] at h
    refine z_iload_n fx dX4_mean_10 rfl ?_
    cases h
    exact z_iret fx hr dX4_mean_11
