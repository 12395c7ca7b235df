set_option maxRecDepth 100000 in
set_option maxHeartbeats 4000000 in
theorem w_X4_profileOf_6 {E : zE} {D : va_G} {ad : Nat → Nat} {g : Nat → ClassId} (fx : zFX E (mw D ad g) cX4_profileOf RX4 7 (some .int)) (hR : zR E = rmX4_profileOf) {r : Int32} {I : zMi} {J : zMl} (hr : zRX E (mw D ad g) (some (.int r)) I J) : ∀ (fuel : Nat) (a1 : Int32) (a2 : Int32) (a3 : Int32) (a4 : Int32) (a5 : Int32) (a6 : Int32), f_X4_profileOf_6 I fuel a1 a2 a3 a4 a5 a6 = some r → zAt E (mw D ad g) 6 [(0, .ref (ad (0))), (1, .int a1), (2, .int a2), (3, .int a3), (4, .int a4), (5, .int a5), (6, .int a6)] [] I J := by
  intro fuel
  induction fuel with
  | zero => intro a1 a2 a3 a4 a5 a6 h; rw [f_X4_profileOf_6] at h; cases h
  | succ f ih =>
    intro a1 a2 a3 a4 a5 a6 h
    rw [f_X4_profileOf_6] at h
    refine z_iload fx dX4_profileOf_6 rfl ?_
    refine z_iconst (v := 1) fx dX4_profileOf_8 rfl ?_
    refine z_aload_n fx dX4_profileOf_9 rfl ?_
    refine gM_wide fx wf_X4_26 dX4_profileOf_10 ?_
    refine z_iload_n fx dX4_profileOf_13 rfl ?_
    obtain ⟨q1, h⟩ := oi h
    refine m_ild fx (Nat.le_of_ble_eq_true rfl) (cfM_5 g ad) q1 dX4_profileOf_14 ?_
    refine z_ishl fx dX4_profileOf_15 ?_
    refine z_icmp_ge (tgt := 57) fx dX4_profileOf_16 (by decide) (fun q2 => ?_) (fun q2 => ?_)
    · rw [if_pos q2] at h
      refine z_iload fx dX4_profileOf_57 rfl ?_
      cases h
      exact z_iret fx hr dX4_profileOf_59
    · rw [if_neg q2] at h
      refine z_iload fx dX4_profileOf_19 rfl ?_
      refine z_iload fx dX4_profileOf_21 rfl ?_
      obtain ⟨x3, ex3, h⟩ := ob h
      refine zSi (rest := [.int a5]) fx hR (c_X4_bits (zl E) D ad g a6 I J ex3) mvX4_bits wm_X4_200 dX4_profileOf_23 rfl ⟨rfl, rfl⟩ rfl rfl rfl ?_
      refine z_iload_n fx dX4_profileOf_26 rfl ?_
      refine z_icmp_ne (tgt := 47) fx dX4_profileOf_27 (by decide) (fun q4 => ?_) (fun q4 => ?_)
      · rw [if_neg q4] at h
        refine z_iconst (v := 0) fx dX4_profileOf_47 rfl ?_
        refine z_iadd fx dX4_profileOf_48 ?_
        refine z_istore fx dX4_profileOf_49 (by decide) rfl ?_
        refine z_iinc (v := (a6 + 1)) fx dX4_profileOf_51 rfl rfl (by decide) rfl ?_
        refine z_goto (tgt := 6) fx dX4_profileOf_54 (by decide) ?_
        exact z_lv2 (ih a1 a2 a3 a4 (a5 + 0) (a6 + 1) h) rfl
      · rw [if_pos q4] at h
        refine z_aload_n fx dX4_profileOf_30 rfl ?_
        refine z_iload_n fx dX4_profileOf_31 rfl ?_
        refine z_iload fx dX4_profileOf_32 rfl ?_
        refine z_iload fx dX4_profileOf_34 rfl ?_
        obtain ⟨x5, ex5, h⟩ := ob h
        refine zVi (k := 0) (rest := [.int a5]) fx hR (c_X4_commonSum (zl E) D ad g a1 a6 a4 I J ex5) rcM mvX4_commonSum wm_X4_196 dX4_profileOf_36 rfl ⟨rfl, rfl⟩ rfl rfl rfl ?_
        refine z_iload_n fx dX4_profileOf_39 rfl ?_
        refine z_icmp_ne (tgt := 47) fx dX4_profileOf_40 (by decide) (fun q6 => ?_) (fun q6 => ?_)
        · rw [if_neg q6] at h
          refine z_iconst (v := 0) fx dX4_profileOf_47 rfl ?_
          refine z_iadd fx dX4_profileOf_48 ?_
          refine z_istore fx dX4_profileOf_49 (by decide) rfl ?_
          refine z_iinc (v := (a6 + 1)) fx dX4_profileOf_51 rfl rfl (by decide) rfl ?_
          refine z_goto (tgt := 6) fx dX4_profileOf_54 (by decide) ?_
          exact z_lv2 (ih a1 a2 a3 a4 (a5 + 0) (a6 + 1) h) rfl
        · rw [if_pos q6] at h
          refine z_iconst (v := 1) fx dX4_profileOf_43 rfl ?_
          refine z_goto (tgt := 48) fx dX4_profileOf_44 (by decide) ?_
          refine z_iadd fx dX4_profileOf_48 ?_
          refine z_istore fx dX4_profileOf_49 (by decide) rfl ?_
          refine z_iinc (v := (a6 + 1)) fx dX4_profileOf_51 rfl rfl (by decide) rfl ?_
          refine z_goto (tgt := 6) fx dX4_profileOf_54 (by decide) ?_
          exact z_lv2 (ih a1 a2 a3 a4 (a5 + 1) (a6 + 1) h) rfl
set_option maxRecDepth 100000 in
set_option maxHeartbeats 4000000 in
theorem c_X4_profileOf (l : Launch) (D : va_G) (ad : Nat → Nat) (g : Nat → ClassId) (a1 : Int32) (a2 : Int32) (a3 : Int32) (a4 : Int32) (I : zMi) (J : zMl) {r : Int32} (h : f_X4_profileOf a1 a2 a3 a4 I = some r) : zCM (mw D ad g) l yX4_profileOf cX4_profileOf 7 (some .int) rmX4_profileOf [.ref (ad (0)), .int a1, .int a2, .int a3, .int a4] I J (some (.int r)) I J := by
  refine zCM.of (by decide) (Nat.le_of_ble_eq_true rfl) (fun E hl hR fx hr => ?_)
  subst hl
  rw [f_X4_profileOf] at h
  refine z_iconst (v := 0) fx dX4_profileOf_0 rfl ?_
  refine z_istore fx dX4_profileOf_1 (by decide) rfl ?_
  refine z_iconst (v := 0) fx dX4_profileOf_3 rfl ?_
  refine z_istore fx dX4_profileOf_4 (by decide) rfl ?_
  exact z_lv2 (w_X4_profileOf_6 fx hR hr fu a1 a2 a3 a4 0 0 h) rfl
set_option maxRecDepth 100000 in
set_option maxHeartbeats 4000000 in
theorem c_X4_profile (l : Launch) (D : va_G) (ad : Nat → Nat) (g : Nat → ClassId) (a1 : Int32) (a2 : Int32) (a3 : Int32) (I : zMi) (J : zMl) {r : Int32 × zMi} (h : f_X4_profile a1 a2 a3 I = some r) : zCM (mw D ad g) l yX4_profile cX4_profile 5 (some .int) rmX4_profile [.ref (ad (0)), .int a1, .int a2, .int a3] I J (some (.int r.1)) r.2 J := by
  refine zCM.of (by decide) (Nat.le_of_ble_eq_true rfl) (fun E hl hR fx hr => ?_)
  subst hl
  rw [f_X4_profile] at h
  refine z_iload_n fx dX4_profile_0 rfl ?_
  refine z_iconst (v := 2) fx dX4_profile_1 rfl ?_
  refine z_iconst (v := 4) fx dX4_profile_2 rfl ?_
  refine zSi (rest := []) fx hR (c_X4_in (zl E) D ad g a2 2 4 I J rfl) mvX4_in wm_X4_73 dX4_profile_3 rfl ⟨rfl, rfl⟩ rfl rfl rfl ?_
  refine z_if_eq (tgt := 19) fx dX4_profile_6 (by decide) (fun q1 => ?_) (fun q1 => ?_)
  · rw [if_pos q1] at h
    refine z_iconst (v := (-1)) fx dX4_profile_19 rfl ?_
    cases h
    exact z_iret fx hr dX4_profile_20
  · rw [if_neg q1] at h
    refine z_iload_n fx dX4_profile_9 rfl ?_
    refine z_iconst (v := 0) fx dX4_profile_10 rfl ?_
    refine z_bipush (v := 12) fx dX4_profile_11 rfl ?_
    refine zSi (rest := []) fx hR (c_X4_in (zl E) D ad g a3 0 12 I J rfl) mvX4_in wm_X4_73 dX4_profile_13 rfl ⟨rfl, rfl⟩ rfl rfl rfl ?_
    refine z_if_ne (tgt := 21) fx dX4_profile_16 (by decide) (fun q2 => ?_) (fun q2 => ?_)
    · rw [if_neg q2] at h
      refine z_aload_n fx dX4_profile_21 rfl ?_
      refine z_iload_n fx dX4_profile_22 rfl ?_
      obtain ⟨x3, ex3, h⟩ := ob h
      refine zVi (k := 0) (rest := []) fx hR (c_X4_askedTable (zl E) D ad g a1 I J ex3) rcM mvX4_askedTable wm_X4_143 dX4_profile_23 rfl ⟨rfl, rfl⟩ rfl rfl rfl ?_
      refine z_istore fx dX4_profile_26 (by decide) rfl ?_
      refine z_iload fx dX4_profile_28 rfl ?_
      refine z_if_ge (tgt := 36) fx dX4_profile_30 (by decide) (fun q4 => ?_) (fun q4 => ?_)
      · rw [if_pos q4] at h
        refine z_aload_n fx dX4_profile_36 rfl ?_
        refine z_iload_n fx dX4_profile_37 rfl ?_
        obtain ⟨x5, ex5, h⟩ := ob h
        refine zVi (k := 0) (rest := []) fx hR (c_X4_hasZero (zl E) D ad g a1 x3.2 J ex5) rcM mvX4_hasZero wm_X4_118 dX4_profile_38 rfl ⟨rfl, rfl⟩ rfl rfl rfl ?_
        refine z_if_eq (tgt := 52) fx dX4_profile_41 (by decide) (fun q6 => ?_) (fun q6 => ?_)
        · rw [if_pos q6] at h
          refine z_aload_n fx dX4_profile_52 rfl ?_
          refine z_iload_n fx dX4_profile_53 rfl ?_
          refine z_iload_n fx dX4_profile_54 rfl ?_
          refine z_iload_n fx dX4_profile_55 rfl ?_
          refine z_iconst (v := 0) fx dX4_profile_56 rfl ?_
          obtain ⟨x7, ex7, h⟩ := ob h
          refine zVi (k := 0) (rest := []) fx hR (c_X4_profileOf (zl E) D ad g a1 a2 a3 0 x3.2 J ex7) rcM mvX4_profileOf wm_X4_203 dX4_profile_57 rfl ⟨rfl, rfl⟩ rfl rfl rfl ?_
          cases h
          exact z_iret fx hr dX4_profile_60
        · rw [if_neg q6] at h
          refine z_aload_n fx dX4_profile_44 rfl ?_
          refine z_iconst (v := 3) fx dX4_profile_45 rfl ?_
          obtain ⟨x8, ex8, h⟩ := ob h
          refine zVi (k := 0) (rest := []) fx hR (c_X4_meets (zl E) D ad g 3 x3.2 J ex8) rcM mvX4_meets wm_X4_81 dX4_profile_46 rfl ⟨rfl, rfl⟩ rfl rfl rfl ?_
          refine z_goto (tgt := 60) fx dX4_profile_49 (by decide) ?_
          cases h
          exact z_iret fx hr dX4_profile_60
      · rw [if_neg q4] at h
        refine z_iload fx dX4_profile_33 rfl ?_
        cases h
        exact z_iret fx hr dX4_profile_35
    · rw [if_pos q2] at h
      refine z_iconst (v := (-1)) fx dX4_profile_19 rfl ?_
      cases h
      exact z_iret fx hr dX4_profile_20
set_option maxRecDepth 100000 in
set_option maxHeartbeats 4000000 in
theorem c_X4_askedTwo (l : Launch) (D : va_G) (ad : Nat → Nat) (g : Nat → ClassId) (a1 : Int32) (a2 : Int32) (I : zMi) (J : zMl) {r : Int32 × zMi} (h : f_X4_askedTwo a1 a2 I = some r) : zCM (mw D ad g) l yX4_askedTwo cX4_askedTwo 3 (some .int) rmX4_askedTwo [.ref (ad (0)), .int a1, .int a2] I J (some (.int r.1)) r.2 J := by
  refine zCM.of (by decide) (Nat.le_of_ble_eq_true rfl) (fun E hl hR fx hr => ?_)
  subst hl
  rw [f_X4_askedTwo] at h
  refine z_iload_n fx dX4_askedTwo_0 rfl ?_
  refine zSi (rest := []) fx hR (c_X4_isTable (zl E) D ad g a1 I J rfl) mvX4_isTable wm_X4_99 dX4_askedTwo_1 rfl ⟨rfl, rfl⟩ rfl rfl rfl ?_
  refine z_if_eq (tgt := 14) fx dX4_askedTwo_4 (by decide) (fun q1 => ?_) (fun q1 => ?_)
  · rw [if_pos q1] at h
    refine z_iconst (v := (-1)) fx dX4_askedTwo_14 rfl ?_
    cases h
    exact z_iret fx hr dX4_askedTwo_15
  · rw [if_neg q1] at h
    refine z_iload_n fx dX4_askedTwo_7 rfl ?_
    refine zSi (rest := []) fx hR (c_X4_isTable (zl E) D ad g a2 I J rfl) mvX4_isTable wm_X4_99 dX4_askedTwo_8 rfl ⟨rfl, rfl⟩ rfl rfl rfl ?_
    refine z_if_ne (tgt := 16) fx dX4_askedTwo_11 (by decide) (fun q2 => ?_) (fun q2 => ?_)
    · rw [if_neg q2] at h
      refine z_aload_n fx dX4_askedTwo_16 rfl ?_
      refine gM_wide fx wf_X4_26 dX4_askedTwo_17 ?_
      refine z_iload_n fx dX4_askedTwo_20 rfl ?_
      obtain ⟨q3, h⟩ := oi h
      refine m_ild fx (Nat.le_of_ble_eq_true rfl) (cfM_5 g ad) q3 dX4_askedTwo_21 ?_
      refine z_if_eq (tgt := 34) fx dX4_askedTwo_22 (by decide) (fun q4 => ?_) (fun q4 => ?_)
      · rw [if_pos q4] at h
        refine z_aload_n fx dX4_askedTwo_34 rfl ?_
        refine z_iconst (v := 1) fx dX4_askedTwo_35 rfl ?_
        obtain ⟨x5, ex5, h⟩ := ob h
        refine zVi (k := 0) (rest := []) fx hR (c_X4_meets (zl E) D ad g 1 I J ex5) rcM mvX4_meets wm_X4_81 dX4_askedTwo_36 rfl ⟨rfl, rfl⟩ rfl rfl rfl ?_
        cases h
        exact z_iret fx hr dX4_askedTwo_39
      · rw [if_neg q4] at h
        refine z_aload_n fx dX4_askedTwo_25 rfl ?_
        refine gM_wide fx wf_X4_26 dX4_askedTwo_26 ?_
        refine z_iload_n fx dX4_askedTwo_29 rfl ?_
        obtain ⟨q6, h⟩ := oi h
        refine m_ild fx (Nat.le_of_ble_eq_true rfl) (cfM_5 g ad) q6 dX4_askedTwo_30 ?_
        refine z_if_ne (tgt := 40) fx dX4_askedTwo_31 (by decide) (fun q7 => ?_) (fun q7 => ?_)
        · rw [if_neg q7] at h
          refine z_aload_n fx dX4_askedTwo_40 rfl ?_
          refine z_iload_n fx dX4_askedTwo_41 rfl ?_
          obtain ⟨x8, ex8, h⟩ := ob h
          refine zVi (k := 0) (rest := []) fx hR (c_X4_hasZero (zl E) D ad g a1 I J ex8) rcM mvX4_hasZero wm_X4_118 dX4_askedTwo_42 rfl ⟨rfl, rfl⟩ rfl rfl rfl ?_
          refine z_if_ne (tgt := 71) fx dX4_askedTwo_45 (by decide) (fun q9 => ?_) (fun q9 => ?_)
          · rw [if_neg q9] at h
            refine z_aload_n fx dX4_askedTwo_71 rfl ?_
            refine z_iconst (v := 3) fx dX4_askedTwo_72 rfl ?_
            obtain ⟨x10, ex10, h⟩ := ob h
            refine zVi (k := 0) (rest := []) fx hR (c_X4_meets (zl E) D ad g 3 I J ex10) rcM mvX4_meets wm_X4_81 dX4_askedTwo_73 rfl ⟨rfl, rfl⟩ rfl rfl rfl ?_
            refine z_goto (tgt := 80) fx dX4_askedTwo_76 (by decide) ?_
            cases h
            exact z_iret fx hr dX4_askedTwo_80
          · rw [if_pos q9] at h
            refine z_aload_n fx dX4_askedTwo_48 rfl ?_
            refine z_iload_n fx dX4_askedTwo_49 rfl ?_
            obtain ⟨x11, ex11, h⟩ := ob h
            refine zVi (k := 0) (rest := []) fx hR (c_X4_hasZero (zl E) D ad g a2 I J ex11) rcM mvX4_hasZero wm_X4_118 dX4_askedTwo_50 rfl ⟨rfl, rfl⟩ rfl rfl rfl ?_
            refine z_if_ne (tgt := 71) fx dX4_askedTwo_53 (by decide) (fun q12 => ?_) (fun q12 => ?_)
            · rw [if_neg q12] at h
              refine z_aload_n fx dX4_askedTwo_71 rfl ?_
              refine z_iconst (v := 3) fx dX4_askedTwo_72 rfl ?_
              obtain ⟨x13, ex13, h⟩ := ob h
              refine zVi (k := 0) (rest := []) fx hR (c_X4_meets (zl E) D ad g 3 I J ex13) rcM mvX4_meets wm_X4_81 dX4_askedTwo_73 rfl ⟨rfl, rfl⟩ rfl rfl rfl ?_
              refine z_goto (tgt := 80) fx dX4_askedTwo_76 (by decide) ?_
              cases h
              exact z_iret fx hr dX4_askedTwo_80
            · rw [if_pos q12] at h
              refine z_aload_n fx dX4_askedTwo_56 rfl ?_
              refine gM_wide fx wf_X4_26 dX4_askedTwo_57 ?_
              refine z_iload_n fx dX4_askedTwo_60 rfl ?_
              refine m_ild fx (Nat.le_of_ble_eq_true rfl) (cfM_5 g ad) q3 dX4_askedTwo_61 ?_
              refine z_aload_n fx dX4_askedTwo_62 rfl ?_
              refine gM_wide fx wf_X4_26 dX4_askedTwo_63 ?_
              refine z_iload_n fx dX4_askedTwo_66 rfl ?_
              refine m_ild fx (Nat.le_of_ble_eq_true rfl) (cfM_5 g ad) q6 dX4_askedTwo_67 ?_
              refine z_icmp_eq (tgt := 79) fx dX4_askedTwo_68 (by decide) (fun q14 => ?_) (fun q14 => ?_)
              · rw [if_pos q14] at h
                refine z_iconst (v := 0) fx dX4_askedTwo_79 rfl ?_
                cases h
                exact z_iret fx hr dX4_askedTwo_80
              · rw [if_neg q14] at h
                refine z_aload_n fx dX4_askedTwo_71 rfl ?_
                refine z_iconst (v := 3) fx dX4_askedTwo_72 rfl ?_
                obtain ⟨x15, ex15, h⟩ := ob h
                refine zVi (k := 0) (rest := []) fx hR (c_X4_meets (zl E) D ad g 3 I J ex15) rcM mvX4_meets wm_X4_81 dX4_askedTwo_73 rfl ⟨rfl, rfl⟩ rfl rfl rfl ?_
                refine z_goto (tgt := 80) fx dX4_askedTwo_76 (by decide) ?_
                cases h
                exact z_iret fx hr dX4_askedTwo_80
        · rw [if_pos q7] at h
          refine z_aload_n fx dX4_askedTwo_34 rfl ?_
          refine z_iconst (v := 1) fx dX4_askedTwo_35 rfl ?_
          obtain ⟨x16, ex16, h⟩ := ob h
          refine zVi (k := 0) (rest := []) fx hR (c_X4_meets (zl E) D ad g 1 I J ex16) rcM mvX4_meets wm_X4_81 dX4_askedTwo_36 rfl ⟨rfl, rfl⟩ rfl rfl rfl ?_
          cases h
          exact z_iret fx hr dX4_askedTwo_39
    · rw [if_pos q2] at h
      refine z_iconst (v := (-1)) fx dX4_askedTwo_14 rfl ?_
      cases h
      exact z_iret fx hr dX4_askedTwo_15
set_option maxRecDepth 100000 in
set_option maxHeartbeats 4000000 in
theorem w_X4_setProfile_50 {E : zE} {D : va_G} {ad : Nat → Nat} {g : Nat → ClassId} (fx : zFX E (mw D ad g) cX4_setProfile RX4 4 none) (hR : zR E = rmX4_setProfile) {r : zMi} {J : zMl} (hr : zRX E (mw D ad g) none r J) {k23 : Int32 → Int32 → zMi → Option zMi} (hk23 : ∀ (a1 : Int32) (a2 : Int32) (I : zMi) , k23 a1 a2 I = some r → zAt E (mw D ad g) 23 [(0, .ref (ad (0))), (1, .int a1), (2, .int a2)] [] I J) : ∀ (a1 : Int32) (a2 : Int32) (a3 : Int32) (I : zMi) , f_X4_setProfile_50 k23 a1 a2 a3 I = some r → zAt E (mw D ad g) 50 [(0, .ref (ad (0))), (1, .int a1), (2, .int a2), (3, .int a3)] [] I J := by
  intro a1 a2 a3 I h
  rw [f_X4_setProfile_50] at h
  refine z_aload_n fx dX4_setProfile_50 rfl ?_
  refine gM_oneProfile fx wf_X4_45 dX4_setProfile_51 ?_
  refine z_bipush (v := 13) fx dX4_setProfile_54 rfl ?_
  refine z_iload_n fx dX4_setProfile_56 rfl ?_
  refine z_iconst (v := 2) fx dX4_setProfile_57 rfl ?_
  refine z_isub fx dX4_setProfile_58 ?_
  refine z_imul fx dX4_setProfile_59 ?_
  refine z_aload_n fx dX4_setProfile_60 rfl ?_
  refine z_iload_n fx dX4_setProfile_61 rfl ?_
  refine z_iload_n fx dX4_setProfile_62 rfl ?_
  refine z_iconst (v := 0) fx dX4_setProfile_63 rfl ?_
  obtain ⟨x1, ex1, h⟩ := ob h
  refine zVi (k := 0) (rest := [.int (13 * (a3 - 2)), .ref (ad (11))]) fx hR (c_X4_commonSum (zl E) D ad g a1 a2 0 I J ex1) rcM mvX4_commonSum wm_X4_196 dX4_setProfile_64 rfl ⟨rfl, rfl⟩ rfl rfl rfl ?_
  refine z_iadd fx dX4_setProfile_67 ?_
  refine z_dup2 fx dX4_setProfile_68 rfl rfl ?_
  obtain ⟨q2, h⟩ := oi h
  refine m_ild fx (Nat.le_of_ble_eq_true rfl) (cfM_11 g ad) q2 dX4_setProfile_69 ?_
  refine z_iconst (v := 1) fx dX4_setProfile_70 rfl ?_
  refine z_iadd fx dX4_setProfile_71 ?_
  refine m_ist fx (Nat.le_of_ble_eq_true rfl) (cfM_11 g ad) q2 dX4_setProfile_72 ?_
  refine z_aload_n fx dX4_setProfile_73 rfl ?_
  refine gM_oneProfile fx wf_X4_45 dX4_setProfile_74 ?_
  refine z_bipush (v := 39) fx dX4_setProfile_77 rfl ?_
  refine z_bipush (v := 13) fx dX4_setProfile_79 rfl ?_
  refine z_iload_n fx dX4_setProfile_81 rfl ?_
  refine z_iconst (v := 2) fx dX4_setProfile_82 rfl ?_
  refine z_isub fx dX4_setProfile_83 ?_
  refine z_imul fx dX4_setProfile_84 ?_
  refine z_iadd fx dX4_setProfile_85 ?_
  refine z_aload_n fx dX4_setProfile_86 rfl ?_
  refine z_iload_n fx dX4_setProfile_87 rfl ?_
  refine z_iload_n fx dX4_setProfile_88 rfl ?_
  refine z_iconst (v := 1) fx dX4_setProfile_89 rfl ?_
  obtain ⟨x3, ex3, h⟩ := ob h
  refine zVi (k := 0) (rest := [.int (39 + (13 * (a3 - 2))), .ref (ad (11))]) fx hR (c_X4_commonSum (zl E) D ad g a1 a2 1 (wI I (11) ((13 * (a3 - 2)) + x1).toNatClampNeg ((I (11) ((13 * (a3 - 2)) + x1).toNatClampNeg) + 1)) J ex3) rcM mvX4_commonSum wm_X4_196 dX4_setProfile_90 rfl ⟨rfl, rfl⟩ rfl rfl rfl ?_
  refine z_iadd fx dX4_setProfile_93 ?_
  refine z_dup2 fx dX4_setProfile_94 rfl rfl ?_
  obtain ⟨q4, h⟩ := oi h
  refine m_ild fx (Nat.le_of_ble_eq_true rfl) (cfM_11 g ad) q4 dX4_setProfile_95 ?_
  refine z_iconst (v := 1) fx dX4_setProfile_96 rfl ?_
  refine z_iadd fx dX4_setProfile_97 ?_
  refine m_ist fx (Nat.le_of_ble_eq_true rfl) (cfM_11 g ad) q4 dX4_setProfile_98 ?_
  refine z_iinc (v := (a2 + 1)) fx dX4_setProfile_99 rfl rfl (by decide) rfl ?_
  refine z_goto (tgt := 23) fx dX4_setProfile_102 (by decide) ?_
  exact z_lv2 (hk23 a1 (a2 + 1) (wI (wI I (11) ((13 * (a3 - 2)) + x1).toNatClampNeg ((I (11) ((13 * (a3 - 2)) + x1).toNatClampNeg) + 1)) (11) ((39 + (13 * (a3 - 2))) + x3).toNatClampNeg (((wI I (11) ((13 * (a3 - 2)) + x1).toNatClampNeg ((I (11) ((13 * (a3 - 2)) + x1).toNatClampNeg) + 1)) (11) ((39 + (13 * (a3 - 2))) + x3).toNatClampNeg) + 1)) h) rfl
set_option maxRecDepth 100000 in
set_option maxHeartbeats 4000000 in
theorem w_X4_setProfile_23 {E : zE} {D : va_G} {ad : Nat → Nat} {g : Nat → ClassId} (fx : zFX E (mw D ad g) cX4_setProfile RX4 4 none) (hR : zR E = rmX4_setProfile) {r : zMi} {J : zMl} (hr : zRX E (mw D ad g) none r J) : ∀ (fuel : Nat) (a1 : Int32) (a2 : Int32) (I : zMi) , f_X4_setProfile_23 fuel a1 a2 I = some r → zAt E (mw D ad g) 23 [(0, .ref (ad (0))), (1, .int a1), (2, .int a2)] [] I J := by
  intro fuel
  induction fuel with
  | zero => intro a1 a2 I h; rw [f_X4_setProfile_23] at h; cases h
  | succ f ih =>
    intro a1 a2 I h
    rw [f_X4_setProfile_23] at h
    refine z_iload_n fx dX4_setProfile_23 rfl ?_
    refine z_iconst (v := 1) fx dX4_setProfile_24 rfl ?_
    refine z_aload_n fx dX4_setProfile_25 rfl ?_
    refine gM_wide fx wf_X4_26 dX4_setProfile_26 ?_
    refine z_iload_n fx dX4_setProfile_29 rfl ?_
    obtain ⟨q1, h⟩ := oi h
    refine m_ild fx (Nat.le_of_ble_eq_true rfl) (cfM_5 g ad) q1 dX4_setProfile_30 ?_
    refine z_ishl fx dX4_setProfile_31 ?_
    refine z_icmp_ge (tgt := 105) fx dX4_setProfile_32 (by decide) (fun q2 => ?_) (fun q2 => ?_)
    · rw [if_pos q2] at h
      cases h
      exact z_vret fx hr dX4_setProfile_105
    · rw [if_neg q2] at h
      refine z_iload_n fx dX4_setProfile_35 rfl ?_
      obtain ⟨x3, ex3, h⟩ := ob h
      refine zSi (rest := []) fx hR (c_X4_bits (zl E) D ad g a2 I J ex3) mvX4_bits wm_X4_200 dX4_setProfile_36 rfl ⟨rfl, rfl⟩ rfl rfl rfl ?_
      refine z_istore_n fx dX4_setProfile_39 (by decide) rfl ?_
      refine z_iload_n fx dX4_setProfile_40 rfl ?_
      refine z_iconst (v := 2) fx dX4_setProfile_41 rfl ?_
      refine z_icmp_eq (tgt := 50) fx dX4_setProfile_42 (by decide) (fun q4 => ?_) (fun q4 => ?_)
      · rw [if_pos q4] at h
        exact z_lv2 (w_X4_setProfile_50 fx hR hr ih a1 a2 x3 I h) rfl
      · rw [if_neg q4] at h
        refine z_iload_n fx dX4_setProfile_45 rfl ?_
        refine z_iconst (v := 4) fx dX4_setProfile_46 rfl ?_
        refine z_icmp_ne (tgt := 99) fx dX4_setProfile_47 (by decide) (fun q5 => ?_) (fun q5 => ?_)
        · rw [if_neg q5] at h
          refine z_iinc (v := (a2 + 1)) fx dX4_setProfile_99 rfl rfl (by decide) rfl ?_
          refine z_goto (tgt := 23) fx dX4_setProfile_102 (by decide) ?_
          exact z_lv2 (ih a1 (a2 + 1) I h) rfl
        · rw [if_pos q5] at h
          exact z_lv2 (w_X4_setProfile_50 fx hR hr ih a1 a2 x3 I h) rfl
set_option maxRecDepth 100000 in
set_option maxHeartbeats 4000000 in
theorem w_X4_setProfile_2 {E : zE} {D : va_G} {ad : Nat → Nat} {g : Nat → ClassId} (fx : zFX E (mw D ad g) cX4_setProfile RX4 4 none) (hR : zR E = rmX4_setProfile) {r : zMi} {J : zMl} (hr : zRX E (mw D ad g) none r J) : ∀ (fuel : Nat) (a1 : Int32) (a2 : Int32) (I : zMi) , f_X4_setProfile_2 fuel a1 a2 I = some r → zAt E (mw D ad g) 2 [(0, .ref (ad (0))), (1, .int a1), (2, .int a2)] [] I J := by
  intro fuel
  induction fuel with
  | zero => intro a1 a2 I h; rw [f_X4_setProfile_2] at h; cases h
  | succ f ih =>
    intro a1 a2 I h
    rw [f_X4_setProfile_2] at h
    refine z_iload_n fx dX4_setProfile_2 rfl ?_
    refine z_bipush (v := 78) fx dX4_setProfile_3 rfl ?_
    refine z_icmp_ge (tgt := 21) fx dX4_setProfile_5 (by decide) (fun q1 => ?_) (fun q1 => ?_)
    · rw [if_pos q1] at h
      refine z_iconst (v := 0) fx dX4_setProfile_21 rfl ?_
      refine z_istore_n fx dX4_setProfile_22 (by decide) rfl ?_
      exact z_lv2 (w_X4_setProfile_23 fx hR hr fu a1 0 I h) rfl
    · rw [if_neg q1] at h
      refine z_aload_n fx dX4_setProfile_8 rfl ?_
      refine gM_oneProfile fx wf_X4_45 dX4_setProfile_9 ?_
      refine z_iload_n fx dX4_setProfile_12 rfl ?_
      refine z_iconst (v := 0) fx dX4_setProfile_13 rfl ?_
      obtain ⟨q2, h⟩ := oi h
      refine m_ist fx (Nat.le_of_ble_eq_true rfl) (cfM_11 g ad) q2 dX4_setProfile_14 ?_
      refine z_iinc (v := (a2 + 1)) fx dX4_setProfile_15 rfl rfl (by decide) rfl ?_
      refine z_goto (tgt := 2) fx dX4_setProfile_18 (by decide) ?_
      exact z_lv2 (ih a1 (a2 + 1) (wI I (11) a2.toNatClampNeg 0) h) rfl
set_option maxRecDepth 100000 in
set_option maxHeartbeats 4000000 in
theorem c_X4_setProfile (l : Launch) (D : va_G) (ad : Nat → Nat) (g : Nat → ClassId) (a1 : Int32) (I : zMi) (J : zMl) {r : zMi} (h : f_X4_setProfile a1 I = some r) : zCM (mw D ad g) l yX4_setProfile cX4_setProfile 4 none rmX4_setProfile [.ref (ad (0)), .int a1] I J none r J := by
  refine zCM.of (by decide) (Nat.le_of_ble_eq_true rfl) (fun E hl hR fx hr => ?_)
  subst hl
  rw [f_X4_setProfile] at h
  refine z_iconst (v := 0) fx dX4_setProfile_0 rfl ?_
  refine z_istore_n fx dX4_setProfile_1 (by decide) rfl ?_
  exact z_lv2 (w_X4_setProfile_2 fx hR hr fu a1 0 I h) rfl
set_option maxRecDepth 100000 in
set_option maxHeartbeats 4000000 in
theorem w_X4_mayBeLike_59 {E : zE} {D : va_G} {ad : Nat → Nat} {g : Nat → ClassId} (fx : zFX E (mw D ad g) cX4_mayBeLike RX4 6 (some .int)) (hR : zR E = rmX4_mayBeLike) {r : Int32 × zMi} {J : zMl} (hr : zRX E (mw D ad g) (some (.int r.1)) r.2 J) : ∀ (fuel : Nat) (a4 : Int32) (a5 : Int32) (I : zMi) , f_X4_mayBeLike_59 fuel a4 a5 I = some r → zAt E (mw D ad g) 59 [(0, .ref (ad (0))), (4, .int a4), (5, .int a5)] [] I J := by
  intro fuel
  induction fuel with
  | zero => intro a4 a5 I h; rw [f_X4_mayBeLike_59] at h; cases h
  | succ f ih =>
    intro a4 a5 I h
    rw [f_X4_mayBeLike_59] at h
    refine z_iload fx dX4_mayBeLike_59 rfl ?_
    refine z_bipush (v := 78) fx dX4_mayBeLike_61 rfl ?_
    refine z_icmp_ge (tgt := 101) fx dX4_mayBeLike_63 (by decide) (fun q1 => ?_) (fun q1 => ?_)
    · rw [if_pos q1] at h
      refine z_iload fx dX4_mayBeLike_101 rfl ?_
      refine z_if_eq (tgt := 110) fx dX4_mayBeLike_103 (by decide) (fun q2 => ?_) (fun q2 => ?_)
      · rw [if_pos q2] at h
        refine z_iconst (v := 0) fx dX4_mayBeLike_110 rfl ?_
        cases h
        exact z_iret fx hr dX4_mayBeLike_111
      · rw [if_neg q2] at h
        refine z_iconst (v := 1) fx dX4_mayBeLike_106 rfl ?_
        refine z_goto (tgt := 111) fx dX4_mayBeLike_107 (by decide) ?_
        cases h
        exact z_iret fx hr dX4_mayBeLike_111
    · rw [if_neg q1] at h
      refine z_iload fx dX4_mayBeLike_66 rfl ?_
      refine z_if_eq (tgt := 92) fx dX4_mayBeLike_68 (by decide) (fun q3 => ?_) (fun q3 => ?_)
      · rw [if_pos q3] at h
        refine z_iconst (v := 0) fx dX4_mayBeLike_92 rfl ?_
        refine z_istore fx dX4_mayBeLike_93 (by decide) rfl ?_
        refine z_iinc (v := (a5 + 1)) fx dX4_mayBeLike_95 rfl rfl (by decide) rfl ?_
        refine z_goto (tgt := 59) fx dX4_mayBeLike_98 (by decide) ?_
        exact z_lv2 (ih 0 (a5 + 1) I h) rfl
      · rw [if_neg q3] at h
        refine z_aload_n fx dX4_mayBeLike_71 rfl ?_
        refine gM_otherProfile fx wf_X4_48 dX4_mayBeLike_72 ?_
        refine z_iload fx dX4_mayBeLike_75 rfl ?_
        obtain ⟨q4, h⟩ := oi h
        refine m_ild fx (Nat.le_of_ble_eq_true rfl) (cfM_12 g ad) q4 dX4_mayBeLike_77 ?_
        refine z_aload_n fx dX4_mayBeLike_78 rfl ?_
        refine gM_oneProfile fx wf_X4_45 dX4_mayBeLike_79 ?_
        refine z_iload fx dX4_mayBeLike_82 rfl ?_
        refine m_ild fx (Nat.le_of_ble_eq_true rfl) (cfM_11 g ad) q4 dX4_mayBeLike_84 ?_
        refine z_icmp_ne (tgt := 92) fx dX4_mayBeLike_85 (by decide) (fun q5 => ?_) (fun q5 => ?_)
        · rw [if_neg q5] at h
          refine z_iconst (v := 0) fx dX4_mayBeLike_92 rfl ?_
          refine z_istore fx dX4_mayBeLike_93 (by decide) rfl ?_
          refine z_iinc (v := (a5 + 1)) fx dX4_mayBeLike_95 rfl rfl (by decide) rfl ?_
          refine z_goto (tgt := 59) fx dX4_mayBeLike_98 (by decide) ?_
          exact z_lv2 (ih 0 (a5 + 1) I h) rfl
        · rw [if_pos q5] at h
          refine z_iconst (v := 1) fx dX4_mayBeLike_88 rfl ?_
          refine z_goto (tgt := 93) fx dX4_mayBeLike_89 (by decide) ?_
          refine z_istore fx dX4_mayBeLike_93 (by decide) rfl ?_
          refine z_iinc (v := (a5 + 1)) fx dX4_mayBeLike_95 rfl rfl (by decide) rfl ?_
          refine z_goto (tgt := 59) fx dX4_mayBeLike_98 (by decide) ?_
          exact z_lv2 (ih 1 (a5 + 1) I h) rfl
set_option maxRecDepth 100000 in
set_option maxHeartbeats 4000000 in
theorem w_X4_mayBeLike_21 {E : zE} {D : va_G} {ad : Nat → Nat} {g : Nat → ClassId} (fx : zFX E (mw D ad g) cX4_mayBeLike RX4 6 (some .int)) (hR : zR E = rmX4_mayBeLike) {r : Int32 × zMi} {J : zMl} (hr : zRX E (mw D ad g) (some (.int r.1)) r.2 J) : ∀ (fuel : Nat) (a2 : Int32) (a4 : Int32) (I : zMi) , f_X4_mayBeLike_21 fuel a2 a4 I = some r → zAt E (mw D ad g) 21 [(0, .ref (ad (0))), (2, .int a2), (4, .int a4)] [] I J := by
  intro fuel
  induction fuel with
  | zero => intro a2 a4 I h; rw [f_X4_mayBeLike_21] at h; cases h
  | succ f ih =>
    intro a2 a4 I h
    rw [f_X4_mayBeLike_21] at h
    refine z_iload fx dX4_mayBeLike_21 rfl ?_
    refine z_bipush (v := 78) fx dX4_mayBeLike_23 rfl ?_
    refine z_icmp_ge (tgt := 48) fx dX4_mayBeLike_25 (by decide) (fun q1 => ?_) (fun q1 => ?_)
    · rw [if_pos q1] at h
      refine z_aload_n fx dX4_mayBeLike_48 rfl ?_
      refine z_iload_n fx dX4_mayBeLike_49 rfl ?_
      obtain ⟨x2, ex2, h⟩ := ob h
      refine zVv (k := 0) (rest := []) fx hR (c_X4_setProfile (zl E) D ad g a2 I J ex2) rcM mvX4_setProfile wm_X4_210 dX4_mayBeLike_50 rfl ⟨rfl, rfl⟩ rfl rfl rfl ?_
      refine z_iconst (v := 1) fx dX4_mayBeLike_53 rfl ?_
      refine z_istore fx dX4_mayBeLike_54 (by decide) rfl ?_
      refine z_iconst (v := 0) fx dX4_mayBeLike_56 rfl ?_
      refine z_istore fx dX4_mayBeLike_57 (by decide) rfl ?_
      exact z_lv2 (w_X4_mayBeLike_59 fx hR hr fu 1 0 x2 h) rfl
    · rw [if_neg q1] at h
      refine z_aload_n fx dX4_mayBeLike_28 rfl ?_
      refine gM_otherProfile fx wf_X4_48 dX4_mayBeLike_29 ?_
      refine z_iload fx dX4_mayBeLike_32 rfl ?_
      refine z_aload_n fx dX4_mayBeLike_34 rfl ?_
      refine gM_oneProfile fx wf_X4_45 dX4_mayBeLike_35 ?_
      refine z_iload fx dX4_mayBeLike_38 rfl ?_
      obtain ⟨q3, h⟩ := oi h
      refine m_ild fx (Nat.le_of_ble_eq_true rfl) (cfM_11 g ad) q3 dX4_mayBeLike_40 ?_
      refine m_ist fx (Nat.le_of_ble_eq_true rfl) (cfM_12 g ad) q3 dX4_mayBeLike_41 ?_
      refine z_iinc (v := (a4 + 1)) fx dX4_mayBeLike_42 rfl rfl (by decide) rfl ?_
      refine z_goto (tgt := 21) fx dX4_mayBeLike_45 (by decide) ?_
      exact z_lv2 (ih a2 (a4 + 1) (wI I (12) a4.toNatClampNeg (I (11) a4.toNatClampNeg)) h) rfl
set_option maxRecDepth 100000 in
set_option maxHeartbeats 4000000 in
theorem c_X4_mayBeLike (l : Launch) (D : va_G) (ad : Nat → Nat) (g : Nat → ClassId) (a1 : Int32) (a2 : Int32) (I : zMi) (J : zMl) {r : Int32 × zMi} (h : f_X4_mayBeLike a1 a2 I = some r) : zCM (mw D ad g) l yX4_mayBeLike cX4_mayBeLike 6 (some .int) rmX4_mayBeLike [.ref (ad (0)), .int a1, .int a2] I J (some (.int r.1)) r.2 J := by
  refine zCM.of (by decide) (Nat.le_of_ble_eq_true rfl) (fun E hl hR fx hr => ?_)
  subst hl
  rw [f_X4_mayBeLike] at h
  refine z_aload_n fx dX4_mayBeLike_0 rfl ?_
  refine z_iload_n fx dX4_mayBeLike_1 rfl ?_
  refine z_iload_n fx dX4_mayBeLike_2 rfl ?_
  obtain ⟨x1, ex1, h⟩ := ob h
  refine zVi (k := 0) (rest := []) fx hR (c_X4_askedTwo (zl E) D ad g a1 a2 I J ex1) rcM mvX4_askedTwo wm_X4_207 dX4_mayBeLike_3 rfl ⟨rfl, rfl⟩ rfl rfl rfl ?_
  refine z_istore_n fx dX4_mayBeLike_6 (by decide) rfl ?_
  refine z_iload_n fx dX4_mayBeLike_7 rfl ?_
  refine z_if_ge (tgt := 13) fx dX4_mayBeLike_8 (by decide) (fun q2 => ?_) (fun q2 => ?_)
  · rw [if_pos q2] at h
    refine z_aload_n fx dX4_mayBeLike_13 rfl ?_
    refine z_iload_n fx dX4_mayBeLike_14 rfl ?_
    obtain ⟨x3, ex3, h⟩ := ob h
    refine zVv (k := 0) (rest := []) fx hR (c_X4_setProfile (zl E) D ad g a1 x1.2 J ex3) rcM mvX4_setProfile wm_X4_210 dX4_mayBeLike_15 rfl ⟨rfl, rfl⟩ rfl rfl rfl ?_
    refine z_iconst (v := 0) fx dX4_mayBeLike_18 rfl ?_
    refine z_istore fx dX4_mayBeLike_19 (by decide) rfl ?_
    exact z_lv2 (w_X4_mayBeLike_21 fx hR hr fu a2 0 x3 h) rfl
  · rw [if_neg q2] at h
    refine z_iload_n fx dX4_mayBeLike_11 rfl ?_
    cases h
    exact z_iret fx hr dX4_mayBeLike_12
set_option maxRecDepth 100000 in
set_option maxHeartbeats 4000000 in
theorem c_X4_order (l : Launch) (D : va_G) (ad : Nat → Nat) (g : Nat → ClassId) (a0 : Int32) (a1 : Int32) (I : zMi) (J : zMl) {r : Int32} (h : f_X4_order a0 a1 = r) : zCM (mw D ad g) l yX4_order cX4_order 2 (some .int) rmX4_order [.int a0, .int a1] I J (some (.int r)) I J := by
  refine zCM.of (by decide) (Nat.le_of_ble_eq_true rfl) (fun E hl hR fx hr => ?_)
  subst hl
  rw [f_X4_order] at h
  refine z_iload_n fx dX4_order_0 rfl ?_
  refine z_iconst (v := 2) fx dX4_order_1 rfl ?_
  refine z_iload_n fx dX4_order_2 rfl ?_
  refine z_imul fx dX4_order_3 ?_
  refine z_ishr fx dX4_order_4 ?_
  refine z_iconst (v := 3) fx dX4_order_5 rfl ?_
  refine z_iand fx dX4_order_6 ?_
  subst h
  exact z_iret fx hr dX4_order_7
set_option maxRecDepth 100000 in
set_option maxHeartbeats 4000000 in
theorem w_X4_isLike_24 {E : zE} {D : va_G} {ad : Nat → Nat} {g : Nat → ClassId} (fx : zFX E (mw D ad g) cX4_isLike RX4 14 (some .boolean)) (hR : zR E = rmX4_isLike) {r : Int32} {I : zMi} {J : zMl} (hr : zRX E (mw D ad g) (some (.int r)) I J) {k14 : Int32 → Int32 → Int32 → Int32 → Int32 → Int32 → Int32 → Option Int32} (hk14 : ∀ (a1 : Int32) (a2 : Int32) (a3 : Int32) (a4 : Int32) (a5 : Int32) (a6 : Int32) (a7 : Int32), k14 a1 a2 a3 a4 a5 a6 a7 = some r → narrow .boolean (.int a6) = .int a6 → zAt E (mw D ad g) 14 [(0, .ref (ad (0))), (1, .int a1), (2, .int a2), (3, .int a3), (4, .int a4), (5, .int a5), (6, .int a6), (7, .int a7)] [] I J) : ∀ (fuel : Nat) (a1 : Int32) (a2 : Int32) (a3 : Int32) (a4 : Int32) (a5 : Int32) (a6 : Int32) (a7 : Int32) (a8 : Int32), f_X4_isLike_24 I k14 fuel a1 a2 a3 a4 a5 a6 a7 a8 = some r → narrow .boolean (.int a6) = .int a6 → zAt E (mw D ad g) 24 [(0, .ref (ad (0))), (1, .int a1), (2, .int a2), (3, .int a3), (4, .int a4), (5, .int a5), (6, .int a6), (7, .int a7), (8, .int a8)] [] I J := by
  intro fuel
  induction fuel with
  | zero => intro a1 a2 a3 a4 a5 a6 a7 a8 h z6; rw [f_X4_isLike_24] at h; cases h
  | succ f ih =>
    intro a1 a2 a3 a4 a5 a6 a7 a8 h z6
    rw [f_X4_isLike_24] at h
    refine z_iload fx dX4_isLike_24 rfl ?_
    refine z_iload fx dX4_isLike_26 rfl ?_
    refine z_icmp_ge (tgt := 162) fx dX4_isLike_28 (by decide) (fun q1 => ?_) (fun q1 => ?_)
    · rw [if_pos q1] at h
      refine z_iinc (v := (a7 + 1)) fx dX4_isLike_162 rfl rfl (by decide) rfl ?_
      refine z_goto (tgt := 14) fx dX4_isLike_165 (by decide) ?_
      exact z_lv2 (hk14 a1 a2 a3 a4 a5 a6 (a7 + 1) h z6) rfl
    · rw [if_neg q1] at h
      refine z_iload_n fx dX4_isLike_31 rfl ?_
      refine z_iload fx dX4_isLike_32 rfl ?_
      refine zSi (rest := []) fx hR (c_X4_order (zl E) D ad g a3 a7 I J rfl) mvX4_order wm_X4_214 dX4_isLike_34 rfl ⟨rfl, rfl⟩ rfl rfl rfl ?_
      refine z_istore fx dX4_isLike_37 (by decide) rfl ?_
      refine z_iload fx dX4_isLike_39 rfl ?_
      refine z_iload fx dX4_isLike_41 rfl ?_
      refine zSi (rest := []) fx hR (c_X4_order (zl E) D ad g a4 a8 I J rfl) mvX4_order wm_X4_214 dX4_isLike_43 rfl ⟨rfl, rfl⟩ rfl rfl rfl ?_
      refine z_istore fx dX4_isLike_46 (by decide) rfl ?_
      refine z_iload_n fx dX4_isLike_48 rfl ?_
      refine z_iconst (v := 0) fx dX4_isLike_49 rfl ?_
      refine zSi (rest := []) fx hR (c_X4_order (zl E) D ad g a3 0 I J rfl) mvX4_order wm_X4_214 dX4_isLike_50 rfl ⟨rfl, rfl⟩ rfl rfl rfl ?_
      refine z_istore fx dX4_isLike_53 (by decide) rfl ?_
      refine z_iload fx dX4_isLike_55 rfl ?_
      refine z_iconst (v := 0) fx dX4_isLike_57 rfl ?_
      refine zSi (rest := []) fx hR (c_X4_order (zl E) D ad g a4 0 I J rfl) mvX4_order wm_X4_214 dX4_isLike_58 rfl ⟨rfl, rfl⟩ rfl rfl rfl ?_
      refine z_istore fx dX4_isLike_61 (by decide) rfl ?_
      refine z_aload_n fx dX4_isLike_63 rfl ?_
      refine z_iload_n fx dX4_isLike_64 rfl ?_
      refine z_iload fx dX4_isLike_65 rfl ?_
      refine z_iload fx dX4_isLike_67 rfl ?_
      obtain ⟨x2, ex2, h⟩ := ob h
      refine zVi (k := 0) (rest := []) fx hR (c_X4_get (zl E) D ad g a1 (f_X4_order a3 a7) (f_X4_order a4 a8) I J ex2) rcM mvX4_get wm_X4_102 dX4_isLike_69 rfl ⟨rfl, rfl⟩ rfl rfl rfl ?_
      refine z_aload_n fx dX4_isLike_72 rfl ?_
      refine z_iload_n fx dX4_isLike_73 rfl ?_
      refine z_iload fx dX4_isLike_74 rfl ?_
      refine z_iload fx dX4_isLike_76 rfl ?_
      obtain ⟨x3, ex3, h⟩ := ob h
      refine zVi (k := 0) (rest := [.int x2]) fx hR (c_X4_get (zl E) D ad g a1 (f_X4_order a3 0) (f_X4_order a4 a8) I J ex3) rcM mvX4_get wm_X4_102 dX4_isLike_78 rfl ⟨rfl, rfl⟩ rfl rfl rfl ?_
      refine z_imul fx dX4_isLike_81 ?_
      refine z_aload_n fx dX4_isLike_82 rfl ?_
      refine z_iload_n fx dX4_isLike_83 rfl ?_
      refine z_iload fx dX4_isLike_84 rfl ?_
      refine z_iload fx dX4_isLike_86 rfl ?_
      obtain ⟨x4, ex4, h⟩ := ob h
      refine zVi (k := 0) (rest := [.int (x2 * x3)]) fx hR (c_X4_get (zl E) D ad g a1 (f_X4_order a3 a7) (f_X4_order a4 0) I J ex4) rcM mvX4_get wm_X4_102 dX4_isLike_88 rfl ⟨rfl, rfl⟩ rfl rfl rfl ?_
      refine z_imul fx dX4_isLike_91 ?_
      refine z_aload_n fx dX4_isLike_92 rfl ?_
      refine z_iload_n fx dX4_isLike_93 rfl ?_
      refine z_iload fx dX4_isLike_94 rfl ?_
      refine z_iload fx dX4_isLike_96 rfl ?_
      obtain ⟨x5, ex5, h⟩ := ob h
      refine zVi (k := 0) (rest := [.int ((x2 * x3) * x4)]) fx hR (c_X4_get (zl E) D ad g a1 (f_X4_order a3 0) (f_X4_order a4 0) I J ex5) rcM mvX4_get wm_X4_102 dX4_isLike_98 rfl ⟨rfl, rfl⟩ rfl rfl rfl ?_
      refine z_imul fx dX4_isLike_101 ?_
      refine z_istore fx dX4_isLike_102 (by decide) rfl ?_
      refine z_iload fx dX4_isLike_104 rfl ?_
      refine z_if_eq (tgt := 153) fx dX4_isLike_106 (by decide) (fun q6 => ?_) (fun q6 => ?_)
      · rw [if_pos q6] at h
        refine z_iconst (v := 0) fx dX4_isLike_153 rfl ?_
        refine z_istore fx dX4_isLike_154 (by decide) rfl ?_
        refine z_iinc (v := (a8 + 1)) fx dX4_isLike_156 rfl rfl (by decide) rfl ?_
        refine z_goto (tgt := 24) fx dX4_isLike_159 (by decide) ?_
        exact z_lv2 (ih a1 a2 a3 a4 a5 0 a7 (a8 + 1) h rfl) rfl
      · rw [if_neg q6] at h
        refine z_iload fx dX4_isLike_109 rfl ?_
        refine z_aload_n fx dX4_isLike_111 rfl ?_
        refine z_iload_n fx dX4_isLike_112 rfl ?_
        refine z_iload fx dX4_isLike_113 rfl ?_
        refine z_iload fx dX4_isLike_115 rfl ?_
        obtain ⟨x7, ex7, h⟩ := ob h
        refine zVi (k := 0) (rest := [.int (((x2 * x3) * x4) * x5)]) fx hR (c_X4_get (zl E) D ad g a2 a7 a8 I J ex7) rcM mvX4_get wm_X4_102 dX4_isLike_117 rfl ⟨rfl, rfl⟩ rfl rfl rfl ?_
        refine z_aload_n fx dX4_isLike_120 rfl ?_
        refine z_iload_n fx dX4_isLike_121 rfl ?_
        refine z_iconst (v := 0) fx dX4_isLike_122 rfl ?_
        refine z_iload fx dX4_isLike_123 rfl ?_
        obtain ⟨x8, ex8, h⟩ := ob h
        refine zVi (k := 0) (rest := [.int x7, .int (((x2 * x3) * x4) * x5)]) fx hR (c_X4_get (zl E) D ad g a2 0 a8 I J ex8) rcM mvX4_get wm_X4_102 dX4_isLike_125 rfl ⟨rfl, rfl⟩ rfl rfl rfl ?_
        refine z_imul fx dX4_isLike_128 ?_
        refine z_aload_n fx dX4_isLike_129 rfl ?_
        refine z_iload_n fx dX4_isLike_130 rfl ?_
        refine z_iload fx dX4_isLike_131 rfl ?_
        refine z_iconst (v := 0) fx dX4_isLike_133 rfl ?_
        obtain ⟨x9, ex9, h⟩ := ob h
        refine zVi (k := 0) (rest := [.int (x7 * x8), .int (((x2 * x3) * x4) * x5)]) fx hR (c_X4_get (zl E) D ad g a2 a7 0 I J ex9) rcM mvX4_get wm_X4_102 dX4_isLike_134 rfl ⟨rfl, rfl⟩ rfl rfl rfl ?_
        refine z_imul fx dX4_isLike_137 ?_
        refine z_aload_n fx dX4_isLike_138 rfl ?_
        refine z_iload_n fx dX4_isLike_139 rfl ?_
        refine z_iconst (v := 0) fx dX4_isLike_140 rfl ?_
        refine z_iconst (v := 0) fx dX4_isLike_141 rfl ?_
        obtain ⟨x10, ex10, h⟩ := ob h
        refine zVi (k := 0) (rest := [.int ((x7 * x8) * x9), .int (((x2 * x3) * x4) * x5)]) fx hR (c_X4_get (zl E) D ad g a2 0 0 I J ex10) rcM mvX4_get wm_X4_102 dX4_isLike_142 rfl ⟨rfl, rfl⟩ rfl rfl rfl ?_
        refine z_imul fx dX4_isLike_145 ?_
        refine z_icmp_ne (tgt := 153) fx dX4_isLike_146 (by decide) (fun q11 => ?_) (fun q11 => ?_)
        · rw [if_neg q11] at h
          refine z_iconst (v := 0) fx dX4_isLike_153 rfl ?_
          refine z_istore fx dX4_isLike_154 (by decide) rfl ?_
          refine z_iinc (v := (a8 + 1)) fx dX4_isLike_156 rfl rfl (by decide) rfl ?_
          refine z_goto (tgt := 24) fx dX4_isLike_159 (by decide) ?_
          exact z_lv2 (ih a1 a2 a3 a4 a5 0 a7 (a8 + 1) h rfl) rfl
        · rw [if_pos q11] at h
          refine z_iconst (v := 1) fx dX4_isLike_149 rfl ?_
          refine z_goto (tgt := 154) fx dX4_isLike_150 (by decide) ?_
          refine z_istore fx dX4_isLike_154 (by decide) rfl ?_
          refine z_iinc (v := (a8 + 1)) fx dX4_isLike_156 rfl rfl (by decide) rfl ?_
          refine z_goto (tgt := 24) fx dX4_isLike_159 (by decide) ?_
          exact z_lv2 (ih a1 a2 a3 a4 a5 1 a7 (a8 + 1) h rfl) rfl
set_option maxRecDepth 100000 in
set_option maxHeartbeats 4000000 in
theorem w_X4_isLike_14 {E : zE} {D : va_G} {ad : Nat → Nat} {g : Nat → ClassId} (fx : zFX E (mw D ad g) cX4_isLike RX4 14 (some .boolean)) (hR : zR E = rmX4_isLike) {r : Int32} {I : zMi} {J : zMl} (hr : zRX E (mw D ad g) (some (.int r)) I J) : ∀ (fuel : Nat) (a1 : Int32) (a2 : Int32) (a3 : Int32) (a4 : Int32) (a5 : Int32) (a6 : Int32) (a7 : Int32), f_X4_isLike_14 I fuel a1 a2 a3 a4 a5 a6 a7 = some r → narrow .boolean (.int a6) = .int a6 → zAt E (mw D ad g) 14 [(0, .ref (ad (0))), (1, .int a1), (2, .int a2), (3, .int a3), (4, .int a4), (5, .int a5), (6, .int a6), (7, .int a7)] [] I J := by
  intro fuel
  induction fuel with
  | zero => intro a1 a2 a3 a4 a5 a6 a7 h z6; rw [f_X4_isLike_14] at h; cases h
  | succ f ih =>
    intro a1 a2 a3 a4 a5 a6 a7 h z6
    rw [f_X4_isLike_14] at h
    refine z_iload fx dX4_isLike_14 rfl ?_
    refine z_iload fx dX4_isLike_16 rfl ?_
    refine z_icmp_ge (tgt := 168) fx dX4_isLike_18 (by decide) (fun q1 => ?_) (fun q1 => ?_)
    · rw [if_pos q1] at h
      refine z_iload fx dX4_isLike_168 rfl ?_
      cases h
      exact z_zret fx z6 hr dX4_isLike_170
    · rw [if_neg q1] at h
      refine z_iconst (v := 1) fx dX4_isLike_21 rfl ?_
      refine z_istore fx dX4_isLike_22 (by decide) rfl ?_
      exact z_lv2 (w_X4_isLike_24 fx hR hr ih fu a1 a2 a3 a4 a5 a6 a7 1 h z6) rfl
set_option maxRecDepth 100000 in
set_option maxHeartbeats 4000000 in
theorem c_X4_isLike (l : Launch) (D : va_G) (ad : Nat → Nat) (g : Nat → ClassId) (a1 : Int32) (a2 : Int32) (a3 : Int32) (a4 : Int32) (I : zMi) (J : zMl) {r : Int32} (h : f_X4_isLike a1 a2 a3 a4 I = some r) : zCM (mw D ad g) l yX4_isLike cX4_isLike 14 (some .boolean) rmX4_isLike [.ref (ad (0)), .int a1, .int a2, .int a3, .int a4] I J (some (.int r)) I J := by
  refine zCM.of (by decide) (Nat.le_of_ble_eq_true rfl) (fun E hl hR fx hr => ?_)
  subst hl
  rw [f_X4_isLike] at h
  refine z_aload_n fx dX4_isLike_0 rfl ?_
  refine gM_wide fx wf_X4_26 dX4_isLike_1 ?_
  refine z_iload_n fx dX4_isLike_4 rfl ?_
  obtain ⟨q1, h⟩ := oi h
  refine m_ild fx (Nat.le_of_ble_eq_true rfl) (cfM_5 g ad) q1 dX4_isLike_5 ?_
  refine z_istore fx dX4_isLike_6 (by decide) rfl ?_
  refine z_iconst (v := 1) fx dX4_isLike_8 rfl ?_
  refine z_istore fx dX4_isLike_9 (by decide) rfl ?_
  refine z_iconst (v := 1) fx dX4_isLike_11 rfl ?_
  refine z_istore fx dX4_isLike_12 (by decide) rfl ?_
  exact z_lv2 (w_X4_isLike_14 fx hR hr fu a1 a2 a3 a4 (I (5) a1.toNatClampNeg) 1 1 h rfl) rfl
set_option maxRecDepth 100000 in
set_option maxHeartbeats 4000000 in
theorem w_X4_isOrder_4 {E : zE} {D : va_G} {ad : Nat → Nat} {g : Nat → ClassId} (fx : zFX E (mw D ad g) cX4_isOrder RX4 4 (some .boolean)) (hR : zR E = rmX4_isOrder) {r : Int32} {I : zMi} {J : zMl} (hr : zRX E (mw D ad g) (some (.int r)) I J) : ∀ (fuel : Nat) (a0 : Int32) (a1 : Int32) (a2 : Int32) (a3 : Int32), f_X4_isOrder_4 fuel a0 a1 a2 a3 = some r → zAt E (mw D ad g) 4 [(0, .int a0), (1, .int a1), (2, .int a2), (3, .int a3)] [] I J := by
  intro fuel
  induction fuel with
  | zero => intro a0 a1 a2 a3 h; rw [f_X4_isOrder_4] at h; cases h
  | succ f ih =>
    intro a0 a1 a2 a3 h
    rw [f_X4_isOrder_4] at h
    refine z_iload_n fx dX4_isOrder_4 rfl ?_
    refine z_iload_n fx dX4_isOrder_5 rfl ?_
    refine z_icmp_ge (tgt := 25) fx dX4_isOrder_6 (by decide) (fun q1 => ?_) (fun q1 => ?_)
    · rw [if_pos q1] at h
      refine z_iload_n fx dX4_isOrder_25 rfl ?_
      refine z_iconst (v := 1) fx dX4_isOrder_26 rfl ?_
      refine z_iload_n fx dX4_isOrder_27 rfl ?_
      refine z_ishl fx dX4_isOrder_28 ?_
      refine z_iconst (v := 1) fx dX4_isOrder_29 rfl ?_
      refine z_isub fx dX4_isOrder_30 ?_
      refine z_icmp_ne (tgt := 38) fx dX4_isOrder_31 (by decide) (fun q2 => ?_) (fun q2 => ?_)
      · rw [if_neg q2] at h
        refine z_iconst (v := 0) fx dX4_isOrder_38 rfl ?_
        cases h
        exact z_zret fx rfl hr dX4_isOrder_39
      · rw [if_pos q2] at h
        refine z_iconst (v := 1) fx dX4_isOrder_34 rfl ?_
        refine z_goto (tgt := 39) fx dX4_isOrder_35 (by decide) ?_
        cases h
        exact z_zret fx rfl hr dX4_isOrder_39
    · rw [if_neg q1] at h
      refine z_iload_n fx dX4_isOrder_9 rfl ?_
      refine z_iconst (v := 1) fx dX4_isOrder_10 rfl ?_
      refine z_iload_n fx dX4_isOrder_11 rfl ?_
      refine z_iload_n fx dX4_isOrder_12 rfl ?_
      refine zSi (rest := [.int 1, .int a2]) fx hR (c_X4_order (zl E) D ad g a0 a3 I J rfl) mvX4_order wm_X4_214 dX4_isOrder_13 rfl ⟨rfl, rfl⟩ rfl rfl rfl ?_
      refine z_ishl fx dX4_isOrder_16 ?_
      refine z_ior fx dX4_isOrder_17 ?_
      refine z_istore_n fx dX4_isOrder_18 (by decide) rfl ?_
      refine z_iinc (v := (a3 + 1)) fx dX4_isOrder_19 rfl rfl (by decide) rfl ?_
      refine z_goto (tgt := 4) fx dX4_isOrder_22 (by decide) ?_
      exact z_lv2 (ih a0 a1 (a2 ||| ((1 : Int32) <<< ((f_X4_order a0 a3) &&& 31))) (a3 + 1) h) rfl
set_option maxRecDepth 100000 in
set_option maxHeartbeats 4000000 in
theorem c_X4_isOrder (l : Launch) (D : va_G) (ad : Nat → Nat) (g : Nat → ClassId) (a0 : Int32) (a1 : Int32) (I : zMi) (J : zMl) {r : Int32} (h : f_X4_isOrder a0 a1 = some r) : zCM (mw D ad g) l yX4_isOrder cX4_isOrder 4 (some .boolean) rmX4_isOrder [.int a0, .int a1] I J (some (.int r)) I J := by
  refine zCM.of (by decide) (Nat.le_of_ble_eq_true rfl) (fun E hl hR fx hr => ?_)
  subst hl
  rw [f_X4_isOrder] at h
  refine z_iconst (v := 0) fx dX4_isOrder_0 rfl ?_
  refine z_istore_n fx dX4_isOrder_1 (by decide) rfl ?_
  refine z_iconst (v := 0) fx dX4_isOrder_2 rfl ?_
  refine z_istore_n fx dX4_isOrder_3 (by decide) rfl ?_
  exact z_lv2 (w_X4_isOrder_4 fx hR hr fu a0 a1 0 0 h) rfl
set_option maxRecDepth 100000 in
set_option maxHeartbeats 4000000 in
theorem w_X4_like_50 {E : zE} {D : va_G} {ad : Nat → Nat} {g : Nat → ClassId} (fx : zFX E (mw D ad g) cX4_like RX4 7 (some .int)) (hR : zR E = rmX4_like) {r : Int32 × zMi} {J : zMl} (hr : zRX E (mw D ad g) (some (.int r.1)) r.2 J) {k36 : Int32 → Int32 → Int32 → Int32 → zMi → Option (Int32 × zMi)} (hk36 : ∀ (a1 : Int32) (a2 : Int32) (a4 : Int32) (a5 : Int32) (I : zMi) , k36 a1 a2 a4 a5 I = some r → zAt E (mw D ad g) 36 [(0, .ref (ad (0))), (1, .int a1), (2, .int a2), (4, .int a4), (5, .int a5)] [] I J) : ∀ (fuel : Nat) (a1 : Int32) (a2 : Int32) (a4 : Int32) (a5 : Int32) (a6 : Int32) (I : zMi) , f_X4_like_50 k36 fuel a1 a2 a4 a5 a6 I = some r → zAt E (mw D ad g) 50 [(0, .ref (ad (0))), (1, .int a1), (2, .int a2), (4, .int a4), (5, .int a5), (6, .int a6)] [] I J := by
  intro fuel
  induction fuel with
  | zero => intro a1 a2 a4 a5 a6 I h; rw [f_X4_like_50] at h; cases h
  | succ f ih =>
    intro a1 a2 a4 a5 a6 I h
    rw [f_X4_like_50] at h
    refine z_iload fx dX4_like_50 rfl ?_
    refine z_iconst (v := 1) fx dX4_like_52 rfl ?_
    refine z_iconst (v := 2) fx dX4_like_53 rfl ?_
    refine z_iload fx dX4_like_54 rfl ?_
    refine z_imul fx dX4_like_56 ?_
    refine z_ishl fx dX4_like_57 ?_
    refine z_icmp_ge (tgt := 102) fx dX4_like_58 (by decide) (fun q1 => ?_) (fun q1 => ?_)
    · rw [if_pos q1] at h
      refine z_iinc (v := (a5 + 1)) fx dX4_like_102 rfl rfl (by decide) rfl ?_
      refine z_goto (tgt := 36) fx dX4_like_105 (by decide) ?_
      exact z_lv2 (hk36 a1 a2 a4 (a5 + 1) I h) rfl
    · rw [if_neg q1] at h
      refine z_iload fx dX4_like_61 rfl ?_
      refine z_iload fx dX4_like_63 rfl ?_
      obtain ⟨x2, ex2, h⟩ := ob h
      refine zSi (rest := []) fx hR (c_X4_isOrder (zl E) D ad g a5 a4 I J ex2) mvX4_isOrder wm_X4_217 dX4_like_65 rfl ⟨rfl, rfl⟩ rfl rfl rfl ?_
      refine z_if_eq (tgt := 102) fx dX4_like_68 (by decide) (fun q3 => ?_) (fun q3 => ?_)
      · rw [if_pos q3] at h
        refine z_iinc (v := (a5 + 1)) fx dX4_like_102 rfl rfl (by decide) rfl ?_
        refine z_goto (tgt := 36) fx dX4_like_105 (by decide) ?_
        exact z_lv2 (hk36 a1 a2 a4 (a5 + 1) I h) rfl
      · rw [if_neg q3] at h
        refine z_iload fx dX4_like_71 rfl ?_
        refine z_iload fx dX4_like_73 rfl ?_
        obtain ⟨x4, ex4, h⟩ := ob h
        refine zSi (rest := []) fx hR (c_X4_isOrder (zl E) D ad g a6 a4 I J ex4) mvX4_isOrder wm_X4_217 dX4_like_75 rfl ⟨rfl, rfl⟩ rfl rfl rfl ?_
        refine z_if_eq (tgt := 96) fx dX4_like_78 (by decide) (fun q5 => ?_) (fun q5 => ?_)
        · rw [if_pos q5] at h
          refine z_iinc (v := (a6 + 1)) fx dX4_like_96 rfl rfl (by decide) rfl ?_
          refine z_goto (tgt := 50) fx dX4_like_99 (by decide) ?_
          exact z_lv2 (ih a1 a2 a4 a5 (a6 + 1) I h) rfl
        · rw [if_neg q5] at h
          refine z_aload_n fx dX4_like_81 rfl ?_
          refine z_iload_n fx dX4_like_82 rfl ?_
          refine z_iload_n fx dX4_like_83 rfl ?_
          refine z_iload fx dX4_like_84 rfl ?_
          refine z_iload fx dX4_like_86 rfl ?_
          obtain ⟨x6, ex6, h⟩ := ob h
          refine zVi (k := 0) (rest := []) fx hR (c_X4_isLike (zl E) D ad g a1 a2 a5 a6 I J ex6) rcM mvX4_isLike wm_X4_220 dX4_like_88 rfl ⟨rfl, rfl⟩ rfl rfl rfl ?_
          refine z_if_eq (tgt := 96) fx dX4_like_91 (by decide) (fun q7 => ?_) (fun q7 => ?_)
          · rw [if_pos q7] at h
            refine z_iinc (v := (a6 + 1)) fx dX4_like_96 rfl rfl (by decide) rfl ?_
            refine z_goto (tgt := 50) fx dX4_like_99 (by decide) ?_
            exact z_lv2 (ih a1 a2 a4 a5 (a6 + 1) I h) rfl
          · rw [if_neg q7] at h
            refine z_iconst (v := 1) fx dX4_like_94 rfl ?_
            cases h
            exact z_iret fx hr dX4_like_95
set_option maxRecDepth 100000 in
set_option maxHeartbeats 4000000 in
theorem w_X4_like_36 {E : zE} {D : va_G} {ad : Nat → Nat} {g : Nat → ClassId} (fx : zFX E (mw D ad g) cX4_like RX4 7 (some .int)) (hR : zR E = rmX4_like) {r : Int32 × zMi} {J : zMl} (hr : zRX E (mw D ad g) (some (.int r.1)) r.2 J) : ∀ (fuel : Nat) (a1 : Int32) (a2 : Int32) (a4 : Int32) (a5 : Int32) (I : zMi) , f_X4_like_36 fuel a1 a2 a4 a5 I = some r → zAt E (mw D ad g) 36 [(0, .ref (ad (0))), (1, .int a1), (2, .int a2), (4, .int a4), (5, .int a5)] [] I J := by
  intro fuel
  induction fuel with
  | zero => intro a1 a2 a4 a5 I h; rw [f_X4_like_36] at h; cases h
  | succ f ih =>
    intro a1 a2 a4 a5 I h
    rw [f_X4_like_36] at h
    refine z_iload fx dX4_like_36 rfl ?_
    refine z_iconst (v := 1) fx dX4_like_38 rfl ?_
    refine z_iconst (v := 2) fx dX4_like_39 rfl ?_
    refine z_iload fx dX4_like_40 rfl ?_
    refine z_imul fx dX4_like_42 ?_
    refine z_ishl fx dX4_like_43 ?_
    refine z_icmp_ge (tgt := 108) fx dX4_like_44 (by decide) (fun q1 => ?_) (fun q1 => ?_)
    · rw [if_pos q1] at h
      refine z_iconst (v := 0) fx dX4_like_108 rfl ?_
      cases h
      exact z_iret fx hr dX4_like_109
    · rw [if_neg q1] at h
      refine z_iconst (v := 0) fx dX4_like_47 rfl ?_
      refine z_istore fx dX4_like_48 (by decide) rfl ?_
      exact z_lv2 (w_X4_like_50 fx hR hr ih fu a1 a2 a4 a5 0 I h) rfl
set_option maxRecDepth 100000 in
set_option maxHeartbeats 4000000 in
theorem c_X4_like (l : Launch) (D : va_G) (ad : Nat → Nat) (g : Nat → ClassId) (a1 : Int32) (a2 : Int32) (I : zMi) (J : zMl) {r : Int32 × zMi} (h : f_X4_like a1 a2 I = some r) : zCM (mw D ad g) l yX4_like cX4_like 7 (some .int) rmX4_like [.ref (ad (0)), .int a1, .int a2] I J (some (.int r.1)) r.2 J := by
  refine zCM.of (by decide) (Nat.le_of_ble_eq_true rfl) (fun E hl hR fx hr => ?_)
  subst hl
  rw [f_X4_like] at h
  refine z_aload_n fx dX4_like_0 rfl ?_
  refine z_iload_n fx dX4_like_1 rfl ?_
  refine z_iload_n fx dX4_like_2 rfl ?_
  obtain ⟨x1, ex1, h⟩ := ob h
  refine zVi (k := 0) (rest := []) fx hR (c_X4_askedTwo (zl E) D ad g a1 a2 I J ex1) rcM mvX4_askedTwo wm_X4_207 dX4_like_3 rfl ⟨rfl, rfl⟩ rfl rfl rfl ?_
  refine z_istore_n fx dX4_like_6 (by decide) rfl ?_
  refine z_iload_n fx dX4_like_7 rfl ?_
  refine z_if_ge (tgt := 13) fx dX4_like_8 (by decide) (fun q2 => ?_) (fun q2 => ?_)
  · rw [if_pos q2] at h
    refine z_aload_n fx dX4_like_13 rfl ?_
    refine gM_wide fx wf_X4_26 dX4_like_14 ?_
    refine z_iload_n fx dX4_like_17 rfl ?_
    obtain ⟨q3, h⟩ := oi h
    refine m_ild fx (Nat.le_of_ble_eq_true rfl) (cfM_5 g ad) q3 dX4_like_18 ?_
    refine z_istore fx dX4_like_19 (by decide) rfl ?_
    refine z_iload fx dX4_like_21 rfl ?_
    refine z_iconst (v := 4) fx dX4_like_23 rfl ?_
    refine z_icmp_le (tgt := 33) fx dX4_like_24 (by decide) (fun q4 => ?_) (fun q4 => ?_)
    · rw [if_pos q4] at h
      refine z_iconst (v := 0) fx dX4_like_33 rfl ?_
      refine z_istore fx dX4_like_34 (by decide) rfl ?_
      exact z_lv2 (w_X4_like_36 fx hR hr fu a1 a2 (x1.2 (5) a1.toNatClampNeg) 0 x1.2 h) rfl
    · rw [if_neg q4] at h
      refine z_aload_n fx dX4_like_27 rfl ?_
      refine z_iconst (v := 5) fx dX4_like_28 rfl ?_
      obtain ⟨x5, ex5, h⟩ := ob h
      refine zVi (k := 0) (rest := []) fx hR (c_X4_meets (zl E) D ad g 5 x1.2 J ex5) rcM mvX4_meets wm_X4_81 dX4_like_29 rfl ⟨rfl, rfl⟩ rfl rfl rfl ?_
      cases h
      exact z_iret fx hr dX4_like_32
  · rw [if_neg q2] at h
    refine z_iload_n fx dX4_like_11 rfl ?_
    cases h
    exact z_iret fx hr dX4_like_12
set_option maxRecDepth 100000 in
set_option maxHeartbeats 4000000 in
theorem w_X4_turnedSum_6 {E : zE} {D : va_G} {ad : Nat → Nat} {g : Nat → ClassId} (fx : zFX E (mw D ad g) cX4_turnedSum RX4 6 (some .int)) (hR : zR E = rmX4_turnedSum) {r : Int32} {I : zMi} {J : zMl} (hr : zRX E (mw D ad g) (some (.int r)) I J) : ∀ (fuel : Nat) (a1 : Int32) (a2 : Int32) (a3 : Int32) (a4 : Int32) (a5 : Int32), f_X4_turnedSum_6 I fuel a1 a2 a3 a4 a5 = some r → zAt E (mw D ad g) 6 [(0, .ref (ad (0))), (1, .int a1), (2, .int a2), (3, .int a3), (4, .int a4), (5, .int a5)] [] I J := by
  intro fuel
  induction fuel with
  | zero => intro a1 a2 a3 a4 a5 h; rw [f_X4_turnedSum_6] at h; cases h
  | succ f ih =>
    intro a1 a2 a3 a4 a5 h
    rw [f_X4_turnedSum_6] at h
    refine z_iload fx dX4_turnedSum_6 rfl ?_
    refine z_aload_n fx dX4_turnedSum_8 rfl ?_
    refine gM_wide fx wf_X4_26 dX4_turnedSum_9 ?_
    refine z_iload_n fx dX4_turnedSum_12 rfl ?_
    obtain ⟨q1, h⟩ := oi h
    refine m_ild fx (Nat.le_of_ble_eq_true rfl) (cfM_5 g ad) q1 dX4_turnedSum_13 ?_
    refine z_icmp_ge (tgt := 58) fx dX4_turnedSum_14 (by decide) (fun q2 => ?_) (fun q2 => ?_)
    · rw [if_pos q2] at h
      refine z_iload fx dX4_turnedSum_58 rfl ?_
      refine zSi (rest := []) fx hR (c_X4_abs (zl E) D ad g a4 I J rfl) mvX4_abs wm_X4_177 dX4_turnedSum_60 rfl ⟨rfl, rfl⟩ rfl rfl rfl ?_
      cases h
      exact z_iret fx hr dX4_turnedSum_63
    · rw [if_neg q2] at h
      refine z_iload fx dX4_turnedSum_17 rfl ?_
      refine z_iload_n fx dX4_turnedSum_19 rfl ?_
      refine z_iload fx dX4_turnedSum_20 rfl ?_
      refine z_ishr fx dX4_turnedSum_22 ?_
      refine z_iconst (v := 1) fx dX4_turnedSum_23 rfl ?_
      refine z_iand fx dX4_turnedSum_24 ?_
      refine z_iconst (v := 1) fx dX4_turnedSum_25 rfl ?_
      refine z_icmp_ne (tgt := 41) fx dX4_turnedSum_26 (by decide) (fun q3 => ?_) (fun q3 => ?_)
      · rw [if_neg q3] at h
        refine z_aload_n fx dX4_turnedSum_41 rfl ?_
        refine z_iload_n fx dX4_turnedSum_42 rfl ?_
        refine z_iload_n fx dX4_turnedSum_43 rfl ?_
        refine z_iload fx dX4_turnedSum_44 rfl ?_
        obtain ⟨x4, ex4, h⟩ := ob h
        refine zVi (k := 0) (rest := [.int a4]) fx hR (c_X4_get (zl E) D ad g a1 a2 a5 I J ex4) rcM mvX4_get wm_X4_102 dX4_turnedSum_46 rfl ⟨rfl, rfl⟩ rfl rfl rfl ?_
        refine z_iadd fx dX4_turnedSum_49 ?_
        refine z_istore fx dX4_turnedSum_50 (by decide) rfl ?_
        refine z_iinc (v := (a5 + 1)) fx dX4_turnedSum_52 rfl rfl (by decide) rfl ?_
        refine z_goto (tgt := 6) fx dX4_turnedSum_55 (by decide) ?_
        exact z_lv2 (ih a1 a2 a3 (a4 + x4) (a5 + 1) h) rfl
      · rw [if_pos q3] at h
        refine z_aload_n fx dX4_turnedSum_29 rfl ?_
        refine z_iload_n fx dX4_turnedSum_30 rfl ?_
        refine z_iload_n fx dX4_turnedSum_31 rfl ?_
        refine z_iload fx dX4_turnedSum_32 rfl ?_
        obtain ⟨x5, ex5, h⟩ := ob h
        refine zVi (k := 0) (rest := [.int a4]) fx hR (c_X4_get (zl E) D ad g a1 a2 a5 I J ex5) rcM mvX4_get wm_X4_102 dX4_turnedSum_34 rfl ⟨rfl, rfl⟩ rfl rfl rfl ?_
        refine z_ineg fx dX4_turnedSum_37 ?_
        refine z_goto (tgt := 49) fx dX4_turnedSum_38 (by decide) ?_
        refine z_iadd fx dX4_turnedSum_49 ?_
        refine z_istore fx dX4_turnedSum_50 (by decide) rfl ?_
        refine z_iinc (v := (a5 + 1)) fx dX4_turnedSum_52 rfl rfl (by decide) rfl ?_
        refine z_goto (tgt := 6) fx dX4_turnedSum_55 (by decide) ?_
        exact z_lv2 (ih a1 a2 a3 (a4 + (-x5)) (a5 + 1) h) rfl
set_option maxRecDepth 100000 in
set_option maxHeartbeats 4000000 in
theorem c_X4_turnedSum (l : Launch) (D : va_G) (ad : Nat → Nat) (g : Nat → ClassId) (a1 : Int32) (a2 : Int32) (a3 : Int32) (I : zMi) (J : zMl) {r : Int32} (h : f_X4_turnedSum a1 a2 a3 I = some r) : zCM (mw D ad g) l yX4_turnedSum cX4_turnedSum 6 (some .int) rmX4_turnedSum [.ref (ad (0)), .int a1, .int a2, .int a3] I J (some (.int r)) I J := by
  refine zCM.of (by decide) (Nat.le_of_ble_eq_true rfl) (fun E hl hR fx hr => ?_)
  subst hl
  rw [f_X4_turnedSum] at h
  refine z_iconst (v := 0) fx dX4_turnedSum_0 rfl ?_
  refine z_istore fx dX4_turnedSum_1 (by decide) rfl ?_
  refine z_iconst (v := 0) fx dX4_turnedSum_3 rfl ?_
  refine z_istore fx dX4_turnedSum_4 (by decide) rfl ?_
  exact z_lv2 (w_X4_turnedSum_6 fx hR hr fu a1 a2 a3 0 0 h) rfl
set_option maxRecDepth 100000 in
set_option maxHeartbeats 4000000 in
theorem w_X4_excess_40 {E : zE} {D : va_G} {ad : Nat → Nat} {g : Nat → ClassId} (fx : zFX E (mw D ad g) cX4_excess RX4 8 (some .int)) (hR : zR E = rmX4_excess) {r : Int32 × zMi} {J : zMl} (hr : zRX E (mw D ad g) (some (.int r.1)) r.2 J) {k21 : Int32 → Int32 → Int32 → Int32 → zMi → Option (Int32 × zMi)} (hk21 : ∀ (a1 : Int32) (a3 : Int32) (a4 : Int32) (a5 : Int32) (I : zMi) , k21 a1 a3 a4 a5 I = some r → zAt E (mw D ad g) 21 [(0, .ref (ad (0))), (1, .int a1), (3, .int a3), (4, .int a4), (5, .int a5)] [] I J) : ∀ (fuel : Nat) (a1 : Int32) (a3 : Int32) (a4 : Int32) (a5 : Int32) (a6 : Int32) (a7 : Int32) (I : zMi) , f_X4_excess_40 k21 fuel a1 a3 a4 a5 a6 a7 I = some r → zAt E (mw D ad g) 40 [(0, .ref (ad (0))), (1, .int a1), (3, .int a3), (4, .int a4), (5, .int a5), (6, .int a6), (7, .int a7)] [] I J := by
  intro fuel
  induction fuel with
  | zero => intro a1 a3 a4 a5 a6 a7 I h; rw [f_X4_excess_40] at h; cases h
  | succ f ih =>
    intro a1 a3 a4 a5 a6 a7 I h
    rw [f_X4_excess_40] at h
    refine z_iload fx dX4_excess_40 rfl ?_
    refine z_aload_n fx dX4_excess_42 rfl ?_
    refine gM_wide fx wf_X4_26 dX4_excess_43 ?_
    refine z_iload_n fx dX4_excess_46 rfl ?_
    obtain ⟨q1, h⟩ := oi h
    refine m_ild fx (Nat.le_of_ble_eq_true rfl) (cfM_5 g ad) q1 dX4_excess_47 ?_
    refine z_icmp_ge (tgt := 71) fx dX4_excess_48 (by decide) (fun q2 => ?_) (fun q2 => ?_)
    · rw [if_pos q2] at h
      refine z_iload_n fx dX4_excess_71 rfl ?_
      refine z_if_lt (tgt := 82) fx dX4_excess_72 (by decide) (fun q3 => ?_) (fun q3 => ?_)
      · rw [if_pos q3] at h
        refine z_iload fx dX4_excess_82 rfl ?_
        refine z_istore_n fx dX4_excess_84 (by decide) rfl ?_
        refine z_iload fx dX4_excess_85 rfl ?_
        refine z_istore fx dX4_excess_87 (by decide) rfl ?_
        refine z_iinc (v := (a5 + 1)) fx dX4_excess_89 rfl rfl (by decide) rfl ?_
        refine z_goto (tgt := 21) fx dX4_excess_92 (by decide) ?_
        exact z_lv2 (hk21 a1 a5 a6 (a5 + 1) I h) rfl
      · rw [if_neg q3] at h
        refine z_iload fx dX4_excess_75 rfl ?_
        refine z_iload fx dX4_excess_77 rfl ?_
        refine z_icmp_le (tgt := 89) fx dX4_excess_79 (by decide) (fun q4 => ?_) (fun q4 => ?_)
        · rw [if_pos q4] at h
          refine z_iinc (v := (a5 + 1)) fx dX4_excess_89 rfl rfl (by decide) rfl ?_
          refine z_goto (tgt := 21) fx dX4_excess_92 (by decide) ?_
          exact z_lv2 (hk21 a1 a3 a4 (a5 + 1) I h) rfl
        · rw [if_neg q4] at h
          refine z_iload fx dX4_excess_82 rfl ?_
          refine z_istore_n fx dX4_excess_84 (by decide) rfl ?_
          refine z_iload fx dX4_excess_85 rfl ?_
          refine z_istore fx dX4_excess_87 (by decide) rfl ?_
          refine z_iinc (v := (a5 + 1)) fx dX4_excess_89 rfl rfl (by decide) rfl ?_
          refine z_goto (tgt := 21) fx dX4_excess_92 (by decide) ?_
          exact z_lv2 (hk21 a1 a5 a6 (a5 + 1) I h) rfl
    · rw [if_neg q2] at h
      refine z_iload fx dX4_excess_51 rfl ?_
      refine z_aload_n fx dX4_excess_53 rfl ?_
      refine z_iload_n fx dX4_excess_54 rfl ?_
      refine z_iload fx dX4_excess_55 rfl ?_
      refine z_iload fx dX4_excess_57 rfl ?_
      obtain ⟨x5, ex5, h⟩ := ob h
      refine zVi (k := 0) (rest := [.int a6]) fx hR (c_X4_turnedSum (zl E) D ad g a1 a7 a5 I J ex5) rcM mvX4_turnedSum wm_X4_224 dX4_excess_59 rfl ⟨rfl, rfl⟩ rfl rfl rfl ?_
      refine z_iadd fx dX4_excess_62 ?_
      refine z_istore fx dX4_excess_63 (by decide) rfl ?_
      refine z_iinc (v := (a7 + 1)) fx dX4_excess_65 rfl rfl (by decide) rfl ?_
      refine z_goto (tgt := 40) fx dX4_excess_68 (by decide) ?_
      exact z_lv2 (ih a1 a3 a4 a5 (a6 + x5) (a7 + 1) I h) rfl
set_option maxRecDepth 100000 in
set_option maxHeartbeats 4000000 in
theorem w_X4_excess_21 {E : zE} {D : va_G} {ad : Nat → Nat} {g : Nat → ClassId} (fx : zFX E (mw D ad g) cX4_excess RX4 8 (some .int)) (hR : zR E = rmX4_excess) {r : Int32 × zMi} {J : zMl} (hr : zRX E (mw D ad g) (some (.int r.1)) r.2 J) : ∀ (fuel : Nat) (a1 : Int32) (a3 : Int32) (a4 : Int32) (a5 : Int32) (I : zMi) , f_X4_excess_21 fuel a1 a3 a4 a5 I = some r → zAt E (mw D ad g) 21 [(0, .ref (ad (0))), (1, .int a1), (3, .int a3), (4, .int a4), (5, .int a5)] [] I J := by
  intro fuel
  induction fuel with
  | zero => intro a1 a3 a4 a5 I h; rw [f_X4_excess_21] at h; cases h
  | succ f ih =>
    intro a1 a3 a4 a5 I h
    rw [f_X4_excess_21] at h
    refine z_iload fx dX4_excess_21 rfl ?_
    refine z_iconst (v := 1) fx dX4_excess_23 rfl ?_
    refine z_aload_n fx dX4_excess_24 rfl ?_
    refine gM_wide fx wf_X4_26 dX4_excess_25 ?_
    refine z_iload_n fx dX4_excess_28 rfl ?_
    obtain ⟨q1, h⟩ := oi h
    refine m_ild fx (Nat.le_of_ble_eq_true rfl) (cfM_5 g ad) q1 dX4_excess_29 ?_
    refine z_ishl fx dX4_excess_30 ?_
    refine z_icmp_ge (tgt := 95) fx dX4_excess_31 (by decide) (fun q2 => ?_) (fun q2 => ?_)
    · rw [if_pos q2] at h
      refine z_aload_n fx dX4_excess_95 rfl ?_
      refine z_iload_n fx dX4_excess_96 rfl ?_
      refine z_iload fx dX4_excess_97 rfl ?_
      refine zVi (k := 0) (rest := []) fx hR (c_X4_ask (zl E) D ad g a3 a4 I J rfl) rcM mvX4_ask wm_X4_92 dX4_excess_99 rfl ⟨rfl, rfl⟩ rfl rfl rfl ?_
      cases h
      exact z_iret fx hr dX4_excess_102
    · rw [if_neg q2] at h
      refine z_iconst (v := 0) fx dX4_excess_34 rfl ?_
      refine z_istore fx dX4_excess_35 (by decide) rfl ?_
      refine z_iconst (v := 0) fx dX4_excess_37 rfl ?_
      refine z_istore fx dX4_excess_38 (by decide) rfl ?_
      exact z_lv2 (w_X4_excess_40 fx hR hr ih fu a1 a3 a4 a5 0 0 I h) rfl
set_option maxRecDepth 100000 in
set_option maxHeartbeats 4000000 in
theorem c_X4_excess (l : Launch) (D : va_G) (ad : Nat → Nat) (g : Nat → ClassId) (a1 : Int32) (I : zMi) (J : zMl) {r : Int32 × zMi} (h : f_X4_excess a1 I = some r) : zCM (mw D ad g) l yX4_excess cX4_excess 8 (some .int) rmX4_excess [.ref (ad (0)), .int a1] I J (some (.int r.1)) r.2 J := by
  refine zCM.of (by decide) (Nat.le_of_ble_eq_true rfl) (fun E hl hR fx hr => ?_)
  subst hl
  rw [f_X4_excess] at h
  refine z_aload_n fx dX4_excess_0 rfl ?_
  refine z_iload_n fx dX4_excess_1 rfl ?_
  obtain ⟨x1, ex1, h⟩ := ob h
  refine zVi (k := 0) (rest := []) fx hR (c_X4_askedTable (zl E) D ad g a1 I J ex1) rcM mvX4_askedTable wm_X4_143 dX4_excess_2 rfl ⟨rfl, rfl⟩ rfl rfl rfl ?_
  refine z_istore_n fx dX4_excess_5 (by decide) rfl ?_
  refine z_iload_n fx dX4_excess_6 rfl ?_
  refine z_if_ge (tgt := 12) fx dX4_excess_7 (by decide) (fun q2 => ?_) (fun q2 => ?_)
  · rw [if_pos q2] at h
    refine z_bipush (v := (-9)) fx dX4_excess_12 rfl ?_
    refine z_istore_n fx dX4_excess_14 (by decide) rfl ?_
    refine z_iconst (v := 0) fx dX4_excess_15 rfl ?_
    refine z_istore fx dX4_excess_16 (by decide) rfl ?_
    refine z_iconst (v := 0) fx dX4_excess_18 rfl ?_
    refine z_istore fx dX4_excess_19 (by decide) rfl ?_
    exact z_lv2 (w_X4_excess_21 fx hR hr fu a1 (-9) 0 0 x1.2 h) rfl
  · rw [if_neg q2] at h
    refine z_iload_n fx dX4_excess_10 rfl ?_
    cases h
    exact z_iret fx hr dX4_excess_11
set_option maxRecDepth 100000 in
set_option maxHeartbeats 4000000 in
theorem w_X4_peak_40 {E : zE} {D : va_G} {ad : Nat → Nat} {g : Nat → ClassId} (fx : zFX E (mw D ad g) cX4_peak RX4 9 (some .int)) (hR : zR E = rmX4_peak) {r : Int32 × zMi} {J : zMl} (hr : zRX E (mw D ad g) (some (.int r.1)) r.2 J) {k21 : Int32 → Int32 → Int32 → Int32 → zMi → Option (Int32 × zMi)} (hk21 : ∀ (a1 : Int32) (a3 : Int32) (a4 : Int32) (a5 : Int32) (I : zMi) , k21 a1 a3 a4 a5 I = some r → zAt E (mw D ad g) 21 [(0, .ref (ad (0))), (1, .int a1), (3, .int a3), (4, .int a4), (5, .int a5)] [] I J) : ∀ (fuel : Nat) (a1 : Int32) (a3 : Int32) (a4 : Int32) (a5 : Int32) (a6 : Int32) (a7 : Int32) (I : zMi) , f_X4_peak_40 k21 fuel a1 a3 a4 a5 a6 a7 I = some r → zAt E (mw D ad g) 40 [(0, .ref (ad (0))), (1, .int a1), (3, .int a3), (4, .int a4), (5, .int a5), (6, .int a6), (7, .int a7)] [] I J := by
  intro fuel
  induction fuel with
  | zero => intro a1 a3 a4 a5 a6 a7 I h; rw [f_X4_peak_40] at h; cases h
  | succ f ih =>
    intro a1 a3 a4 a5 a6 a7 I h
    rw [f_X4_peak_40] at h
    refine z_iload fx dX4_peak_40 rfl ?_
    refine z_aload_n fx dX4_peak_42 rfl ?_
    refine gM_wide fx wf_X4_26 dX4_peak_43 ?_
    refine z_iload_n fx dX4_peak_46 rfl ?_
    obtain ⟨q1, h⟩ := oi h
    refine m_ild fx (Nat.le_of_ble_eq_true rfl) (cfM_5 g ad) q1 dX4_peak_47 ?_
    refine z_icmp_ge (tgt := 84) fx dX4_peak_48 (by decide) (fun q2 => ?_) (fun q2 => ?_)
    · rw [if_pos q2] at h
      refine z_iload_n fx dX4_peak_84 rfl ?_
      refine z_if_lt (tgt := 95) fx dX4_peak_85 (by decide) (fun q3 => ?_) (fun q3 => ?_)
      · rw [if_pos q3] at h
        refine z_iload fx dX4_peak_95 rfl ?_
        refine z_istore_n fx dX4_peak_97 (by decide) rfl ?_
        refine z_iload fx dX4_peak_98 rfl ?_
        refine z_istore fx dX4_peak_100 (by decide) rfl ?_
        refine z_iinc (v := (a5 + 1)) fx dX4_peak_102 rfl rfl (by decide) rfl ?_
        refine z_goto (tgt := 21) fx dX4_peak_105 (by decide) ?_
        exact z_lv2 (hk21 a1 a5 a6 (a5 + 1) I h) rfl
      · rw [if_neg q3] at h
        refine z_iload fx dX4_peak_88 rfl ?_
        refine z_iload fx dX4_peak_90 rfl ?_
        refine z_icmp_ge (tgt := 102) fx dX4_peak_92 (by decide) (fun q4 => ?_) (fun q4 => ?_)
        · rw [if_pos q4] at h
          refine z_iinc (v := (a5 + 1)) fx dX4_peak_102 rfl rfl (by decide) rfl ?_
          refine z_goto (tgt := 21) fx dX4_peak_105 (by decide) ?_
          exact z_lv2 (hk21 a1 a3 a4 (a5 + 1) I h) rfl
        · rw [if_neg q4] at h
          refine z_iload fx dX4_peak_95 rfl ?_
          refine z_istore_n fx dX4_peak_97 (by decide) rfl ?_
          refine z_iload fx dX4_peak_98 rfl ?_
          refine z_istore fx dX4_peak_100 (by decide) rfl ?_
          refine z_iinc (v := (a5 + 1)) fx dX4_peak_102 rfl rfl (by decide) rfl ?_
          refine z_goto (tgt := 21) fx dX4_peak_105 (by decide) ?_
          exact z_lv2 (hk21 a1 a5 a6 (a5 + 1) I h) rfl
    · rw [if_neg q2] at h
      refine z_aload_n fx dX4_peak_51 rfl ?_
      refine z_iload_n fx dX4_peak_52 rfl ?_
      refine z_iload fx dX4_peak_53 rfl ?_
      refine z_iload fx dX4_peak_55 rfl ?_
      obtain ⟨x5, ex5, h⟩ := ob h
      refine zVi (k := 0) (rest := []) fx hR (c_X4_turnedSum (zl E) D ad g a1 a7 a5 I J ex5) rcM mvX4_turnedSum wm_X4_224 dX4_peak_57 rfl ⟨rfl, rfl⟩ rfl rfl rfl ?_
      refine z_istore fx dX4_peak_60 (by decide) rfl ?_
      refine z_iload fx dX4_peak_62 rfl ?_
      refine z_iload fx dX4_peak_64 rfl ?_
      refine z_icmp_le (tgt := 74) fx dX4_peak_66 (by decide) (fun q6 => ?_) (fun q6 => ?_)
      · rw [if_pos q6] at h
        refine z_iload fx dX4_peak_74 rfl ?_
        refine z_istore fx dX4_peak_76 (by decide) rfl ?_
        refine z_iinc (v := (a7 + 1)) fx dX4_peak_78 rfl rfl (by decide) rfl ?_
        refine z_goto (tgt := 40) fx dX4_peak_81 (by decide) ?_
        exact z_lv2 (ih a1 a3 a4 a5 a6 (a7 + 1) I h) rfl
      · rw [if_neg q6] at h
        refine z_iload fx dX4_peak_69 rfl ?_
        refine z_goto (tgt := 76) fx dX4_peak_71 (by decide) ?_
        refine z_istore fx dX4_peak_76 (by decide) rfl ?_
        refine z_iinc (v := (a7 + 1)) fx dX4_peak_78 rfl rfl (by decide) rfl ?_
        refine z_goto (tgt := 40) fx dX4_peak_81 (by decide) ?_
        exact z_lv2 (ih a1 a3 a4 a5 x5 (a7 + 1) I h) rfl
set_option maxRecDepth 100000 in
set_option maxHeartbeats 4000000 in
theorem w_X4_peak_21 {E : zE} {D : va_G} {ad : Nat → Nat} {g : Nat → ClassId} (fx : zFX E (mw D ad g) cX4_peak RX4 9 (some .int)) (hR : zR E = rmX4_peak) {r : Int32 × zMi} {J : zMl} (hr : zRX E (mw D ad g) (some (.int r.1)) r.2 J) : ∀ (fuel : Nat) (a1 : Int32) (a3 : Int32) (a4 : Int32) (a5 : Int32) (I : zMi) , f_X4_peak_21 fuel a1 a3 a4 a5 I = some r → zAt E (mw D ad g) 21 [(0, .ref (ad (0))), (1, .int a1), (3, .int a3), (4, .int a4), (5, .int a5)] [] I J := by
  intro fuel
  induction fuel with
  | zero => intro a1 a3 a4 a5 I h; rw [f_X4_peak_21] at h; cases h
  | succ f ih =>
    intro a1 a3 a4 a5 I h
    rw [f_X4_peak_21] at h
    refine z_iload fx dX4_peak_21 rfl ?_
    refine z_iconst (v := 1) fx dX4_peak_23 rfl ?_
    refine z_aload_n fx dX4_peak_24 rfl ?_
    refine gM_wide fx wf_X4_26 dX4_peak_25 ?_
    refine z_iload_n fx dX4_peak_28 rfl ?_
    obtain ⟨q1, h⟩ := oi h
    refine m_ild fx (Nat.le_of_ble_eq_true rfl) (cfM_5 g ad) q1 dX4_peak_29 ?_
    refine z_ishl fx dX4_peak_30 ?_
    refine z_icmp_ge (tgt := 108) fx dX4_peak_31 (by decide) (fun q2 => ?_) (fun q2 => ?_)
    · rw [if_pos q2] at h
      refine z_aload_n fx dX4_peak_108 rfl ?_
      refine z_iload_n fx dX4_peak_109 rfl ?_
      refine z_iload fx dX4_peak_110 rfl ?_
      refine zVi (k := 0) (rest := []) fx hR (c_X4_ask (zl E) D ad g a3 a4 I J rfl) rcM mvX4_ask wm_X4_92 dX4_peak_112 rfl ⟨rfl, rfl⟩ rfl rfl rfl ?_
      cases h
      exact z_iret fx hr dX4_peak_115
    · rw [if_neg q2] at h
      refine z_iconst (v := 0) fx dX4_peak_34 rfl ?_
      refine z_istore fx dX4_peak_35 (by decide) rfl ?_
      refine z_iconst (v := 0) fx dX4_peak_37 rfl ?_
      refine z_istore fx dX4_peak_38 (by decide) rfl ?_
      exact z_lv2 (w_X4_peak_40 fx hR hr ih fu a1 a3 a4 a5 0 0 I h) rfl
set_option maxRecDepth 100000 in
set_option maxHeartbeats 4000000 in
theorem c_X4_peak (l : Launch) (D : va_G) (ad : Nat → Nat) (g : Nat → ClassId) (a1 : Int32) (I : zMi) (J : zMl) {r : Int32 × zMi} (h : f_X4_peak a1 I = some r) : zCM (mw D ad g) l yX4_peak cX4_peak 9 (some .int) rmX4_peak [.ref (ad (0)), .int a1] I J (some (.int r.1)) r.2 J := by
  refine zCM.of (by decide) (Nat.le_of_ble_eq_true rfl) (fun E hl hR fx hr => ?_)
  subst hl
  rw [f_X4_peak] at h
  refine z_aload_n fx dX4_peak_0 rfl ?_
  refine z_iload_n fx dX4_peak_1 rfl ?_
  obtain ⟨x1, ex1, h⟩ := ob h
  refine zVi (k := 0) (rest := []) fx hR (c_X4_askedTable (zl E) D ad g a1 I J ex1) rcM mvX4_askedTable wm_X4_143 dX4_peak_2 rfl ⟨rfl, rfl⟩ rfl rfl rfl ?_
  refine z_istore_n fx dX4_peak_5 (by decide) rfl ?_
  refine z_iload_n fx dX4_peak_6 rfl ?_
  refine z_if_ge (tgt := 12) fx dX4_peak_7 (by decide) (fun q2 => ?_) (fun q2 => ?_)
  · rw [if_pos q2] at h
    refine z_bipush (v := (-9)) fx dX4_peak_12 rfl ?_
    refine z_istore_n fx dX4_peak_14 (by decide) rfl ?_
    refine z_iconst (v := 0) fx dX4_peak_15 rfl ?_
    refine z_istore fx dX4_peak_16 (by decide) rfl ?_
    refine z_iconst (v := 0) fx dX4_peak_18 rfl ?_
    refine z_istore fx dX4_peak_19 (by decide) rfl ?_
    exact z_lv2 (w_X4_peak_21 fx hR hr fu a1 (-9) 0 0 x1.2 h) rfl
  · rw [if_neg q2] at h
    refine z_iload_n fx dX4_peak_10 rfl ?_
    cases h
    exact z_iret fx hr dX4_peak_11
set_option maxRecDepth 100000 in
set_option maxHeartbeats 4000000 in
theorem w_X4_block_71 {E : zE} {D : va_G} {ad : Nat → Nat} {g : Nat → ClassId} (fx : zFX E (mw D ad g) cX4_block RX4 8 (some .int)) (hR : zR E = rmX4_block) {r : Int32 × zMi} {J : zMl} (hr : zRX E (mw D ad g) (some (.int r.1)) r.2 J) : ∀ (fuel : Nat) (a1 : Int32) (a2 : Int32) (a4 : Int32) (a5 : Int32) (a6 : Int32) (I : zMi) , f_X4_block_71 fuel a1 a2 a4 a5 a6 I = some r → zAt E (mw D ad g) 71 [(0, .ref (ad (0))), (1, .int a1), (2, .int a2), (4, .int a4), (5, .int a5), (6, .int a6)] [] I J := by
  intro fuel
  induction fuel with
  | zero => intro a1 a2 a4 a5 a6 I h; rw [f_X4_block_71] at h; cases h
  | succ f ih =>
    intro a1 a2 a4 a5 a6 I h
    rw [f_X4_block_71] at h
    refine z_iload fx dX4_block_71 rfl ?_
    refine z_iload fx dX4_block_73 rfl ?_
    refine z_icmp_ge (tgt := 144) fx dX4_block_75 (by decide) (fun q1 => ?_) (fun q1 => ?_)
    · rw [if_pos q1] at h
      refine z_iload fx dX4_block_144 rfl ?_
      cases h
      exact z_iret fx hr dX4_block_146
    · rw [if_neg q1] at h
      refine z_aload_n fx dX4_block_78 rfl ?_
      refine z_iload_n fx dX4_block_79 rfl ?_
      refine z_iload_n fx dX4_block_80 rfl ?_
      refine z_iconst (v := 1) fx dX4_block_81 rfl ?_
      refine z_iadd fx dX4_block_82 ?_
      refine z_iload fx dX4_block_83 rfl ?_
      obtain ⟨x2, ex2, h⟩ := ob h
      refine zVi (k := 0) (rest := []) fx hR (c_X4_get (zl E) D ad g a1 (a2 + 1) a6 I J ex2) rcM mvX4_get wm_X4_102 dX4_block_85 rfl ⟨rfl, rfl⟩ rfl rfl rfl ?_
      refine z_aload_n fx dX4_block_88 rfl ?_
      refine z_iload_n fx dX4_block_89 rfl ?_
      refine z_iconst (v := 0) fx dX4_block_90 rfl ?_
      refine z_iload fx dX4_block_91 rfl ?_
      obtain ⟨x3, ex3, h⟩ := ob h
      refine zVi (k := 0) (rest := [.int x2]) fx hR (c_X4_get (zl E) D ad g a1 0 a6 I J ex3) rcM mvX4_get wm_X4_102 dX4_block_93 rfl ⟨rfl, rfl⟩ rfl rfl rfl ?_
      refine z_imul fx dX4_block_96 ?_
      refine z_aload_n fx dX4_block_97 rfl ?_
      refine z_iload_n fx dX4_block_98 rfl ?_
      refine z_iload_n fx dX4_block_99 rfl ?_
      refine z_iconst (v := 1) fx dX4_block_100 rfl ?_
      refine z_iadd fx dX4_block_101 ?_
      refine z_iconst (v := 0) fx dX4_block_102 rfl ?_
      obtain ⟨x4, ex4, h⟩ := ob h
      refine zVi (k := 0) (rest := [.int (x2 * x3)]) fx hR (c_X4_get (zl E) D ad g a1 (a2 + 1) 0 I J ex4) rcM mvX4_get wm_X4_102 dX4_block_103 rfl ⟨rfl, rfl⟩ rfl rfl rfl ?_
      refine z_imul fx dX4_block_106 ?_
      refine z_aload_n fx dX4_block_107 rfl ?_
      refine z_iload_n fx dX4_block_108 rfl ?_
      refine z_iconst (v := 0) fx dX4_block_109 rfl ?_
      refine z_iconst (v := 0) fx dX4_block_110 rfl ?_
      obtain ⟨x5, ex5, h⟩ := ob h
      refine zVi (k := 0) (rest := [.int ((x2 * x3) * x4)]) fx hR (c_X4_get (zl E) D ad g a1 0 0 I J ex5) rcM mvX4_get wm_X4_102 dX4_block_111 rfl ⟨rfl, rfl⟩ rfl rfl rfl ?_
      refine z_imul fx dX4_block_114 ?_
      refine z_istore fx dX4_block_115 (by decide) rfl ?_
      refine z_iload fx dX4_block_117 rfl ?_
      refine z_iload fx dX4_block_119 rfl ?_
      refine z_iconst (v := 1) fx dX4_block_121 rfl ?_
      refine z_icmp_ne (tgt := 134) fx dX4_block_122 (by decide) (fun q6 => ?_) (fun q6 => ?_)
      · rw [if_neg q6] at h
        refine z_iconst (v := 0) fx dX4_block_134 rfl ?_
        refine z_ior fx dX4_block_135 ?_
        refine z_istore fx dX4_block_136 (by decide) rfl ?_
        refine z_iinc (v := (a6 + 1)) fx dX4_block_138 rfl rfl (by decide) rfl ?_
        refine z_goto (tgt := 71) fx dX4_block_141 (by decide) ?_
        exact z_lv2 (ih a1 a2 a4 (a5 ||| 0) (a6 + 1) I h) rfl
      · rw [if_pos q6] at h
        refine z_iconst (v := 1) fx dX4_block_125 rfl ?_
        refine z_iload fx dX4_block_126 rfl ?_
        refine z_iconst (v := 1) fx dX4_block_128 rfl ?_
        refine z_isub fx dX4_block_129 ?_
        refine z_ishl fx dX4_block_130 ?_
        refine z_goto (tgt := 135) fx dX4_block_131 (by decide) ?_
        refine z_ior fx dX4_block_135 ?_
        refine z_istore fx dX4_block_136 (by decide) rfl ?_
        refine z_iinc (v := (a6 + 1)) fx dX4_block_138 rfl rfl (by decide) rfl ?_
        refine z_goto (tgt := 71) fx dX4_block_141 (by decide) ?_
        exact z_lv2 (ih a1 a2 a4 (a5 ||| ((1 : Int32) <<< ((a6 - 1) &&& 31))) (a6 + 1) I h) rfl
set_option maxRecDepth 100000 in
set_option maxHeartbeats 4000000 in
theorem c_X4_block (l : Launch) (D : va_G) (ad : Nat → Nat) (g : Nat → ClassId) (a1 : Int32) (a2 : Int32) (I : zMi) (J : zMl) {r : Int32 × zMi} (h : f_X4_block a1 a2 I = some r) : zCM (mw D ad g) l yX4_block cX4_block 8 (some .int) rmX4_block [.ref (ad (0)), .int a1, .int a2] I J (some (.int r.1)) r.2 J := by
  refine zCM.of (by decide) (Nat.le_of_ble_eq_true rfl) (fun E hl hR fx hr => ?_)
  subst hl
  rw [f_X4_block] at h
  refine z_aload_n fx dX4_block_0 rfl ?_
  refine z_iload_n fx dX4_block_1 rfl ?_
  obtain ⟨x1, ex1, h⟩ := ob h
  refine zVi (k := 0) (rest := []) fx hR (c_X4_askedTable (zl E) D ad g a1 I J ex1) rcM mvX4_askedTable wm_X4_143 dX4_block_2 rfl ⟨rfl, rfl⟩ rfl rfl rfl ?_
  refine z_istore_n fx dX4_block_5 (by decide) rfl ?_
  refine z_iload_n fx dX4_block_6 rfl ?_
  refine z_if_ge (tgt := 12) fx dX4_block_7 (by decide) (fun q2 => ?_) (fun q2 => ?_)
  · rw [if_pos q2] at h
    refine z_aload_n fx dX4_block_12 rfl ?_
    refine z_iload_n fx dX4_block_13 rfl ?_
    refine z_iconst (v := 1) fx dX4_block_14 rfl ?_
    obtain ⟨x3, ex3, h⟩ := ob h
    refine zVi (k := 0) (rest := []) fx hR (c_X4_is (zl E) D ad g a1 1 x1.2 J ex3) rcM mvX4_is wm_X4_155 dX4_block_15 rfl ⟨rfl, rfl⟩ rfl rfl rfl ?_
    refine z_if_ne (tgt := 27) fx dX4_block_18 (by decide) (fun q4 => ?_) (fun q4 => ?_)
    · rw [if_neg q4] at h
      refine z_aload_n fx dX4_block_27 rfl ?_
      refine gM_wide fx wf_X4_26 dX4_block_28 ?_
      refine z_iload_n fx dX4_block_31 rfl ?_
      obtain ⟨q5, h⟩ := oi h
      refine m_ild fx (Nat.le_of_ble_eq_true rfl) (cfM_5 g ad) q5 dX4_block_32 ?_
      refine z_istore fx dX4_block_33 (by decide) rfl ?_
      refine z_iload fx dX4_block_35 rfl ?_
      refine z_iconst (v := 4) fx dX4_block_37 rfl ?_
      refine z_icmp_ge (tgt := 47) fx dX4_block_38 (by decide) (fun q6 => ?_) (fun q6 => ?_)
      · rw [if_pos q6] at h
        refine z_iload_n fx dX4_block_47 rfl ?_
        refine z_iconst (v := 0) fx dX4_block_48 rfl ?_
        refine z_iload fx dX4_block_49 rfl ?_
        refine z_iconst (v := 2) fx dX4_block_51 rfl ?_
        refine z_isub fx dX4_block_52 ?_
        refine zSi (rest := []) fx hR (c_X4_in (zl E) D ad g a2 0 ((x1.2 (5) a1.toNatClampNeg) - 2) x1.2 J rfl) mvX4_in wm_X4_73 dX4_block_53 rfl ⟨rfl, rfl⟩ rfl rfl rfl ?_
        refine z_if_ne (tgt := 65) fx dX4_block_56 (by decide) (fun q7 => ?_) (fun q7 => ?_)
        · rw [if_neg q7] at h
          refine z_iconst (v := 0) fx dX4_block_65 rfl ?_
          refine z_istore fx dX4_block_66 (by decide) rfl ?_
          refine z_iconst (v := 1) fx dX4_block_68 rfl ?_
          refine z_istore fx dX4_block_69 (by decide) rfl ?_
          exact z_lv2 (w_X4_block_71 fx hR hr fu a1 a2 (x1.2 (5) a1.toNatClampNeg) 0 1 x1.2 h) rfl
        · rw [if_pos q7] at h
          refine z_aload_n fx dX4_block_59 rfl ?_
          refine z_iconst (v := 2) fx dX4_block_60 rfl ?_
          obtain ⟨x8, ex8, h⟩ := ob h
          refine zVi (k := 0) (rest := []) fx hR (c_X4_meets (zl E) D ad g 2 x1.2 J ex8) rcM mvX4_meets wm_X4_81 dX4_block_61 rfl ⟨rfl, rfl⟩ rfl rfl rfl ?_
          cases h
          exact z_iret fx hr dX4_block_64
      · rw [if_neg q6] at h
        refine z_aload_n fx dX4_block_41 rfl ?_
        refine z_iconst (v := 5) fx dX4_block_42 rfl ?_
        obtain ⟨x9, ex9, h⟩ := ob h
        refine zVi (k := 0) (rest := []) fx hR (c_X4_meets (zl E) D ad g 5 x1.2 J ex9) rcM mvX4_meets wm_X4_81 dX4_block_43 rfl ⟨rfl, rfl⟩ rfl rfl rfl ?_
        cases h
        exact z_iret fx hr dX4_block_46
    · rw [if_pos q4] at h
      refine z_aload_n fx dX4_block_21 rfl ?_
      refine z_iconst (v := 3) fx dX4_block_22 rfl ?_
      obtain ⟨x10, ex10, h⟩ := ob h
      refine zVi (k := 0) (rest := []) fx hR (c_X4_meets (zl E) D ad g 3 x1.2 J ex10) rcM mvX4_meets wm_X4_81 dX4_block_23 rfl ⟨rfl, rfl⟩ rfl rfl rfl ?_
      cases h
      exact z_iret fx hr dX4_block_26
  · rw [if_neg q2] at h
    refine z_iload_n fx dX4_block_10 rfl ?_
    cases h
    exact z_iret fx hr dX4_block_11
set_option maxRecDepth 100000 in
set_option maxHeartbeats 4000000 in
theorem w_X4_plainEcho_5 {E : zE} {D : va_G} {ad : Nat → Nat} {g : Nat → ClassId} (fx : zFX E (mw D ad g) cX4_plainEcho RX4 5 (some .int)) (hR : zR E = rmX4_plainEcho) {r : Int32} {I : zMi} {J : zMl} (hr : zRX E (mw D ad g) (some (.int r)) I J) : ∀ (fuel : Nat) (a1 : Int32) (a2 : Int32) (a3 : Int32) (a4 : Int32), f_X4_plainEcho_5 I fuel a1 a2 a3 a4 = some r → zAt E (mw D ad g) 5 [(0, .ref (ad (0))), (1, .int a1), (2, .int a2), (3, .int a3), (4, .int a4)] [] I J := by
  intro fuel
  induction fuel with
  | zero => intro a1 a2 a3 a4 h; rw [f_X4_plainEcho_5] at h; cases h
  | succ f ih =>
    intro a1 a2 a3 a4 h
    rw [f_X4_plainEcho_5] at h
    refine z_iload fx dX4_plainEcho_5 rfl ?_
    refine z_iload_n fx dX4_plainEcho_7 rfl ?_
    refine z_iadd fx dX4_plainEcho_8 ?_
    refine z_aload_n fx dX4_plainEcho_9 rfl ?_
    refine gM_sizes fx wf_X4_17 dX4_plainEcho_10 ?_
    refine z_iload_n fx dX4_plainEcho_13 rfl ?_
    obtain ⟨q1, h⟩ := oi h
    refine m_ild fx (Nat.le_of_ble_eq_true rfl) (cfM_2 g ad) q1 dX4_plainEcho_14 ?_
    refine z_icmp_ge (tgt := 54) fx dX4_plainEcho_15 (by decide) (fun q2 => ?_) (fun q2 => ?_)
    · rw [if_pos q2] at h
      refine z_iload_n fx dX4_plainEcho_54 rfl ?_
      cases h
      exact z_iret fx hr dX4_plainEcho_55
    · rw [if_neg q2] at h
      refine z_iload_n fx dX4_plainEcho_18 rfl ?_
      refine z_aload_n fx dX4_plainEcho_19 rfl ?_
      refine gM_rows fx wf_X4_20 dX4_plainEcho_20 ?_
      refine z_bipush (v := 24) fx dX4_plainEcho_23 rfl ?_
      refine z_iload_n fx dX4_plainEcho_25 rfl ?_
      refine z_imul fx dX4_plainEcho_26 ?_
      refine z_iload fx dX4_plainEcho_27 rfl ?_
      refine z_iadd fx dX4_plainEcho_29 ?_
      obtain ⟨q3, h⟩ := oi h
      refine m_ild fx (Nat.le_of_ble_eq_true rfl) (cfM_3 g ad) q3 dX4_plainEcho_30 ?_
      refine z_aload_n fx dX4_plainEcho_31 rfl ?_
      refine gM_rows fx wf_X4_20 dX4_plainEcho_32 ?_
      refine z_bipush (v := 24) fx dX4_plainEcho_35 rfl ?_
      refine z_iload_n fx dX4_plainEcho_37 rfl ?_
      refine z_imul fx dX4_plainEcho_38 ?_
      refine z_iload fx dX4_plainEcho_39 rfl ?_
      refine z_iadd fx dX4_plainEcho_41 ?_
      refine z_iload_n fx dX4_plainEcho_42 rfl ?_
      refine z_iadd fx dX4_plainEcho_43 ?_
      obtain ⟨q4, h⟩ := oi h
      refine m_ild fx (Nat.le_of_ble_eq_true rfl) (cfM_3 g ad) q4 dX4_plainEcho_44 ?_
      refine z_imul fx dX4_plainEcho_45 ?_
      refine z_iadd fx dX4_plainEcho_46 ?_
      refine z_istore_n fx dX4_plainEcho_47 (by decide) rfl ?_
      refine z_iinc (v := (a4 + 1)) fx dX4_plainEcho_48 rfl rfl (by decide) rfl ?_
      refine z_goto (tgt := 5) fx dX4_plainEcho_51 (by decide) ?_
      exact z_lv2 (ih a1 a2 (a3 + ((I (3) ((24 * a1) + a4).toNatClampNeg) * (I (3) (((24 * a1) + a4) + a2).toNatClampNeg))) (a4 + 1) h) rfl
set_option maxRecDepth 100000 in
set_option maxHeartbeats 4000000 in
theorem c_X4_plainEcho (l : Launch) (D : va_G) (ad : Nat → Nat) (g : Nat → ClassId) (a1 : Int32) (a2 : Int32) (I : zMi) (J : zMl) {r : Int32} (h : f_X4_plainEcho a1 a2 I = some r) : zCM (mw D ad g) l yX4_plainEcho cX4_plainEcho 5 (some .int) rmX4_plainEcho [.ref (ad (0)), .int a1, .int a2] I J (some (.int r)) I J := by
  refine zCM.of (by decide) (Nat.le_of_ble_eq_true rfl) (fun E hl hR fx hr => ?_)
  subst hl
  rw [f_X4_plainEcho] at h
  refine z_iconst (v := 0) fx dX4_plainEcho_0 rfl ?_
  refine z_istore_n fx dX4_plainEcho_1 (by decide) rfl ?_
  refine z_iconst (v := 0) fx dX4_plainEcho_2 rfl ?_
  refine z_istore fx dX4_plainEcho_3 (by decide) rfl ?_
  exact z_lv2 (w_X4_plainEcho_5 fx hR hr fu a1 a2 0 0 h) rfl
set_option maxRecDepth 100000 in
set_option maxHeartbeats 4000000 in
theorem c_X4_askedSigns (l : Launch) (D : va_G) (ad : Nat → Nat) (g : Nat → ClassId) (a1 : Int32) (I : zMi) (J : zMl) {r : Int32 × zMi} (h : f_X4_askedSigns a1 I = some r) : zCM (mw D ad g) l yX4_askedSigns cX4_askedSigns 3 (some .int) rmX4_askedSigns [.ref (ad (0)), .int a1] I J (some (.int r.1)) r.2 J := by
  refine zCM.of (by decide) (Nat.le_of_ble_eq_true rfl) (fun E hl hR fx hr => ?_)
  subst hl
  rw [f_X4_askedSigns] at h
  refine z_aload_n fx dX4_askedSigns_0 rfl ?_
  refine z_iload_n fx dX4_askedSigns_1 rfl ?_
  obtain ⟨x1, ex1, h⟩ := ob h
  refine zVi (k := 0) (rest := []) fx hR (c_X4_askedRow (zl E) D ad g a1 I J ex1) rcM mvX4_askedRow wm_X4_89 dX4_askedSigns_2 rfl ⟨rfl, rfl⟩ rfl rfl rfl ?_
  refine z_istore_n fx dX4_askedSigns_5 (by decide) rfl ?_
  refine z_iload_n fx dX4_askedSigns_6 rfl ?_
  refine z_if_ge (tgt := 14) fx dX4_askedSigns_7 (by decide) (fun q2 => ?_) (fun q2 => ?_)
  · rw [if_pos q2] at h
    refine z_aload_n fx dX4_askedSigns_14 rfl ?_
    refine gM_sizes fx wf_X4_17 dX4_askedSigns_15 ?_
    refine z_iload_n fx dX4_askedSigns_18 rfl ?_
    obtain ⟨q3, h⟩ := oi h
    refine m_ild fx (Nat.le_of_ble_eq_true rfl) (cfM_2 g ad) q3 dX4_askedSigns_19 ?_
    refine z_if_ne (tgt := 31) fx dX4_askedSigns_20 (by decide) (fun q4 => ?_) (fun q4 => ?_)
    · rw [if_neg q4] at h
      refine z_aload_n fx dX4_askedSigns_31 rfl ?_
      refine z_iload_n fx dX4_askedSigns_32 rfl ?_
      obtain ⟨x5, ex5, h⟩ := ob h
      refine zVi (k := 0) (rest := []) fx hR (c_X4_areSigns (zl E) D ad g a1 x1.2 J ex5) rcM mvX4_areSigns wm_X4_168 dX4_askedSigns_33 rfl ⟨rfl, rfl⟩ rfl rfl rfl ?_
      refine z_if_eq (tgt := 43) fx dX4_askedSigns_36 (by decide) (fun q6 => ?_) (fun q6 => ?_)
      · rw [if_pos q6] at h
        refine z_aload_n fx dX4_askedSigns_43 rfl ?_
        refine z_iconst (v := 3) fx dX4_askedSigns_44 rfl ?_
        obtain ⟨x7, ex7, h⟩ := ob h
        refine zVi (k := 0) (rest := []) fx hR (c_X4_meets (zl E) D ad g 3 x1.2 J ex7) rcM mvX4_meets wm_X4_81 dX4_askedSigns_45 rfl ⟨rfl, rfl⟩ rfl rfl rfl ?_
        cases h
        exact z_iret fx hr dX4_askedSigns_48
      · rw [if_neg q6] at h
        refine z_iconst (v := 0) fx dX4_askedSigns_39 rfl ?_
        refine z_goto (tgt := 48) fx dX4_askedSigns_40 (by decide) ?_
        cases h
        exact z_iret fx hr dX4_askedSigns_48
    · rw [if_pos q4] at h
      refine z_aload_n fx dX4_askedSigns_23 rfl ?_
      refine z_iconst (v := 5) fx dX4_askedSigns_24 rfl ?_
      obtain ⟨x8, ex8, h⟩ := ob h
      refine zVi (k := 0) (rest := []) fx hR (c_X4_meets (zl E) D ad g 5 x1.2 J ex8) rcM mvX4_meets wm_X4_81 dX4_askedSigns_25 rfl ⟨rfl, rfl⟩ rfl rfl rfl ?_
      refine z_goto (tgt := 48) fx dX4_askedSigns_28 (by decide) ?_
      cases h
      exact z_iret fx hr dX4_askedSigns_48
  · rw [if_neg q2] at h
    refine z_iload_n fx dX4_askedSigns_10 rfl ?_
    refine z_goto (tgt := 48) fx dX4_askedSigns_11 (by decide) ?_
    cases h
    exact z_iret fx hr dX4_askedSigns_48
set_option maxRecDepth 100000 in
set_option maxHeartbeats 4000000 in
theorem c_X4_echo (l : Launch) (D : va_G) (ad : Nat → Nat) (g : Nat → ClassId) (a1 : Int32) (a2 : Int32) (a3 : Int32) (I : zMi) (J : zMl) {r : Int32 × zMi} (h : f_X4_echo a1 a2 a3 I = some r) : zCM (mw D ad g) l yX4_echo cX4_echo 5 (some .int) rmX4_echo [.ref (ad (0)), .int a1, .int a2, .int a3] I J (some (.int r.1)) r.2 J := by
  refine zCM.of (by decide) (Nat.le_of_ble_eq_true rfl) (fun E hl hR fx hr => ?_)
  subst hl
  rw [f_X4_echo] at h
  refine z_aload_n fx dX4_echo_0 rfl ?_
  refine z_iload_n fx dX4_echo_1 rfl ?_
  obtain ⟨x1, ex1, h⟩ := ob h
  refine zVi (k := 0) (rest := []) fx hR (c_X4_askedSigns (zl E) D ad g a1 I J ex1) rcM mvX4_askedSigns wm_X4_227 dX4_echo_2 rfl ⟨rfl, rfl⟩ rfl rfl rfl ?_
  refine z_istore fx dX4_echo_5 (by decide) rfl ?_
  refine z_iload fx dX4_echo_7 rfl ?_
  refine z_if_ge (tgt := 15) fx dX4_echo_9 (by decide) (fun q2 => ?_) (fun q2 => ?_)
  · rw [if_pos q2] at h
    refine z_iload_n fx dX4_echo_15 rfl ?_
    refine z_iconst (v := 0) fx dX4_echo_16 rfl ?_
    refine z_aload_n fx dX4_echo_17 rfl ?_
    refine gM_sizes fx wf_X4_17 dX4_echo_18 ?_
    refine z_iload_n fx dX4_echo_21 rfl ?_
    obtain ⟨q3, h⟩ := oi h
    refine m_ild fx (Nat.le_of_ble_eq_true rfl) (cfM_2 g ad) q3 dX4_echo_22 ?_
    refine z_iconst (v := 1) fx dX4_echo_23 rfl ?_
    refine z_isub fx dX4_echo_24 ?_
    refine zSi (rest := []) fx hR (c_X4_in (zl E) D ad g a2 0 ((x1.2 (2) a1.toNatClampNeg) - 1) x1.2 J rfl) mvX4_in wm_X4_73 dX4_echo_25 rfl ⟨rfl, rfl⟩ rfl rfl rfl ?_
    refine z_if_ne (tgt := 39) fx dX4_echo_28 (by decide) (fun q4 => ?_) (fun q4 => ?_)
    · rw [if_neg q4] at h
      refine z_aload_n fx dX4_echo_39 rfl ?_
      refine z_iload_n fx dX4_echo_40 rfl ?_
      refine z_if_eq (tgt := 53) fx dX4_echo_41 (by decide) (fun q5 => ?_) (fun q5 => ?_)
      · rw [if_pos q5] at h
        refine z_aload_n fx dX4_echo_53 rfl ?_
        refine z_iload_n fx dX4_echo_54 rfl ?_
        refine z_iload_n fx dX4_echo_55 rfl ?_
        obtain ⟨x6, ex6, h⟩ := ob h
        refine zVi (k := 0) (rest := [.ref (ad (0))]) fx hR (c_X4_plainEcho (zl E) D ad g a1 a2 x1.2 J ex6) rcM mvX4_plainEcho wm_X4_230 dX4_echo_56 rfl ⟨rfl, rfl⟩ rfl rfl rfl ?_
        refine z_iconst (v := 1) fx dX4_echo_59 rfl ?_
        refine zVi (k := 0) (rest := []) fx hR (c_X4_ask (zl E) D ad g x6 1 x1.2 J rfl) rcM mvX4_ask wm_X4_92 dX4_echo_60 rfl ⟨rfl, rfl⟩ rfl rfl rfl ?_
        cases h
        exact z_iret fx hr dX4_echo_63
      · rw [if_neg q5] at h
        refine z_aload_n fx dX4_echo_44 rfl ?_
        refine z_iload_n fx dX4_echo_45 rfl ?_
        refine z_iload_n fx dX4_echo_46 rfl ?_
        obtain ⟨x7, ex7, h⟩ := ob h
        refine zVi (k := 0) (rest := [.ref (ad (0))]) fx hR (c_X4_roundEcho (zl E) D ad g a1 a2 x1.2 J ex7) rcM mvX4_roundEcho wm_X4_171 dX4_echo_47 rfl ⟨rfl, rfl⟩ rfl rfl rfl ?_
        refine z_goto (tgt := 59) fx dX4_echo_50 (by decide) ?_
        refine z_iconst (v := 1) fx dX4_echo_59 rfl ?_
        refine zVi (k := 0) (rest := []) fx hR (c_X4_ask (zl E) D ad g x7 1 x1.2 J rfl) rcM mvX4_ask wm_X4_92 dX4_echo_60 rfl ⟨rfl, rfl⟩ rfl rfl rfl ?_
        cases h
        exact z_iret fx hr dX4_echo_63
    · rw [if_pos q4] at h
      refine z_aload_n fx dX4_echo_31 rfl ?_
      refine z_iconst (v := 2) fx dX4_echo_32 rfl ?_
      obtain ⟨x8, ex8, h⟩ := ob h
      refine zVi (k := 0) (rest := []) fx hR (c_X4_meets (zl E) D ad g 2 x1.2 J ex8) rcM mvX4_meets wm_X4_81 dX4_echo_33 rfl ⟨rfl, rfl⟩ rfl rfl rfl ?_
      refine z_goto (tgt := 63) fx dX4_echo_36 (by decide) ?_
      cases h
      exact z_iret fx hr dX4_echo_63
  · rw [if_neg q2] at h
    refine z_iload fx dX4_echo_12 rfl ?_
    cases h
    exact z_iret fx hr dX4_echo_14
set_option maxRecDepth 100000 in
set_option maxHeartbeats 4000000 in
theorem w_X4_side_17 {E : zE} {D : va_G} {ad : Nat → Nat} {g : Nat → ClassId} (fx : zFX E (mw D ad g) cX4_side RX4 6 (some .int)) (hR : zR E = rmX4_side) {r : Int32 × zMi} {J : zMl} (hr : zRX E (mw D ad g) (some (.int r.1)) r.2 J) : ∀ (fuel : Nat) (a1 : Int32) (a3 : Int32) (a4 : Int32) (I : zMi) , f_X4_side_17 fuel a1 a3 a4 I = some r → zAt E (mw D ad g) 17 [(0, .ref (ad (0))), (1, .int a1), (3, .int a3), (4, .int a4)] [] I J := by
  intro fuel
  induction fuel with
  | zero => intro a1 a3 a4 I h; rw [f_X4_side_17] at h; cases h
  | succ f ih =>
    intro a1 a3 a4 I h
    rw [f_X4_side_17] at h
    refine z_iload fx dX4_side_17 rfl ?_
    refine z_aload_n fx dX4_side_19 rfl ?_
    refine gM_sizes fx wf_X4_17 dX4_side_20 ?_
    refine z_iload_n fx dX4_side_23 rfl ?_
    obtain ⟨q1, h⟩ := oi h
    refine m_ild fx (Nat.le_of_ble_eq_true rfl) (cfM_2 g ad) q1 dX4_side_24 ?_
    refine z_icmp_ge (tgt := 59) fx dX4_side_25 (by decide) (fun q2 => ?_) (fun q2 => ?_)
    · rw [if_pos q2] at h
      refine z_iload_n fx dX4_side_59 rfl ?_
      cases h
      exact z_iret fx hr dX4_side_60
    · rw [if_neg q2] at h
      refine z_aload_n fx dX4_side_28 rfl ?_
      refine z_iload_n fx dX4_side_29 rfl ?_
      refine z_iload fx dX4_side_30 rfl ?_
      obtain ⟨x3, ex3, h⟩ := ob h
      refine zVi (k := 0) (rest := []) fx hR (c_X4_plainEcho (zl E) D ad g a1 a4 I J ex3) rcM mvX4_plainEcho wm_X4_230 dX4_side_32 rfl ⟨rfl, rfl⟩ rfl rfl rfl ?_
      refine zSi (rest := []) fx hR (c_X4_abs (zl E) D ad g x3 I J rfl) mvX4_abs wm_X4_177 dX4_side_35 rfl ⟨rfl, rfl⟩ rfl rfl rfl ?_
      refine z_istore fx dX4_side_38 (by decide) rfl ?_
      refine z_iload fx dX4_side_40 rfl ?_
      refine z_iload_n fx dX4_side_42 rfl ?_
      refine z_icmp_le (tgt := 51) fx dX4_side_43 (by decide) (fun q4 => ?_) (fun q4 => ?_)
      · rw [if_pos q4] at h
        refine z_iload_n fx dX4_side_51 rfl ?_
        refine z_istore_n fx dX4_side_52 (by decide) rfl ?_
        refine z_iinc (v := (a4 + 1)) fx dX4_side_53 rfl rfl (by decide) rfl ?_
        refine z_goto (tgt := 17) fx dX4_side_56 (by decide) ?_
        exact z_lv2 (ih a1 a3 (a4 + 1) I h) rfl
      · rw [if_neg q4] at h
        refine z_iload fx dX4_side_46 rfl ?_
        refine z_goto (tgt := 52) fx dX4_side_48 (by decide) ?_
        refine z_istore_n fx dX4_side_52 (by decide) rfl ?_
        refine z_iinc (v := (a4 + 1)) fx dX4_side_53 rfl rfl (by decide) rfl ?_
        refine z_goto (tgt := 17) fx dX4_side_56 (by decide) ?_
        exact z_lv2 (ih a1 (f_X4_abs x3) (a4 + 1) I h) rfl
set_option maxRecDepth 100000 in
set_option maxHeartbeats 4000000 in
theorem c_X4_side (l : Launch) (D : va_G) (ad : Nat → Nat) (g : Nat → ClassId) (a1 : Int32) (I : zMi) (J : zMl) {r : Int32 × zMi} (h : f_X4_side a1 I = some r) : zCM (mw D ad g) l yX4_side cX4_side 6 (some .int) rmX4_side [.ref (ad (0)), .int a1] I J (some (.int r.1)) r.2 J := by
  refine zCM.of (by decide) (Nat.le_of_ble_eq_true rfl) (fun E hl hR fx hr => ?_)
  subst hl
  rw [f_X4_side] at h
  refine z_aload_n fx dX4_side_0 rfl ?_
  refine z_iload_n fx dX4_side_1 rfl ?_
  obtain ⟨x1, ex1, h⟩ := ob h
  refine zVi (k := 0) (rest := []) fx hR (c_X4_askedSigns (zl E) D ad g a1 I J ex1) rcM mvX4_askedSigns wm_X4_227 dX4_side_2 rfl ⟨rfl, rfl⟩ rfl rfl rfl ?_
  refine z_istore_n fx dX4_side_5 (by decide) rfl ?_
  refine z_iload_n fx dX4_side_6 rfl ?_
  refine z_if_ge (tgt := 12) fx dX4_side_7 (by decide) (fun q2 => ?_) (fun q2 => ?_)
  · rw [if_pos q2] at h
    refine z_iconst (v := 0) fx dX4_side_12 rfl ?_
    refine z_istore_n fx dX4_side_13 (by decide) rfl ?_
    refine z_iconst (v := 1) fx dX4_side_14 rfl ?_
    refine z_istore fx dX4_side_15 (by decide) rfl ?_
    exact z_lv2 (w_X4_side_17 fx hR hr fu a1 0 1 x1.2 h) rfl
  · rw [if_neg q2] at h
    refine z_iload_n fx dX4_side_10 rfl ?_
    cases h
    exact z_iret fx hr dX4_side_11
set_option maxRecDepth 100000 in
set_option maxHeartbeats 4000000 in
theorem w_X4_areZero_6 {E : zE} {D : va_G} {ad : Nat → Nat} {g : Nat → ClassId} (fx : zFX E (mw D ad g) cX4_areZero RX4 6 (some .boolean)) (hR : zR E = rmX4_areZero) {r : Int32} {I : zMi} {J : zMl} (hr : zRX E (mw D ad g) (some (.int r)) I J) : ∀ (fuel : Nat) (a1 : Int32) (a2 : Int32) (a3 : Int32) (a4 : Int32) (a5 : Int32), f_X4_areZero_6 I fuel a1 a2 a3 a4 a5 = some r → narrow .boolean (.int a4) = .int a4 → zAt E (mw D ad g) 6 [(0, .ref (ad (0))), (1, .int a1), (2, .int a2), (3, .int a3), (4, .int a4), (5, .int a5)] [] I J := by
  intro fuel
  induction fuel with
  | zero => intro a1 a2 a3 a4 a5 h z4; rw [f_X4_areZero_6] at h; cases h
  | succ f ih =>
    intro a1 a2 a3 a4 a5 h z4
    rw [f_X4_areZero_6] at h
    refine z_iload fx dX4_areZero_6 rfl ?_
    refine z_aload_n fx dX4_areZero_8 rfl ?_
    refine gM_sizes fx wf_X4_17 dX4_areZero_9 ?_
    refine z_iload_n fx dX4_areZero_12 rfl ?_
    obtain ⟨q1, h⟩ := oi h
    refine m_ild fx (Nat.le_of_ble_eq_true rfl) (cfM_2 g ad) q1 dX4_areZero_13 ?_
    refine z_icmp_ge (tgt := 75) fx dX4_areZero_14 (by decide) (fun q2 => ?_) (fun q2 => ?_)
    · rw [if_pos q2] at h
      refine z_iload fx dX4_areZero_75 rfl ?_
      cases h
      exact z_zret fx z4 hr dX4_areZero_77
    · rw [if_neg q2] at h
      refine z_iload fx dX4_areZero_17 rfl ?_
      refine z_if_eq (tgt := 66) fx dX4_areZero_19 (by decide) (fun q3 => ?_) (fun q3 => ?_)
      · rw [if_pos q3] at h
        refine z_iconst (v := 0) fx dX4_areZero_66 rfl ?_
        refine z_istore fx dX4_areZero_67 (by decide) rfl ?_
        refine z_iinc (v := (a5 + 1)) fx dX4_areZero_69 rfl rfl (by decide) rfl ?_
        refine z_goto (tgt := 6) fx dX4_areZero_72 (by decide) ?_
        exact z_lv2 (ih a1 a2 a3 0 (a5 + 1) h rfl) rfl
      · rw [if_neg q3] at h
        refine z_iload_n fx dX4_areZero_22 rfl ?_
        refine z_if_eq (tgt := 44) fx dX4_areZero_23 (by decide) (fun q4 => ?_) (fun q4 => ?_)
        · rw [if_pos q4] at h
          refine z_aload_n fx dX4_areZero_44 rfl ?_
          refine z_iload_n fx dX4_areZero_45 rfl ?_
          refine z_iload fx dX4_areZero_46 rfl ?_
          obtain ⟨x5, ex5, h⟩ := ob h
          refine zVi (k := 0) (rest := []) fx hR (c_X4_plainEcho (zl E) D ad g a1 a5 I J ex5) rcM mvX4_plainEcho wm_X4_230 dX4_areZero_48 rfl ⟨rfl, rfl⟩ rfl rfl rfl ?_
          refine z_aload_n fx dX4_areZero_51 rfl ?_
          refine z_iload_n fx dX4_areZero_52 rfl ?_
          refine z_iload fx dX4_areZero_53 rfl ?_
          obtain ⟨x6, ex6, h⟩ := ob h
          refine zVi (k := 0) (rest := [.int x5]) fx hR (c_X4_plainEcho (zl E) D ad g a2 a5 I J ex6) rcM mvX4_plainEcho wm_X4_230 dX4_areZero_55 rfl ⟨rfl, rfl⟩ rfl rfl rfl ?_
          refine z_iadd fx dX4_areZero_58 ?_
          refine z_if_ne (tgt := 66) fx dX4_areZero_59 (by decide) (fun q7 => ?_) (fun q7 => ?_)
          · rw [if_neg q7] at h
            refine z_iconst (v := 0) fx dX4_areZero_66 rfl ?_
            refine z_istore fx dX4_areZero_67 (by decide) rfl ?_
            refine z_iinc (v := (a5 + 1)) fx dX4_areZero_69 rfl rfl (by decide) rfl ?_
            refine z_goto (tgt := 6) fx dX4_areZero_72 (by decide) ?_
            exact z_lv2 (ih a1 a2 a3 0 (a5 + 1) h rfl) rfl
          · rw [if_pos q7] at h
            refine z_iconst (v := 1) fx dX4_areZero_62 rfl ?_
            refine z_goto (tgt := 67) fx dX4_areZero_63 (by decide) ?_
            refine z_istore fx dX4_areZero_67 (by decide) rfl ?_
            refine z_iinc (v := (a5 + 1)) fx dX4_areZero_69 rfl rfl (by decide) rfl ?_
            refine z_goto (tgt := 6) fx dX4_areZero_72 (by decide) ?_
            exact z_lv2 (ih a1 a2 a3 1 (a5 + 1) h rfl) rfl
        · rw [if_neg q4] at h
          refine z_aload_n fx dX4_areZero_26 rfl ?_
          refine z_iload_n fx dX4_areZero_27 rfl ?_
          refine z_iload fx dX4_areZero_28 rfl ?_
          obtain ⟨x8, ex8, h⟩ := ob h
          refine zVi (k := 0) (rest := []) fx hR (c_X4_roundEcho (zl E) D ad g a1 a5 I J ex8) rcM mvX4_roundEcho wm_X4_171 dX4_areZero_30 rfl ⟨rfl, rfl⟩ rfl rfl rfl ?_
          refine z_aload_n fx dX4_areZero_33 rfl ?_
          refine z_iload_n fx dX4_areZero_34 rfl ?_
          refine z_iload fx dX4_areZero_35 rfl ?_
          obtain ⟨x9, ex9, h⟩ := ob h
          refine zVi (k := 0) (rest := [.int x8]) fx hR (c_X4_roundEcho (zl E) D ad g a2 a5 I J ex9) rcM mvX4_roundEcho wm_X4_171 dX4_areZero_37 rfl ⟨rfl, rfl⟩ rfl rfl rfl ?_
          refine z_iadd fx dX4_areZero_40 ?_
          refine z_goto (tgt := 59) fx dX4_areZero_41 (by decide) ?_
          refine z_if_ne (tgt := 66) fx dX4_areZero_59 (by decide) (fun q10 => ?_) (fun q10 => ?_)
          · rw [if_neg q10] at h
            refine z_iconst (v := 0) fx dX4_areZero_66 rfl ?_
            refine z_istore fx dX4_areZero_67 (by decide) rfl ?_
            refine z_iinc (v := (a5 + 1)) fx dX4_areZero_69 rfl rfl (by decide) rfl ?_
            refine z_goto (tgt := 6) fx dX4_areZero_72 (by decide) ?_
            exact z_lv2 (ih a1 a2 a3 0 (a5 + 1) h rfl) rfl
          · rw [if_pos q10] at h
            refine z_iconst (v := 1) fx dX4_areZero_62 rfl ?_
            refine z_goto (tgt := 67) fx dX4_areZero_63 (by decide) ?_
            refine z_istore fx dX4_areZero_67 (by decide) rfl ?_
            refine z_iinc (v := (a5 + 1)) fx dX4_areZero_69 rfl rfl (by decide) rfl ?_
            refine z_goto (tgt := 6) fx dX4_areZero_72 (by decide) ?_
            exact z_lv2 (ih a1 a2 a3 1 (a5 + 1) h rfl) rfl
set_option maxRecDepth 100000 in
set_option maxHeartbeats 4000000 in
theorem c_X4_areZero (l : Launch) (D : va_G) (ad : Nat → Nat) (g : Nat → ClassId) (a1 : Int32) (a2 : Int32) (a3 : Int32) (I : zMi) (J : zMl) {r : Int32} (h : f_X4_areZero a1 a2 a3 I = some r) : zCM (mw D ad g) l yX4_areZero cX4_areZero 6 (some .boolean) rmX4_areZero [.ref (ad (0)), .int a1, .int a2, .int a3] I J (some (.int r)) I J := by
  refine zCM.of (by decide) (Nat.le_of_ble_eq_true rfl) (fun E hl hR fx hr => ?_)
  subst hl
  rw [f_X4_areZero] at h
  refine z_iconst (v := 1) fx dX4_areZero_0 rfl ?_
  refine z_istore fx dX4_areZero_1 (by decide) rfl ?_
  refine z_iconst (v := 1) fx dX4_areZero_3 rfl ?_
  refine z_istore fx dX4_areZero_4 (by decide) rfl ?_
  exact z_lv2 (w_X4_areZero_6 fx hR hr fu a1 a2 a3 1 1 h rfl) rfl
set_option maxRecDepth 100000 in
set_option maxHeartbeats 4000000 in
theorem c_X4_askedPair (l : Launch) (D : va_G) (ad : Nat → Nat) (g : Nat → ClassId) (a1 : Int32) (a2 : Int32) (a3 : Int32) (I : zMi) (J : zMl) {r : Int32 × zMi} (h : f_X4_askedPair a1 a2 a3 I = some r) : zCM (mw D ad g) l yX4_askedPair cX4_askedPair 4 (some .int) rmX4_askedPair [.ref (ad (0)), .int a1, .int a2, .int a3] I J (some (.int r.1)) r.2 J := by
  refine zCM.of (by decide) (Nat.le_of_ble_eq_true rfl) (fun E hl hR fx hr => ?_)
  subst hl
  rw [f_X4_askedPair] at h
  refine z_iload_n fx dX4_askedPair_0 rfl ?_
  refine zSi (rest := []) fx hR (c_X4_isRow (zl E) D ad g a1 I J rfl) mvX4_isRow wm_X4_77 dX4_askedPair_1 rfl ⟨rfl, rfl⟩ rfl rfl rfl ?_
  refine z_if_eq (tgt := 14) fx dX4_askedPair_4 (by decide) (fun q1 => ?_) (fun q1 => ?_)
  · rw [if_pos q1] at h
    refine z_iconst (v := (-1)) fx dX4_askedPair_14 rfl ?_
    cases h
    exact z_iret fx hr dX4_askedPair_15
  · rw [if_neg q1] at h
    refine z_iload_n fx dX4_askedPair_7 rfl ?_
    refine zSi (rest := []) fx hR (c_X4_isRow (zl E) D ad g a2 I J rfl) mvX4_isRow wm_X4_77 dX4_askedPair_8 rfl ⟨rfl, rfl⟩ rfl rfl rfl ?_
    refine z_if_ne (tgt := 16) fx dX4_askedPair_11 (by decide) (fun q2 => ?_) (fun q2 => ?_)
    · rw [if_neg q2] at h
      refine z_aload_n fx dX4_askedPair_16 rfl ?_
      refine gM_sizes fx wf_X4_17 dX4_askedPair_17 ?_
      refine z_iload_n fx dX4_askedPair_20 rfl ?_
      obtain ⟨q3, h⟩ := oi h
      refine m_ild fx (Nat.le_of_ble_eq_true rfl) (cfM_2 g ad) q3 dX4_askedPair_21 ?_
      refine z_if_lt (tgt := 34) fx dX4_askedPair_22 (by decide) (fun q4 => ?_) (fun q4 => ?_)
      · rw [if_pos q4] at h
        refine z_aload_n fx dX4_askedPair_34 rfl ?_
        refine z_iconst (v := 1) fx dX4_askedPair_35 rfl ?_
        obtain ⟨x5, ex5, h⟩ := ob h
        refine zVi (k := 0) (rest := []) fx hR (c_X4_meets (zl E) D ad g 1 I J ex5) rcM mvX4_meets wm_X4_81 dX4_askedPair_36 rfl ⟨rfl, rfl⟩ rfl rfl rfl ?_
        cases h
        exact z_iret fx hr dX4_askedPair_39
      · rw [if_neg q4] at h
        refine z_aload_n fx dX4_askedPair_25 rfl ?_
        refine gM_sizes fx wf_X4_17 dX4_askedPair_26 ?_
        refine z_iload_n fx dX4_askedPair_29 rfl ?_
        obtain ⟨q6, h⟩ := oi h
        refine m_ild fx (Nat.le_of_ble_eq_true rfl) (cfM_2 g ad) q6 dX4_askedPair_30 ?_
        refine z_if_ge (tgt := 40) fx dX4_askedPair_31 (by decide) (fun q7 => ?_) (fun q7 => ?_)
        · rw [if_pos q7] at h
          refine z_aload_n fx dX4_askedPair_40 rfl ?_
          refine gM_sizes fx wf_X4_17 dX4_askedPair_41 ?_
          refine z_iload_n fx dX4_askedPair_44 rfl ?_
          refine m_ild fx (Nat.le_of_ble_eq_true rfl) (cfM_2 g ad) q3 dX4_askedPair_45 ?_
          refine z_if_eq (tgt := 74) fx dX4_askedPair_46 (by decide) (fun q8 => ?_) (fun q8 => ?_)
          · rw [if_pos q8] at h
            refine z_aload_n fx dX4_askedPair_74 rfl ?_
            refine z_iconst (v := 5) fx dX4_askedPair_75 rfl ?_
            obtain ⟨x9, ex9, h⟩ := ob h
            refine zVi (k := 0) (rest := []) fx hR (c_X4_meets (zl E) D ad g 5 I J ex9) rcM mvX4_meets wm_X4_81 dX4_askedPair_76 rfl ⟨rfl, rfl⟩ rfl rfl rfl ?_
            cases h
            exact z_iret fx hr dX4_askedPair_79
          · rw [if_neg q8] at h
            refine z_aload_n fx dX4_askedPair_49 rfl ?_
            refine gM_sizes fx wf_X4_17 dX4_askedPair_50 ?_
            refine z_iload_n fx dX4_askedPair_53 rfl ?_
            refine m_ild fx (Nat.le_of_ble_eq_true rfl) (cfM_2 g ad) q3 dX4_askedPair_54 ?_
            refine z_aload_n fx dX4_askedPair_55 rfl ?_
            refine gM_sizes fx wf_X4_17 dX4_askedPair_56 ?_
            refine z_iload_n fx dX4_askedPair_59 rfl ?_
            refine m_ild fx (Nat.le_of_ble_eq_true rfl) (cfM_2 g ad) q6 dX4_askedPair_60 ?_
            refine z_icmp_ne (tgt := 74) fx dX4_askedPair_61 (by decide) (fun q10 => ?_) (fun q10 => ?_)
            · rw [if_neg q10] at h
              refine z_aload_n fx dX4_askedPair_74 rfl ?_
              refine z_iconst (v := 5) fx dX4_askedPair_75 rfl ?_
              obtain ⟨x11, ex11, h⟩ := ob h
              refine zVi (k := 0) (rest := []) fx hR (c_X4_meets (zl E) D ad g 5 I J ex11) rcM mvX4_meets wm_X4_81 dX4_askedPair_76 rfl ⟨rfl, rfl⟩ rfl rfl rfl ?_
              cases h
              exact z_iret fx hr dX4_askedPair_79
            · rw [if_pos q10] at h
              refine z_aload_n fx dX4_askedPair_64 rfl ?_
              refine gM_sizes fx wf_X4_17 dX4_askedPair_65 ?_
              refine z_iload_n fx dX4_askedPair_68 rfl ?_
              refine m_ild fx (Nat.le_of_ble_eq_true rfl) (cfM_2 g ad) q3 dX4_askedPair_69 ?_
              refine z_iload_n fx dX4_askedPair_70 rfl ?_
              refine z_icmp_le (tgt := 80) fx dX4_askedPair_71 (by decide) (fun q12 => ?_) (fun q12 => ?_)
              · rw [if_pos q12] at h
                refine z_aload_n fx dX4_askedPair_80 rfl ?_
                refine z_iload_n fx dX4_askedPair_81 rfl ?_
                obtain ⟨x13, ex13, h⟩ := ob h
                refine zVi (k := 0) (rest := []) fx hR (c_X4_areSigns (zl E) D ad g a1 I J ex13) rcM mvX4_areSigns wm_X4_168 dX4_askedPair_82 rfl ⟨rfl, rfl⟩ rfl rfl rfl ?_
                refine z_if_eq (tgt := 100) fx dX4_askedPair_85 (by decide) (fun q14 => ?_) (fun q14 => ?_)
                · rw [if_pos q14] at h
                  refine z_aload_n fx dX4_askedPair_100 rfl ?_
                  refine z_iconst (v := 3) fx dX4_askedPair_101 rfl ?_
                  obtain ⟨x15, ex15, h⟩ := ob h
                  refine zVi (k := 0) (rest := []) fx hR (c_X4_meets (zl E) D ad g 3 I J ex15) rcM mvX4_meets wm_X4_81 dX4_askedPair_102 rfl ⟨rfl, rfl⟩ rfl rfl rfl ?_
                  cases h
                  exact z_iret fx hr dX4_askedPair_105
                · rw [if_neg q14] at h
                  refine z_aload_n fx dX4_askedPair_88 rfl ?_
                  refine z_iload_n fx dX4_askedPair_89 rfl ?_
                  obtain ⟨x16, ex16, h⟩ := ob h
                  refine zVi (k := 0) (rest := []) fx hR (c_X4_areSigns (zl E) D ad g a2 I J ex16) rcM mvX4_areSigns wm_X4_168 dX4_askedPair_90 rfl ⟨rfl, rfl⟩ rfl rfl rfl ?_
                  refine z_if_eq (tgt := 100) fx dX4_askedPair_93 (by decide) (fun q17 => ?_) (fun q17 => ?_)
                  · rw [if_pos q17] at h
                    refine z_aload_n fx dX4_askedPair_100 rfl ?_
                    refine z_iconst (v := 3) fx dX4_askedPair_101 rfl ?_
                    obtain ⟨x18, ex18, h⟩ := ob h
                    refine zVi (k := 0) (rest := []) fx hR (c_X4_meets (zl E) D ad g 3 I J ex18) rcM mvX4_meets wm_X4_81 dX4_askedPair_102 rfl ⟨rfl, rfl⟩ rfl rfl rfl ?_
                    cases h
                    exact z_iret fx hr dX4_askedPair_105
                  · rw [if_neg q17] at h
                    refine z_iconst (v := 0) fx dX4_askedPair_96 rfl ?_
                    refine z_goto (tgt := 105) fx dX4_askedPair_97 (by decide) ?_
                    cases h
                    exact z_iret fx hr dX4_askedPair_105
              · rw [if_neg q12] at h
                refine z_aload_n fx dX4_askedPair_74 rfl ?_
                refine z_iconst (v := 5) fx dX4_askedPair_75 rfl ?_
                obtain ⟨x19, ex19, h⟩ := ob h
                refine zVi (k := 0) (rest := []) fx hR (c_X4_meets (zl E) D ad g 5 I J ex19) rcM mvX4_meets wm_X4_81 dX4_askedPair_76 rfl ⟨rfl, rfl⟩ rfl rfl rfl ?_
                cases h
                exact z_iret fx hr dX4_askedPair_79
        · rw [if_neg q7] at h
          refine z_aload_n fx dX4_askedPair_34 rfl ?_
          refine z_iconst (v := 1) fx dX4_askedPair_35 rfl ?_
          obtain ⟨x20, ex20, h⟩ := ob h
          refine zVi (k := 0) (rest := []) fx hR (c_X4_meets (zl E) D ad g 1 I J ex20) rcM mvX4_meets wm_X4_81 dX4_askedPair_36 rfl ⟨rfl, rfl⟩ rfl rfl rfl ?_
          cases h
          exact z_iret fx hr dX4_askedPair_39
    · rw [if_pos q2] at h
      refine z_iconst (v := (-1)) fx dX4_askedPair_14 rfl ?_
      cases h
      exact z_iret fx hr dX4_askedPair_15
set_option maxRecDepth 100000 in
set_option maxHeartbeats 4000000 in
theorem c_X4_cancels (l : Launch) (D : va_G) (ad : Nat → Nat) (g : Nat → ClassId) (a1 : Int32) (a2 : Int32) (a3 : Int32) (I : zMi) (J : zMl) {r : Int32 × zMi} (h : f_X4_cancels a1 a2 a3 I = some r) : zCM (mw D ad g) l yX4_cancels cX4_cancels 5 (some .int) rmX4_cancels [.ref (ad (0)), .int a1, .int a2, .int a3] I J (some (.int r.1)) r.2 J := by
  refine zCM.of (by decide) (Nat.le_of_ble_eq_true rfl) (fun E hl hR fx hr => ?_)
  subst hl
  rw [f_X4_cancels] at h
  refine z_aload_n fx dX4_cancels_0 rfl ?_
  refine z_iload_n fx dX4_cancels_1 rfl ?_
  refine z_iload_n fx dX4_cancels_2 rfl ?_
  refine z_bipush (v := 24) fx dX4_cancels_3 rfl ?_
  obtain ⟨x1, ex1, h⟩ := ob h
  refine zVi (k := 0) (rest := []) fx hR (c_X4_askedPair (zl E) D ad g a1 a2 24 I J ex1) rcM mvX4_askedPair wm_X4_233 dX4_cancels_5 rfl ⟨rfl, rfl⟩ rfl rfl rfl ?_
  refine z_istore fx dX4_cancels_8 (by decide) rfl ?_
  refine z_iload fx dX4_cancels_10 rfl ?_
  refine z_if_ge (tgt := 20) fx dX4_cancels_12 (by decide) (fun q2 => ?_) (fun q2 => ?_)
  · rw [if_pos q2] at h
    refine z_aload_n fx dX4_cancels_20 rfl ?_
    refine z_iload_n fx dX4_cancels_21 rfl ?_
    refine z_iload_n fx dX4_cancels_22 rfl ?_
    refine z_iload_n fx dX4_cancels_23 rfl ?_
    obtain ⟨x3, ex3, h⟩ := ob h
    refine zVi (k := 0) (rest := []) fx hR (c_X4_areZero (zl E) D ad g a1 a2 a3 x1.2 J ex3) rcM mvX4_areZero wm_X4_236 dX4_cancels_24 rfl ⟨rfl, rfl⟩ rfl rfl rfl ?_
    refine z_if_eq (tgt := 34) fx dX4_cancels_27 (by decide) (fun q4 => ?_) (fun q4 => ?_)
    · rw [if_pos q4] at h
      refine z_iconst (v := 0) fx dX4_cancels_34 rfl ?_
      cases h
      exact z_iret fx hr dX4_cancels_35
    · rw [if_neg q4] at h
      refine z_iconst (v := 1) fx dX4_cancels_30 rfl ?_
      refine z_goto (tgt := 35) fx dX4_cancels_31 (by decide) ?_
      cases h
      exact z_iret fx hr dX4_cancels_35
  · rw [if_neg q2] at h
    refine z_iload fx dX4_cancels_15 rfl ?_
    refine z_goto (tgt := 35) fx dX4_cancels_17 (by decide) ?_
    cases h
    exact z_iret fx hr dX4_cancels_35
set_option maxRecDepth 100000 in
set_option maxHeartbeats 4000000 in
theorem c_X4_sign (l : Launch) (D : va_G) (ad : Nat → Nat) (g : Nat → ClassId) (a0 : Int32) (a1 : Int32) (I : zMi) (J : zMl) {r : Int32} (h : f_X4_sign a0 a1 = r) : zCM (mw D ad g) l yX4_sign cX4_sign 2 (some .int) rmX4_sign [.int a0, .int a1] I J (some (.int r)) I J := by
  refine zCM.of (by decide) (Nat.le_of_ble_eq_true rfl) (fun E hl hR fx hr => ?_)
  subst hl
  rw [f_X4_sign] at h
  refine z_iload_n fx dX4_sign_0 rfl ?_
  refine z_iload_n fx dX4_sign_1 rfl ?_
  refine z_ishr fx dX4_sign_2 ?_
  refine z_iconst (v := 1) fx dX4_sign_3 rfl ?_
  refine z_iand fx dX4_sign_4 ?_
  refine z_iconst (v := 1) fx dX4_sign_5 rfl ?_
  refine z_icmp_ne (tgt := 13) fx dX4_sign_6 (by decide) (fun q1 => ?_) (fun q1 => ?_)
  · rw [if_neg q1] at h
    refine z_iconst (v := 1) fx dX4_sign_13 rfl ?_
    subst h
    exact z_iret fx hr dX4_sign_14
  · rw [if_pos q1] at h
    refine z_iconst (v := (-1)) fx dX4_sign_9 rfl ?_
    refine z_goto (tgt := 14) fx dX4_sign_10 (by decide) ?_
    subst h
    exact z_iret fx hr dX4_sign_14
set_option maxRecDepth 100000 in
set_option maxHeartbeats 4000000 in
theorem w_X4_echoOf_5 {E : zE} {D : va_G} {ad : Nat → Nat} {g : Nat → ClassId} (fx : zFX E (mw D ad g) cX4_echoOf RX4 5 (some .int)) (hR : zR E = rmX4_echoOf) {r : Int32} {I : zMi} {J : zMl} (hr : zRX E (mw D ad g) (some (.int r)) I J) : ∀ (fuel : Nat) (a0 : Int32) (a1 : Int32) (a2 : Int32) (a3 : Int32) (a4 : Int32), f_X4_echoOf_5 fuel a0 a1 a2 a3 a4 = some r → zAt E (mw D ad g) 5 [(0, .int a0), (1, .int a1), (2, .int a2), (3, .int a3), (4, .int a4)] [] I J := by
  intro fuel
  induction fuel with
  | zero => intro a0 a1 a2 a3 a4 h; rw [f_X4_echoOf_5] at h; cases h
  | succ f ih =>
    intro a0 a1 a2 a3 a4 h
    rw [f_X4_echoOf_5] at h
    refine z_iload fx dX4_echoOf_5 rfl ?_
    refine z_iload_n fx dX4_echoOf_7 rfl ?_
    refine z_iadd fx dX4_echoOf_8 ?_
    refine z_iload_n fx dX4_echoOf_9 rfl ?_
    refine z_icmp_ge (tgt := 37) fx dX4_echoOf_10 (by decide) (fun q1 => ?_) (fun q1 => ?_)
    · rw [if_pos q1] at h
      refine z_iload_n fx dX4_echoOf_37 rfl ?_
      cases h
      exact z_iret fx hr dX4_echoOf_38
    · rw [if_neg q1] at h
      refine z_iload_n fx dX4_echoOf_13 rfl ?_
      refine z_iload_n fx dX4_echoOf_14 rfl ?_
      refine z_iload fx dX4_echoOf_15 rfl ?_
      refine zSi (rest := [.int a3]) fx hR (c_X4_sign (zl E) D ad g a0 a4 I J rfl) mvX4_sign wm_X4_240 dX4_echoOf_17 rfl ⟨rfl, rfl⟩ rfl rfl rfl ?_
      refine z_iload_n fx dX4_echoOf_20 rfl ?_
      refine z_iload fx dX4_echoOf_21 rfl ?_
      refine z_iload_n fx dX4_echoOf_23 rfl ?_
      refine z_iadd fx dX4_echoOf_24 ?_
      refine zSi (rest := [.int (f_X4_sign a0 a4), .int a3]) fx hR (c_X4_sign (zl E) D ad g a0 (a4 + a2) I J rfl) mvX4_sign wm_X4_240 dX4_echoOf_25 rfl ⟨rfl, rfl⟩ rfl rfl rfl ?_
      refine z_imul fx dX4_echoOf_28 ?_
      refine z_iadd fx dX4_echoOf_29 ?_
      refine z_istore_n fx dX4_echoOf_30 (by decide) rfl ?_
      refine z_iinc (v := (a4 + 1)) fx dX4_echoOf_31 rfl rfl (by decide) rfl ?_
      refine z_goto (tgt := 5) fx dX4_echoOf_34 (by decide) ?_
      exact z_lv2 (ih a0 a1 a2 (a3 + ((f_X4_sign a0 a4) * (f_X4_sign a0 (a4 + a2)))) (a4 + 1) h) rfl
set_option maxRecDepth 100000 in
set_option maxHeartbeats 4000000 in
theorem c_X4_echoOf (l : Launch) (D : va_G) (ad : Nat → Nat) (g : Nat → ClassId) (a0 : Int32) (a1 : Int32) (a2 : Int32) (I : zMi) (J : zMl) {r : Int32} (h : f_X4_echoOf a0 a1 a2 = some r) : zCM (mw D ad g) l yX4_echoOf cX4_echoOf 5 (some .int) rmX4_echoOf [.int a0, .int a1, .int a2] I J (some (.int r)) I J := by
  refine zCM.of (by decide) (Nat.le_of_ble_eq_true rfl) (fun E hl hR fx hr => ?_)
  subst hl
  rw [f_X4_echoOf] at h
  refine z_iconst (v := 0) fx dX4_echoOf_0 rfl ?_
  refine z_istore_n fx dX4_echoOf_1 (by decide) rfl ?_
  refine z_iconst (v := 0) fx dX4_echoOf_2 rfl ?_
  refine z_istore fx dX4_echoOf_3 (by decide) rfl ?_
  exact z_lv2 (w_X4_echoOf_5 fx hR hr fu a0 a1 a2 0 0 h) rfl
set_option maxRecDepth 100000 in
set_option maxHeartbeats 4000000 in
theorem w_X4_pairs_85 {E : zE} {D : va_G} {ad : Nat → Nat} {g : Nat → ClassId} (fx : zFX E (mw D ad g) cX4_pairs RX4 7 (some .int)) (hR : zR E = rmX4_pairs) {r : Int32 × zMi} {J : zMl} (hr : zRX E (mw D ad g) (some (.int r.1)) r.2 J) {k61 : Int32 → Int32 → Int32 → zMi → Option (Int32 × zMi)} (hk61 : ∀ (a1 : Int32) (a2 : Int32) (a3 : Int32) (I : zMi) , k61 a1 a2 a3 I = some r → zAt E (mw D ad g) 61 [(0, .ref (ad (0))), (1, .int a1), (2, .int a2), (3, .int a3)] [] I J) {k71 : Int32 → Int32 → Int32 → Int32 → zMi → Option (Int32 × zMi)} (hk71 : ∀ (a1 : Int32) (a2 : Int32) (a3 : Int32) (a4 : Int32) (I : zMi) , k71 a1 a2 a3 a4 I = some r → zAt E (mw D ad g) 71 [(0, .ref (ad (0))), (1, .int a1), (2, .int a2), (3, .int a3), (4, .int a4)] [] I J) : ∀ (fuel : Nat) (a1 : Int32) (a2 : Int32) (a3 : Int32) (a4 : Int32) (a5 : Int32) (a6 : Int32) (I : zMi) , f_X4_pairs_85 k61 k71 fuel a1 a2 a3 a4 a5 a6 I = some r → zAt E (mw D ad g) 85 [(0, .ref (ad (0))), (1, .int a1), (2, .int a2), (3, .int a3), (4, .int a4), (5, .int a5), (6, .int a6)] [] I J := by
  intro fuel
  induction fuel with
  | zero => intro a1 a2 a3 a4 a5 a6 I h; rw [f_X4_pairs_85] at h; cases h
  | succ f ih =>
    intro a1 a2 a3 a4 a5 a6 I h
    rw [f_X4_pairs_85] at h
    refine z_iload fx dX4_pairs_85 rfl ?_
    refine z_iload_n fx dX4_pairs_87 rfl ?_
    refine z_icmp_ge (tgt := 138) fx dX4_pairs_88 (by decide) (fun q1 => ?_) (fun q1 => ?_)
    · rw [if_pos q1] at h
      refine z_iload_n fx dX4_pairs_138 rfl ?_
      refine z_iload fx dX4_pairs_139 rfl ?_
      refine z_if_eq (tgt := 148) fx dX4_pairs_141 (by decide) (fun q2 => ?_) (fun q2 => ?_)
      · rw [if_pos q2] at h
        refine z_iconst (v := 0) fx dX4_pairs_148 rfl ?_
        refine z_iadd fx dX4_pairs_149 ?_
        refine z_istore_n fx dX4_pairs_150 (by decide) rfl ?_
        refine z_iinc (v := (a4 + 1)) fx dX4_pairs_151 rfl rfl (by decide) rfl ?_
        refine z_goto (tgt := 71) fx dX4_pairs_154 (by decide) ?_
        exact z_lv2 (hk71 a1 (a2 + 0) a3 (a4 + 1) I h) rfl
      · rw [if_neg q2] at h
        refine z_iconst (v := 1) fx dX4_pairs_144 rfl ?_
        refine z_goto (tgt := 149) fx dX4_pairs_145 (by decide) ?_
        refine z_iadd fx dX4_pairs_149 ?_
        refine z_istore_n fx dX4_pairs_150 (by decide) rfl ?_
        refine z_iinc (v := (a4 + 1)) fx dX4_pairs_151 rfl rfl (by decide) rfl ?_
        refine z_goto (tgt := 71) fx dX4_pairs_154 (by decide) ?_
        exact z_lv2 (hk71 a1 (a2 + 1) a3 (a4 + 1) I h) rfl
    · rw [if_neg q1] at h
      refine z_iload fx dX4_pairs_91 rfl ?_
      refine z_if_eq (tgt := 138) fx dX4_pairs_93 (by decide) (fun q3 => ?_) (fun q3 => ?_)
      · rw [if_pos q3] at h
        refine z_iload_n fx dX4_pairs_138 rfl ?_
        refine z_iload fx dX4_pairs_139 rfl ?_
        refine z_if_eq (tgt := 148) fx dX4_pairs_141 (by decide) (fun q4 => ?_) (fun q4 => ?_)
        · rw [if_pos q4] at h
          refine z_iconst (v := 0) fx dX4_pairs_148 rfl ?_
          refine z_iadd fx dX4_pairs_149 ?_
          refine z_istore_n fx dX4_pairs_150 (by decide) rfl ?_
          refine z_iinc (v := (a4 + 1)) fx dX4_pairs_151 rfl rfl (by decide) rfl ?_
          refine z_goto (tgt := 71) fx dX4_pairs_154 (by decide) ?_
          exact z_lv2 (hk71 a1 (a2 + 0) a3 (a4 + 1) I h) rfl
        · rw [if_neg q4] at h
          refine z_iconst (v := 1) fx dX4_pairs_144 rfl ?_
          refine z_goto (tgt := 149) fx dX4_pairs_145 (by decide) ?_
          refine z_iadd fx dX4_pairs_149 ?_
          refine z_istore_n fx dX4_pairs_150 (by decide) rfl ?_
          refine z_iinc (v := (a4 + 1)) fx dX4_pairs_151 rfl rfl (by decide) rfl ?_
          refine z_goto (tgt := 71) fx dX4_pairs_154 (by decide) ?_
          exact z_lv2 (hk71 a1 (a2 + 1) a3 (a4 + 1) I h) rfl
      · rw [if_neg q3] at h
        refine z_aload_n fx dX4_pairs_96 rfl ?_
        refine gM_echoes fx wf_X4_51 dX4_pairs_97 ?_
        refine z_bipush (v := 8) fx dX4_pairs_100 rfl ?_
        refine z_iload_n fx dX4_pairs_102 rfl ?_
        refine z_imul fx dX4_pairs_103 ?_
        refine z_iload fx dX4_pairs_104 rfl ?_
        refine z_iadd fx dX4_pairs_106 ?_
        obtain ⟨q5, h⟩ := oi h
        refine m_ild fx (Nat.le_of_ble_eq_true rfl) (cfM_13 g ad) q5 dX4_pairs_107 ?_
        refine z_aload_n fx dX4_pairs_108 rfl ?_
        refine gM_echoes fx wf_X4_51 dX4_pairs_109 ?_
        refine z_bipush (v := 8) fx dX4_pairs_112 rfl ?_
        refine z_iload fx dX4_pairs_114 rfl ?_
        refine z_imul fx dX4_pairs_116 ?_
        refine z_iload fx dX4_pairs_117 rfl ?_
        refine z_iadd fx dX4_pairs_119 ?_
        obtain ⟨q6, h⟩ := oi h
        refine m_ild fx (Nat.le_of_ble_eq_true rfl) (cfM_13 g ad) q6 dX4_pairs_120 ?_
        refine z_iadd fx dX4_pairs_121 ?_
        refine z_if_ne (tgt := 129) fx dX4_pairs_122 (by decide) (fun q7 => ?_) (fun q7 => ?_)
        · rw [if_neg q7] at h
          refine z_iconst (v := 0) fx dX4_pairs_129 rfl ?_
          refine z_istore fx dX4_pairs_130 (by decide) rfl ?_
          refine z_iinc (v := (a6 + 1)) fx dX4_pairs_132 rfl rfl (by decide) rfl ?_
          refine z_goto (tgt := 85) fx dX4_pairs_135 (by decide) ?_
          exact z_lv2 (ih a1 a2 a3 a4 0 (a6 + 1) I h) rfl
        · rw [if_pos q7] at h
          refine z_iconst (v := 1) fx dX4_pairs_125 rfl ?_
          refine z_goto (tgt := 130) fx dX4_pairs_126 (by decide) ?_
          refine z_istore fx dX4_pairs_130 (by decide) rfl ?_
          refine z_iinc (v := (a6 + 1)) fx dX4_pairs_132 rfl rfl (by decide) rfl ?_
          refine z_goto (tgt := 85) fx dX4_pairs_135 (by decide) ?_
          exact z_lv2 (ih a1 a2 a3 a4 1 (a6 + 1) I h) rfl
set_option maxRecDepth 100000 in
set_option maxHeartbeats 4000000 in
theorem w_X4_pairs_71 {E : zE} {D : va_G} {ad : Nat → Nat} {g : Nat → ClassId} (fx : zFX E (mw D ad g) cX4_pairs RX4 7 (some .int)) (hR : zR E = rmX4_pairs) {r : Int32 × zMi} {J : zMl} (hr : zRX E (mw D ad g) (some (.int r.1)) r.2 J) {k61 : Int32 → Int32 → Int32 → zMi → Option (Int32 × zMi)} (hk61 : ∀ (a1 : Int32) (a2 : Int32) (a3 : Int32) (I : zMi) , k61 a1 a2 a3 I = some r → zAt E (mw D ad g) 61 [(0, .ref (ad (0))), (1, .int a1), (2, .int a2), (3, .int a3)] [] I J) : ∀ (fuel : Nat) (a1 : Int32) (a2 : Int32) (a3 : Int32) (a4 : Int32) (I : zMi) , f_X4_pairs_71 k61 fuel a1 a2 a3 a4 I = some r → zAt E (mw D ad g) 71 [(0, .ref (ad (0))), (1, .int a1), (2, .int a2), (3, .int a3), (4, .int a4)] [] I J := by
  intro fuel
  induction fuel with
  | zero => intro a1 a2 a3 a4 I h; rw [f_X4_pairs_71] at h; cases h
  | succ f ih =>
    intro a1 a2 a3 a4 I h
    rw [f_X4_pairs_71] at h
    refine z_iload fx dX4_pairs_71 rfl ?_
    refine z_iconst (v := 1) fx dX4_pairs_73 rfl ?_
    refine z_iload_n fx dX4_pairs_74 rfl ?_
    refine z_ishl fx dX4_pairs_75 ?_
    refine z_icmp_ge (tgt := 157) fx dX4_pairs_76 (by decide) (fun q1 => ?_) (fun q1 => ?_)
    · rw [if_pos q1] at h
      refine z_iinc (v := (a3 + 1)) fx dX4_pairs_157 rfl rfl (by decide) rfl ?_
      refine z_goto (tgt := 61) fx dX4_pairs_160 (by decide) ?_
      exact z_lv2 (hk61 a1 a2 (a3 + 1) I h) rfl
    · rw [if_neg q1] at h
      refine z_iconst (v := 1) fx dX4_pairs_79 rfl ?_
      refine z_istore fx dX4_pairs_80 (by decide) rfl ?_
      refine z_iconst (v := 1) fx dX4_pairs_82 rfl ?_
      refine z_istore fx dX4_pairs_83 (by decide) rfl ?_
      exact z_lv2 (w_X4_pairs_85 fx hR hr hk61 ih fu a1 a2 a3 a4 1 1 I h) rfl
set_option maxRecDepth 100000 in
set_option maxHeartbeats 4000000 in
theorem w_X4_pairs_61 {E : zE} {D : va_G} {ad : Nat → Nat} {g : Nat → ClassId} (fx : zFX E (mw D ad g) cX4_pairs RX4 7 (some .int)) (hR : zR E = rmX4_pairs) {r : Int32 × zMi} {J : zMl} (hr : zRX E (mw D ad g) (some (.int r.1)) r.2 J) : ∀ (fuel : Nat) (a1 : Int32) (a2 : Int32) (a3 : Int32) (I : zMi) , f_X4_pairs_61 fuel a1 a2 a3 I = some r → zAt E (mw D ad g) 61 [(0, .ref (ad (0))), (1, .int a1), (2, .int a2), (3, .int a3)] [] I J := by
  intro fuel
  induction fuel with
  | zero => intro a1 a2 a3 I h; rw [f_X4_pairs_61] at h; cases h
  | succ f ih =>
    intro a1 a2 a3 I h
    rw [f_X4_pairs_61] at h
    refine z_iload_n fx dX4_pairs_61 rfl ?_
    refine z_iconst (v := 1) fx dX4_pairs_62 rfl ?_
    refine z_iload_n fx dX4_pairs_63 rfl ?_
    refine z_ishl fx dX4_pairs_64 ?_
    refine z_icmp_ge (tgt := 163) fx dX4_pairs_65 (by decide) (fun q1 => ?_) (fun q1 => ?_)
    · rw [if_pos q1] at h
      refine z_iload_n fx dX4_pairs_163 rfl ?_
      cases h
      exact z_iret fx hr dX4_pairs_164
    · rw [if_neg q1] at h
      refine z_iconst (v := 0) fx dX4_pairs_68 rfl ?_
      refine z_istore fx dX4_pairs_69 (by decide) rfl ?_
      exact z_lv2 (w_X4_pairs_71 fx hR hr ih fu a1 a2 a3 0 I h) rfl
set_option maxRecDepth 100000 in
set_option maxHeartbeats 4000000 in
theorem w_X4_pairs_23 {E : zE} {D : va_G} {ad : Nat → Nat} {g : Nat → ClassId} (fx : zFX E (mw D ad g) cX4_pairs RX4 7 (some .int)) (hR : zR E = rmX4_pairs) {r : Int32 × zMi} {J : zMl} (hr : zRX E (mw D ad g) (some (.int r.1)) r.2 J) {k14 : Int32 → Int32 → zMi → Option (Int32 × zMi)} (hk14 : ∀ (a1 : Int32) (a2 : Int32) (I : zMi) , k14 a1 a2 I = some r → zAt E (mw D ad g) 14 [(0, .ref (ad (0))), (1, .int a1), (2, .int a2)] [] I J) : ∀ (fuel : Nat) (a1 : Int32) (a2 : Int32) (a3 : Int32) (I : zMi) , f_X4_pairs_23 k14 fuel a1 a2 a3 I = some r → zAt E (mw D ad g) 23 [(0, .ref (ad (0))), (1, .int a1), (2, .int a2), (3, .int a3)] [] I J := by
  intro fuel
  induction fuel with
  | zero => intro a1 a2 a3 I h; rw [f_X4_pairs_23] at h; cases h
  | succ f ih =>
    intro a1 a2 a3 I h
    rw [f_X4_pairs_23] at h
    refine z_iload_n fx dX4_pairs_23 rfl ?_
    refine z_iload_n fx dX4_pairs_24 rfl ?_
    refine z_icmp_ge (tgt := 51) fx dX4_pairs_25 (by decide) (fun q1 => ?_) (fun q1 => ?_)
    · rw [if_pos q1] at h
      refine z_iinc (v := (a2 + 1)) fx dX4_pairs_51 rfl rfl (by decide) rfl ?_
      refine z_goto (tgt := 14) fx dX4_pairs_54 (by decide) ?_
      exact z_lv2 (hk14 a1 (a2 + 1) I h) rfl
    · rw [if_neg q1] at h
      refine z_aload_n fx dX4_pairs_28 rfl ?_
      refine gM_echoes fx wf_X4_51 dX4_pairs_29 ?_
      refine z_bipush (v := 8) fx dX4_pairs_32 rfl ?_
      refine z_iload_n fx dX4_pairs_34 rfl ?_
      refine z_imul fx dX4_pairs_35 ?_
      refine z_iload_n fx dX4_pairs_36 rfl ?_
      refine z_iadd fx dX4_pairs_37 ?_
      refine z_iload_n fx dX4_pairs_38 rfl ?_
      refine z_iload_n fx dX4_pairs_39 rfl ?_
      refine z_iload_n fx dX4_pairs_40 rfl ?_
      obtain ⟨x2, ex2, h⟩ := ob h
      refine zSi (rest := [.int ((8 * a2) + a3), .ref (ad (13))]) fx hR (c_X4_echoOf (zl E) D ad g a2 a1 a3 I J ex2) mvX4_echoOf wm_X4_243 dX4_pairs_41 rfl ⟨rfl, rfl⟩ rfl rfl rfl ?_
      obtain ⟨q3, h⟩ := oi h
      refine m_ist fx (Nat.le_of_ble_eq_true rfl) (cfM_13 g ad) q3 dX4_pairs_44 ?_
      refine z_iinc (v := (a3 + 1)) fx dX4_pairs_45 rfl rfl (by decide) rfl ?_
      refine z_goto (tgt := 23) fx dX4_pairs_48 (by decide) ?_
      exact z_lv2 (ih a1 a2 (a3 + 1) (wI I (13) ((8 * a2) + a3).toNatClampNeg x2) h) rfl
set_option maxRecDepth 100000 in
set_option maxHeartbeats 4000000 in
theorem w_X4_pairs_14 {E : zE} {D : va_G} {ad : Nat → Nat} {g : Nat → ClassId} (fx : zFX E (mw D ad g) cX4_pairs RX4 7 (some .int)) (hR : zR E = rmX4_pairs) {r : Int32 × zMi} {J : zMl} (hr : zRX E (mw D ad g) (some (.int r.1)) r.2 J) : ∀ (fuel : Nat) (a1 : Int32) (a2 : Int32) (I : zMi) , f_X4_pairs_14 fuel a1 a2 I = some r → zAt E (mw D ad g) 14 [(0, .ref (ad (0))), (1, .int a1), (2, .int a2)] [] I J := by
  intro fuel
  induction fuel with
  | zero => intro a1 a2 I h; rw [f_X4_pairs_14] at h; cases h
  | succ f ih =>
    intro a1 a2 I h
    rw [f_X4_pairs_14] at h
    refine z_iload_n fx dX4_pairs_14 rfl ?_
    refine z_iconst (v := 1) fx dX4_pairs_15 rfl ?_
    refine z_iload_n fx dX4_pairs_16 rfl ?_
    refine z_ishl fx dX4_pairs_17 ?_
    refine z_icmp_ge (tgt := 57) fx dX4_pairs_18 (by decide) (fun q1 => ?_) (fun q1 => ?_)
    · rw [if_pos q1] at h
      refine z_iconst (v := 0) fx dX4_pairs_57 rfl ?_
      refine z_istore_n fx dX4_pairs_58 (by decide) rfl ?_
      refine z_iconst (v := 0) fx dX4_pairs_59 rfl ?_
      refine z_istore_n fx dX4_pairs_60 (by decide) rfl ?_
      exact z_lv2 (w_X4_pairs_61 fx hR hr fu a1 0 0 I h) rfl
    · rw [if_neg q1] at h
      refine z_iconst (v := 1) fx dX4_pairs_21 rfl ?_
      refine z_istore_n fx dX4_pairs_22 (by decide) rfl ?_
      exact z_lv2 (w_X4_pairs_23 fx hR hr ih fu a1 a2 1 I h) rfl
set_option maxRecDepth 100000 in
set_option maxHeartbeats 4000000 in
theorem c_X4_pairs (l : Launch) (D : va_G) (ad : Nat → Nat) (g : Nat → ClassId) (a1 : Int32) (I : zMi) (J : zMl) {r : Int32 × zMi} (h : f_X4_pairs a1 I = some r) : zCM (mw D ad g) l yX4_pairs cX4_pairs 7 (some .int) rmX4_pairs [.ref (ad (0)), .int a1] I J (some (.int r.1)) r.2 J := by
  refine zCM.of (by decide) (Nat.le_of_ble_eq_true rfl) (fun E hl hR fx hr => ?_)
  subst hl
  rw [f_X4_pairs] at h
  refine z_iload_n fx dX4_pairs_0 rfl ?_
  refine z_iconst (v := 1) fx dX4_pairs_1 rfl ?_
  refine z_bipush (v := 8) fx dX4_pairs_2 rfl ?_
  refine zSi (rest := []) fx hR (c_X4_in (zl E) D ad g a1 1 8 I J rfl) mvX4_in wm_X4_73 dX4_pairs_4 rfl ⟨rfl, rfl⟩ rfl rfl rfl ?_
  refine z_if_ne (tgt := 12) fx dX4_pairs_7 (by decide) (fun q1 => ?_) (fun q1 => ?_)
  · rw [if_neg q1] at h
    refine z_iconst (v := 0) fx dX4_pairs_12 rfl ?_
    refine z_istore_n fx dX4_pairs_13 (by decide) rfl ?_
    exact z_lv2 (w_X4_pairs_14 fx hR hr fu a1 0 I h) rfl
  · rw [if_pos q1] at h
    refine z_iconst (v := (-1)) fx dX4_pairs_10 rfl ?_
    cases h
    exact z_iret fx hr dX4_pairs_11
set_option maxRecDepth 100000 in
set_option maxHeartbeats 4000000 in
theorem w_X4_leastSide_116 {E : zE} {D : va_G} {ad : Nat → Nat} {g : Nat → ClassId} (fx : zFX E (mw D ad g) cX4_leastSide RX4 9 (some .int)) (hR : zR E = rmX4_leastSide) {r : Int32 × zMi} {J : zMl} (hr : zRX E (mw D ad g) (some (.int r.1)) r.2 J) : ∀ (fuel : Nat) (a1 : Int32) (a2 : Int32) (a3 : Int32) (a4 : Int32) (a5 : Int32) (I : zMi) , f_X4_leastSide_116 fuel a1 a2 a3 a4 a5 I = some r → zAt E (mw D ad g) 116 [(0, .ref (ad (0))), (1, .int a1), (2, .int a2), (3, .int a3), (4, .int a4), (5, .int a5)] [] I J := by
  intro fuel
  induction fuel with
  | zero => intro a1 a2 a3 a4 a5 I h; rw [f_X4_leastSide_116] at h; cases h
  | succ f ih =>
    intro a1 a2 a3 a4 a5 I h
    rw [f_X4_leastSide_116] at h
    refine z_iload fx dX4_leastSide_116 rfl ?_
    refine z_iload_n fx dX4_leastSide_118 rfl ?_
    refine z_icmp_ge (tgt := 146) fx dX4_leastSide_119 (by decide) (fun q1 => ?_) (fun q1 => ?_)
    · rw [if_pos q1] at h
      refine z_iload fx dX4_leastSide_146 rfl ?_
      cases h
      exact z_iret fx hr dX4_leastSide_148
    · rw [if_neg q1] at h
      refine z_aload_n fx dX4_leastSide_122 rfl ?_
      refine gM_rows fx wf_X4_20 dX4_leastSide_123 ?_
      refine z_bipush (v := 24) fx dX4_leastSide_126 rfl ?_
      refine z_iload_n fx dX4_leastSide_128 rfl ?_
      refine z_imul fx dX4_leastSide_129 ?_
      refine z_iload fx dX4_leastSide_130 rfl ?_
      refine z_iadd fx dX4_leastSide_132 ?_
      refine z_iload_n fx dX4_leastSide_133 rfl ?_
      refine z_iload fx dX4_leastSide_134 rfl ?_
      refine zSi (rest := [.int ((24 * a2) + a5), .ref (ad (3))]) fx hR (c_X4_sign (zl E) D ad g a3 a5 I J rfl) mvX4_sign wm_X4_240 dX4_leastSide_136 rfl ⟨rfl, rfl⟩ rfl rfl rfl ?_
      obtain ⟨q2, h⟩ := oi h
      refine m_ist fx (Nat.le_of_ble_eq_true rfl) (cfM_3 g ad) q2 dX4_leastSide_139 ?_
      refine z_iinc (v := (a5 + 1)) fx dX4_leastSide_140 rfl rfl (by decide) rfl ?_
      refine z_goto (tgt := 116) fx dX4_leastSide_143 (by decide) ?_
      exact z_lv2 (ih a1 a2 a3 a4 (a5 + 1) (wI I (3) ((24 * a2) + a5).toNatClampNeg (f_X4_sign a3 a5)) h) rfl
set_option maxRecDepth 100000 in
set_option maxHeartbeats 4000000 in
theorem w_X4_leastSide_42 {E : zE} {D : va_G} {ad : Nat → Nat} {g : Nat → ClassId} (fx : zFX E (mw D ad g) cX4_leastSide RX4 9 (some .int)) (hR : zR E = rmX4_leastSide) {r : Int32 × zMi} {J : zMl} (hr : zRX E (mw D ad g) (some (.int r.1)) r.2 J) {k28 : Int32 → Int32 → Int32 → Int32 → Int32 → zMi → Option (Int32 × zMi)} (hk28 : ∀ (a1 : Int32) (a2 : Int32) (a3 : Int32) (a4 : Int32) (a5 : Int32) (I : zMi) , k28 a1 a2 a3 a4 a5 I = some r → zAt E (mw D ad g) 28 [(0, .ref (ad (0))), (1, .int a1), (2, .int a2), (3, .int a3), (4, .int a4), (5, .int a5)] [] I J) : ∀ (fuel : Nat) (a1 : Int32) (a2 : Int32) (a3 : Int32) (a4 : Int32) (a5 : Int32) (a6 : Int32) (a7 : Int32) (I : zMi) , f_X4_leastSide_42 k28 fuel a1 a2 a3 a4 a5 a6 a7 I = some r → zAt E (mw D ad g) 42 [(0, .ref (ad (0))), (1, .int a1), (2, .int a2), (3, .int a3), (4, .int a4), (5, .int a5), (6, .int a6), (7, .int a7)] [] I J := by
  intro fuel
  induction fuel with
  | zero => intro a1 a2 a3 a4 a5 a6 a7 I h; rw [f_X4_leastSide_42] at h; cases h
  | succ f ih =>
    intro a1 a2 a3 a4 a5 a6 a7 I h
    rw [f_X4_leastSide_42] at h
    refine z_iload fx dX4_leastSide_42 rfl ?_
    refine z_iload_n fx dX4_leastSide_44 rfl ?_
    refine z_icmp_ge (tgt := 83) fx dX4_leastSide_45 (by decide) (fun q1 => ?_) (fun q1 => ?_)
    · rw [if_pos q1] at h
      refine z_iload_n fx dX4_leastSide_83 rfl ?_
      refine z_if_lt (tgt := 94) fx dX4_leastSide_84 (by decide) (fun q2 => ?_) (fun q2 => ?_)
      · rw [if_pos q2] at h
        refine z_iload fx dX4_leastSide_94 rfl ?_
        refine z_istore_n fx dX4_leastSide_96 (by decide) rfl ?_
        refine z_iload fx dX4_leastSide_97 rfl ?_
        refine z_istore fx dX4_leastSide_99 (by decide) rfl ?_
        refine z_iinc (v := (a5 + 1)) fx dX4_leastSide_101 rfl rfl (by decide) rfl ?_
        refine z_goto (tgt := 28) fx dX4_leastSide_104 (by decide) ?_
        exact z_lv2 (hk28 a1 a2 a5 a6 (a5 + 1) I h) rfl
      · rw [if_neg q2] at h
        refine z_iload fx dX4_leastSide_87 rfl ?_
        refine z_iload fx dX4_leastSide_89 rfl ?_
        refine z_icmp_ge (tgt := 101) fx dX4_leastSide_91 (by decide) (fun q3 => ?_) (fun q3 => ?_)
        · rw [if_pos q3] at h
          refine z_iinc (v := (a5 + 1)) fx dX4_leastSide_101 rfl rfl (by decide) rfl ?_
          refine z_goto (tgt := 28) fx dX4_leastSide_104 (by decide) ?_
          exact z_lv2 (hk28 a1 a2 a3 a4 (a5 + 1) I h) rfl
        · rw [if_neg q3] at h
          refine z_iload fx dX4_leastSide_94 rfl ?_
          refine z_istore_n fx dX4_leastSide_96 (by decide) rfl ?_
          refine z_iload fx dX4_leastSide_97 rfl ?_
          refine z_istore fx dX4_leastSide_99 (by decide) rfl ?_
          refine z_iinc (v := (a5 + 1)) fx dX4_leastSide_101 rfl rfl (by decide) rfl ?_
          refine z_goto (tgt := 28) fx dX4_leastSide_104 (by decide) ?_
          exact z_lv2 (hk28 a1 a2 a5 a6 (a5 + 1) I h) rfl
    · rw [if_neg q1] at h
      refine z_iload fx dX4_leastSide_48 rfl ?_
      refine z_iload_n fx dX4_leastSide_50 rfl ?_
      refine z_iload fx dX4_leastSide_51 rfl ?_
      obtain ⟨x4, ex4, h⟩ := ob h
      refine zSi (rest := []) fx hR (c_X4_echoOf (zl E) D ad g a5 a1 a7 I J ex4) mvX4_echoOf wm_X4_243 dX4_leastSide_53 rfl ⟨rfl, rfl⟩ rfl rfl rfl ?_
      refine zSi (rest := []) fx hR (c_X4_abs (zl E) D ad g x4 I J rfl) mvX4_abs wm_X4_177 dX4_leastSide_56 rfl ⟨rfl, rfl⟩ rfl rfl rfl ?_
      refine z_istore fx dX4_leastSide_59 (by decide) rfl ?_
      refine z_iload fx dX4_leastSide_61 rfl ?_
      refine z_iload fx dX4_leastSide_63 rfl ?_
      refine z_icmp_le (tgt := 73) fx dX4_leastSide_65 (by decide) (fun q5 => ?_) (fun q5 => ?_)
      · rw [if_pos q5] at h
        refine z_iload fx dX4_leastSide_73 rfl ?_
        refine z_istore fx dX4_leastSide_75 (by decide) rfl ?_
        refine z_iinc (v := (a7 + 1)) fx dX4_leastSide_77 rfl rfl (by decide) rfl ?_
        refine z_goto (tgt := 42) fx dX4_leastSide_80 (by decide) ?_
        exact z_lv2 (ih a1 a2 a3 a4 a5 a6 (a7 + 1) I h) rfl
      · rw [if_neg q5] at h
        refine z_iload fx dX4_leastSide_68 rfl ?_
        refine z_goto (tgt := 75) fx dX4_leastSide_70 (by decide) ?_
        refine z_istore fx dX4_leastSide_75 (by decide) rfl ?_
        refine z_iinc (v := (a7 + 1)) fx dX4_leastSide_77 rfl rfl (by decide) rfl ?_
        refine z_goto (tgt := 42) fx dX4_leastSide_80 (by decide) ?_
        exact z_lv2 (ih a1 a2 a3 a4 a5 (f_X4_abs x4) (a7 + 1) I h) rfl
set_option maxRecDepth 100000 in
set_option maxHeartbeats 4000000 in
theorem w_X4_leastSide_28 {E : zE} {D : va_G} {ad : Nat → Nat} {g : Nat → ClassId} (fx : zFX E (mw D ad g) cX4_leastSide RX4 9 (some .int)) (hR : zR E = rmX4_leastSide) {r : Int32 × zMi} {J : zMl} (hr : zRX E (mw D ad g) (some (.int r.1)) r.2 J) : ∀ (fuel : Nat) (a1 : Int32) (a2 : Int32) (a3 : Int32) (a4 : Int32) (a5 : Int32) (I : zMi) , f_X4_leastSide_28 fuel a1 a2 a3 a4 a5 I = some r → zAt E (mw D ad g) 28 [(0, .ref (ad (0))), (1, .int a1), (2, .int a2), (3, .int a3), (4, .int a4), (5, .int a5)] [] I J := by
  intro fuel
  induction fuel with
  | zero => intro a1 a2 a3 a4 a5 I h; rw [f_X4_leastSide_28] at h; cases h
  | succ f ih =>
    intro a1 a2 a3 a4 a5 I h
    rw [f_X4_leastSide_28] at h
    refine z_iload fx dX4_leastSide_28 rfl ?_
    refine z_iconst (v := 1) fx dX4_leastSide_30 rfl ?_
    refine z_iload_n fx dX4_leastSide_31 rfl ?_
    refine z_ishl fx dX4_leastSide_32 ?_
    refine z_icmp_ge (tgt := 107) fx dX4_leastSide_33 (by decide) (fun q1 => ?_) (fun q1 => ?_)
    · rw [if_pos q1] at h
      refine z_aload_n fx dX4_leastSide_107 rfl ?_
      refine z_iload_n fx dX4_leastSide_108 rfl ?_
      refine z_iload_n fx dX4_leastSide_109 rfl ?_
      obtain ⟨x2, ex2, h⟩ := ob h
      refine zVv (k := 0) (rest := []) fx hR (c_X4_begin (zl E) D ad g a2 a1 I J ex2) rcM mvX4_begin wm_X4_85 dX4_leastSide_110 rfl ⟨rfl, rfl⟩ rfl rfl rfl ?_
      refine z_iconst (v := 0) fx dX4_leastSide_113 rfl ?_
      refine z_istore fx dX4_leastSide_114 (by decide) rfl ?_
      exact z_lv2 (w_X4_leastSide_116 fx hR hr fu a1 a2 a3 a4 0 x2 h) rfl
    · rw [if_neg q1] at h
      refine z_iconst (v := 0) fx dX4_leastSide_36 rfl ?_
      refine z_istore fx dX4_leastSide_37 (by decide) rfl ?_
      refine z_iconst (v := 1) fx dX4_leastSide_39 rfl ?_
      refine z_istore fx dX4_leastSide_40 (by decide) rfl ?_
      exact z_lv2 (w_X4_leastSide_42 fx hR hr ih fu a1 a2 a3 a4 a5 0 1 I h) rfl
set_option maxRecDepth 100000 in
set_option maxHeartbeats 4000000 in
theorem c_X4_leastSide (l : Launch) (D : va_G) (ad : Nat → Nat) (g : Nat → ClassId) (a1 : Int32) (a2 : Int32) (I : zMi) (J : zMl) {r : Int32 × zMi} (h : f_X4_leastSide a1 a2 I = some r) : zCM (mw D ad g) l yX4_leastSide cX4_leastSide 9 (some .int) rmX4_leastSide [.ref (ad (0)), .int a1, .int a2] I J (some (.int r.1)) r.2 J := by
  refine zCM.of (by decide) (Nat.le_of_ble_eq_true rfl) (fun E hl hR fx hr => ?_)
  subst hl
  rw [f_X4_leastSide] at h
  refine z_iload_n fx dX4_leastSide_0 rfl ?_
  refine z_iconst (v := 1) fx dX4_leastSide_1 rfl ?_
  refine z_bipush (v := 12) fx dX4_leastSide_2 rfl ?_
  refine zSi (rest := []) fx hR (c_X4_in (zl E) D ad g a1 1 12 I J rfl) mvX4_in wm_X4_73 dX4_leastSide_4 rfl ⟨rfl, rfl⟩ rfl rfl rfl ?_
  refine z_if_eq (tgt := 17) fx dX4_leastSide_7 (by decide) (fun q1 => ?_) (fun q1 => ?_)
  · rw [if_pos q1] at h
    refine z_iconst (v := (-1)) fx dX4_leastSide_17 rfl ?_
    cases h
    exact z_iret fx hr dX4_leastSide_18
  · rw [if_neg q1] at h
    refine z_iload_n fx dX4_leastSide_10 rfl ?_
    refine zSi (rest := []) fx hR (c_X4_isRow (zl E) D ad g a2 I J rfl) mvX4_isRow wm_X4_77 dX4_leastSide_11 rfl ⟨rfl, rfl⟩ rfl rfl rfl ?_
    refine z_if_ne (tgt := 19) fx dX4_leastSide_14 (by decide) (fun q2 => ?_) (fun q2 => ?_)
    · rw [if_neg q2] at h
      refine z_bipush (v := (-9)) fx dX4_leastSide_19 rfl ?_
      refine z_istore_n fx dX4_leastSide_21 (by decide) rfl ?_
      refine z_iconst (v := 0) fx dX4_leastSide_22 rfl ?_
      refine z_istore fx dX4_leastSide_23 (by decide) rfl ?_
      refine z_iconst (v := 0) fx dX4_leastSide_25 rfl ?_
      refine z_istore fx dX4_leastSide_26 (by decide) rfl ?_
      exact z_lv2 (w_X4_leastSide_28 fx hR hr fu a1 a2 (-9) 0 0 I h) rfl
    · rw [if_pos q2] at h
      refine z_iconst (v := (-1)) fx dX4_leastSide_17 rfl ?_
      cases h
      exact z_iret fx hr dX4_leastSide_18
set_option maxRecDepth 100000 in
set_option maxHeartbeats 4000000 in
theorem w_X4_longer_141 {E : zE} {D : va_G} {ad : Nat → Nat} {g : Nat → ClassId} (fx : zFX E (mw D ad g) cX4_longer RX4 8 (some .int)) (hR : zR E = rmX4_longer) {r : Int32 × zMi} {J : zMl} (hr : zRX E (mw D ad g) (some (.int r.1)) r.2 J) : ∀ (fuel : Nat) (a3 : Int32) (a4 : Int32) (a6 : Int32) (a7 : Int32) (I : zMi) , f_X4_longer_141 fuel a3 a4 a6 a7 I = some r → zAt E (mw D ad g) 141 [(0, .ref (ad (0))), (3, .int a3), (4, .int a4), (6, .int a6), (7, .int a7)] [] I J := by
  intro fuel
  induction fuel with
  | zero => intro a3 a4 a6 a7 I h; rw [f_X4_longer_141] at h; cases h
  | succ f ih =>
    intro a3 a4 a6 a7 I h
    rw [f_X4_longer_141] at h
    refine z_iload fx dX4_longer_141 rfl ?_
    refine z_iconst (v := 2) fx dX4_longer_143 rfl ?_
    refine z_iload fx dX4_longer_144 rfl ?_
    refine z_imul fx dX4_longer_146 ?_
    refine z_icmp_ge (tgt := 213) fx dX4_longer_147 (by decide) (fun q1 => ?_) (fun q1 => ?_)
    · rw [if_pos q1] at h
      refine z_iconst (v := 2) fx dX4_longer_213 rfl ?_
      refine z_iload fx dX4_longer_214 rfl ?_
      refine z_imul fx dX4_longer_216 ?_
      cases h
      exact z_iret fx hr dX4_longer_217
    · rw [if_neg q1] at h
      refine z_aload_n fx dX4_longer_150 rfl ?_
      refine gM_rows fx wf_X4_20 dX4_longer_151 ?_
      refine z_bipush (v := 24) fx dX4_longer_154 rfl ?_
      refine z_iload_n fx dX4_longer_156 rfl ?_
      refine z_imul fx dX4_longer_157 ?_
      refine z_iload fx dX4_longer_158 rfl ?_
      refine z_iadd fx dX4_longer_160 ?_
      refine z_aload_n fx dX4_longer_161 rfl ?_
      refine gM_moving fx wf_X4_23 dX4_longer_162 ?_
      refine z_iload fx dX4_longer_165 rfl ?_
      obtain ⟨q2, h⟩ := oi h
      refine m_ild fx (Nat.le_of_ble_eq_true rfl) (cfM_4 g ad) q2 dX4_longer_167 ?_
      obtain ⟨q3, h⟩ := oi h
      refine m_ist fx (Nat.le_of_ble_eq_true rfl) (cfM_3 g ad) q3 dX4_longer_168 ?_
      refine z_aload_n fx dX4_longer_169 rfl ?_
      refine gM_rows fx wf_X4_20 dX4_longer_170 ?_
      refine z_bipush (v := 24) fx dX4_longer_173 rfl ?_
      refine z_iload fx dX4_longer_175 rfl ?_
      refine z_imul fx dX4_longer_177 ?_
      refine z_iload fx dX4_longer_178 rfl ?_
      refine z_iadd fx dX4_longer_180 ?_
      refine z_iload fx dX4_longer_181 rfl ?_
      refine z_iload fx dX4_longer_183 rfl ?_
      refine z_icmp_ge (tgt := 198) fx dX4_longer_185 (by decide) (fun q4 => ?_) (fun q4 => ?_)
      · rw [if_pos q4] at h
        refine z_aload_n fx dX4_longer_198 rfl ?_
        refine gM_moving fx wf_X4_23 dX4_longer_199 ?_
        refine z_iload fx dX4_longer_202 rfl ?_
        refine m_ild fx (Nat.le_of_ble_eq_true rfl) (cfM_4 g ad) q2 dX4_longer_204 ?_
        refine z_ineg fx dX4_longer_205 ?_
        obtain ⟨q5, h⟩ := oi h
        refine m_ist fx (Nat.le_of_ble_eq_true rfl) (cfM_3 g ad) q5 dX4_longer_206 ?_
        refine z_iinc (v := (a7 + 1)) fx dX4_longer_207 rfl rfl (by decide) rfl ?_
        refine z_goto (tgt := 141) fx dX4_longer_210 (by decide) ?_
        exact z_lv2 (ih a3 a4 a6 (a7 + 1) (wI (wI I (3) ((24 * a3) + a7).toNatClampNeg (I (4) a7.toNatClampNeg)) (3) ((24 * a4) + a7).toNatClampNeg (-((wI I (3) ((24 * a3) + a7).toNatClampNeg (I (4) a7.toNatClampNeg)) (4) a7.toNatClampNeg))) h) rfl
      · rw [if_neg q4] at h
        refine z_aload_n fx dX4_longer_188 rfl ?_
        refine gM_moving fx wf_X4_23 dX4_longer_189 ?_
        refine z_iload fx dX4_longer_192 rfl ?_
        refine m_ild fx (Nat.le_of_ble_eq_true rfl) (cfM_4 g ad) q2 dX4_longer_194 ?_
        refine z_goto (tgt := 206) fx dX4_longer_195 (by decide) ?_
        obtain ⟨q6, h⟩ := oi h
        refine m_ist fx (Nat.le_of_ble_eq_true rfl) (cfM_3 g ad) q6 dX4_longer_206 ?_
        refine z_iinc (v := (a7 + 1)) fx dX4_longer_207 rfl rfl (by decide) rfl ?_
        refine z_goto (tgt := 141) fx dX4_longer_210 (by decide) ?_
        exact z_lv2 (ih a3 a4 a6 (a7 + 1) (wI (wI I (3) ((24 * a3) + a7).toNatClampNeg (I (4) a7.toNatClampNeg)) (3) ((24 * a4) + a7).toNatClampNeg ((wI I (3) ((24 * a3) + a7).toNatClampNeg (I (4) a7.toNatClampNeg)) (4) a7.toNatClampNeg)) h) rfl
set_option maxRecDepth 100000 in
set_option maxHeartbeats 4000000 in
theorem w_X4_longer_65 {E : zE} {D : va_G} {ad : Nat → Nat} {g : Nat → ClassId} (fx : zFX E (mw D ad g) cX4_longer RX4 8 (some .int)) (hR : zR E = rmX4_longer) {r : Int32 × zMi} {J : zMl} (hr : zRX E (mw D ad g) (some (.int r.1)) r.2 J) : ∀ (fuel : Nat) (a1 : Int32) (a2 : Int32) (a3 : Int32) (a4 : Int32) (a6 : Int32) (a7 : Int32) (I : zMi) , f_X4_longer_65 fuel a1 a2 a3 a4 a6 a7 I = some r → zAt E (mw D ad g) 65 [(0, .ref (ad (0))), (1, .int a1), (2, .int a2), (3, .int a3), (4, .int a4), (6, .int a6), (7, .int a7)] [] I J := by
  intro fuel
  induction fuel with
  | zero => intro a1 a2 a3 a4 a6 a7 I h; rw [f_X4_longer_65] at h; cases h
  | succ f ih =>
    intro a1 a2 a3 a4 a6 a7 I h
    rw [f_X4_longer_65] at h
    refine z_iload fx dX4_longer_65 rfl ?_
    refine z_iload fx dX4_longer_67 rfl ?_
    refine z_icmp_ge (tgt := 119) fx dX4_longer_69 (by decide) (fun q1 => ?_) (fun q1 => ?_)
    · rw [if_pos q1] at h
      refine z_aload_n fx dX4_longer_119 rfl ?_
      refine z_iload_n fx dX4_longer_120 rfl ?_
      refine z_iconst (v := 2) fx dX4_longer_121 rfl ?_
      refine z_iload fx dX4_longer_122 rfl ?_
      refine z_imul fx dX4_longer_124 ?_
      obtain ⟨x2, ex2, h⟩ := ob h
      refine zVv (k := 0) (rest := []) fx hR (c_X4_begin (zl E) D ad g a3 (2 * a6) I J ex2) rcM mvX4_begin wm_X4_85 dX4_longer_125 rfl ⟨rfl, rfl⟩ rfl rfl rfl ?_
      refine z_aload_n fx dX4_longer_128 rfl ?_
      refine z_iload fx dX4_longer_129 rfl ?_
      refine z_iconst (v := 2) fx dX4_longer_131 rfl ?_
      refine z_iload fx dX4_longer_132 rfl ?_
      refine z_imul fx dX4_longer_134 ?_
      obtain ⟨x3, ex3, h⟩ := ob h
      refine zVv (k := 0) (rest := []) fx hR (c_X4_begin (zl E) D ad g a4 (2 * a6) x2 J ex3) rcM mvX4_begin wm_X4_85 dX4_longer_135 rfl ⟨rfl, rfl⟩ rfl rfl rfl ?_
      refine z_iconst (v := 0) fx dX4_longer_138 rfl ?_
      refine z_istore fx dX4_longer_139 (by decide) rfl ?_
      exact z_lv2 (w_X4_longer_141 fx hR hr fu a3 a4 a6 0 x3 h) rfl
    · rw [if_neg q1] at h
      refine z_aload_n fx dX4_longer_72 rfl ?_
      refine gM_moving fx wf_X4_23 dX4_longer_73 ?_
      refine z_iload fx dX4_longer_76 rfl ?_
      refine z_aload_n fx dX4_longer_78 rfl ?_
      refine gM_rows fx wf_X4_20 dX4_longer_79 ?_
      refine z_bipush (v := 24) fx dX4_longer_82 rfl ?_
      refine z_iload_n fx dX4_longer_84 rfl ?_
      refine z_imul fx dX4_longer_85 ?_
      refine z_iload fx dX4_longer_86 rfl ?_
      refine z_iadd fx dX4_longer_88 ?_
      obtain ⟨q4, h⟩ := oi h
      refine m_ild fx (Nat.le_of_ble_eq_true rfl) (cfM_3 g ad) q4 dX4_longer_89 ?_
      obtain ⟨q5, h⟩ := oi h
      refine m_ist fx (Nat.le_of_ble_eq_true rfl) (cfM_4 g ad) q5 dX4_longer_90 ?_
      refine z_aload_n fx dX4_longer_91 rfl ?_
      refine gM_moving fx wf_X4_23 dX4_longer_92 ?_
      refine z_iload fx dX4_longer_95 rfl ?_
      refine z_iload fx dX4_longer_97 rfl ?_
      refine z_iadd fx dX4_longer_99 ?_
      refine z_aload_n fx dX4_longer_100 rfl ?_
      refine gM_rows fx wf_X4_20 dX4_longer_101 ?_
      refine z_bipush (v := 24) fx dX4_longer_104 rfl ?_
      refine z_iload_n fx dX4_longer_106 rfl ?_
      refine z_imul fx dX4_longer_107 ?_
      refine z_iload fx dX4_longer_108 rfl ?_
      refine z_iadd fx dX4_longer_110 ?_
      obtain ⟨q6, h⟩ := oi h
      refine m_ild fx (Nat.le_of_ble_eq_true rfl) (cfM_3 g ad) q6 dX4_longer_111 ?_
      obtain ⟨q7, h⟩ := oi h
      refine m_ist fx (Nat.le_of_ble_eq_true rfl) (cfM_4 g ad) q7 dX4_longer_112 ?_
      refine z_iinc (v := (a7 + 1)) fx dX4_longer_113 rfl rfl (by decide) rfl ?_
      refine z_goto (tgt := 65) fx dX4_longer_116 (by decide) ?_
      exact z_lv2 (ih a1 a2 a3 a4 a6 (a7 + 1) (wI (wI I (4) a7.toNatClampNeg (I (3) ((24 * a1) + a7).toNatClampNeg)) (4) (a6 + a7).toNatClampNeg ((wI I (4) a7.toNatClampNeg (I (3) ((24 * a1) + a7).toNatClampNeg)) (3) ((24 * a2) + a7).toNatClampNeg)) h) rfl
set_option maxRecDepth 100000 in
set_option maxHeartbeats 4000000 in
theorem c_X4_longer (l : Launch) (D : va_G) (ad : Nat → Nat) (g : Nat → ClassId) (a1 : Int32) (a2 : Int32) (a3 : Int32) (a4 : Int32) (I : zMi) (J : zMl) {r : Int32 × zMi} (h : f_X4_longer a1 a2 a3 a4 I = some r) : zCM (mw D ad g) l yX4_longer cX4_longer 8 (some .int) rmX4_longer [.ref (ad (0)), .int a1, .int a2, .int a3, .int a4] I J (some (.int r.1)) r.2 J := by
  refine zCM.of (by decide) (Nat.le_of_ble_eq_true rfl) (fun E hl hR fx hr => ?_)
  subst hl
  rw [f_X4_longer] at h
  refine z_iload_n fx dX4_longer_0 rfl ?_
  refine zSi (rest := []) fx hR (c_X4_isRow (zl E) D ad g a3 I J rfl) mvX4_isRow wm_X4_77 dX4_longer_1 rfl ⟨rfl, rfl⟩ rfl rfl rfl ?_
  refine z_if_eq (tgt := 21) fx dX4_longer_4 (by decide) (fun q1 => ?_) (fun q1 => ?_)
  · rw [if_pos q1] at h
    refine z_iconst (v := (-1)) fx dX4_longer_21 rfl ?_
    cases h
    exact z_iret fx hr dX4_longer_22
  · rw [if_neg q1] at h
    refine z_iload fx dX4_longer_7 rfl ?_
    refine zSi (rest := []) fx hR (c_X4_isRow (zl E) D ad g a4 I J rfl) mvX4_isRow wm_X4_77 dX4_longer_9 rfl ⟨rfl, rfl⟩ rfl rfl rfl ?_
    refine z_if_eq (tgt := 21) fx dX4_longer_12 (by decide) (fun q2 => ?_) (fun q2 => ?_)
    · rw [if_pos q2] at h
      refine z_iconst (v := (-1)) fx dX4_longer_21 rfl ?_
      cases h
      exact z_iret fx hr dX4_longer_22
    · rw [if_neg q2] at h
      refine z_iload_n fx dX4_longer_15 rfl ?_
      refine z_iload fx dX4_longer_16 rfl ?_
      refine z_icmp_ne (tgt := 23) fx dX4_longer_18 (by decide) (fun q3 => ?_) (fun q3 => ?_)
      · rw [if_neg q3] at h
        refine z_aload_n fx dX4_longer_23 rfl ?_
        refine z_iload_n fx dX4_longer_24 rfl ?_
        refine z_iload_n fx dX4_longer_25 rfl ?_
        refine z_bipush (v := 12) fx dX4_longer_26 rfl ?_
        obtain ⟨x4, ex4, h⟩ := ob h
        refine zVi (k := 0) (rest := []) fx hR (c_X4_askedPair (zl E) D ad g a1 a2 12 I J ex4) rcM mvX4_askedPair wm_X4_233 dX4_longer_28 rfl ⟨rfl, rfl⟩ rfl rfl rfl ?_
        refine z_istore fx dX4_longer_31 (by decide) rfl ?_
        refine z_iload fx dX4_longer_33 rfl ?_
        refine z_if_ge (tgt := 41) fx dX4_longer_35 (by decide) (fun q5 => ?_) (fun q5 => ?_)
        · rw [if_pos q5] at h
          refine z_aload_n fx dX4_longer_41 rfl ?_
          refine z_iload_n fx dX4_longer_42 rfl ?_
          refine z_iload_n fx dX4_longer_43 rfl ?_
          refine z_iconst (v := 0) fx dX4_longer_44 rfl ?_
          obtain ⟨x6, ex6, h⟩ := ob h
          refine zVi (k := 0) (rest := []) fx hR (c_X4_areZero (zl E) D ad g a1 a2 0 x4.2 J ex6) rcM mvX4_areZero wm_X4_236 dX4_longer_45 rfl ⟨rfl, rfl⟩ rfl rfl rfl ?_
          refine z_if_ne (tgt := 54) fx dX4_longer_48 (by decide) (fun q7 => ?_) (fun q7 => ?_)
          · rw [if_neg q7] at h
            refine z_aload_n fx dX4_longer_54 rfl ?_
            refine gM_sizes fx wf_X4_17 dX4_longer_55 ?_
            refine z_iload_n fx dX4_longer_58 rfl ?_
            obtain ⟨q8, h⟩ := oi h
            refine m_ild fx (Nat.le_of_ble_eq_true rfl) (cfM_2 g ad) q8 dX4_longer_59 ?_
            refine z_istore fx dX4_longer_60 (by decide) rfl ?_
            refine z_iconst (v := 0) fx dX4_longer_62 rfl ?_
            refine z_istore fx dX4_longer_63 (by decide) rfl ?_
            exact z_lv2 (w_X4_longer_65 fx hR hr fu a1 a2 a3 a4 (x4.2 (2) a1.toNatClampNeg) 0 x4.2 h) rfl
          · rw [if_pos q7] at h
            refine z_bipush (v := (-4)) fx dX4_longer_51 rfl ?_
            cases h
            exact z_iret fx hr dX4_longer_53
        · rw [if_neg q5] at h
          refine z_iload fx dX4_longer_38 rfl ?_
          cases h
          exact z_iret fx hr dX4_longer_40
      · rw [if_pos q3] at h
        refine z_iconst (v := (-1)) fx dX4_longer_21 rfl ?_
        cases h
        exact z_iret fx hr dX4_longer_22
