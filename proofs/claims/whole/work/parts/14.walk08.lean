set_option maxRecDepth 100000 in
set_option maxHeartbeats 4000000 in
theorem c_X4_askedGraph (l : Launch) (D : va_G) (ad : Nat → Nat) (g : Nat → ClassId) (a1 : Int32) (I : zMi) (J : zMl) {r : Int32 × zMi} (h : f_X4_askedGraph a1 I = some r) : zCM (mw D ad g) l yX4_askedGraph cX4_askedGraph 3 (some .int) rmX4_askedGraph [.ref (ad (0)), .int a1] I J (some (.int r.1)) r.2 J := by
  refine zCM.of (by decide) (Nat.le_of_ble_eq_true rfl) (fun E hl hR fx hr => ?_)
  subst hl
  rw [f_X4_askedGraph] at h
  refine z_aload_n fx dX4_askedGraph_0 rfl ?_
  refine z_iload_n fx dX4_askedGraph_1 rfl ?_
  obtain ⟨x1, ex1, h⟩ := ob h
  refine zVi (k := 0) (rest := []) fx hR (c_X4_askedTable (zl E) D ad g a1 I J ex1) rcM mvX4_askedTable wm_X4_143 dX4_askedGraph_2 rfl ⟨rfl, rfl⟩ rfl rfl rfl ?_
  refine z_istore_n fx dX4_askedGraph_5 (by decide) rfl ?_
  refine z_iload_n fx dX4_askedGraph_6 rfl ?_
  refine z_if_lt (tgt := 19) fx dX4_askedGraph_7 (by decide) (fun q2 => ?_) (fun q2 => ?_)
  · rw [if_pos q2] at h
    refine z_iload_n fx dX4_askedGraph_19 rfl ?_
    refine z_goto (tgt := 28) fx dX4_askedGraph_20 (by decide) ?_
    cases h
    exact z_iret fx hr dX4_askedGraph_28
  · rw [if_neg q2] at h
    refine z_aload_n fx dX4_askedGraph_10 rfl ?_
    refine z_iload_n fx dX4_askedGraph_11 rfl ?_
    refine z_iconst (v := 3) fx dX4_askedGraph_12 rfl ?_
    obtain ⟨x3, ex3, h⟩ := ob h
    refine zVi (k := 0) (rest := []) fx hR (c_X4_is (zl E) D ad g a1 3 x1.2 J ex3) rcM mvX4_is wm_X4_155 dX4_askedGraph_13 rfl ⟨rfl, rfl⟩ rfl rfl rfl ?_
    refine z_if_eq (tgt := 23) fx dX4_askedGraph_16 (by decide) (fun q4 => ?_) (fun q4 => ?_)
    · rw [if_pos q4] at h
      refine z_aload_n fx dX4_askedGraph_23 rfl ?_
      refine z_iconst (v := 3) fx dX4_askedGraph_24 rfl ?_
      obtain ⟨x5, ex5, h⟩ := ob h
      refine zVi (k := 0) (rest := []) fx hR (c_X4_meets (zl E) D ad g 3 x1.2 J ex5) rcM mvX4_meets wm_X4_81 dX4_askedGraph_25 rfl ⟨rfl, rfl⟩ rfl rfl rfl ?_
      cases h
      exact z_iret fx hr dX4_askedGraph_28
    · rw [if_neg q4] at h
      refine z_iload_n fx dX4_askedGraph_19 rfl ?_
      refine z_goto (tgt := 28) fx dX4_askedGraph_20 (by decide) ?_
      cases h
      exact z_iret fx hr dX4_askedGraph_28
set_option maxRecDepth 100000 in
set_option maxHeartbeats 4000000 in
theorem w_X4_switched_30 {E : zE} {D : va_G} {ad : Nat → Nat} {g : Nat → ClassId} (fx : zFX E (mw D ad g) cX4_switched RX4 5 (some .int)) (hR : zR E = rmX4_switched) {r : Int32 × zMi} {J : zMl} (hr : zRX E (mw D ad g) (some (.int r.1)) r.2 J) : ∀ (fuel : Nat) (a1 : Int32) (a2 : Int32) (a4 : Int32) (I : zMi) , f_X4_switched_30 fuel a1 a2 a4 I = some r → zAt E (mw D ad g) 30 [(0, .ref (ad (0))), (1, .int a1), (2, .int a2), (4, .int a4)] [] I J := by
  intro fuel
  induction fuel with
  | zero => intro a1 a2 a4 I h; rw [f_X4_switched_30] at h; cases h
  | succ f ih =>
    intro a1 a2 a4 I h
    rw [f_X4_switched_30] at h
    refine z_iload fx dX4_switched_30 rfl ?_
    refine z_aload_n fx dX4_switched_32 rfl ?_
    refine gM_wide fx wf_X4_26 dX4_switched_33 ?_
    refine z_iload_n fx dX4_switched_36 rfl ?_
    obtain ⟨q1, h⟩ := oi h
    refine m_ild fx (Nat.le_of_ble_eq_true rfl) (cfM_5 g ad) q1 dX4_switched_37 ?_
    refine z_icmp_ge (tgt := 71) fx dX4_switched_38 (by decide) (fun q2 => ?_) (fun q2 => ?_)
    · rw [if_pos q2] at h
      refine z_aload_n fx dX4_switched_71 rfl ?_
      refine z_iload_n fx dX4_switched_72 rfl ?_
      obtain ⟨x3, ex3, h⟩ := ob h
      refine zVi (k := 0) (rest := []) fx hR (c_X4_setKind (zl E) D ad g a1 I J ex3) rcM mvX4_setKind wm_X4_137 dX4_switched_73 rfl ⟨rfl, rfl⟩ rfl rfl rfl ?_
      cases h
      exact z_iret fx hr dX4_switched_76
    · rw [if_neg q2] at h
      refine z_iload_n fx dX4_switched_41 rfl ?_
      refine z_iload fx dX4_switched_42 rfl ?_
      refine z_ishr fx dX4_switched_44 ?_
      refine z_iconst (v := 1) fx dX4_switched_45 rfl ?_
      refine z_iand fx dX4_switched_46 ?_
      refine z_iconst (v := 1) fx dX4_switched_47 rfl ?_
      refine z_icmp_ne (tgt := 65) fx dX4_switched_48 (by decide) (fun q4 => ?_) (fun q4 => ?_)
      · rw [if_neg q4] at h
        refine z_iinc (v := (a4 + 1)) fx dX4_switched_65 rfl rfl (by decide) rfl ?_
        refine z_goto (tgt := 30) fx dX4_switched_68 (by decide) ?_
        exact z_lv2 (ih a1 a2 (a4 + 1) I h) rfl
      · rw [if_pos q4] at h
        refine z_aload_n fx dX4_switched_51 rfl ?_
        refine z_iload_n fx dX4_switched_52 rfl ?_
        refine z_iload fx dX4_switched_53 rfl ?_
        obtain ⟨x5, ex5, h⟩ := ob h
        refine zVv (k := 0) (rest := []) fx hR (c_X4_turnRow (zl E) D ad g a1 a4 I J ex5) rcM mvX4_turnRow wm_X4_183 dX4_switched_55 rfl ⟨rfl, rfl⟩ rfl rfl rfl ?_
        refine z_aload_n fx dX4_switched_58 rfl ?_
        refine z_iload_n fx dX4_switched_59 rfl ?_
        refine z_iload fx dX4_switched_60 rfl ?_
        obtain ⟨x6, ex6, h⟩ := ob h
        refine zVv (k := 0) (rest := []) fx hR (c_X4_turnColumn (zl E) D ad g a1 a4 x5 J ex6) rcM mvX4_turnColumn wm_X4_186 dX4_switched_62 rfl ⟨rfl, rfl⟩ rfl rfl rfl ?_
        refine z_iinc (v := (a4 + 1)) fx dX4_switched_65 rfl rfl (by decide) rfl ?_
        refine z_goto (tgt := 30) fx dX4_switched_68 (by decide) ?_
        exact z_lv2 (ih a1 a2 (a4 + 1) x6 h) rfl
set_option maxRecDepth 100000 in
set_option maxHeartbeats 4000000 in
theorem c_X4_switched (l : Launch) (D : va_G) (ad : Nat → Nat) (g : Nat → ClassId) (a1 : Int32) (a2 : Int32) (I : zMi) (J : zMl) {r : Int32 × zMi} (h : f_X4_switched a1 a2 I = some r) : zCM (mw D ad g) l yX4_switched cX4_switched 5 (some .int) rmX4_switched [.ref (ad (0)), .int a1, .int a2] I J (some (.int r.1)) r.2 J := by
  refine zCM.of (by decide) (Nat.le_of_ble_eq_true rfl) (fun E hl hR fx hr => ?_)
  subst hl
  rw [f_X4_switched] at h
  refine z_aload_n fx dX4_switched_0 rfl ?_
  refine z_iload_n fx dX4_switched_1 rfl ?_
  obtain ⟨x1, ex1, h⟩ := ob h
  refine zVi (k := 0) (rest := []) fx hR (c_X4_askedGraph (zl E) D ad g a1 I J ex1) rcM mvX4_askedGraph wm_X4_246 dX4_switched_2 rfl ⟨rfl, rfl⟩ rfl rfl rfl ?_
  refine z_istore_n fx dX4_switched_5 (by decide) rfl ?_
  refine z_iload_n fx dX4_switched_6 rfl ?_
  refine z_if_ge (tgt := 12) fx dX4_switched_7 (by decide) (fun q2 => ?_) (fun q2 => ?_)
  · rw [if_pos q2] at h
    refine z_aload_n fx dX4_switched_12 rfl ?_
    refine z_iload_n fx dX4_switched_13 rfl ?_
    refine z_iload_n fx dX4_switched_14 rfl ?_
    obtain ⟨x3, ex3, h⟩ := ob h
    refine zVi (k := 0) (rest := []) fx hR (c_X4_isSet (zl E) D ad g a1 a2 x1.2 J ex3) rcM mvX4_isSet wm_X4_180 dX4_switched_15 rfl ⟨rfl, rfl⟩ rfl rfl rfl ?_
    refine z_if_ne (tgt := 27) fx dX4_switched_18 (by decide) (fun q4 => ?_) (fun q4 => ?_)
    · rw [if_neg q4] at h
      refine z_iconst (v := 0) fx dX4_switched_27 rfl ?_
      refine z_istore fx dX4_switched_28 (by decide) rfl ?_
      exact z_lv2 (w_X4_switched_30 fx hR hr fu a1 a2 0 x1.2 h) rfl
    · rw [if_pos q4] at h
      refine z_aload_n fx dX4_switched_21 rfl ?_
      refine z_iconst (v := 2) fx dX4_switched_22 rfl ?_
      obtain ⟨x5, ex5, h⟩ := ob h
      refine zVi (k := 0) (rest := []) fx hR (c_X4_meets (zl E) D ad g 2 x1.2 J ex5) rcM mvX4_meets wm_X4_81 dX4_switched_23 rfl ⟨rfl, rfl⟩ rfl rfl rfl ?_
      cases h
      exact z_iret fx hr dX4_switched_26
  · rw [if_neg q2] at h
    refine z_iload_n fx dX4_switched_10 rfl ?_
    cases h
    exact z_iret fx hr dX4_switched_11
set_option maxRecDepth 100000 in
set_option maxHeartbeats 4000000 in
theorem c_X4_oddAt (l : Launch) (D : va_G) (ad : Nat → Nat) (g : Nat → ClassId) (a1 : Int32) (a2 : Int32) (a3 : Int32) (a4 : Int32) (I : zMi) (J : zMl) {r : Int32} (h : f_X4_oddAt a1 a2 a3 a4 I = some r) : zCM (mw D ad g) l yX4_oddAt cX4_oddAt 5 (some .int) rmX4_oddAt [.ref (ad (0)), .int a1, .int a2, .int a3, .int a4] I J (some (.int r)) I J := by
  refine zCM.of (by decide) (Nat.le_of_ble_eq_true rfl) (fun E hl hR fx hr => ?_)
  subst hl
  rw [f_X4_oddAt] at h
  refine z_aload_n fx dX4_oddAt_0 rfl ?_
  refine z_iload_n fx dX4_oddAt_1 rfl ?_
  refine z_iload_n fx dX4_oddAt_2 rfl ?_
  refine z_iload_n fx dX4_oddAt_3 rfl ?_
  obtain ⟨x1, ex1, h⟩ := ob h
  refine zVi (k := 0) (rest := []) fx hR (c_X4_get (zl E) D ad g a1 a2 a3 I J ex1) rcM mvX4_get wm_X4_102 dX4_oddAt_4 rfl ⟨rfl, rfl⟩ rfl rfl rfl ?_
  refine z_aload_n fx dX4_oddAt_7 rfl ?_
  refine z_iload_n fx dX4_oddAt_8 rfl ?_
  refine z_iload_n fx dX4_oddAt_9 rfl ?_
  refine z_iload fx dX4_oddAt_10 rfl ?_
  obtain ⟨x2, ex2, h⟩ := ob h
  refine zVi (k := 0) (rest := [.int x1]) fx hR (c_X4_get (zl E) D ad g a1 a2 a4 I J ex2) rcM mvX4_get wm_X4_102 dX4_oddAt_12 rfl ⟨rfl, rfl⟩ rfl rfl rfl ?_
  refine z_imul fx dX4_oddAt_15 ?_
  refine z_aload_n fx dX4_oddAt_16 rfl ?_
  refine z_iload_n fx dX4_oddAt_17 rfl ?_
  refine z_iload_n fx dX4_oddAt_18 rfl ?_
  refine z_iload fx dX4_oddAt_19 rfl ?_
  obtain ⟨x3, ex3, h⟩ := ob h
  refine zVi (k := 0) (rest := [.int (x1 * x2)]) fx hR (c_X4_get (zl E) D ad g a1 a3 a4 I J ex3) rcM mvX4_get wm_X4_102 dX4_oddAt_21 rfl ⟨rfl, rfl⟩ rfl rfl rfl ?_
  refine z_imul fx dX4_oddAt_24 ?_
  cases h
  exact z_iret fx hr dX4_oddAt_25
set_option maxRecDepth 100000 in
set_option maxHeartbeats 4000000 in
theorem w_X4_odd_41 {E : zE} {D : va_G} {ad : Nat → Nat} {g : Nat → ClassId} (fx : zFX E (mw D ad g) cX4_odd RX4 7 (some .int)) (hR : zR E = rmX4_odd) {r : Int32 × zMi} {J : zMl} (hr : zRX E (mw D ad g) (some (.int r.1)) r.2 J) {k17 : Int32 → Int32 → Int32 → zMi → Option (Int32 × zMi)} (hk17 : ∀ (a1 : Int32) (a3 : Int32) (a4 : Int32) (I : zMi) , k17 a1 a3 a4 I = some r → zAt E (mw D ad g) 17 [(0, .ref (ad (0))), (1, .int a1), (3, .int a3), (4, .int a4)] [] I J) {k31 : Int32 → Int32 → Int32 → Int32 → zMi → Option (Int32 × zMi)} (hk31 : ∀ (a1 : Int32) (a3 : Int32) (a4 : Int32) (a5 : Int32) (I : zMi) , k31 a1 a3 a4 a5 I = some r → zAt E (mw D ad g) 31 [(0, .ref (ad (0))), (1, .int a1), (3, .int a3), (4, .int a4), (5, .int a5)] [] I J) : ∀ (fuel : Nat) (a1 : Int32) (a3 : Int32) (a4 : Int32) (a5 : Int32) (a6 : Int32) (I : zMi) , f_X4_odd_41 k17 k31 fuel a1 a3 a4 a5 a6 I = some r → zAt E (mw D ad g) 41 [(0, .ref (ad (0))), (1, .int a1), (3, .int a3), (4, .int a4), (5, .int a5), (6, .int a6)] [] I J := by
  intro fuel
  induction fuel with
  | zero => intro a1 a3 a4 a5 a6 I h; rw [f_X4_odd_41] at h; cases h
  | succ f ih =>
    intro a1 a3 a4 a5 a6 I h
    rw [f_X4_odd_41] at h
    refine z_iload fx dX4_odd_41 rfl ?_
    refine z_iload fx dX4_odd_43 rfl ?_
    refine z_icmp_ge (tgt := 77) fx dX4_odd_45 (by decide) (fun q1 => ?_) (fun q1 => ?_)
    · rw [if_pos q1] at h
      refine z_iinc (v := (a5 + 1)) fx dX4_odd_77 rfl rfl (by decide) rfl ?_
      refine z_goto (tgt := 31) fx dX4_odd_80 (by decide) ?_
      exact z_lv2 (hk31 a1 a3 a4 (a5 + 1) I h) rfl
    · rw [if_neg q1] at h
      refine z_iload_n fx dX4_odd_48 rfl ?_
      refine z_aload_n fx dX4_odd_49 rfl ?_
      refine z_iload_n fx dX4_odd_50 rfl ?_
      refine z_iload fx dX4_odd_51 rfl ?_
      refine z_iload fx dX4_odd_53 rfl ?_
      refine z_iload fx dX4_odd_55 rfl ?_
      obtain ⟨x2, ex2, h⟩ := ob h
      refine zVi (k := 0) (rest := [.int a3]) fx hR (c_X4_oddAt (zl E) D ad g a1 a6 a5 a4 I J ex2) rcM mvX4_oddAt wm_X4_249 dX4_odd_57 rfl ⟨rfl, rfl⟩ rfl rfl rfl ?_
      refine z_iconst (v := (-1)) fx dX4_odd_60 rfl ?_
      refine z_icmp_ne (tgt := 68) fx dX4_odd_61 (by decide) (fun q3 => ?_) (fun q3 => ?_)
      · rw [if_neg q3] at h
        refine z_iconst (v := 0) fx dX4_odd_68 rfl ?_
        refine z_iadd fx dX4_odd_69 ?_
        refine z_istore_n fx dX4_odd_70 (by decide) rfl ?_
        refine z_iinc (v := (a6 + 1)) fx dX4_odd_71 rfl rfl (by decide) rfl ?_
        refine z_goto (tgt := 41) fx dX4_odd_74 (by decide) ?_
        exact z_lv2 (ih a1 (a3 + 0) a4 a5 (a6 + 1) I h) rfl
      · rw [if_pos q3] at h
        refine z_iconst (v := 1) fx dX4_odd_64 rfl ?_
        refine z_goto (tgt := 69) fx dX4_odd_65 (by decide) ?_
        refine z_iadd fx dX4_odd_69 ?_
        refine z_istore_n fx dX4_odd_70 (by decide) rfl ?_
        refine z_iinc (v := (a6 + 1)) fx dX4_odd_71 rfl rfl (by decide) rfl ?_
        refine z_goto (tgt := 41) fx dX4_odd_74 (by decide) ?_
        exact z_lv2 (ih a1 (a3 + 1) a4 a5 (a6 + 1) I h) rfl
set_option maxRecDepth 100000 in
set_option maxHeartbeats 4000000 in
theorem w_X4_odd_31 {E : zE} {D : va_G} {ad : Nat → Nat} {g : Nat → ClassId} (fx : zFX E (mw D ad g) cX4_odd RX4 7 (some .int)) (hR : zR E = rmX4_odd) {r : Int32 × zMi} {J : zMl} (hr : zRX E (mw D ad g) (some (.int r.1)) r.2 J) {k17 : Int32 → Int32 → Int32 → zMi → Option (Int32 × zMi)} (hk17 : ∀ (a1 : Int32) (a3 : Int32) (a4 : Int32) (I : zMi) , k17 a1 a3 a4 I = some r → zAt E (mw D ad g) 17 [(0, .ref (ad (0))), (1, .int a1), (3, .int a3), (4, .int a4)] [] I J) : ∀ (fuel : Nat) (a1 : Int32) (a3 : Int32) (a4 : Int32) (a5 : Int32) (I : zMi) , f_X4_odd_31 k17 fuel a1 a3 a4 a5 I = some r → zAt E (mw D ad g) 31 [(0, .ref (ad (0))), (1, .int a1), (3, .int a3), (4, .int a4), (5, .int a5)] [] I J := by
  intro fuel
  induction fuel with
  | zero => intro a1 a3 a4 a5 I h; rw [f_X4_odd_31] at h; cases h
  | succ f ih =>
    intro a1 a3 a4 a5 I h
    rw [f_X4_odd_31] at h
    refine z_iload fx dX4_odd_31 rfl ?_
    refine z_iload fx dX4_odd_33 rfl ?_
    refine z_icmp_ge (tgt := 83) fx dX4_odd_35 (by decide) (fun q1 => ?_) (fun q1 => ?_)
    · rw [if_pos q1] at h
      refine z_iinc (v := (a4 + 1)) fx dX4_odd_83 rfl rfl (by decide) rfl ?_
      refine z_goto (tgt := 17) fx dX4_odd_86 (by decide) ?_
      exact z_lv2 (hk17 a1 a3 (a4 + 1) I h) rfl
    · rw [if_neg q1] at h
      refine z_iconst (v := 0) fx dX4_odd_38 rfl ?_
      refine z_istore fx dX4_odd_39 (by decide) rfl ?_
      exact z_lv2 (w_X4_odd_41 fx hR hr hk17 ih fu a1 a3 a4 a5 0 I h) rfl
set_option maxRecDepth 100000 in
set_option maxHeartbeats 4000000 in
theorem w_X4_odd_17 {E : zE} {D : va_G} {ad : Nat → Nat} {g : Nat → ClassId} (fx : zFX E (mw D ad g) cX4_odd RX4 7 (some .int)) (hR : zR E = rmX4_odd) {r : Int32 × zMi} {J : zMl} (hr : zRX E (mw D ad g) (some (.int r.1)) r.2 J) : ∀ (fuel : Nat) (a1 : Int32) (a3 : Int32) (a4 : Int32) (I : zMi) , f_X4_odd_17 fuel a1 a3 a4 I = some r → zAt E (mw D ad g) 17 [(0, .ref (ad (0))), (1, .int a1), (3, .int a3), (4, .int a4)] [] I J := by
  intro fuel
  induction fuel with
  | zero => intro a1 a3 a4 I h; rw [f_X4_odd_17] at h; cases h
  | succ f ih =>
    intro a1 a3 a4 I h
    rw [f_X4_odd_17] at h
    refine z_iload fx dX4_odd_17 rfl ?_
    refine z_aload_n fx dX4_odd_19 rfl ?_
    refine gM_wide fx wf_X4_26 dX4_odd_20 ?_
    refine z_iload_n fx dX4_odd_23 rfl ?_
    obtain ⟨q1, h⟩ := oi h
    refine m_ild fx (Nat.le_of_ble_eq_true rfl) (cfM_5 g ad) q1 dX4_odd_24 ?_
    refine z_icmp_ge (tgt := 89) fx dX4_odd_25 (by decide) (fun q2 => ?_) (fun q2 => ?_)
    · rw [if_pos q2] at h
      refine z_iload_n fx dX4_odd_89 rfl ?_
      cases h
      exact z_iret fx hr dX4_odd_90
    · rw [if_neg q2] at h
      refine z_iconst (v := 0) fx dX4_odd_28 rfl ?_
      refine z_istore fx dX4_odd_29 (by decide) rfl ?_
      exact z_lv2 (w_X4_odd_31 fx hR hr ih fu a1 a3 a4 0 I h) rfl
set_option maxRecDepth 100000 in
set_option maxHeartbeats 4000000 in
theorem c_X4_odd (l : Launch) (D : va_G) (ad : Nat → Nat) (g : Nat → ClassId) (a1 : Int32) (I : zMi) (J : zMl) {r : Int32 × zMi} (h : f_X4_odd a1 I = some r) : zCM (mw D ad g) l yX4_odd cX4_odd 7 (some .int) rmX4_odd [.ref (ad (0)), .int a1] I J (some (.int r.1)) r.2 J := by
  refine zCM.of (by decide) (Nat.le_of_ble_eq_true rfl) (fun E hl hR fx hr => ?_)
  subst hl
  rw [f_X4_odd] at h
  refine z_aload_n fx dX4_odd_0 rfl ?_
  refine z_iload_n fx dX4_odd_1 rfl ?_
  obtain ⟨x1, ex1, h⟩ := ob h
  refine zVi (k := 0) (rest := []) fx hR (c_X4_askedGraph (zl E) D ad g a1 I J ex1) rcM mvX4_askedGraph wm_X4_246 dX4_odd_2 rfl ⟨rfl, rfl⟩ rfl rfl rfl ?_
  refine z_istore_n fx dX4_odd_5 (by decide) rfl ?_
  refine z_iload_n fx dX4_odd_6 rfl ?_
  refine z_if_ge (tgt := 12) fx dX4_odd_7 (by decide) (fun q2 => ?_) (fun q2 => ?_)
  · rw [if_pos q2] at h
    refine z_iconst (v := 0) fx dX4_odd_12 rfl ?_
    refine z_istore_n fx dX4_odd_13 (by decide) rfl ?_
    refine z_iconst (v := 0) fx dX4_odd_14 rfl ?_
    refine z_istore fx dX4_odd_15 (by decide) rfl ?_
    exact z_lv2 (w_X4_odd_17 fx hR hr fu a1 0 0 x1.2 h) rfl
  · rw [if_neg q2] at h
    refine z_iload_n fx dX4_odd_10 rfl ?_
    cases h
    exact z_iret fx hr dX4_odd_11
set_option maxRecDepth 100000 in
set_option maxHeartbeats 4000000 in
theorem w_X4_alike_141 {E : zE} {D : va_G} {ad : Nat → Nat} {g : Nat → ClassId} (fx : zFX E (mw D ad g) cX4_alike RX4 8 (some .int)) (hR : zR E = rmX4_alike) {r : Int32 × zMi} {J : zMl} (hr : zRX E (mw D ad g) (some (.int r.1)) r.2 J) {k87 : Int32 → Int32 → Int32 → Int32 → Int32 → zMi → Option (Int32 × zMi)} (hk87 : ∀ (a1 : Int32) (a2 : Int32) (a3 : Int32) (a4 : Int32) (a5 : Int32) (I : zMi) , k87 a1 a2 a3 a4 a5 I = some r → zAt E (mw D ad g) 87 [(0, .ref (ad (0))), (1, .int a1), (2, .int a2), (3, .int a3), (4, .int a4), (5, .int a5)] [] I J) {k131 : Int32 → Int32 → Int32 → Int32 → Int32 → Int32 → zMi → Option (Int32 × zMi)} (hk131 : ∀ (a1 : Int32) (a2 : Int32) (a3 : Int32) (a4 : Int32) (a5 : Int32) (a6 : Int32) (I : zMi) , k131 a1 a2 a3 a4 a5 a6 I = some r → zAt E (mw D ad g) 131 [(0, .ref (ad (0))), (1, .int a1), (2, .int a2), (3, .int a3), (4, .int a4), (5, .int a5), (6, .int a6)] [] I J) : ∀ (fuel : Nat) (a1 : Int32) (a2 : Int32) (a3 : Int32) (a4 : Int32) (a5 : Int32) (a6 : Int32) (a7 : Int32) (I : zMi) , f_X4_alike_141 k87 k131 fuel a1 a2 a3 a4 a5 a6 a7 I = some r → zAt E (mw D ad g) 141 [(0, .ref (ad (0))), (1, .int a1), (2, .int a2), (3, .int a3), (4, .int a4), (5, .int a5), (6, .int a6), (7, .int a7)] [] I J := by
  intro fuel
  induction fuel with
  | zero => intro a1 a2 a3 a4 a5 a6 a7 I h; rw [f_X4_alike_141] at h; cases h
  | succ f ih =>
    intro a1 a2 a3 a4 a5 a6 a7 I h
    rw [f_X4_alike_141] at h
    refine z_iload fx dX4_alike_141 rfl ?_
    refine z_iload fx dX4_alike_143 rfl ?_
    refine z_icmp_ge (tgt := 191) fx dX4_alike_145 (by decide) (fun q1 => ?_) (fun q1 => ?_)
    · rw [if_pos q1] at h
      refine z_iinc (v := (a6 + 1)) fx dX4_alike_191 rfl rfl (by decide) rfl ?_
      refine z_goto (tgt := 131) fx dX4_alike_194 (by decide) ?_
      exact z_lv2 (hk131 a1 a2 a3 a4 a5 (a6 + 1) I h) rfl
    · rw [if_neg q1] at h
      refine z_iload fx dX4_alike_148 rfl ?_
      refine z_if_eq (tgt := 182) fx dX4_alike_150 (by decide) (fun q2 => ?_) (fun q2 => ?_)
      · rw [if_pos q2] at h
        refine z_iconst (v := 0) fx dX4_alike_182 rfl ?_
        refine z_istore fx dX4_alike_183 (by decide) rfl ?_
        refine z_iinc (v := (a7 + 1)) fx dX4_alike_185 rfl rfl (by decide) rfl ?_
        refine z_goto (tgt := 141) fx dX4_alike_188 (by decide) ?_
        exact z_lv2 (ih a1 a2 a3 0 a5 a6 (a7 + 1) I h) rfl
      · rw [if_neg q2] at h
        refine z_aload_n fx dX4_alike_153 rfl ?_
        refine z_iload_n fx dX4_alike_154 rfl ?_
        refine z_iload fx dX4_alike_155 rfl ?_
        refine z_iload fx dX4_alike_157 rfl ?_
        refine z_iload fx dX4_alike_159 rfl ?_
        obtain ⟨x3, ex3, h⟩ := ob h
        refine zVi (k := 0) (rest := []) fx hR (c_X4_oddAt (zl E) D ad g a1 a7 a6 a5 I J ex3) rcM mvX4_oddAt wm_X4_249 dX4_alike_161 rfl ⟨rfl, rfl⟩ rfl rfl rfl ?_
        refine z_aload_n fx dX4_alike_164 rfl ?_
        refine z_iload_n fx dX4_alike_165 rfl ?_
        refine z_iload fx dX4_alike_166 rfl ?_
        refine z_iload fx dX4_alike_168 rfl ?_
        refine z_iload fx dX4_alike_170 rfl ?_
        obtain ⟨x4, ex4, h⟩ := ob h
        refine zVi (k := 0) (rest := [.int x3]) fx hR (c_X4_oddAt (zl E) D ad g a2 a7 a6 a5 I J ex4) rcM mvX4_oddAt wm_X4_249 dX4_alike_172 rfl ⟨rfl, rfl⟩ rfl rfl rfl ?_
        refine z_icmp_ne (tgt := 182) fx dX4_alike_175 (by decide) (fun q5 => ?_) (fun q5 => ?_)
        · rw [if_neg q5] at h
          refine z_iconst (v := 0) fx dX4_alike_182 rfl ?_
          refine z_istore fx dX4_alike_183 (by decide) rfl ?_
          refine z_iinc (v := (a7 + 1)) fx dX4_alike_185 rfl rfl (by decide) rfl ?_
          refine z_goto (tgt := 141) fx dX4_alike_188 (by decide) ?_
          exact z_lv2 (ih a1 a2 a3 0 a5 a6 (a7 + 1) I h) rfl
        · rw [if_pos q5] at h
          refine z_iconst (v := 1) fx dX4_alike_178 rfl ?_
          refine z_goto (tgt := 183) fx dX4_alike_179 (by decide) ?_
          refine z_istore fx dX4_alike_183 (by decide) rfl ?_
          refine z_iinc (v := (a7 + 1)) fx dX4_alike_185 rfl rfl (by decide) rfl ?_
          refine z_goto (tgt := 141) fx dX4_alike_188 (by decide) ?_
          exact z_lv2 (ih a1 a2 a3 1 a5 a6 (a7 + 1) I h) rfl
set_option maxRecDepth 100000 in
set_option maxHeartbeats 4000000 in
theorem w_X4_alike_131 {E : zE} {D : va_G} {ad : Nat → Nat} {g : Nat → ClassId} (fx : zFX E (mw D ad g) cX4_alike RX4 8 (some .int)) (hR : zR E = rmX4_alike) {r : Int32 × zMi} {J : zMl} (hr : zRX E (mw D ad g) (some (.int r.1)) r.2 J) {k87 : Int32 → Int32 → Int32 → Int32 → Int32 → zMi → Option (Int32 × zMi)} (hk87 : ∀ (a1 : Int32) (a2 : Int32) (a3 : Int32) (a4 : Int32) (a5 : Int32) (I : zMi) , k87 a1 a2 a3 a4 a5 I = some r → zAt E (mw D ad g) 87 [(0, .ref (ad (0))), (1, .int a1), (2, .int a2), (3, .int a3), (4, .int a4), (5, .int a5)] [] I J) : ∀ (fuel : Nat) (a1 : Int32) (a2 : Int32) (a3 : Int32) (a4 : Int32) (a5 : Int32) (a6 : Int32) (I : zMi) , f_X4_alike_131 k87 fuel a1 a2 a3 a4 a5 a6 I = some r → zAt E (mw D ad g) 131 [(0, .ref (ad (0))), (1, .int a1), (2, .int a2), (3, .int a3), (4, .int a4), (5, .int a5), (6, .int a6)] [] I J := by
  intro fuel
  induction fuel with
  | zero => intro a1 a2 a3 a4 a5 a6 I h; rw [f_X4_alike_131] at h; cases h
  | succ f ih =>
    intro a1 a2 a3 a4 a5 a6 I h
    rw [f_X4_alike_131] at h
    refine z_iload fx dX4_alike_131 rfl ?_
    refine z_iload fx dX4_alike_133 rfl ?_
    refine z_icmp_ge (tgt := 197) fx dX4_alike_135 (by decide) (fun q1 => ?_) (fun q1 => ?_)
    · rw [if_pos q1] at h
      refine z_iinc (v := (a5 + 1)) fx dX4_alike_197 rfl rfl (by decide) rfl ?_
      refine z_goto (tgt := 87) fx dX4_alike_200 (by decide) ?_
      exact z_lv2 (hk87 a1 a2 a3 a4 (a5 + 1) I h) rfl
    · rw [if_neg q1] at h
      refine z_iconst (v := 0) fx dX4_alike_138 rfl ?_
      refine z_istore fx dX4_alike_139 (by decide) rfl ?_
      exact z_lv2 (w_X4_alike_141 fx hR hr hk87 ih fu a1 a2 a3 a4 a5 a6 0 I h) rfl
set_option maxRecDepth 100000 in
set_option maxHeartbeats 4000000 in
theorem w_X4_alike_87 {E : zE} {D : va_G} {ad : Nat → Nat} {g : Nat → ClassId} (fx : zFX E (mw D ad g) cX4_alike RX4 8 (some .int)) (hR : zR E = rmX4_alike) {r : Int32 × zMi} {J : zMl} (hr : zRX E (mw D ad g) (some (.int r.1)) r.2 J) : ∀ (fuel : Nat) (a1 : Int32) (a2 : Int32) (a3 : Int32) (a4 : Int32) (a5 : Int32) (I : zMi) , f_X4_alike_87 fuel a1 a2 a3 a4 a5 I = some r → zAt E (mw D ad g) 87 [(0, .ref (ad (0))), (1, .int a1), (2, .int a2), (3, .int a3), (4, .int a4), (5, .int a5)] [] I J := by
  intro fuel
  induction fuel with
  | zero => intro a1 a2 a3 a4 a5 I h; rw [f_X4_alike_87] at h; cases h
  | succ f ih =>
    intro a1 a2 a3 a4 a5 I h
    rw [f_X4_alike_87] at h
    refine z_iload fx dX4_alike_87 rfl ?_
    refine z_aload_n fx dX4_alike_89 rfl ?_
    refine gM_wide fx wf_X4_26 dX4_alike_90 ?_
    refine z_iload_n fx dX4_alike_93 rfl ?_
    obtain ⟨q1, h⟩ := oi h
    refine m_ild fx (Nat.le_of_ble_eq_true rfl) (cfM_5 g ad) q1 dX4_alike_94 ?_
    refine z_icmp_ge (tgt := 203) fx dX4_alike_95 (by decide) (fun q2 => ?_) (fun q2 => ?_)
    · rw [if_pos q2] at h
      refine z_iload fx dX4_alike_203 rfl ?_
      refine z_if_eq (tgt := 217) fx dX4_alike_205 (by decide) (fun q3 => ?_) (fun q3 => ?_)
      · rw [if_pos q3] at h
        refine z_iconst (v := 0) fx dX4_alike_217 rfl ?_
        cases h
        exact z_iret fx hr dX4_alike_218
      · rw [if_neg q3] at h
        refine z_aload_n fx dX4_alike_208 rfl ?_
        refine z_iload_n fx dX4_alike_209 rfl ?_
        refine z_iconst (v := 1) fx dX4_alike_210 rfl ?_
        refine zVi (k := 0) (rest := []) fx hR (c_X4_ask (zl E) D ad g a3 1 I J rfl) rcM mvX4_ask wm_X4_92 dX4_alike_211 rfl ⟨rfl, rfl⟩ rfl rfl rfl ?_
        refine z_goto (tgt := 218) fx dX4_alike_214 (by decide) ?_
        cases h
        exact z_iret fx hr dX4_alike_218
    · rw [if_neg q2] at h
      refine z_iload_n fx dX4_alike_98 rfl ?_
      refine z_aload_n fx dX4_alike_99 rfl ?_
      refine z_iload_n fx dX4_alike_100 rfl ?_
      refine z_iconst (v := 0) fx dX4_alike_101 rfl ?_
      refine z_iload fx dX4_alike_102 rfl ?_
      obtain ⟨x4, ex4, h⟩ := ob h
      refine zVi (k := 0) (rest := [.int a3]) fx hR (c_X4_get (zl E) D ad g a1 0 a5 I J ex4) rcM mvX4_get wm_X4_102 dX4_alike_104 rfl ⟨rfl, rfl⟩ rfl rfl rfl ?_
      refine z_aload_n fx dX4_alike_107 rfl ?_
      refine z_iload_n fx dX4_alike_108 rfl ?_
      refine z_iconst (v := 0) fx dX4_alike_109 rfl ?_
      refine z_iload fx dX4_alike_110 rfl ?_
      obtain ⟨x5, ex5, h⟩ := ob h
      refine zVi (k := 0) (rest := [.int x4, .int a3]) fx hR (c_X4_get (zl E) D ad g a2 0 a5 I J ex5) rcM mvX4_get wm_X4_102 dX4_alike_112 rfl ⟨rfl, rfl⟩ rfl rfl rfl ?_
      refine z_icmp_eq (tgt := 125) fx dX4_alike_115 (by decide) (fun q6 => ?_) (fun q6 => ?_)
      · rw [if_pos q6] at h
        refine z_iconst (v := 0) fx dX4_alike_125 rfl ?_
        refine z_ior fx dX4_alike_126 ?_
        refine z_istore_n fx dX4_alike_127 (by decide) rfl ?_
        refine z_iconst (v := 0) fx dX4_alike_128 rfl ?_
        refine z_istore fx dX4_alike_129 (by decide) rfl ?_
        exact z_lv2 (w_X4_alike_131 fx hR hr ih fu a1 a2 (a3 ||| 0) a4 a5 0 I h) rfl
      · rw [if_neg q6] at h
        refine z_iconst (v := 1) fx dX4_alike_118 rfl ?_
        refine z_iload fx dX4_alike_119 rfl ?_
        refine z_ishl fx dX4_alike_121 ?_
        refine z_goto (tgt := 126) fx dX4_alike_122 (by decide) ?_
        refine z_ior fx dX4_alike_126 ?_
        refine z_istore_n fx dX4_alike_127 (by decide) rfl ?_
        refine z_iconst (v := 0) fx dX4_alike_128 rfl ?_
        refine z_istore fx dX4_alike_129 (by decide) rfl ?_
        exact z_lv2 (w_X4_alike_131 fx hR hr ih fu a1 a2 (a3 ||| ((1 : Int32) <<< (a5 &&& 31))) a4 a5 0 I h) rfl
set_option maxRecDepth 100000 in
set_option maxHeartbeats 4000000 in
theorem c_X4_alike (l : Launch) (D : va_G) (ad : Nat → Nat) (g : Nat → ClassId) (a1 : Int32) (a2 : Int32) (I : zMi) (J : zMl) {r : Int32 × zMi} (h : f_X4_alike a1 a2 I = some r) : zCM (mw D ad g) l yX4_alike cX4_alike 8 (some .int) rmX4_alike [.ref (ad (0)), .int a1, .int a2] I J (some (.int r.1)) r.2 J := by
  refine zCM.of (by decide) (Nat.le_of_ble_eq_true rfl) (fun E hl hR fx hr => ?_)
  subst hl
  rw [f_X4_alike] at h
  refine z_iload_n fx dX4_alike_0 rfl ?_
  refine zSi (rest := []) fx hR (c_X4_isTable (zl E) D ad g a1 I J rfl) mvX4_isTable wm_X4_99 dX4_alike_1 rfl ⟨rfl, rfl⟩ rfl rfl rfl ?_
  refine z_if_eq (tgt := 14) fx dX4_alike_4 (by decide) (fun q1 => ?_) (fun q1 => ?_)
  · rw [if_pos q1] at h
    refine z_iconst (v := (-1)) fx dX4_alike_14 rfl ?_
    cases h
    exact z_iret fx hr dX4_alike_15
  · rw [if_neg q1] at h
    refine z_iload_n fx dX4_alike_7 rfl ?_
    refine zSi (rest := []) fx hR (c_X4_isTable (zl E) D ad g a2 I J rfl) mvX4_isTable wm_X4_99 dX4_alike_8 rfl ⟨rfl, rfl⟩ rfl rfl rfl ?_
    refine z_if_ne (tgt := 16) fx dX4_alike_11 (by decide) (fun q2 => ?_) (fun q2 => ?_)
    · rw [if_neg q2] at h
      refine z_aload_n fx dX4_alike_16 rfl ?_
      refine gM_wide fx wf_X4_26 dX4_alike_17 ?_
      refine z_iload_n fx dX4_alike_20 rfl ?_
      obtain ⟨q3, h⟩ := oi h
      refine m_ild fx (Nat.le_of_ble_eq_true rfl) (cfM_5 g ad) q3 dX4_alike_21 ?_
      refine z_if_eq (tgt := 34) fx dX4_alike_22 (by decide) (fun q4 => ?_) (fun q4 => ?_)
      · rw [if_pos q4] at h
        refine z_aload_n fx dX4_alike_34 rfl ?_
        refine z_iconst (v := 1) fx dX4_alike_35 rfl ?_
        obtain ⟨x5, ex5, h⟩ := ob h
        refine zVi (k := 0) (rest := []) fx hR (c_X4_meets (zl E) D ad g 1 I J ex5) rcM mvX4_meets wm_X4_81 dX4_alike_36 rfl ⟨rfl, rfl⟩ rfl rfl rfl ?_
        cases h
        exact z_iret fx hr dX4_alike_39
      · rw [if_neg q4] at h
        refine z_aload_n fx dX4_alike_25 rfl ?_
        refine gM_wide fx wf_X4_26 dX4_alike_26 ?_
        refine z_iload_n fx dX4_alike_29 rfl ?_
        obtain ⟨q6, h⟩ := oi h
        refine m_ild fx (Nat.le_of_ble_eq_true rfl) (cfM_5 g ad) q6 dX4_alike_30 ?_
        refine z_if_ne (tgt := 40) fx dX4_alike_31 (by decide) (fun q7 => ?_) (fun q7 => ?_)
        · rw [if_neg q7] at h
          refine z_aload_n fx dX4_alike_40 rfl ?_
          refine z_iload_n fx dX4_alike_41 rfl ?_
          refine z_iconst (v := 3) fx dX4_alike_42 rfl ?_
          obtain ⟨x8, ex8, h⟩ := ob h
          refine zVi (k := 0) (rest := []) fx hR (c_X4_is (zl E) D ad g a1 3 I J ex8) rcM mvX4_is wm_X4_155 dX4_alike_43 rfl ⟨rfl, rfl⟩ rfl rfl rfl ?_
          refine z_if_eq (tgt := 73) fx dX4_alike_46 (by decide) (fun q9 => ?_) (fun q9 => ?_)
          · rw [if_pos q9] at h
            refine z_aload_n fx dX4_alike_73 rfl ?_
            refine z_iconst (v := 3) fx dX4_alike_74 rfl ?_
            obtain ⟨x10, ex10, h⟩ := ob h
            refine zVi (k := 0) (rest := []) fx hR (c_X4_meets (zl E) D ad g 3 I J ex10) rcM mvX4_meets wm_X4_81 dX4_alike_75 rfl ⟨rfl, rfl⟩ rfl rfl rfl ?_
            cases h
            exact z_iret fx hr dX4_alike_78
          · rw [if_neg q9] at h
            refine z_aload_n fx dX4_alike_49 rfl ?_
            refine z_iload_n fx dX4_alike_50 rfl ?_
            refine z_iconst (v := 3) fx dX4_alike_51 rfl ?_
            obtain ⟨x11, ex11, h⟩ := ob h
            refine zVi (k := 0) (rest := []) fx hR (c_X4_is (zl E) D ad g a2 3 I J ex11) rcM mvX4_is wm_X4_155 dX4_alike_52 rfl ⟨rfl, rfl⟩ rfl rfl rfl ?_
            refine z_if_eq (tgt := 73) fx dX4_alike_55 (by decide) (fun q12 => ?_) (fun q12 => ?_)
            · rw [if_pos q12] at h
              refine z_aload_n fx dX4_alike_73 rfl ?_
              refine z_iconst (v := 3) fx dX4_alike_74 rfl ?_
              obtain ⟨x13, ex13, h⟩ := ob h
              refine zVi (k := 0) (rest := []) fx hR (c_X4_meets (zl E) D ad g 3 I J ex13) rcM mvX4_meets wm_X4_81 dX4_alike_75 rfl ⟨rfl, rfl⟩ rfl rfl rfl ?_
              cases h
              exact z_iret fx hr dX4_alike_78
            · rw [if_neg q12] at h
              refine z_aload_n fx dX4_alike_58 rfl ?_
              refine gM_wide fx wf_X4_26 dX4_alike_59 ?_
              refine z_iload_n fx dX4_alike_62 rfl ?_
              refine m_ild fx (Nat.le_of_ble_eq_true rfl) (cfM_5 g ad) q3 dX4_alike_63 ?_
              refine z_aload_n fx dX4_alike_64 rfl ?_
              refine gM_wide fx wf_X4_26 dX4_alike_65 ?_
              refine z_iload_n fx dX4_alike_68 rfl ?_
              refine m_ild fx (Nat.le_of_ble_eq_true rfl) (cfM_5 g ad) q6 dX4_alike_69 ?_
              refine z_icmp_eq (tgt := 79) fx dX4_alike_70 (by decide) (fun q14 => ?_) (fun q14 => ?_)
              · rw [if_pos q14] at h
                refine z_iconst (v := 0) fx dX4_alike_79 rfl ?_
                refine z_istore_n fx dX4_alike_80 (by decide) rfl ?_
                refine z_iconst (v := 1) fx dX4_alike_81 rfl ?_
                refine z_istore fx dX4_alike_82 (by decide) rfl ?_
                refine z_iconst (v := 0) fx dX4_alike_84 rfl ?_
                refine z_istore fx dX4_alike_85 (by decide) rfl ?_
                exact z_lv2 (w_X4_alike_87 fx hR hr fu a1 a2 0 1 0 I h) rfl
              · rw [if_neg q14] at h
                refine z_aload_n fx dX4_alike_73 rfl ?_
                refine z_iconst (v := 3) fx dX4_alike_74 rfl ?_
                obtain ⟨x15, ex15, h⟩ := ob h
                refine zVi (k := 0) (rest := []) fx hR (c_X4_meets (zl E) D ad g 3 I J ex15) rcM mvX4_meets wm_X4_81 dX4_alike_75 rfl ⟨rfl, rfl⟩ rfl rfl rfl ?_
                cases h
                exact z_iret fx hr dX4_alike_78
        · rw [if_pos q7] at h
          refine z_aload_n fx dX4_alike_34 rfl ?_
          refine z_iconst (v := 1) fx dX4_alike_35 rfl ?_
          obtain ⟨x16, ex16, h⟩ := ob h
          refine zVi (k := 0) (rest := []) fx hR (c_X4_meets (zl E) D ad g 1 I J ex16) rcM mvX4_meets wm_X4_81 dX4_alike_36 rfl ⟨rfl, rfl⟩ rfl rfl rfl ?_
          cases h
          exact z_iret fx hr dX4_alike_39
    · rw [if_pos q2] at h
      refine z_iconst (v := (-1)) fx dX4_alike_14 rfl ?_
      cases h
      exact z_iret fx hr dX4_alike_15
set_option maxRecDepth 100000 in
set_option maxHeartbeats 4000000 in
theorem w_X4_fewest_54 {E : zE} {D : va_G} {ad : Nat → Nat} {g : Nat → ClassId} (fx : zFX E (mw D ad g) cX4_fewest RX4 9 (some .int)) (hR : zR E = rmX4_fewest) {r : Int32 × zMi} {J : zMl} (hr : zRX E (mw D ad g) (some (.int r.1)) r.2 J) {k21 : Int32 → Int32 → Int32 → Int32 → zMi → Option (Int32 × zMi)} (hk21 : ∀ (a1 : Int32) (a3 : Int32) (a4 : Int32) (a5 : Int32) (I : zMi) , k21 a1 a3 a4 a5 I = some r → zAt E (mw D ad g) 21 [(0, .ref (ad (0))), (1, .int a1), (3, .int a3), (4, .int a4), (5, .int a5)] [] I J) {k40 : Int32 → Int32 → Int32 → Int32 → Int32 → Int32 → zMi → Option (Int32 × zMi)} (hk40 : ∀ (a1 : Int32) (a3 : Int32) (a4 : Int32) (a5 : Int32) (a6 : Int32) (a7 : Int32) (I : zMi) , k40 a1 a3 a4 a5 a6 a7 I = some r → zAt E (mw D ad g) 40 [(0, .ref (ad (0))), (1, .int a1), (3, .int a3), (4, .int a4), (5, .int a5), (6, .int a6), (7, .int a7)] [] I J) : ∀ (fuel : Nat) (a1 : Int32) (a3 : Int32) (a4 : Int32) (a5 : Int32) (a6 : Int32) (a7 : Int32) (a8 : Int32) (I : zMi) , f_X4_fewest_54 k21 k40 fuel a1 a3 a4 a5 a6 a7 a8 I = some r → zAt E (mw D ad g) 54 [(0, .ref (ad (0))), (1, .int a1), (3, .int a3), (4, .int a4), (5, .int a5), (6, .int a6), (7, .int a7), (8, .int a8)] [] I J := by
  intro fuel
  induction fuel with
  | zero => intro a1 a3 a4 a5 a6 a7 a8 I h; rw [f_X4_fewest_54] at h; cases h
  | succ f ih =>
    intro a1 a3 a4 a5 a6 a7 a8 I h
    rw [f_X4_fewest_54] at h
    refine z_iload fx dX4_fewest_54 rfl ?_
    refine z_iload fx dX4_fewest_56 rfl ?_
    refine z_icmp_ge (tgt := 106) fx dX4_fewest_58 (by decide) (fun q1 => ?_) (fun q1 => ?_)
    · rw [if_pos q1] at h
      refine z_iinc (v := (a7 + 1)) fx dX4_fewest_106 rfl rfl (by decide) rfl ?_
      refine z_goto (tgt := 40) fx dX4_fewest_109 (by decide) ?_
      exact z_lv2 (hk40 a1 a3 a4 a5 a6 (a7 + 1) I h) rfl
    · rw [if_neg q1] at h
      refine z_iload fx dX4_fewest_61 rfl ?_
      refine z_aload_n fx dX4_fewest_63 rfl ?_
      refine z_iload_n fx dX4_fewest_64 rfl ?_
      refine z_iload fx dX4_fewest_65 rfl ?_
      refine z_iload fx dX4_fewest_67 rfl ?_
      obtain ⟨x2, ex2, h⟩ := ob h
      refine zVi (k := 0) (rest := [.int a6]) fx hR (c_X4_get (zl E) D ad g a1 a7 a8 I J ex2) rcM mvX4_get wm_X4_102 dX4_fewest_69 rfl ⟨rfl, rfl⟩ rfl rfl rfl ?_
      refine z_iload fx dX4_fewest_72 rfl ?_
      refine z_iload fx dX4_fewest_74 rfl ?_
      refine zSi (rest := [.int x2, .int a6]) fx hR (c_X4_sign (zl E) D ad g a5 a7 I J rfl) mvX4_sign wm_X4_240 dX4_fewest_76 rfl ⟨rfl, rfl⟩ rfl rfl rfl ?_
      refine z_imul fx dX4_fewest_79 ?_
      refine z_iload fx dX4_fewest_80 rfl ?_
      refine z_iload fx dX4_fewest_82 rfl ?_
      refine zSi (rest := [.int (x2 * (f_X4_sign a5 a7)), .int a6]) fx hR (c_X4_sign (zl E) D ad g a5 a8 I J rfl) mvX4_sign wm_X4_240 dX4_fewest_84 rfl ⟨rfl, rfl⟩ rfl rfl rfl ?_
      refine z_imul fx dX4_fewest_87 ?_
      refine z_iconst (v := (-1)) fx dX4_fewest_88 rfl ?_
      refine z_icmp_ne (tgt := 96) fx dX4_fewest_89 (by decide) (fun q3 => ?_) (fun q3 => ?_)
      · rw [if_neg q3] at h
        refine z_iconst (v := 0) fx dX4_fewest_96 rfl ?_
        refine z_iadd fx dX4_fewest_97 ?_
        refine z_istore fx dX4_fewest_98 (by decide) rfl ?_
        refine z_iinc (v := (a8 + 1)) fx dX4_fewest_100 rfl rfl (by decide) rfl ?_
        refine z_goto (tgt := 54) fx dX4_fewest_103 (by decide) ?_
        exact z_lv2 (ih a1 a3 a4 a5 (a6 + 0) a7 (a8 + 1) I h) rfl
      · rw [if_pos q3] at h
        refine z_iconst (v := 1) fx dX4_fewest_92 rfl ?_
        refine z_goto (tgt := 97) fx dX4_fewest_93 (by decide) ?_
        refine z_iadd fx dX4_fewest_97 ?_
        refine z_istore fx dX4_fewest_98 (by decide) rfl ?_
        refine z_iinc (v := (a8 + 1)) fx dX4_fewest_100 rfl rfl (by decide) rfl ?_
        refine z_goto (tgt := 54) fx dX4_fewest_103 (by decide) ?_
        exact z_lv2 (ih a1 a3 a4 a5 (a6 + 1) a7 (a8 + 1) I h) rfl
set_option maxRecDepth 100000 in
set_option maxHeartbeats 4000000 in
theorem w_X4_fewest_40 {E : zE} {D : va_G} {ad : Nat → Nat} {g : Nat → ClassId} (fx : zFX E (mw D ad g) cX4_fewest RX4 9 (some .int)) (hR : zR E = rmX4_fewest) {r : Int32 × zMi} {J : zMl} (hr : zRX E (mw D ad g) (some (.int r.1)) r.2 J) {k21 : Int32 → Int32 → Int32 → Int32 → zMi → Option (Int32 × zMi)} (hk21 : ∀ (a1 : Int32) (a3 : Int32) (a4 : Int32) (a5 : Int32) (I : zMi) , k21 a1 a3 a4 a5 I = some r → zAt E (mw D ad g) 21 [(0, .ref (ad (0))), (1, .int a1), (3, .int a3), (4, .int a4), (5, .int a5)] [] I J) : ∀ (fuel : Nat) (a1 : Int32) (a3 : Int32) (a4 : Int32) (a5 : Int32) (a6 : Int32) (a7 : Int32) (I : zMi) , f_X4_fewest_40 k21 fuel a1 a3 a4 a5 a6 a7 I = some r → zAt E (mw D ad g) 40 [(0, .ref (ad (0))), (1, .int a1), (3, .int a3), (4, .int a4), (5, .int a5), (6, .int a6), (7, .int a7)] [] I J := by
  intro fuel
  induction fuel with
  | zero => intro a1 a3 a4 a5 a6 a7 I h; rw [f_X4_fewest_40] at h; cases h
  | succ f ih =>
    intro a1 a3 a4 a5 a6 a7 I h
    rw [f_X4_fewest_40] at h
    refine z_iload fx dX4_fewest_40 rfl ?_
    refine z_aload_n fx dX4_fewest_42 rfl ?_
    refine gM_wide fx wf_X4_26 dX4_fewest_43 ?_
    refine z_iload_n fx dX4_fewest_46 rfl ?_
    obtain ⟨q1, h⟩ := oi h
    refine m_ild fx (Nat.le_of_ble_eq_true rfl) (cfM_5 g ad) q1 dX4_fewest_47 ?_
    refine z_icmp_ge (tgt := 112) fx dX4_fewest_48 (by decide) (fun q2 => ?_) (fun q2 => ?_)
    · rw [if_pos q2] at h
      refine z_iload_n fx dX4_fewest_112 rfl ?_
      refine z_if_lt (tgt := 123) fx dX4_fewest_113 (by decide) (fun q3 => ?_) (fun q3 => ?_)
      · rw [if_pos q3] at h
        refine z_iload fx dX4_fewest_123 rfl ?_
        refine z_istore_n fx dX4_fewest_125 (by decide) rfl ?_
        refine z_iload fx dX4_fewest_126 rfl ?_
        refine z_istore fx dX4_fewest_128 (by decide) rfl ?_
        refine z_iinc (v := (a5 + 2)) fx dX4_fewest_130 rfl rfl (by decide) rfl ?_
        refine z_goto (tgt := 21) fx dX4_fewest_133 (by decide) ?_
        exact z_lv2 (hk21 a1 a5 a6 (a5 + 2) I h) rfl
      · rw [if_neg q3] at h
        refine z_iload fx dX4_fewest_116 rfl ?_
        refine z_iload fx dX4_fewest_118 rfl ?_
        refine z_icmp_ge (tgt := 130) fx dX4_fewest_120 (by decide) (fun q4 => ?_) (fun q4 => ?_)
        · rw [if_pos q4] at h
          refine z_iinc (v := (a5 + 2)) fx dX4_fewest_130 rfl rfl (by decide) rfl ?_
          refine z_goto (tgt := 21) fx dX4_fewest_133 (by decide) ?_
          exact z_lv2 (hk21 a1 a3 a4 (a5 + 2) I h) rfl
        · rw [if_neg q4] at h
          refine z_iload fx dX4_fewest_123 rfl ?_
          refine z_istore_n fx dX4_fewest_125 (by decide) rfl ?_
          refine z_iload fx dX4_fewest_126 rfl ?_
          refine z_istore fx dX4_fewest_128 (by decide) rfl ?_
          refine z_iinc (v := (a5 + 2)) fx dX4_fewest_130 rfl rfl (by decide) rfl ?_
          refine z_goto (tgt := 21) fx dX4_fewest_133 (by decide) ?_
          exact z_lv2 (hk21 a1 a5 a6 (a5 + 2) I h) rfl
    · rw [if_neg q2] at h
      refine z_iconst (v := 0) fx dX4_fewest_51 rfl ?_
      refine z_istore fx dX4_fewest_52 (by decide) rfl ?_
      exact z_lv2 (w_X4_fewest_54 fx hR hr hk21 ih fu a1 a3 a4 a5 a6 a7 0 I h) rfl
set_option maxRecDepth 100000 in
set_option maxHeartbeats 4000000 in
theorem w_X4_fewest_21 {E : zE} {D : va_G} {ad : Nat → Nat} {g : Nat → ClassId} (fx : zFX E (mw D ad g) cX4_fewest RX4 9 (some .int)) (hR : zR E = rmX4_fewest) {r : Int32 × zMi} {J : zMl} (hr : zRX E (mw D ad g) (some (.int r.1)) r.2 J) : ∀ (fuel : Nat) (a1 : Int32) (a3 : Int32) (a4 : Int32) (a5 : Int32) (I : zMi) , f_X4_fewest_21 fuel a1 a3 a4 a5 I = some r → zAt E (mw D ad g) 21 [(0, .ref (ad (0))), (1, .int a1), (3, .int a3), (4, .int a4), (5, .int a5)] [] I J := by
  intro fuel
  induction fuel with
  | zero => intro a1 a3 a4 a5 I h; rw [f_X4_fewest_21] at h; cases h
  | succ f ih =>
    intro a1 a3 a4 a5 I h
    rw [f_X4_fewest_21] at h
    refine z_iload fx dX4_fewest_21 rfl ?_
    refine z_iconst (v := 1) fx dX4_fewest_23 rfl ?_
    refine z_aload_n fx dX4_fewest_24 rfl ?_
    refine gM_wide fx wf_X4_26 dX4_fewest_25 ?_
    refine z_iload_n fx dX4_fewest_28 rfl ?_
    obtain ⟨q1, h⟩ := oi h
    refine m_ild fx (Nat.le_of_ble_eq_true rfl) (cfM_5 g ad) q1 dX4_fewest_29 ?_
    refine z_ishl fx dX4_fewest_30 ?_
    refine z_icmp_ge (tgt := 136) fx dX4_fewest_31 (by decide) (fun q2 => ?_) (fun q2 => ?_)
    · rw [if_pos q2] at h
      refine z_aload_n fx dX4_fewest_136 rfl ?_
      refine z_iload_n fx dX4_fewest_137 rfl ?_
      refine z_iload fx dX4_fewest_138 rfl ?_
      refine zVi (k := 0) (rest := []) fx hR (c_X4_ask (zl E) D ad g a3 a4 I J rfl) rcM mvX4_ask wm_X4_92 dX4_fewest_140 rfl ⟨rfl, rfl⟩ rfl rfl rfl ?_
      cases h
      exact z_iret fx hr dX4_fewest_143
    · rw [if_neg q2] at h
      refine z_iconst (v := 0) fx dX4_fewest_34 rfl ?_
      refine z_istore fx dX4_fewest_35 (by decide) rfl ?_
      refine z_iconst (v := 0) fx dX4_fewest_37 rfl ?_
      refine z_istore fx dX4_fewest_38 (by decide) rfl ?_
      exact z_lv2 (w_X4_fewest_40 fx hR hr ih fu a1 a3 a4 a5 0 0 I h) rfl
set_option maxRecDepth 100000 in
set_option maxHeartbeats 4000000 in
theorem c_X4_fewest (l : Launch) (D : va_G) (ad : Nat → Nat) (g : Nat → ClassId) (a1 : Int32) (I : zMi) (J : zMl) {r : Int32 × zMi} (h : f_X4_fewest a1 I = some r) : zCM (mw D ad g) l yX4_fewest cX4_fewest 9 (some .int) rmX4_fewest [.ref (ad (0)), .int a1] I J (some (.int r.1)) r.2 J := by
  refine zCM.of (by decide) (Nat.le_of_ble_eq_true rfl) (fun E hl hR fx hr => ?_)
  subst hl
  rw [f_X4_fewest] at h
  refine z_aload_n fx dX4_fewest_0 rfl ?_
  refine z_iload_n fx dX4_fewest_1 rfl ?_
  obtain ⟨x1, ex1, h⟩ := ob h
  refine zVi (k := 0) (rest := []) fx hR (c_X4_askedGraph (zl E) D ad g a1 I J ex1) rcM mvX4_askedGraph wm_X4_246 dX4_fewest_2 rfl ⟨rfl, rfl⟩ rfl rfl rfl ?_
  refine z_istore_n fx dX4_fewest_5 (by decide) rfl ?_
  refine z_iload_n fx dX4_fewest_6 rfl ?_
  refine z_if_ge (tgt := 12) fx dX4_fewest_7 (by decide) (fun q2 => ?_) (fun q2 => ?_)
  · rw [if_pos q2] at h
    refine z_bipush (v := (-9)) fx dX4_fewest_12 rfl ?_
    refine z_istore_n fx dX4_fewest_14 (by decide) rfl ?_
    refine z_iconst (v := 0) fx dX4_fewest_15 rfl ?_
    refine z_istore fx dX4_fewest_16 (by decide) rfl ?_
    refine z_iconst (v := 0) fx dX4_fewest_18 rfl ?_
    refine z_istore fx dX4_fewest_19 (by decide) rfl ?_
    exact z_lv2 (w_X4_fewest_21 fx hR hr fu a1 (-9) 0 0 x1.2 h) rfl
  · rw [if_neg q2] at h
    refine z_iload_n fx dX4_fewest_10 rfl ?_
    cases h
    exact z_iret fx hr dX4_fewest_11
set_option maxRecDepth 100000 in
set_option maxHeartbeats 4000000 in
theorem c_X4_even (l : Launch) (D : va_G) (ad : Nat → Nat) (g : Nat → ClassId) (a1 : Int32) (a2 : Int32) (I : zMi) (J : zMl) {r : Int32 × zMi} (h : f_X4_even a1 a2 I = some r) : zCM (mw D ad g) l yX4_even cX4_even 4 (some .int) rmX4_even [.ref (ad (0)), .int a1, .int a2] I J (some (.int r.1)) r.2 J := by
  refine zCM.of (by decide) (Nat.le_of_ble_eq_true rfl) (fun E hl hR fx hr => ?_)
  subst hl
  rw [f_X4_even] at h
  refine z_iload_n fx dX4_even_0 rfl ?_
  refine z_iconst (v := 0) fx dX4_even_1 rfl ?_
  refine z_iconst (v := 3) fx dX4_even_2 rfl ?_
  refine zSi (rest := []) fx hR (c_X4_in (zl E) D ad g a2 0 3 I J rfl) mvX4_in wm_X4_73 dX4_even_3 rfl ⟨rfl, rfl⟩ rfl rfl rfl ?_
  refine z_if_ne (tgt := 11) fx dX4_even_6 (by decide) (fun q1 => ?_) (fun q1 => ?_)
  · rw [if_neg q1] at h
    refine z_aload_n fx dX4_even_11 rfl ?_
    refine z_iload_n fx dX4_even_12 rfl ?_
    obtain ⟨x2, ex2, h⟩ := ob h
    refine zVi (k := 0) (rest := []) fx hR (c_X4_askedTable (zl E) D ad g a1 I J ex2) rcM mvX4_askedTable wm_X4_143 dX4_even_13 rfl ⟨rfl, rfl⟩ rfl rfl rfl ?_
    refine z_istore_n fx dX4_even_16 (by decide) rfl ?_
    refine z_iload_n fx dX4_even_17 rfl ?_
    refine z_if_ge (tgt := 23) fx dX4_even_18 (by decide) (fun q3 => ?_) (fun q3 => ?_)
    · rw [if_pos q3] at h
      refine z_aload_n fx dX4_even_23 rfl ?_
      refine gM_kinds fx wf_X4_32 dX4_even_24 ?_
      refine z_iload_n fx dX4_even_27 rfl ?_
      obtain ⟨q4, h⟩ := oi h
      refine m_ild fx (Nat.le_of_ble_eq_true rfl) (cfM_7 g ad) q4 dX4_even_28 ?_
      refine z_iconst (v := 4) fx dX4_even_29 rfl ?_
      refine z_icmp_eq (tgt := 39) fx dX4_even_30 (by decide) (fun q5 => ?_) (fun q5 => ?_)
      · rw [if_pos q5] at h
        refine z_iload_n fx dX4_even_39 rfl ?_
        refine z_if_ne (tgt := 52) fx dX4_even_40 (by decide) (fun q6 => ?_) (fun q6 => ?_)
        · rw [if_neg q6] at h
          refine z_iload_n fx dX4_even_52 rfl ?_
          refine z_iconst (v := 1) fx dX4_even_53 rfl ?_
          refine z_icmp_ne (tgt := 66) fx dX4_even_54 (by decide) (fun q7 => ?_) (fun q7 => ?_)
          · rw [if_neg q7] at h
            refine z_aload_n fx dX4_even_66 rfl ?_
            refine z_iload_n fx dX4_even_67 rfl ?_
            refine z_iload_n fx dX4_even_68 rfl ?_
            refine z_iconst (v := 2) fx dX4_even_69 rfl ?_
            refine z_icmp_ne (tgt := 77) fx dX4_even_70 (by decide) (fun q8 => ?_) (fun q8 => ?_)
            · rw [if_neg q8] at h
              refine z_iconst (v := 1) fx dX4_even_77 rfl ?_
              obtain ⟨x9, ex9, h⟩ := ob h
              refine zVi (k := 0) (rest := []) fx hR (c_X4_commonOf (zl E) D ad g a1 1 x2.2 J ex9) rcM mvX4_commonOf wm_X4_112 dX4_even_78 rfl ⟨rfl, rfl⟩ rfl rfl rfl ?_
              cases h
              exact z_iret fx hr dX4_even_81
            · rw [if_pos q8] at h
              refine z_iconst (v := (-1)) fx dX4_even_73 rfl ?_
              refine z_goto (tgt := 78) fx dX4_even_74 (by decide) ?_
              obtain ⟨x10, ex10, h⟩ := ob h
              refine zVi (k := 0) (rest := []) fx hR (c_X4_commonOf (zl E) D ad g a1 (-1) x2.2 J ex10) rcM mvX4_commonOf wm_X4_112 dX4_even_78 rfl ⟨rfl, rfl⟩ rfl rfl rfl ?_
              cases h
              exact z_iret fx hr dX4_even_81
          · rw [if_pos q7] at h
            refine z_aload_n fx dX4_even_57 rfl ?_
            refine z_iload_n fx dX4_even_58 rfl ?_
            refine z_iconst (v := 0) fx dX4_even_59 rfl ?_
            obtain ⟨x11, ex11, h⟩ := ob h
            refine zVi (k := 0) (rest := []) fx hR (c_X4_neighbours (zl E) D ad g a1 0 x2.2 J ex11) rcM mvX4_neighbours wm_X4_115 dX4_even_60 rfl ⟨rfl, rfl⟩ rfl rfl rfl ?_
            refine z_goto (tgt := 81) fx dX4_even_63 (by decide) ?_
            cases h
            exact z_iret fx hr dX4_even_81
        · rw [if_pos q6] at h
          refine z_aload_n fx dX4_even_43 rfl ?_
          refine gM_wide fx wf_X4_26 dX4_even_44 ?_
          refine z_iload_n fx dX4_even_47 rfl ?_
          refine m_ild fx (Nat.le_of_ble_eq_true rfl) (cfM_5 g ad) q4 dX4_even_48 ?_
          refine z_goto (tgt := 81) fx dX4_even_49 (by decide) ?_
          cases h
          exact z_iret fx hr dX4_even_81
      · rw [if_neg q5] at h
        refine z_aload_n fx dX4_even_33 rfl ?_
        refine z_iconst (v := 3) fx dX4_even_34 rfl ?_
        obtain ⟨x12, ex12, h⟩ := ob h
        refine zVi (k := 0) (rest := []) fx hR (c_X4_meets (zl E) D ad g 3 x2.2 J ex12) rcM mvX4_meets wm_X4_81 dX4_even_35 rfl ⟨rfl, rfl⟩ rfl rfl rfl ?_
        cases h
        exact z_iret fx hr dX4_even_38
    · rw [if_neg q3] at h
      refine z_iload_n fx dX4_even_21 rfl ?_
      cases h
      exact z_iret fx hr dX4_even_22
  · rw [if_pos q1] at h
    refine z_iconst (v := (-1)) fx dX4_even_9 rfl ?_
    cases h
    exact z_iret fx hr dX4_even_10
set_option maxRecDepth 100000 in
set_option maxHeartbeats 4000000 in
theorem w_X4_setForm_217 {E : zE} {D : va_G} {ad : Nat → Nat} {g : Nat → ClassId} (fx : zFX E (mw D ad g) cX4_setForm RX4 13 none) (hR : zR E = rmX4_setForm) {r : zMl} {I : zMi} (hr : zRX E (mw D ad g) none I r) {k64 : Int32 → Int32 → Int64 → Int32 → zMl → Option zMl} (hk64 : ∀ (a1 : Int32) (a2 : Int32) (a3 : Int64) (a5 : Int32) (J : zMl) , k64 a1 a2 a3 a5 J = some r → zAt E (mw D ad g) 64 [(0, .ref (ad (0))), (1, .int a1), (2, .int a2), (3, .long a3), (5, .int a5)] [] I J) {k208 : Int32 → Int32 → Int64 → Int32 → Int64 → Int32 → zMl → Option zMl} (hk208 : ∀ (a1 : Int32) (a2 : Int32) (a3 : Int64) (a5 : Int32) (a8 : Int64) (a10 : Int32) (J : zMl) , k208 a1 a2 a3 a5 a8 a10 J = some r → zAt E (mw D ad g) 208 [(0, .ref (ad (0))), (1, .int a1), (2, .int a2), (3, .long a3), (5, .int a5), (8, .long a8), (10, .int a10)] [] I J) : ∀ (fuel : Nat) (a1 : Int32) (a2 : Int32) (a3 : Int64) (a5 : Int32) (a8 : Int64) (a10 : Int32) (a11 : Int32) (J : zMl) , f_X4_setForm_217 I k64 k208 fuel a1 a2 a3 a5 a8 a10 a11 J = some r → zAt E (mw D ad g) 217 [(0, .ref (ad (0))), (1, .int a1), (2, .int a2), (3, .long a3), (5, .int a5), (8, .long a8), (10, .int a10), (11, .int a11)] [] I J := by
  intro fuel
  induction fuel with
  | zero => intro a1 a2 a3 a5 a8 a10 a11 J h; rw [f_X4_setForm_217] at h; cases h
  | succ f ih =>
    intro a1 a2 a3 a5 a8 a10 a11 J h
    rw [f_X4_setForm_217] at h
    refine z_iload fx dX4_setForm_217 rfl ?_
    refine z_iload_n fx dX4_setForm_219 rfl ?_
    refine z_icmp_ge (tgt := 269) fx dX4_setForm_220 (by decide) (fun q1 => ?_) (fun q1 => ?_)
    · rw [if_pos q1] at h
      refine z_iinc (v := (a10 + 1)) fx dX4_setForm_269 rfl rfl (by decide) rfl ?_
      refine z_goto (tgt := 208) fx dX4_setForm_272 (by decide) ?_
      exact z_lv2 (hk208 a1 a2 a3 a5 a8 (a10 + 1) J h) rfl
    · rw [if_neg q1] at h
      refine z_aload_n fx dX4_setForm_223 rfl ?_
      refine gM_power fx wf_X4_54 dX4_setForm_224 ?_
      refine z_bipush (v := 12) fx dX4_setForm_227 rfl ?_
      refine z_iload fx dX4_setForm_229 rfl ?_
      refine z_imul fx dX4_setForm_231 ?_
      refine z_iload fx dX4_setForm_232 rfl ?_
      refine z_iadd fx dX4_setForm_234 ?_
      refine z_aload_n fx dX4_setForm_235 rfl ?_
      refine gM_product fx wf_X4_57 dX4_setForm_236 ?_
      refine z_bipush (v := 12) fx dX4_setForm_239 rfl ?_
      refine z_iload fx dX4_setForm_241 rfl ?_
      refine z_imul fx dX4_setForm_243 ?_
      refine z_iload fx dX4_setForm_244 rfl ?_
      refine z_iadd fx dX4_setForm_246 ?_
      obtain ⟨q2, h⟩ := oi h
      refine m_lld fx (Nat.le_of_ble_eq_true rfl) (cfM_15 g ad) q2 dX4_setForm_247 ?_
      refine z_iload fx dX4_setForm_248 rfl ?_
      refine z_iload fx dX4_setForm_250 rfl ?_
      refine z_icmp_ne (tgt := 260) fx dX4_setForm_252 (by decide) (fun q3 => ?_) (fun q3 => ?_)
      · rw [if_neg q3] at h
        refine z_lconst (v := 0) fx dX4_setForm_260 rfl ?_
        refine z_ladd fx dX4_setForm_261 ?_
        refine m_lst fx (Nat.le_of_ble_eq_true rfl) (cfM_14 g ad) q2 dX4_setForm_262 ?_
        refine z_iinc (v := (a11 + 1)) fx dX4_setForm_263 rfl rfl (by decide) rfl ?_
        refine z_goto (tgt := 217) fx dX4_setForm_266 (by decide) ?_
        exact z_lv2 (ih a1 a2 a3 a5 a8 a10 (a11 + 1) (wJ J (14) ((12 * a10) + a11).toNatClampNeg ((J (15) ((12 * a10) + a11).toNatClampNeg) + 0)) h) rfl
      · rw [if_pos q3] at h
        refine z_lload fx dX4_setForm_255 rfl ?_
        refine z_goto (tgt := 261) fx dX4_setForm_257 (by decide) ?_
        refine z_ladd fx dX4_setForm_261 ?_
        refine m_lst fx (Nat.le_of_ble_eq_true rfl) (cfM_14 g ad) q2 dX4_setForm_262 ?_
        refine z_iinc (v := (a11 + 1)) fx dX4_setForm_263 rfl rfl (by decide) rfl ?_
        refine z_goto (tgt := 217) fx dX4_setForm_266 (by decide) ?_
        exact z_lv2 (ih a1 a2 a3 a5 a8 a10 (a11 + 1) (wJ J (14) ((12 * a10) + a11).toNatClampNeg ((J (15) ((12 * a10) + a11).toNatClampNeg) + a8)) h) rfl
set_option maxRecDepth 100000 in
set_option maxHeartbeats 4000000 in
theorem w_X4_setForm_208 {E : zE} {D : va_G} {ad : Nat → Nat} {g : Nat → ClassId} (fx : zFX E (mw D ad g) cX4_setForm RX4 13 none) (hR : zR E = rmX4_setForm) {r : zMl} {I : zMi} (hr : zRX E (mw D ad g) none I r) {k64 : Int32 → Int32 → Int64 → Int32 → zMl → Option zMl} (hk64 : ∀ (a1 : Int32) (a2 : Int32) (a3 : Int64) (a5 : Int32) (J : zMl) , k64 a1 a2 a3 a5 J = some r → zAt E (mw D ad g) 64 [(0, .ref (ad (0))), (1, .int a1), (2, .int a2), (3, .long a3), (5, .int a5)] [] I J) : ∀ (fuel : Nat) (a1 : Int32) (a2 : Int32) (a3 : Int64) (a5 : Int32) (a8 : Int64) (a10 : Int32) (J : zMl) , f_X4_setForm_208 I k64 fuel a1 a2 a3 a5 a8 a10 J = some r → zAt E (mw D ad g) 208 [(0, .ref (ad (0))), (1, .int a1), (2, .int a2), (3, .long a3), (5, .int a5), (8, .long a8), (10, .int a10)] [] I J := by
  intro fuel
  induction fuel with
  | zero => intro a1 a2 a3 a5 a8 a10 J h; rw [f_X4_setForm_208] at h; cases h
  | succ f ih =>
    intro a1 a2 a3 a5 a8 a10 J h
    rw [f_X4_setForm_208] at h
    refine z_iload fx dX4_setForm_208 rfl ?_
    refine z_iload_n fx dX4_setForm_210 rfl ?_
    refine z_icmp_ge (tgt := 275) fx dX4_setForm_211 (by decide) (fun q1 => ?_) (fun q1 => ?_)
    · rw [if_pos q1] at h
      refine z_iinc (v := (a5 + 1)) fx dX4_setForm_275 rfl rfl (by decide) rfl ?_
      refine z_goto (tgt := 64) fx dX4_setForm_278 (by decide) ?_
      exact z_lv2 (hk64 a1 a2 a3 (a5 + 1) J h) rfl
    · rw [if_neg q1] at h
      refine z_iconst (v := 0) fx dX4_setForm_214 rfl ?_
      refine z_istore fx dX4_setForm_215 (by decide) rfl ?_
      exact z_lv2 (w_X4_setForm_217 fx hR hr hk64 ih fu a1 a2 a3 a5 a8 a10 0 J h) rfl
set_option maxRecDepth 100000 in
set_option maxHeartbeats 4000000 in
theorem w_X4_setForm_97 {E : zE} {D : va_G} {ad : Nat → Nat} {g : Nat → ClassId} (fx : zFX E (mw D ad g) cX4_setForm RX4 13 none) (hR : zR E = rmX4_setForm) {r : zMl} {I : zMi} (hr : zRX E (mw D ad g) none I r) {k64 : Int32 → Int32 → Int64 → Int32 → zMl → Option zMl} (hk64 : ∀ (a1 : Int32) (a2 : Int32) (a3 : Int64) (a5 : Int32) (J : zMl) , k64 a1 a2 a3 a5 J = some r → zAt E (mw D ad g) 64 [(0, .ref (ad (0))), (1, .int a1), (2, .int a2), (3, .long a3), (5, .int a5)] [] I J) {k76 : Int32 → Int32 → Int64 → Int32 → Int64 → Int32 → zMl → Option zMl} (hk76 : ∀ (a1 : Int32) (a2 : Int32) (a3 : Int64) (a5 : Int32) (a6 : Int64) (a8 : Int32) (J : zMl) , k76 a1 a2 a3 a5 a6 a8 J = some r → zAt E (mw D ad g) 76 [(0, .ref (ad (0))), (1, .int a1), (2, .int a2), (3, .long a3), (5, .int a5), (6, .long a6), (8, .int a8)] [] I J) {k85 : Int32 → Int32 → Int64 → Int32 → Int64 → Int32 → Int32 → zMl → Option zMl} (hk85 : ∀ (a1 : Int32) (a2 : Int32) (a3 : Int64) (a5 : Int32) (a6 : Int64) (a8 : Int32) (a9 : Int32) (J : zMl) , k85 a1 a2 a3 a5 a6 a8 a9 J = some r → zAt E (mw D ad g) 85 [(0, .ref (ad (0))), (1, .int a1), (2, .int a2), (3, .long a3), (5, .int a5), (6, .long a6), (8, .int a8), (9, .int a9)] [] I J) : ∀ (fuel : Nat) (a1 : Int32) (a2 : Int32) (a3 : Int64) (a5 : Int32) (a6 : Int64) (a8 : Int32) (a9 : Int32) (a10 : Int64) (a12 : Int32) (J : zMl) , f_X4_setForm_97 I k64 k76 k85 fuel a1 a2 a3 a5 a6 a8 a9 a10 a12 J = some r → zAt E (mw D ad g) 97 [(0, .ref (ad (0))), (1, .int a1), (2, .int a2), (3, .long a3), (5, .int a5), (6, .long a6), (8, .int a8), (9, .int a9), (10, .long a10), (12, .int a12)] [] I J := by
  intro fuel
  induction fuel with
  | zero => intro a1 a2 a3 a5 a6 a8 a9 a10 a12 J h; rw [f_X4_setForm_97] at h; cases h
  | succ f ih =>
    intro a1 a2 a3 a5 a6 a8 a9 a10 a12 J h
    rw [f_X4_setForm_97] at h
    refine z_iload fx dX4_setForm_97 rfl ?_
    refine z_iload_n fx dX4_setForm_99 rfl ?_
    refine z_icmp_ge (tgt := 138) fx dX4_setForm_100 (by decide) (fun q1 => ?_) (fun q1 => ?_)
    · rw [if_pos q1] at h
      refine z_aload_n fx dX4_setForm_138 rfl ?_
      refine gM_product fx wf_X4_57 dX4_setForm_139 ?_
      refine z_bipush (v := 12) fx dX4_setForm_142 rfl ?_
      refine z_iload fx dX4_setForm_144 rfl ?_
      refine z_imul fx dX4_setForm_146 ?_
      refine z_iload fx dX4_setForm_147 rfl ?_
      refine z_iadd fx dX4_setForm_149 ?_
      refine z_lload fx dX4_setForm_150 rfl ?_
      obtain ⟨q2, h⟩ := oi h
      refine m_lst fx (Nat.le_of_ble_eq_true rfl) (cfM_15 g ad) q2 dX4_setForm_152 ?_
      refine z_lload fx dX4_setForm_153 rfl ?_
      refine z_iload fx dX4_setForm_155 rfl ?_
      refine z_iload fx dX4_setForm_157 rfl ?_
      refine z_icmp_ne (tgt := 167) fx dX4_setForm_159 (by decide) (fun q3 => ?_) (fun q3 => ?_)
      · rw [if_neg q3] at h
        refine z_lconst (v := 0) fx dX4_setForm_167 rfl ?_
        refine z_ladd fx dX4_setForm_168 ?_
        refine z_lstore fx dX4_setForm_169 (by decide) rfl ?_
        refine z_iinc (v := (a9 + 1)) fx dX4_setForm_171 rfl rfl (by decide) rfl ?_
        refine z_goto (tgt := 85) fx dX4_setForm_174 (by decide) ?_
        exact z_lv2 (hk85 a1 a2 a3 a5 (a6 + 0) a8 (a9 + 1) (wJ J (15) ((12 * a8) + a9).toNatClampNeg a10) h) rfl
      · rw [if_pos q3] at h
        refine z_lload fx dX4_setForm_162 rfl ?_
        refine z_goto (tgt := 168) fx dX4_setForm_164 (by decide) ?_
        refine z_ladd fx dX4_setForm_168 ?_
        refine z_lstore fx dX4_setForm_169 (by decide) rfl ?_
        refine z_iinc (v := (a9 + 1)) fx dX4_setForm_171 rfl rfl (by decide) rfl ?_
        refine z_goto (tgt := 85) fx dX4_setForm_174 (by decide) ?_
        exact z_lv2 (hk85 a1 a2 a3 a5 (a6 + a10) a8 (a9 + 1) (wJ J (15) ((12 * a8) + a9).toNatClampNeg a10) h) rfl
    · rw [if_neg q1] at h
      refine z_lload fx dX4_setForm_103 rfl ?_
      refine z_aload_n fx dX4_setForm_105 rfl ?_
      refine z_iload_n fx dX4_setForm_106 rfl ?_
      refine z_iload fx dX4_setForm_107 rfl ?_
      refine z_iload fx dX4_setForm_109 rfl ?_
      obtain ⟨x4, ex4, h⟩ := ob h
      refine zVi (k := 0) (rest := [.long a10]) fx hR (c_X4_get (zl E) D ad g a1 a8 a12 I J ex4) rcM mvX4_get wm_X4_102 dX4_setForm_111 rfl ⟨rfl, rfl⟩ rfl rfl rfl ?_
      refine z_i2l fx dX4_setForm_114 ?_
      refine z_aload_n fx dX4_setForm_115 rfl ?_
      refine gM_power fx wf_X4_54 dX4_setForm_116 ?_
      refine z_bipush (v := 12) fx dX4_setForm_119 rfl ?_
      refine z_iload fx dX4_setForm_121 rfl ?_
      refine z_imul fx dX4_setForm_123 ?_
      refine z_iload fx dX4_setForm_124 rfl ?_
      refine z_iadd fx dX4_setForm_126 ?_
      obtain ⟨q5, h⟩ := oi h
      refine m_lld fx (Nat.le_of_ble_eq_true rfl) (cfM_14 g ad) q5 dX4_setForm_127 ?_
      refine z_lmul fx dX4_setForm_128 ?_
      refine z_ladd fx dX4_setForm_129 ?_
      refine z_lstore fx dX4_setForm_130 (by decide) rfl ?_
      refine z_iinc (v := (a12 + 1)) fx dX4_setForm_132 rfl rfl (by decide) rfl ?_
      refine z_goto (tgt := 97) fx dX4_setForm_135 (by decide) ?_
      exact z_lv2 (ih a1 a2 a3 a5 a6 a8 a9 (a10 + ((x4.toInt64) * (J (14) ((12 * a12) + a9).toNatClampNeg))) (a12 + 1) J h) rfl
set_option maxRecDepth 100000 in
set_option maxHeartbeats 4000000 in
theorem w_X4_setForm_85 {E : zE} {D : va_G} {ad : Nat → Nat} {g : Nat → ClassId} (fx : zFX E (mw D ad g) cX4_setForm RX4 13 none) (hR : zR E = rmX4_setForm) {r : zMl} {I : zMi} (hr : zRX E (mw D ad g) none I r) {k64 : Int32 → Int32 → Int64 → Int32 → zMl → Option zMl} (hk64 : ∀ (a1 : Int32) (a2 : Int32) (a3 : Int64) (a5 : Int32) (J : zMl) , k64 a1 a2 a3 a5 J = some r → zAt E (mw D ad g) 64 [(0, .ref (ad (0))), (1, .int a1), (2, .int a2), (3, .long a3), (5, .int a5)] [] I J) {k76 : Int32 → Int32 → Int64 → Int32 → Int64 → Int32 → zMl → Option zMl} (hk76 : ∀ (a1 : Int32) (a2 : Int32) (a3 : Int64) (a5 : Int32) (a6 : Int64) (a8 : Int32) (J : zMl) , k76 a1 a2 a3 a5 a6 a8 J = some r → zAt E (mw D ad g) 76 [(0, .ref (ad (0))), (1, .int a1), (2, .int a2), (3, .long a3), (5, .int a5), (6, .long a6), (8, .int a8)] [] I J) : ∀ (fuel : Nat) (a1 : Int32) (a2 : Int32) (a3 : Int64) (a5 : Int32) (a6 : Int64) (a8 : Int32) (a9 : Int32) (J : zMl) , f_X4_setForm_85 I k64 k76 fuel a1 a2 a3 a5 a6 a8 a9 J = some r → zAt E (mw D ad g) 85 [(0, .ref (ad (0))), (1, .int a1), (2, .int a2), (3, .long a3), (5, .int a5), (6, .long a6), (8, .int a8), (9, .int a9)] [] I J := by
  intro fuel
  induction fuel with
  | zero => intro a1 a2 a3 a5 a6 a8 a9 J h; rw [f_X4_setForm_85] at h; cases h
  | succ f ih =>
    intro a1 a2 a3 a5 a6 a8 a9 J h
    rw [f_X4_setForm_85] at h
    refine z_iload fx dX4_setForm_85 rfl ?_
    refine z_iload_n fx dX4_setForm_87 rfl ?_
    refine z_icmp_ge (tgt := 177) fx dX4_setForm_88 (by decide) (fun q1 => ?_) (fun q1 => ?_)
    · rw [if_pos q1] at h
      refine z_iinc (v := (a8 + 1)) fx dX4_setForm_177 rfl rfl (by decide) rfl ?_
      refine z_goto (tgt := 76) fx dX4_setForm_180 (by decide) ?_
      exact z_lv2 (hk76 a1 a2 a3 a5 a6 (a8 + 1) J h) rfl
    · rw [if_neg q1] at h
      refine z_lconst (v := 0) fx dX4_setForm_91 rfl ?_
      refine z_lstore fx dX4_setForm_92 (by decide) rfl ?_
      refine z_iconst (v := 0) fx dX4_setForm_94 rfl ?_
      refine z_istore fx dX4_setForm_95 (by decide) rfl ?_
      exact z_lv2 (w_X4_setForm_97 fx hR hr hk64 hk76 ih fu a1 a2 a3 a5 a6 a8 a9 0 0 J h) rfl
set_option maxRecDepth 100000 in
set_option maxHeartbeats 4000000 in
theorem w_X4_setForm_76 {E : zE} {D : va_G} {ad : Nat → Nat} {g : Nat → ClassId} (fx : zFX E (mw D ad g) cX4_setForm RX4 13 none) (hR : zR E = rmX4_setForm) {r : zMl} {I : zMi} (hr : zRX E (mw D ad g) none I r) {k64 : Int32 → Int32 → Int64 → Int32 → zMl → Option zMl} (hk64 : ∀ (a1 : Int32) (a2 : Int32) (a3 : Int64) (a5 : Int32) (J : zMl) , k64 a1 a2 a3 a5 J = some r → zAt E (mw D ad g) 64 [(0, .ref (ad (0))), (1, .int a1), (2, .int a2), (3, .long a3), (5, .int a5)] [] I J) : ∀ (fuel : Nat) (a1 : Int32) (a2 : Int32) (a3 : Int64) (a5 : Int32) (a6 : Int64) (a8 : Int32) (J : zMl) , f_X4_setForm_76 I k64 fuel a1 a2 a3 a5 a6 a8 J = some r → zAt E (mw D ad g) 76 [(0, .ref (ad (0))), (1, .int a1), (2, .int a2), (3, .long a3), (5, .int a5), (6, .long a6), (8, .int a8)] [] I J := by
  intro fuel
  induction fuel with
  | zero => intro a1 a2 a3 a5 a6 a8 J h; rw [f_X4_setForm_76] at h; cases h
  | succ f ih =>
    intro a1 a2 a3 a5 a6 a8 J h
    rw [f_X4_setForm_76] at h
    refine z_iload fx dX4_setForm_76 rfl ?_
    refine z_iload_n fx dX4_setForm_78 rfl ?_
    refine z_icmp_ge (tgt := 183) fx dX4_setForm_79 (by decide) (fun q1 => ?_) (fun q1 => ?_)
    · rw [if_pos q1] at h
      refine z_lload fx dX4_setForm_183 rfl ?_
      refine z_lneg fx dX4_setForm_185 ?_
      refine z_iload fx dX4_setForm_186 rfl ?_
      refine z_i2l fx dX4_setForm_188 ?_
      obtain ⟨q2, h⟩ := on h
      refine z_ldiv fx dX4_setForm_189 q2 ?_
      refine z_lstore fx dX4_setForm_190 (by decide) rfl ?_
      refine z_aload_n fx dX4_setForm_192 rfl ?_
      refine gM_form fx wf_X4_60 dX4_setForm_193 ?_
      refine z_iload_n fx dX4_setForm_196 rfl ?_
      refine z_iload fx dX4_setForm_197 rfl ?_
      refine z_isub fx dX4_setForm_199 ?_
      refine z_lload_n fx dX4_setForm_200 rfl ?_
      refine z_lload fx dX4_setForm_201 rfl ?_
      refine z_lmul fx dX4_setForm_203 ?_
      obtain ⟨q3, h⟩ := oi h
      refine m_lst fx (Nat.le_of_ble_eq_true rfl) (cfM_16 g ad) q3 dX4_setForm_204 ?_
      refine z_iconst (v := 0) fx dX4_setForm_205 rfl ?_
      refine z_istore fx dX4_setForm_206 (by decide) rfl ?_
      exact z_lv2 (w_X4_setForm_208 fx hR hr hk64 fu a1 a2 a3 a5 ((-a6) / (a5.toInt64)) 0 (wJ J (16) (a2 - a5).toNatClampNeg (a3 * ((-a6) / (a5.toInt64)))) h) rfl
    · rw [if_neg q1] at h
      refine z_iconst (v := 0) fx dX4_setForm_82 rfl ?_
      refine z_istore fx dX4_setForm_83 (by decide) rfl ?_
      exact z_lv2 (w_X4_setForm_85 fx hR hr hk64 ih fu a1 a2 a3 a5 a6 a8 0 J h) rfl
set_option maxRecDepth 100000 in
set_option maxHeartbeats 4000000 in
theorem w_X4_setForm_64 {E : zE} {D : va_G} {ad : Nat → Nat} {g : Nat → ClassId} (fx : zFX E (mw D ad g) cX4_setForm RX4 13 none) (hR : zR E = rmX4_setForm) {r : zMl} {I : zMi} (hr : zRX E (mw D ad g) none I r) : ∀ (fuel : Nat) (a1 : Int32) (a2 : Int32) (a3 : Int64) (a5 : Int32) (J : zMl) , f_X4_setForm_64 I fuel a1 a2 a3 a5 J = some r → zAt E (mw D ad g) 64 [(0, .ref (ad (0))), (1, .int a1), (2, .int a2), (3, .long a3), (5, .int a5)] [] I J := by
  intro fuel
  induction fuel with
  | zero => intro a1 a2 a3 a5 J h; rw [f_X4_setForm_64] at h; cases h
  | succ f ih =>
    intro a1 a2 a3 a5 J h
    rw [f_X4_setForm_64] at h
    refine z_iload fx dX4_setForm_64 rfl ?_
    refine z_iload_n fx dX4_setForm_66 rfl ?_
    refine z_icmp_gt (tgt := 281) fx dX4_setForm_67 (by decide) (fun q1 => ?_) (fun q1 => ?_)
    · rw [if_pos q1] at h
      cases h
      exact z_vret fx hr dX4_setForm_281
    · rw [if_neg q1] at h
      refine z_lconst (v := 0) fx dX4_setForm_70 rfl ?_
      refine z_lstore fx dX4_setForm_71 (by decide) rfl ?_
      refine z_iconst (v := 0) fx dX4_setForm_73 rfl ?_
      refine z_istore fx dX4_setForm_74 (by decide) rfl ?_
      exact z_lv2 (w_X4_setForm_76 fx hR hr ih fu a1 a2 a3 a5 0 0 J h) rfl
set_option maxRecDepth 100000 in
set_option maxHeartbeats 4000000 in
theorem w_X4_setForm_9 {E : zE} {D : va_G} {ad : Nat → Nat} {g : Nat → ClassId} (fx : zFX E (mw D ad g) cX4_setForm RX4 13 none) (hR : zR E = rmX4_setForm) {r : zMl} {I : zMi} (hr : zRX E (mw D ad g) none I r) : ∀ (fuel : Nat) (a1 : Int32) (a2 : Int32) (a3 : Int32) (J : zMl) , f_X4_setForm_9 I fuel a1 a2 a3 J = some r → zAt E (mw D ad g) 9 [(0, .ref (ad (0))), (1, .int a1), (2, .int a2), (3, .int a3)] [] I J := by
  intro fuel
  induction fuel with
  | zero => intro a1 a2 a3 J h; rw [f_X4_setForm_9] at h; cases h
  | succ f ih =>
    intro a1 a2 a3 J h
    rw [f_X4_setForm_9] at h
    refine z_iload_n fx dX4_setForm_9 rfl ?_
    refine z_sipush (v := 144) fx dX4_setForm_10 rfl ?_
    refine z_icmp_ge (tgt := 40) fx dX4_setForm_13 (by decide) (fun q1 => ?_) (fun q1 => ?_)
    · rw [if_pos q1] at h
      refine z_iload_n fx dX4_setForm_40 rfl ?_
      refine z_iconst (v := 2) fx dX4_setForm_41 rfl ?_
      refine z_irem fx dX4_setForm_42 (by decide) ?_
      refine z_if_ne (tgt := 50) fx dX4_setForm_43 (by decide) (fun q2 => ?_) (fun q2 => ?_)
      · rw [if_neg q2] at h
        refine z_ldc2 fx wc_X4_253 dX4_setForm_50 ?_
        refine z_lstore_n fx dX4_setForm_53 (by decide) rfl ?_
        refine z_aload_n fx dX4_setForm_54 rfl ?_
        refine gM_form fx wf_X4_60 dX4_setForm_55 ?_
        refine z_iload_n fx dX4_setForm_58 rfl ?_
        refine z_lload_n fx dX4_setForm_59 rfl ?_
        obtain ⟨q3, h⟩ := oi h
        refine m_lst fx (Nat.le_of_ble_eq_true rfl) (cfM_16 g ad) q3 dX4_setForm_60 ?_
        refine z_iconst (v := 1) fx dX4_setForm_61 rfl ?_
        refine z_istore fx dX4_setForm_62 (by decide) rfl ?_
        exact z_lv2 (w_X4_setForm_64 fx hR hr fu a1 a2 (-1) 1 (wJ J (16) a2.toNatClampNeg (-1)) h) rfl
      · rw [if_pos q2] at h
        refine z_lconst (v := 1) fx dX4_setForm_46 rfl ?_
        refine z_goto (tgt := 53) fx dX4_setForm_47 (by decide) ?_
        refine z_lstore_n fx dX4_setForm_53 (by decide) rfl ?_
        refine z_aload_n fx dX4_setForm_54 rfl ?_
        refine gM_form fx wf_X4_60 dX4_setForm_55 ?_
        refine z_iload_n fx dX4_setForm_58 rfl ?_
        refine z_lload_n fx dX4_setForm_59 rfl ?_
        obtain ⟨q4, h⟩ := oi h
        refine m_lst fx (Nat.le_of_ble_eq_true rfl) (cfM_16 g ad) q4 dX4_setForm_60 ?_
        refine z_iconst (v := 1) fx dX4_setForm_61 rfl ?_
        refine z_istore fx dX4_setForm_62 (by decide) rfl ?_
        exact z_lv2 (w_X4_setForm_64 fx hR hr fu a1 a2 1 1 (wJ J (16) a2.toNatClampNeg 1) h) rfl
    · rw [if_neg q1] at h
      refine z_aload_n fx dX4_setForm_16 rfl ?_
      refine gM_power fx wf_X4_54 dX4_setForm_17 ?_
      refine z_iload_n fx dX4_setForm_20 rfl ?_
      refine z_iload_n fx dX4_setForm_21 rfl ?_
      refine z_bipush (v := 13) fx dX4_setForm_22 rfl ?_
      refine z_irem fx dX4_setForm_24 (by decide) ?_
      refine z_if_ne (tgt := 32) fx dX4_setForm_25 (by decide) (fun q5 => ?_) (fun q5 => ?_)
      · rw [if_neg q5] at h
        refine z_lconst (v := 0) fx dX4_setForm_32 rfl ?_
        obtain ⟨q6, h⟩ := oi h
        refine m_lst fx (Nat.le_of_ble_eq_true rfl) (cfM_14 g ad) q6 dX4_setForm_33 ?_
        refine z_iinc (v := (a3 + 1)) fx dX4_setForm_34 rfl rfl (by decide) rfl ?_
        refine z_goto (tgt := 9) fx dX4_setForm_37 (by decide) ?_
        exact z_lv2 (ih a1 a2 (a3 + 1) (wJ J (14) a3.toNatClampNeg 0) h) rfl
      · rw [if_pos q5] at h
        refine z_lconst (v := 1) fx dX4_setForm_28 rfl ?_
        refine z_goto (tgt := 33) fx dX4_setForm_29 (by decide) ?_
        obtain ⟨q7, h⟩ := oi h
        refine m_lst fx (Nat.le_of_ble_eq_true rfl) (cfM_14 g ad) q7 dX4_setForm_33 ?_
        refine z_iinc (v := (a3 + 1)) fx dX4_setForm_34 rfl rfl (by decide) rfl ?_
        refine z_goto (tgt := 9) fx dX4_setForm_37 (by decide) ?_
        exact z_lv2 (ih a1 a2 (a3 + 1) (wJ J (14) a3.toNatClampNeg 1) h) rfl
set_option maxRecDepth 100000 in
set_option maxHeartbeats 4000000 in
theorem c_X4_setForm (l : Launch) (D : va_G) (ad : Nat → Nat) (g : Nat → ClassId) (a1 : Int32) (I : zMi) (J : zMl) {r : zMl} (h : f_X4_setForm a1 I J = some r) : zCM (mw D ad g) l yX4_setForm cX4_setForm 13 none rmX4_setForm [.ref (ad (0)), .int a1] I J none I r := by
  refine zCM.of (by decide) (Nat.le_of_ble_eq_true rfl) (fun E hl hR fx hr => ?_)
  subst hl
  rw [f_X4_setForm] at h
  refine z_aload_n fx dX4_setForm_0 rfl ?_
  refine gM_wide fx wf_X4_26 dX4_setForm_1 ?_
  refine z_iload_n fx dX4_setForm_4 rfl ?_
  obtain ⟨q1, h⟩ := oi h
  refine m_ild fx (Nat.le_of_ble_eq_true rfl) (cfM_5 g ad) q1 dX4_setForm_5 ?_
  refine z_istore_n fx dX4_setForm_6 (by decide) rfl ?_
  refine z_iconst (v := 0) fx dX4_setForm_7 rfl ?_
  refine z_istore_n fx dX4_setForm_8 (by decide) rfl ?_
  exact z_lv2 (w_X4_setForm_9 fx hR hr fu a1 (I (5) a1.toNatClampNeg) 0 J h) rfl
set_option maxRecDepth 100000 in
set_option maxHeartbeats 4000000 in
theorem w_X4_divides_60 {E : zE} {D : va_G} {ad : Nat → Nat} {g : Nat → ClassId} (fx : zFX E (mw D ad g) cX4_divides RX4 6 (some .boolean)) (hR : zR E = rmX4_divides) {r : Int32 × zMl} {I : zMi} (hr : zRX E (mw D ad g) (some (.int r.1)) I r.2) : ∀ (fuel : Nat) (a1 : Int32) (a5 : Int32) (J : zMl) , f_X4_divides_60 fuel a1 a5 J = some r → zAt E (mw D ad g) 60 [(0, .ref (ad (0))), (1, .int a1), (5, .int a5)] [] I J := by
  intro fuel
  induction fuel with
  | zero => intro a1 a5 J h; rw [f_X4_divides_60] at h; cases h
  | succ f ih =>
    intro a1 a5 J h
    rw [f_X4_divides_60] at h
    refine z_iload fx dX4_divides_60 rfl ?_
    refine z_iload_n fx dX4_divides_62 rfl ?_
    refine z_icmp_ge (tgt := 86) fx dX4_divides_63 (by decide) (fun q1 => ?_) (fun q1 => ?_)
    · rw [if_pos q1] at h
      refine z_iconst (v := 1) fx dX4_divides_86 rfl ?_
      cases h
      exact z_zret fx rfl hr dX4_divides_87
    · rw [if_neg q1] at h
      refine z_aload_n fx dX4_divides_66 rfl ?_
      refine gM_form fx wf_X4_60 dX4_divides_67 ?_
      refine z_iload fx dX4_divides_70 rfl ?_
      refine z_aload_n fx dX4_divides_72 rfl ?_
      refine gM_quotient fx wf_X4_63 dX4_divides_73 ?_
      refine z_iload fx dX4_divides_76 rfl ?_
      obtain ⟨q2, h⟩ := oi h
      refine m_lld fx (Nat.le_of_ble_eq_true rfl) (cfM_17 g ad) q2 dX4_divides_78 ?_
      refine m_lst fx (Nat.le_of_ble_eq_true rfl) (cfM_16 g ad) q2 dX4_divides_79 ?_
      refine z_iinc (v := (a5 + 1)) fx dX4_divides_80 rfl rfl (by decide) rfl ?_
      refine z_goto (tgt := 60) fx dX4_divides_83 (by decide) ?_
      exact z_lv2 (ih a1 (a5 + 1) (wJ J (16) a5.toNatClampNeg (J (17) a5.toNatClampNeg)) h) rfl
set_option maxRecDepth 100000 in
set_option maxHeartbeats 4000000 in
theorem w_X4_divides_5 {E : zE} {D : va_G} {ad : Nat → Nat} {g : Nat → ClassId} (fx : zFX E (mw D ad g) cX4_divides RX4 6 (some .boolean)) (hR : zR E = rmX4_divides) {r : Int32 × zMl} {I : zMi} (hr : zRX E (mw D ad g) (some (.int r.1)) I r.2) : ∀ (fuel : Nat) (a1 : Int32) (a2 : Int32) (a3 : Int64) (a5 : Int32) (J : zMl) , f_X4_divides_5 fuel a1 a2 a3 a5 J = some r → zAt E (mw D ad g) 5 [(0, .ref (ad (0))), (1, .int a1), (2, .int a2), (3, .long a3), (5, .int a5)] [] I J := by
  intro fuel
  induction fuel with
  | zero => intro a1 a2 a3 a5 J h; rw [f_X4_divides_5] at h; cases h
  | succ f ih =>
    intro a1 a2 a3 a5 J h
    rw [f_X4_divides_5] at h
    refine z_iload fx dX4_divides_5 rfl ?_
    refine z_if_le (tgt := 39) fx dX4_divides_7 (by decide) (fun q1 => ?_) (fun q1 => ?_)
    · rw [if_pos q1] at h
      refine z_aload_n fx dX4_divides_39 rfl ?_
      refine gM_form fx wf_X4_60 dX4_divides_40 ?_
      refine z_iconst (v := 0) fx dX4_divides_43 rfl ?_
      refine m_lld fx (Nat.le_of_ble_eq_true rfl) (cfM_16 g ad) (by decide) dX4_divides_44 ?_
      refine z_lload_n fx dX4_divides_45 rfl ?_
      refine z_iload_n fx dX4_divides_46 rfl ?_
      refine z_i2l fx dX4_divides_47 ?_
      refine z_lmul fx dX4_divides_48 ?_
      refine z_ladd fx dX4_divides_49 ?_
      refine z_lconst (v := 0) fx dX4_divides_50 rfl ?_
      refine z_lcmp fx dX4_divides_51 ?_
      refine z_if_eq (tgt := 57) fx dX4_divides_52 (by decide) (fun q2 => ?_) (fun q2 => ?_)
      · rw [if_pos q2] at h
        refine z_iconst (v := 0) fx dX4_divides_57 rfl ?_
        refine z_istore fx dX4_divides_58 (by decide) rfl ?_
        exact z_lv2 (w_X4_divides_60 fx hR hr fu a1 0 J h) rfl
      · rw [if_neg q2] at h
        refine z_iconst (v := 0) fx dX4_divides_55 rfl ?_
        cases h
        exact z_zret fx rfl hr dX4_divides_56
    · rw [if_neg q1] at h
      refine z_aload_n fx dX4_divides_10 rfl ?_
      refine gM_form fx wf_X4_60 dX4_divides_11 ?_
      refine z_iload fx dX4_divides_14 rfl ?_
      obtain ⟨q3, h⟩ := oi h
      refine m_lld fx (Nat.le_of_ble_eq_true rfl) (cfM_16 g ad) q3 dX4_divides_16 ?_
      refine z_lload_n fx dX4_divides_17 rfl ?_
      refine z_iload_n fx dX4_divides_18 rfl ?_
      refine z_i2l fx dX4_divides_19 ?_
      refine z_lmul fx dX4_divides_20 ?_
      refine z_ladd fx dX4_divides_21 ?_
      refine z_lstore_n fx dX4_divides_22 (by decide) rfl ?_
      refine z_aload_n fx dX4_divides_23 rfl ?_
      refine gM_quotient fx wf_X4_63 dX4_divides_24 ?_
      refine z_iload fx dX4_divides_27 rfl ?_
      refine z_iconst (v := 1) fx dX4_divides_29 rfl ?_
      refine z_isub fx dX4_divides_30 ?_
      refine z_lload_n fx dX4_divides_31 rfl ?_
      obtain ⟨q4, h⟩ := oi h
      refine m_lst fx (Nat.le_of_ble_eq_true rfl) (cfM_17 g ad) q4 dX4_divides_32 ?_
      refine z_iinc (v := (a5 + (-1))) fx dX4_divides_33 rfl rfl (by decide) rfl ?_
      refine z_goto (tgt := 5) fx dX4_divides_36 (by decide) ?_
      exact z_lv2 (ih a1 a2 ((J (16) a5.toNatClampNeg) + (a3 * (a2.toInt64))) (a5 + (-1)) (wJ J (17) (a5 - 1).toNatClampNeg ((J (16) a5.toNatClampNeg) + (a3 * (a2.toInt64)))) h) rfl
set_option maxRecDepth 100000 in
set_option maxHeartbeats 4000000 in
theorem c_X4_divides (l : Launch) (D : va_G) (ad : Nat → Nat) (g : Nat → ClassId) (a1 : Int32) (a2 : Int32) (I : zMi) (J : zMl) {r : Int32 × zMl} (h : f_X4_divides a1 a2 J = some r) : zCM (mw D ad g) l yX4_divides cX4_divides 6 (some .boolean) rmX4_divides [.ref (ad (0)), .int a1, .int a2] I J (some (.int r.1)) I r.2 := by
  refine zCM.of (by decide) (Nat.le_of_ble_eq_true rfl) (fun E hl hR fx hr => ?_)
  subst hl
  rw [f_X4_divides] at h
  refine z_lconst (v := 0) fx dX4_divides_0 rfl ?_
  refine z_lstore_n fx dX4_divides_1 (by decide) rfl ?_
  refine z_iload_n fx dX4_divides_2 rfl ?_
  refine z_istore fx dX4_divides_3 (by decide) rfl ?_
  exact z_lv2 (w_X4_divides_5 fx hR hr fu a1 a2 0 a1 J h) rfl
set_option maxRecDepth 100000 in
set_option maxHeartbeats 4000000 in
theorem w_X4_own_41 {E : zE} {D : va_G} {ad : Nat → Nat} {g : Nat → ClassId} (fx : zFX E (mw D ad g) cX4_own RX4 6 (some .int)) (hR : zR E = rmX4_own) {r : Int32 × zMi × zMl} (hr : zRX E (mw D ad g) (some (.int r.1)) r.2.1 r.2.2) : ∀ (fuel : Nat) (a2 : Int32) (a4 : Int32) (a5 : Int32) (I : zMi) (J : zMl) , f_X4_own_41 fuel a2 a4 a5 I J = some r → zAt E (mw D ad g) 41 [(0, .ref (ad (0))), (2, .int a2), (4, .int a4), (5, .int a5)] [] I J := by
  intro fuel
  induction fuel with
  | zero => intro a2 a4 a5 I J h; rw [f_X4_own_41] at h; cases h
  | succ f ih =>
    intro a2 a4 a5 I J h
    rw [f_X4_own_41] at h
    refine z_iload fx dX4_own_41 rfl ?_
    refine z_if_le (tgt := 65) fx dX4_own_43 (by decide) (fun q1 => ?_) (fun q1 => ?_)
    · rw [if_pos q1] at h
      refine z_iload fx dX4_own_65 rfl ?_
      cases h
      exact z_iret fx hr dX4_own_67
    · rw [if_neg q1] at h
      refine z_aload_n fx dX4_own_46 rfl ?_
      refine z_iload fx dX4_own_47 rfl ?_
      refine z_iload_n fx dX4_own_49 rfl ?_
      obtain ⟨x2, ex2, h⟩ := ob h
      refine zVi (k := 0) (rest := []) fx hR (c_X4_divides (zl E) D ad g a4 a2 I J ex2) rcM mvX4_divides wm_X4_258 dX4_own_50 rfl ⟨rfl, rfl⟩ rfl rfl rfl ?_
      refine z_if_eq (tgt := 65) fx dX4_own_53 (by decide) (fun q3 => ?_) (fun q3 => ?_)
      · rw [if_pos q3] at h
        refine z_iload fx dX4_own_65 rfl ?_
        cases h
        exact z_iret fx hr dX4_own_67
      · rw [if_neg q3] at h
        refine z_iinc (v := (a4 + (-1))) fx dX4_own_56 rfl rfl (by decide) rfl ?_
        refine z_iinc (v := (a5 + 1)) fx dX4_own_59 rfl rfl (by decide) rfl ?_
        refine z_goto (tgt := 41) fx dX4_own_62 (by decide) ?_
        exact z_lv2 (ih a2 (a4 + (-1)) (a5 + 1) I x2.2 h) rfl
set_option maxRecDepth 100000 in
set_option maxHeartbeats 4000000 in
theorem c_X4_own (l : Launch) (D : va_G) (ad : Nat → Nat) (g : Nat → ClassId) (a1 : Int32) (a2 : Int32) (I : zMi) (J : zMl) {r : Int32 × zMi × zMl} (h : f_X4_own a1 a2 I J = some r) : zCM (mw D ad g) l yX4_own cX4_own 6 (some .int) rmX4_own [.ref (ad (0)), .int a1, .int a2] I J (some (.int r.1)) r.2.1 r.2.2 := by
  refine zCM.of (by decide) (Nat.le_of_ble_eq_true rfl) (fun E hl hR fx hr => ?_)
  subst hl
  rw [f_X4_own] at h
  refine z_iload_n fx dX4_own_0 rfl ?_
  refine z_bipush (v := (-12)) fx dX4_own_1 rfl ?_
  refine z_bipush (v := 12) fx dX4_own_3 rfl ?_
  refine zSi (rest := []) fx hR (c_X4_in (zl E) D ad g a2 (-12) 12 I J rfl) mvX4_in wm_X4_73 dX4_own_5 rfl ⟨rfl, rfl⟩ rfl rfl rfl ?_
  refine z_if_ne (tgt := 13) fx dX4_own_8 (by decide) (fun q1 => ?_) (fun q1 => ?_)
  · rw [if_neg q1] at h
    refine z_aload_n fx dX4_own_13 rfl ?_
    refine z_iload_n fx dX4_own_14 rfl ?_
    obtain ⟨x2, ex2, h⟩ := ob h
    refine zVi (k := 0) (rest := []) fx hR (c_X4_askedTable (zl E) D ad g a1 I J ex2) rcM mvX4_askedTable wm_X4_143 dX4_own_15 rfl ⟨rfl, rfl⟩ rfl rfl rfl ?_
    refine z_istore_n fx dX4_own_18 (by decide) rfl ?_
    refine z_iload_n fx dX4_own_19 rfl ?_
    refine z_if_ge (tgt := 25) fx dX4_own_20 (by decide) (fun q3 => ?_) (fun q3 => ?_)
    · rw [if_pos q3] at h
      refine z_aload_n fx dX4_own_25 rfl ?_
      refine z_iload_n fx dX4_own_26 rfl ?_
      obtain ⟨x4, ex4, h⟩ := ob h
      refine zVv (k := 0) (rest := []) fx hR (c_X4_setForm (zl E) D ad g a1 x2.2 J ex4) rcM mvX4_setForm wm_X4_255 dX4_own_27 rfl ⟨rfl, rfl⟩ rfl rfl rfl ?_
      refine z_aload_n fx dX4_own_30 rfl ?_
      refine gM_wide fx wf_X4_26 dX4_own_31 ?_
      refine z_iload_n fx dX4_own_34 rfl ?_
      obtain ⟨q5, h⟩ := oi h
      refine m_ild fx (Nat.le_of_ble_eq_true rfl) (cfM_5 g ad) q5 dX4_own_35 ?_
      refine z_istore fx dX4_own_36 (by decide) rfl ?_
      refine z_iconst (v := 0) fx dX4_own_38 rfl ?_
      refine z_istore fx dX4_own_39 (by decide) rfl ?_
      exact z_lv2 (w_X4_own_41 fx hR hr fu a2 (x2.2 (5) a1.toNatClampNeg) 0 x2.2 x4 h) rfl
    · rw [if_neg q3] at h
      refine z_iload_n fx dX4_own_23 rfl ?_
      cases h
      exact z_iret fx hr dX4_own_24
  · rw [if_pos q1] at h
    refine z_iconst (v := (-1)) fx dX4_own_11 rfl ?_
    cases h
    exact z_iret fx hr dX4_own_12
set_option maxRecDepth 100000 in
set_option maxHeartbeats 4000000 in
theorem c_X4_form (l : Launch) (D : va_G) (ad : Nat → Nat) (g : Nat → ClassId) (a1 : Int32) (a2 : Int32) (I : zMi) (J : zMl) {r : Int32 × zMi × zMl} (h : f_X4_form a1 a2 I J = some r) : zCM (mw D ad g) l yX4_form cX4_form 4 (some .int) rmX4_form [.ref (ad (0)), .int a1, .int a2] I J (some (.int r.1)) r.2.1 r.2.2 := by
  refine zCM.of (by decide) (Nat.le_of_ble_eq_true rfl) (fun E hl hR fx hr => ?_)
  subst hl
  rw [f_X4_form] at h
  refine z_iload_n fx dX4_form_0 rfl ?_
  refine z_if_ge (tgt := 6) fx dX4_form_1 (by decide) (fun q1 => ?_) (fun q1 => ?_)
  · rw [if_pos q1] at h
    refine z_aload_n fx dX4_form_6 rfl ?_
    refine z_iload_n fx dX4_form_7 rfl ?_
    obtain ⟨x2, ex2, h⟩ := ob h
    refine zVi (k := 0) (rest := []) fx hR (c_X4_askedTable (zl E) D ad g a1 I J ex2) rcM mvX4_askedTable wm_X4_143 dX4_form_8 rfl ⟨rfl, rfl⟩ rfl rfl rfl ?_
    refine z_istore_n fx dX4_form_11 (by decide) rfl ?_
    refine z_iload_n fx dX4_form_12 rfl ?_
    refine z_if_ge (tgt := 18) fx dX4_form_13 (by decide) (fun q3 => ?_) (fun q3 => ?_)
    · rw [if_pos q3] at h
      refine z_iload_n fx dX4_form_18 rfl ?_
      refine z_aload_n fx dX4_form_19 rfl ?_
      refine gM_wide fx wf_X4_26 dX4_form_20 ?_
      refine z_iload_n fx dX4_form_23 rfl ?_
      obtain ⟨q4, h⟩ := oi h
      refine m_ild fx (Nat.le_of_ble_eq_true rfl) (cfM_5 g ad) q4 dX4_form_24 ?_
      refine z_icmp_le (tgt := 34) fx dX4_form_25 (by decide) (fun q5 => ?_) (fun q5 => ?_)
      · rw [if_pos q5] at h
        refine z_aload_n fx dX4_form_34 rfl ?_
        refine z_iload_n fx dX4_form_35 rfl ?_
        obtain ⟨x6, ex6, h⟩ := ob h
        refine zVv (k := 0) (rest := []) fx hR (c_X4_setForm (zl E) D ad g a1 x2.2 J ex6) rcM mvX4_setForm wm_X4_255 dX4_form_36 rfl ⟨rfl, rfl⟩ rfl rfl rfl ?_
        refine z_aload_n fx dX4_form_39 rfl ?_
        refine z_aload_n fx dX4_form_40 rfl ?_
        refine gM_form fx wf_X4_60 dX4_form_41 ?_
        refine z_iload_n fx dX4_form_44 rfl ?_
        obtain ⟨q7, h⟩ := oi h
        refine m_lld fx (Nat.le_of_ble_eq_true rfl) (cfM_16 g ad) q7 dX4_form_45 ?_
        refine pM_worthTold fx wf_X4_193 dX4_form_46 ?_
        refine z_iconst (v := 1) fx dX4_form_49 rfl ?_
        cases h
        exact z_iret fx hr dX4_form_50
      · rw [if_neg q5] at h
        refine z_aload_n fx dX4_form_28 rfl ?_
        refine z_iconst (v := 2) fx dX4_form_29 rfl ?_
        obtain ⟨x8, ex8, h⟩ := ob h
        refine zVi (k := 0) (rest := []) fx hR (c_X4_meets (zl E) D ad g 2 x2.2 J ex8) rcM mvX4_meets wm_X4_81 dX4_form_30 rfl ⟨rfl, rfl⟩ rfl rfl rfl ?_
        cases h
        exact z_iret fx hr dX4_form_33
    · rw [if_neg q3] at h
      refine z_iload_n fx dX4_form_16 rfl ?_
      cases h
      exact z_iret fx hr dX4_form_17
  · rw [if_neg q1] at h
    refine z_iconst (v := (-1)) fx dX4_form_4 rfl ?_
    cases h
    exact z_iret fx hr dX4_form_5
set_option maxRecDepth 100000 in
set_option maxHeartbeats 4000000 in
theorem w_X4_weight_60 {E : zE} {D : va_G} {ad : Nat → Nat} {g : Nat → ClassId} (fx : zFX E (mw D ad g) cX4_weight RX4 10 (some .int)) (hR : zR E = rmX4_weight) {r : Int32 × zMi × zMl} (hr : zRX E (mw D ad g) (some (.int r.1)) r.2.1 r.2.2) : ∀ (fuel : Nat) (a1 : Int32) (a3 : Int32) (a4 : Int64) (a6 : Int64) (I : zMi) (J : zMl) , f_X4_weight_60 fuel a1 a3 a4 a6 I J = some r → zAt E (mw D ad g) 60 [(0, .ref (ad (0))), (1, .int a1), (3, .int a3), (4, .long a4), (6, .long a6)] [] I J := by
  intro fuel
  induction fuel with
  | zero => intro a1 a3 a4 a6 I J h; rw [f_X4_weight_60] at h; cases h
  | succ f ih =>
    intro a1 a3 a4 a6 I J h
    rw [f_X4_weight_60] at h
    refine z_lload fx dX4_weight_60 rfl ?_
    refine z_lconst (v := 0) fx dX4_weight_62 rfl ?_
    refine z_lcmp fx dX4_weight_63 ?_
    refine z_if_eq (tgt := 85) fx dX4_weight_64 (by decide) (fun q1 => ?_) (fun q1 => ?_)
    · rw [if_pos q1] at h
      refine z_aload_n fx dX4_weight_85 rfl ?_
      refine z_iload_n fx dX4_weight_86 rfl ?_
      refine z_i2l fx dX4_weight_87 ?_
      refine z_lload fx dX4_weight_88 rfl ?_
      obtain ⟨q2, h⟩ := on h
      refine z_ldiv fx dX4_weight_90 q2 ?_
      refine pM_upper fx wf_X4_261 dX4_weight_91 ?_
      refine z_aload_n fx dX4_weight_94 rfl ?_
      refine z_aload_n fx dX4_weight_95 rfl ?_
      refine gM_wide fx wf_X4_26 dX4_weight_96 ?_
      refine z_iload_n fx dX4_weight_99 rfl ?_
      obtain ⟨q3, h⟩ := oi h
      refine m_ild fx (Nat.le_of_ble_eq_true rfl) (cfM_5 g ad) q3 dX4_weight_100 ?_
      refine z_i2l fx dX4_weight_101 ?_
      refine z_lload fx dX4_weight_102 rfl ?_
      refine z_ldiv fx dX4_weight_104 q2 ?_
      refine pM_lower fx wf_X4_13 dX4_weight_105 ?_
      refine z_iconst (v := 1) fx dX4_weight_108 rfl ?_
      cases h
      exact z_iret fx hr dX4_weight_109
    · rw [if_neg q1] at h
      refine z_lload fx dX4_weight_67 rfl ?_
      refine z_lload fx dX4_weight_69 rfl ?_
      obtain ⟨q4, h⟩ := on h
      refine z_lrem fx dX4_weight_71 q4 ?_
      refine z_lstore fx dX4_weight_72 (by decide) rfl ?_
      refine z_lload fx dX4_weight_74 rfl ?_
      refine z_lstore fx dX4_weight_76 (by decide) rfl ?_
      refine z_lload fx dX4_weight_78 rfl ?_
      refine z_lstore fx dX4_weight_80 (by decide) rfl ?_
      refine z_goto (tgt := 60) fx dX4_weight_82 (by decide) ?_
      exact z_lv2 (ih a1 a3 a6 (a4 - a4 / a6 * a6) I J h) rfl
set_option maxRecDepth 100000 in
set_option maxHeartbeats 4000000 in
theorem w_X4_weight_17 {E : zE} {D : va_G} {ad : Nat → Nat} {g : Nat → ClassId} (fx : zFX E (mw D ad g) cX4_weight RX4 10 (some .int)) (hR : zR E = rmX4_weight) {r : Int32 × zMi × zMl} (hr : zRX E (mw D ad g) (some (.int r.1)) r.2.1 r.2.2) : ∀ (fuel : Nat) (a1 : Int32) (a3 : Int32) (a4 : Int32) (I : zMi) (J : zMl) , f_X4_weight_17 fuel a1 a3 a4 I J = some r → zAt E (mw D ad g) 17 [(0, .ref (ad (0))), (1, .int a1), (3, .int a3), (4, .int a4)] [] I J := by
  intro fuel
  induction fuel with
  | zero => intro a1 a3 a4 I J h; rw [f_X4_weight_17] at h; cases h
  | succ f ih =>
    intro a1 a3 a4 I J h
    rw [f_X4_weight_17] at h
    refine z_iload fx dX4_weight_17 rfl ?_
    refine z_aload_n fx dX4_weight_19 rfl ?_
    refine gM_wide fx wf_X4_26 dX4_weight_20 ?_
    refine z_iload_n fx dX4_weight_23 rfl ?_
    obtain ⟨q1, h⟩ := oi h
    refine m_ild fx (Nat.le_of_ble_eq_true rfl) (cfM_5 g ad) q1 dX4_weight_24 ?_
    refine z_icmp_ge (tgt := 44) fx dX4_weight_25 (by decide) (fun q2 => ?_) (fun q2 => ?_)
    · rw [if_pos q2] at h
      refine z_iload_n fx dX4_weight_44 rfl ?_
      refine zSi (rest := []) fx hR (c_X4_abs (zl E) D ad g a3 I J rfl) mvX4_abs wm_X4_177 dX4_weight_45 rfl ⟨rfl, rfl⟩ rfl rfl rfl ?_
      refine z_i2l fx dX4_weight_48 ?_
      refine z_lstore fx dX4_weight_49 (by decide) rfl ?_
      refine z_aload_n fx dX4_weight_51 rfl ?_
      refine gM_wide fx wf_X4_26 dX4_weight_52 ?_
      refine z_iload_n fx dX4_weight_55 rfl ?_
      refine m_ild fx (Nat.le_of_ble_eq_true rfl) (cfM_5 g ad) q1 dX4_weight_56 ?_
      refine z_i2l fx dX4_weight_57 ?_
      refine z_lstore fx dX4_weight_58 (by decide) rfl ?_
      exact z_lv2 (w_X4_weight_60 fx hR hr fu a1 a3 ((f_X4_abs a3).toInt64) ((I (5) a1.toNatClampNeg).toInt64) I J h) rfl
    · rw [if_neg q2] at h
      refine z_iload_n fx dX4_weight_28 rfl ?_
      refine z_aload_n fx dX4_weight_29 rfl ?_
      refine z_iload_n fx dX4_weight_30 rfl ?_
      refine z_iload fx dX4_weight_31 rfl ?_
      obtain ⟨x3, ex3, h⟩ := ob h
      refine zVi (k := 0) (rest := [.int a3]) fx hR (c_X4_rowSum (zl E) D ad g a1 a4 I J ex3) rcM mvX4_rowSum wm_X4_159 dX4_weight_33 rfl ⟨rfl, rfl⟩ rfl rfl rfl ?_
      refine z_iadd fx dX4_weight_36 ?_
      refine z_istore_n fx dX4_weight_37 (by decide) rfl ?_
      refine z_iinc (v := (a4 + 1)) fx dX4_weight_38 rfl rfl (by decide) rfl ?_
      refine z_goto (tgt := 17) fx dX4_weight_41 (by decide) ?_
      exact z_lv2 (ih a1 (a3 + x3) (a4 + 1) I J h) rfl
set_option maxRecDepth 100000 in
set_option maxHeartbeats 4000000 in
theorem c_X4_weight (l : Launch) (D : va_G) (ad : Nat → Nat) (g : Nat → ClassId) (a1 : Int32) (I : zMi) (J : zMl) {r : Int32 × zMi × zMl} (h : f_X4_weight a1 I J = some r) : zCM (mw D ad g) l yX4_weight cX4_weight 10 (some .int) rmX4_weight [.ref (ad (0)), .int a1] I J (some (.int r.1)) r.2.1 r.2.2 := by
  refine zCM.of (by decide) (Nat.le_of_ble_eq_true rfl) (fun E hl hR fx hr => ?_)
  subst hl
  rw [f_X4_weight] at h
  refine z_aload_n fx dX4_weight_0 rfl ?_
  refine z_iload_n fx dX4_weight_1 rfl ?_
  obtain ⟨x1, ex1, h⟩ := ob h
  refine zVi (k := 0) (rest := []) fx hR (c_X4_askedTable (zl E) D ad g a1 I J ex1) rcM mvX4_askedTable wm_X4_143 dX4_weight_2 rfl ⟨rfl, rfl⟩ rfl rfl rfl ?_
  refine z_istore_n fx dX4_weight_5 (by decide) rfl ?_
  refine z_iload_n fx dX4_weight_6 rfl ?_
  refine z_if_ge (tgt := 12) fx dX4_weight_7 (by decide) (fun q2 => ?_) (fun q2 => ?_)
  · rw [if_pos q2] at h
    refine z_iconst (v := 0) fx dX4_weight_12 rfl ?_
    refine z_istore_n fx dX4_weight_13 (by decide) rfl ?_
    refine z_iconst (v := 0) fx dX4_weight_14 rfl ?_
    refine z_istore fx dX4_weight_15 (by decide) rfl ?_
    exact z_lv2 (w_X4_weight_17 fx hR hr fu a1 0 0 x1.2 J h) rfl
  · rw [if_neg q2] at h
    refine z_iload_n fx dX4_weight_10 rfl ?_
    cases h
    exact z_iret fx hr dX4_weight_11
set_option maxRecDepth 100000 in
set_option maxHeartbeats 4000000 in
theorem c_X4_worthTold (l : Launch) (D : va_G) (ad : Nat → Nat) (g : Nat → ClassId) (I : zMi) (J : zMl) {r : Int64} (h : f_X4_worthTold J = r) : zCM (mw D ad g) l yX4_worthTold cX4_worthTold 1 (some .long) rmX4_worthTold [.ref (ad (0))] I J (some (.long r)) I J := by
  refine zCM.of (by decide) (Nat.le_of_ble_eq_true rfl) (fun E hl hR fx hr => ?_)
  subst hl
  rw [f_X4_worthTold] at h
  refine z_aload_n fx dX4_worthTold_0 rfl ?_
  refine gM_worthTold fx wf_X4_193 dX4_worthTold_1 ?_
  subst h
  exact z_lret fx hr dX4_worthTold_4
set_option maxRecDepth 100000 in
set_option maxHeartbeats 4000000 in
theorem c_X4_asked (l : Launch) (D : va_G) (ad : Nat → Nat) (g : Nat → ClassId) (I : zMi) (J : zMl) {r : Int32} (h : f_X4_asked I = r) : zCM (mw D ad g) l yX4_asked cX4_asked 1 (some .int) rmX4_asked [.ref (ad (0))] I J (some (.int r)) I J := by
  refine zCM.of (by decide) (Nat.le_of_ble_eq_true rfl) (fun E hl hR fx hr => ?_)
  subst hl
  rw [f_X4_asked] at h
  refine z_aload_n fx dX4_asked_0 rfl ?_
  refine gM_asked fx wf_X4_70 dX4_asked_1 ?_
  subst h
  exact z_iret fx hr dX4_asked_4
set_option maxRecDepth 100000 in
set_option maxHeartbeats 4000000 in
theorem c_X4_upper (l : Launch) (D : va_G) (ad : Nat → Nat) (g : Nat → ClassId) (I : zMi) (J : zMl) {r : Int64} (h : f_X4_upper J = r) : zCM (mw D ad g) l yX4_upper cX4_upper 1 (some .long) rmX4_upper [.ref (ad (0))] I J (some (.long r)) I J := by
  refine zCM.of (by decide) (Nat.le_of_ble_eq_true rfl) (fun E hl hR fx hr => ?_)
  subst hl
  rw [f_X4_upper] at h
  refine z_aload_n fx dX4_upper_0 rfl ?_
  refine gM_upper fx wf_X4_261 dX4_upper_1 ?_
  subst h
  exact z_lret fx hr dX4_upper_4
set_option maxRecDepth 100000 in
set_option maxHeartbeats 4000000 in
theorem c_X4_lower (l : Launch) (D : va_G) (ad : Nat → Nat) (g : Nat → ClassId) (I : zMi) (J : zMl) {r : Int64} (h : f_X4_lower J = r) : zCM (mw D ad g) l yX4_lower cX4_lower 1 (some .long) rmX4_lower [.ref (ad (0))] I J (some (.long r)) I J := by
  refine zCM.of (by decide) (Nat.le_of_ble_eq_true rfl) (fun E hl hR fx hr => ?_)
  subst hl
  rw [f_X4_lower] at h
  refine z_aload_n fx dX4_lower_0 rfl ?_
  refine gM_lower fx wf_X4_13 dX4_lower_1 ?_
  subst h
  exact z_lret fx hr dX4_lower_4
set_option maxRecDepth 100000 in
set_option maxHeartbeats 4000000 in
theorem w_X4_count_86 {E : zE} {D : va_G} {ad : Nat → Nat} {g : Nat → ClassId} (fx : zFX E (mw D ad g) cX4_count RX4 5 (some .int)) (hR : zR E = rmX4_count) {r : Int32} {I : zMi} {J : zMl} (hr : zRX E (mw D ad g) (some (.int r)) I J) {k39 : Int32 → Int32 → Int32 → Option Int32} (hk39 : ∀ (a1 : Int32) (a2 : Int32) (a3 : Int32), k39 a1 a2 a3 = some r → zAt E (mw D ad g) 39 [(0, .ref (ad (0))), (1, .int a1), (2, .int a2), (3, .int a3)] [] I J) : ∀ (a1 : Int32) (a3 : Int32) (s0 : Int32), f_X4_count_86 I k39 a1 a3 s0 = some r → zAt E (mw D ad g) 86 [(0, .ref (ad (0))), (1, .int a1), (3, .int a3)] [.int s0] I J := by
  intro a1 a3 s0 h
  rw [f_X4_count_86] at h
  refine z_iload_n fx dX4_count_86 rfl ?_
  refine z_iconst (v := 3) fx dX4_count_87 rfl ?_
  refine z_icmp_ne (tgt := 104) fx dX4_count_88 (by decide) (fun q1 => ?_) (fun q1 => ?_)
  · rw [if_neg q1] at h
    refine z_iconst (v := 0) fx dX4_count_104 rfl ?_
    refine z_iadd fx dX4_count_105 ?_
    refine z_istore_n fx dX4_count_106 (by decide) rfl ?_
    refine z_iinc (v := (a3 + 1)) fx dX4_count_107 rfl rfl (by decide) rfl ?_
    refine z_goto (tgt := 39) fx dX4_count_110 (by decide) ?_
    exact z_lv2 (hk39 a1 (s0 + 0) (a3 + 1) h) rfl
  · rw [if_pos q1] at h
    refine z_aload_n fx dX4_count_91 rfl ?_
    refine z_iload_n fx dX4_count_92 rfl ?_
    refine z_iconst (v := 3) fx dX4_count_93 rfl ?_
    obtain ⟨x2, ex2, h⟩ := ob h
    refine zVi (k := 0) (rest := [.int s0]) fx hR (c_X4_is (zl E) D ad g a3 3 I J ex2) rcM mvX4_is wm_X4_155 dX4_count_94 rfl ⟨rfl, rfl⟩ rfl rfl rfl ?_
    refine z_if_eq (tgt := 104) fx dX4_count_97 (by decide) (fun q3 => ?_) (fun q3 => ?_)
    · rw [if_pos q3] at h
      refine z_iconst (v := 0) fx dX4_count_104 rfl ?_
      refine z_iadd fx dX4_count_105 ?_
      refine z_istore_n fx dX4_count_106 (by decide) rfl ?_
      refine z_iinc (v := (a3 + 1)) fx dX4_count_107 rfl rfl (by decide) rfl ?_
      refine z_goto (tgt := 39) fx dX4_count_110 (by decide) ?_
      exact z_lv2 (hk39 a1 (s0 + 0) (a3 + 1) h) rfl
    · rw [if_neg q3] at h
      refine z_iconst (v := 1) fx dX4_count_100 rfl ?_
      refine z_goto (tgt := 105) fx dX4_count_101 (by decide) ?_
      refine z_iadd fx dX4_count_105 ?_
      refine z_istore_n fx dX4_count_106 (by decide) rfl ?_
      refine z_iinc (v := (a3 + 1)) fx dX4_count_107 rfl rfl (by decide) rfl ?_
      refine z_goto (tgt := 39) fx dX4_count_110 (by decide) ?_
      exact z_lv2 (hk39 a1 (s0 + 1) (a3 + 1) h) rfl
set_option maxRecDepth 100000 in
set_option maxHeartbeats 4000000 in
theorem w_X4_count_59 {E : zE} {D : va_G} {ad : Nat → Nat} {g : Nat → ClassId} (fx : zFX E (mw D ad g) cX4_count RX4 5 (some .int)) (hR : zR E = rmX4_count) {r : Int32} {I : zMi} {J : zMl} (hr : zRX E (mw D ad g) (some (.int r)) I J) {k39 : Int32 → Int32 → Int32 → Option Int32} (hk39 : ∀ (a1 : Int32) (a2 : Int32) (a3 : Int32), k39 a1 a2 a3 = some r → zAt E (mw D ad g) 39 [(0, .ref (ad (0))), (1, .int a1), (2, .int a2), (3, .int a3)] [] I J) : ∀ (a1 : Int32) (a2 : Int32) (a3 : Int32) (s0 : Int32), f_X4_count_59 I k39 a1 a2 a3 s0 = some r → zAt E (mw D ad g) 59 [(0, .ref (ad (0))), (1, .int a1), (2, .int a2), (3, .int a3)] [.int s0] I J := by
  intro a1 a2 a3 s0 h
  rw [f_X4_count_59] at h
  refine z_istore fx dX4_count_59 (by decide) rfl ?_
  refine z_iload_n fx dX4_count_61 rfl ?_
  refine z_iload fx dX4_count_62 rfl ?_
  refine z_if_eq (tgt := 104) fx dX4_count_64 (by decide) (fun q1 => ?_) (fun q1 => ?_)
  · rw [if_pos q1] at h
    refine z_iconst (v := 0) fx dX4_count_104 rfl ?_
    refine z_iadd fx dX4_count_105 ?_
    refine z_istore_n fx dX4_count_106 (by decide) rfl ?_
    refine z_iinc (v := (a3 + 1)) fx dX4_count_107 rfl rfl (by decide) rfl ?_
    refine z_goto (tgt := 39) fx dX4_count_110 (by decide) ?_
    exact z_lv2 (hk39 a1 (a2 + 0) (a3 + 1) h) rfl
  · rw [if_neg q1] at h
    refine z_iload_n fx dX4_count_67 rfl ?_
    refine z_iconst (v := 1) fx dX4_count_68 rfl ?_
    refine z_icmp_eq (tgt := 100) fx dX4_count_69 (by decide) (fun q2 => ?_) (fun q2 => ?_)
    · rw [if_pos q2] at h
      refine z_iconst (v := 1) fx dX4_count_100 rfl ?_
      refine z_goto (tgt := 105) fx dX4_count_101 (by decide) ?_
      refine z_iadd fx dX4_count_105 ?_
      refine z_istore_n fx dX4_count_106 (by decide) rfl ?_
      refine z_iinc (v := (a3 + 1)) fx dX4_count_107 rfl rfl (by decide) rfl ?_
      refine z_goto (tgt := 39) fx dX4_count_110 (by decide) ?_
      exact z_lv2 (hk39 a1 (a2 + 1) (a3 + 1) h) rfl
    · rw [if_neg q2] at h
      refine z_iload_n fx dX4_count_72 rfl ?_
      refine z_iconst (v := 2) fx dX4_count_73 rfl ?_
      refine z_icmp_ne (tgt := 86) fx dX4_count_74 (by decide) (fun q3 => ?_) (fun q3 => ?_)
      · rw [if_neg q3] at h
        exact z_lv2 (w_X4_count_86 fx hR hr hk39 a1 a3 a2 h) rfl
      · rw [if_pos q3] at h
        refine z_aload_n fx dX4_count_77 rfl ?_
        refine z_iload_n fx dX4_count_78 rfl ?_
        refine z_iconst (v := 1) fx dX4_count_79 rfl ?_
        obtain ⟨x4, ex4, h⟩ := ob h
        refine zVi (k := 0) (rest := [.int a2]) fx hR (c_X4_is (zl E) D ad g a3 1 I J ex4) rcM mvX4_is wm_X4_155 dX4_count_80 rfl ⟨rfl, rfl⟩ rfl rfl rfl ?_
        refine z_if_ne (tgt := 100) fx dX4_count_83 (by decide) (fun q5 => ?_) (fun q5 => ?_)
        · rw [if_neg q5] at h
          refine z_iconst (v := 1) fx dX4_count_100 rfl ?_
          refine z_goto (tgt := 105) fx dX4_count_101 (by decide) ?_
          refine z_iadd fx dX4_count_105 ?_
          refine z_istore_n fx dX4_count_106 (by decide) rfl ?_
          refine z_iinc (v := (a3 + 1)) fx dX4_count_107 rfl rfl (by decide) rfl ?_
          refine z_goto (tgt := 39) fx dX4_count_110 (by decide) ?_
          exact z_lv2 (hk39 a1 (a2 + 1) (a3 + 1) h) rfl
        · rw [if_pos q5] at h
          exact z_lv2 (w_X4_count_86 fx hR hr hk39 a1 a3 a2 h) rfl
set_option maxRecDepth 100000 in
set_option maxHeartbeats 4000000 in
theorem w_X4_count_39 {E : zE} {D : va_G} {ad : Nat → Nat} {g : Nat → ClassId} (fx : zFX E (mw D ad g) cX4_count RX4 5 (some .int)) (hR : zR E = rmX4_count) {r : Int32} {I : zMi} {J : zMl} (hr : zRX E (mw D ad g) (some (.int r)) I J) : ∀ (fuel : Nat) (a1 : Int32) (a2 : Int32) (a3 : Int32), f_X4_count_39 I fuel a1 a2 a3 = some r → zAt E (mw D ad g) 39 [(0, .ref (ad (0))), (1, .int a1), (2, .int a2), (3, .int a3)] [] I J := by
  intro fuel
  induction fuel with
  | zero => intro a1 a2 a3 h; rw [f_X4_count_39] at h; cases h
  | succ f ih =>
    intro a1 a2 a3 h
    rw [f_X4_count_39] at h
    refine z_iload_n fx dX4_count_39 rfl ?_
    refine z_bipush (v := 10) fx dX4_count_40 rfl ?_
    refine z_icmp_ge (tgt := 113) fx dX4_count_42 (by decide) (fun q1 => ?_) (fun q1 => ?_)
    · rw [if_pos q1] at h
      refine z_iload_n fx dX4_count_113 rfl ?_
      refine z_iconst (v := 0) fx dX4_count_114 rfl ?_
      refine z_iconst (v := 3) fx dX4_count_115 rfl ?_
      refine zSi (rest := []) fx hR (c_X4_in (zl E) D ad g a1 0 3 I J rfl) mvX4_in wm_X4_73 dX4_count_116 rfl ⟨rfl, rfl⟩ rfl rfl rfl ?_
      refine z_if_eq (tgt := 126) fx dX4_count_119 (by decide) (fun q2 => ?_) (fun q2 => ?_)
      · rw [if_pos q2] at h
        refine z_iconst (v := (-1)) fx dX4_count_126 rfl ?_
        cases h
        exact z_iret fx hr dX4_count_127
      · rw [if_neg q2] at h
        refine z_iload_n fx dX4_count_122 rfl ?_
        refine z_goto (tgt := 127) fx dX4_count_123 (by decide) ?_
        cases h
        exact z_iret fx hr dX4_count_127
    · rw [if_neg q1] at h
      refine z_aload_n fx dX4_count_45 rfl ?_
      refine gM_wide fx wf_X4_26 dX4_count_46 ?_
      refine z_iload_n fx dX4_count_49 rfl ?_
      obtain ⟨q3, h⟩ := oi h
      refine m_ild fx (Nat.le_of_ble_eq_true rfl) (cfM_5 g ad) q3 dX4_count_50 ?_
      refine z_if_le (tgt := 58) fx dX4_count_51 (by decide) (fun q4 => ?_) (fun q4 => ?_)
      · rw [if_pos q4] at h
        refine z_iconst (v := 0) fx dX4_count_58 rfl ?_
        exact z_lv2 (w_X4_count_59 fx hR hr ih a1 a2 a3 0 h) rfl
      · rw [if_neg q4] at h
        refine z_iconst (v := 1) fx dX4_count_54 rfl ?_
        refine z_goto (tgt := 59) fx dX4_count_55 (by decide) ?_
        exact z_lv2 (w_X4_count_59 fx hR hr ih a1 a2 a3 1 h) rfl
set_option maxRecDepth 100000 in
set_option maxHeartbeats 4000000 in
theorem w_X4_count_4 {E : zE} {D : va_G} {ad : Nat → Nat} {g : Nat → ClassId} (fx : zFX E (mw D ad g) cX4_count RX4 5 (some .int)) (hR : zR E = rmX4_count) {r : Int32} {I : zMi} {J : zMl} (hr : zRX E (mw D ad g) (some (.int r)) I J) : ∀ (fuel : Nat) (a1 : Int32) (a2 : Int32) (a3 : Int32), f_X4_count_4 I fuel a1 a2 a3 = some r → zAt E (mw D ad g) 4 [(0, .ref (ad (0))), (1, .int a1), (2, .int a2), (3, .int a3)] [] I J := by
  intro fuel
  induction fuel with
  | zero => intro a1 a2 a3 h; rw [f_X4_count_4] at h; cases h
  | succ f ih =>
    intro a1 a2 a3 h
    rw [f_X4_count_4] at h
    refine z_iload_n fx dX4_count_4 rfl ?_
    refine z_bipush (v := 6) fx dX4_count_5 rfl ?_
    refine z_icmp_ge (tgt := 37) fx dX4_count_7 (by decide) (fun q1 => ?_) (fun q1 => ?_)
    · rw [if_pos q1] at h
      refine z_iconst (v := 0) fx dX4_count_37 rfl ?_
      refine z_istore_n fx dX4_count_38 (by decide) rfl ?_
      exact z_lv2 (w_X4_count_39 fx hR hr fu a1 a2 0 h) rfl
    · rw [if_neg q1] at h
      refine z_iload_n fx dX4_count_10 rfl ?_
      refine z_iload_n fx dX4_count_11 rfl ?_
      refine z_if_ne (tgt := 28) fx dX4_count_12 (by decide) (fun q2 => ?_) (fun q2 => ?_)
      · rw [if_neg q2] at h
        refine z_iconst (v := 0) fx dX4_count_28 rfl ?_
        refine z_iadd fx dX4_count_29 ?_
        refine z_istore_n fx dX4_count_30 (by decide) rfl ?_
        refine z_iinc (v := (a3 + 1)) fx dX4_count_31 rfl rfl (by decide) rfl ?_
        refine z_goto (tgt := 4) fx dX4_count_34 (by decide) ?_
        exact z_lv2 (ih a1 (a2 + 0) (a3 + 1) h) rfl
      · rw [if_pos q2] at h
        refine z_aload_n fx dX4_count_15 rfl ?_
        refine gM_sizes fx wf_X4_17 dX4_count_16 ?_
        refine z_iload_n fx dX4_count_19 rfl ?_
        obtain ⟨q3, h⟩ := oi h
        refine m_ild fx (Nat.le_of_ble_eq_true rfl) (cfM_2 g ad) q3 dX4_count_20 ?_
        refine z_if_lt (tgt := 28) fx dX4_count_21 (by decide) (fun q4 => ?_) (fun q4 => ?_)
        · rw [if_pos q4] at h
          refine z_iconst (v := 0) fx dX4_count_28 rfl ?_
          refine z_iadd fx dX4_count_29 ?_
          refine z_istore_n fx dX4_count_30 (by decide) rfl ?_
          refine z_iinc (v := (a3 + 1)) fx dX4_count_31 rfl rfl (by decide) rfl ?_
          refine z_goto (tgt := 4) fx dX4_count_34 (by decide) ?_
          exact z_lv2 (ih a1 (a2 + 0) (a3 + 1) h) rfl
        · rw [if_neg q4] at h
          refine z_iconst (v := 1) fx dX4_count_24 rfl ?_
          refine z_goto (tgt := 29) fx dX4_count_25 (by decide) ?_
          refine z_iadd fx dX4_count_29 ?_
          refine z_istore_n fx dX4_count_30 (by decide) rfl ?_
          refine z_iinc (v := (a3 + 1)) fx dX4_count_31 rfl rfl (by decide) rfl ?_
          refine z_goto (tgt := 4) fx dX4_count_34 (by decide) ?_
          exact z_lv2 (ih a1 (a2 + 1) (a3 + 1) h) rfl
set_option maxRecDepth 100000 in
set_option maxHeartbeats 4000000 in
theorem c_X4_count (l : Launch) (D : va_G) (ad : Nat → Nat) (g : Nat → ClassId) (a1 : Int32) (I : zMi) (J : zMl) {r : Int32} (h : f_X4_count a1 I = some r) : zCM (mw D ad g) l yX4_count cX4_count 5 (some .int) rmX4_count [.ref (ad (0)), .int a1] I J (some (.int r)) I J := by
  refine zCM.of (by decide) (Nat.le_of_ble_eq_true rfl) (fun E hl hR fx hr => ?_)
  subst hl
  rw [f_X4_count] at h
  refine z_iconst (v := 0) fx dX4_count_0 rfl ?_
  refine z_istore_n fx dX4_count_1 (by decide) rfl ?_
  refine z_iconst (v := 0) fx dX4_count_2 rfl ?_
  refine z_istore_n fx dX4_count_3 (by decide) rfl ?_
  exact z_lv2 (w_X4_count_4 fx hR hr fu a1 0 0 h) rfl
set_option maxRecDepth 100000 in
set_option maxHeartbeats 4000000 in
theorem c_X4_finding (l : Launch) (D : va_G) (ad : Nat → Nat) (g : Nat → ClassId) (I : zMi) (J : zMl) {r : Int32} (h : f_X4_finding I = r) : zCM (mw D ad g) l yX4_finding cX4_finding 1 (some .int) rmX4_finding [.ref (ad (0))] I J (some (.int r)) I J := by
  refine zCM.of (by decide) (Nat.le_of_ble_eq_true rfl) (fun E hl hR fx hr => ?_)
  subst hl
  rw [f_X4_finding] at h
  refine z_aload_n fx dX4_finding_0 rfl ?_
  refine gM_finding fx wf_X4_66 dX4_finding_1 ?_
  subst h
  exact z_iret fx hr dX4_finding_4
set_option maxRecDepth 100000 in
set_option maxHeartbeats 4000000 in
theorem c_X4_findings (l : Launch) (D : va_G) (ad : Nat → Nat) (g : Nat → ClassId) (a1 : Int32) (I : zMi) (J : zMl) {r : Int32} (h : f_X4_findings a1 I = some r) : zCM (mw D ad g) l yX4_findings cX4_findings 2 (some .int) rmX4_findings [.ref (ad (0)), .int a1] I J (some (.int r)) I J := by
  refine zCM.of (by decide) (Nat.le_of_ble_eq_true rfl) (fun E hl hR fx hr => ?_)
  subst hl
  rw [f_X4_findings] at h
  refine z_iload_n fx dX4_findings_0 rfl ?_
  refine z_iconst (v := 1) fx dX4_findings_1 rfl ?_
  refine z_iconst (v := 5) fx dX4_findings_2 rfl ?_
  refine zSi (rest := []) fx hR (c_X4_in (zl E) D ad g a1 1 5 I J rfl) mvX4_in wm_X4_73 dX4_findings_3 rfl ⟨rfl, rfl⟩ rfl rfl rfl ?_
  refine z_if_eq (tgt := 18) fx dX4_findings_6 (by decide) (fun q1 => ?_) (fun q1 => ?_)
  · rw [if_pos q1] at h
    refine z_iconst (v := (-1)) fx dX4_findings_18 rfl ?_
    cases h
    exact z_iret fx hr dX4_findings_19
  · rw [if_neg q1] at h
    refine z_aload_n fx dX4_findings_9 rfl ?_
    refine gM_findings fx wf_X4_7 dX4_findings_10 ?_
    refine z_iload_n fx dX4_findings_13 rfl ?_
    obtain ⟨q2, h⟩ := oi h
    refine m_ild fx (Nat.le_of_ble_eq_true rfl) (cfM_1 g ad) q2 dX4_findings_14 ?_
    refine z_goto (tgt := 19) fx dX4_findings_15 (by decide) ?_
    cases h
    exact z_iret fx hr dX4_findings_19
set_option maxRecDepth 100000 in
set_option maxHeartbeats 4000000 in
theorem c_X4_mix (l : Launch) (D : va_G) (ad : Nat → Nat) (g : Nat → ClassId) (a1 : Int32) (I : zMi) (J : zMl) {r : zMl} (h : f_X4_mix a1 J = r) : zCM (mw D ad g) l yX4_mix cX4_mix 2 none rmX4_mix [.ref (ad (0)), .int a1] I J none I r := by
  refine zCM.of (by decide) (Nat.le_of_ble_eq_true rfl) (fun E hl hR fx hr => ?_)
  subst hl
  rw [f_X4_mix] at h
  refine z_aload_n fx dX4_mix_0 rfl ?_
  refine z_ldc2 fx wc_X4_264 dX4_mix_1 ?_
  refine z_aload_n fx dX4_mix_4 rfl ?_
  refine gM_h fx wf_X4_266 dX4_mix_5 ?_
  refine z_lmul fx dX4_mix_8 ?_
  refine z_iload_n fx dX4_mix_9 rfl ?_
  refine z_i2l fx dX4_mix_10 ?_
  refine z_ladd fx dX4_mix_11 ?_
  refine pM_h fx wf_X4_266 dX4_mix_12 ?_
  subst h
  exact z_vret fx hr dX4_mix_15
set_option maxRecDepth 100000 in
set_option maxHeartbeats 4000000 in
theorem w_X4_digest_138 {E : zE} {D : va_G} {ad : Nat → Nat} {g : Nat → ClassId} (fx : zFX E (mw D ad g) cX4_digest RX4 4 (some .long)) (hR : zR E = rmX4_digest) {r : Int64 × zMl} {I : zMi} (hr : zRX E (mw D ad g) (some (.long r.1)) I r.2) {k107 : Int32 → zMl → Option (Int64 × zMl)} (hk107 : ∀ (a1 : Int32) (J : zMl) , k107 a1 J = some r → zAt E (mw D ad g) 107 [(0, .ref (ad (0))), (1, .int a1)] [] I J) : ∀ (fuel : Nat) (a1 : Int32) (a2 : Int32) (J : zMl) , f_X4_digest_138 I k107 fuel a1 a2 J = some r → zAt E (mw D ad g) 138 [(0, .ref (ad (0))), (1, .int a1), (2, .int a2)] [] I J := by
  intro fuel
  induction fuel with
  | zero => intro a1 a2 J h; rw [f_X4_digest_138] at h; cases h
  | succ f ih =>
    intro a1 a2 J h
    rw [f_X4_digest_138] at h
    refine z_iload_n fx dX4_digest_138 rfl ?_
    refine z_aload_n fx dX4_digest_139 rfl ?_
    refine gM_sizes fx wf_X4_17 dX4_digest_140 ?_
    refine z_iload_n fx dX4_digest_143 rfl ?_
    obtain ⟨q1, h⟩ := oi h
    refine m_ild fx (Nat.le_of_ble_eq_true rfl) (cfM_2 g ad) q1 dX4_digest_144 ?_
    refine z_icmp_ge (tgt := 169) fx dX4_digest_145 (by decide) (fun q2 => ?_) (fun q2 => ?_)
    · rw [if_pos q2] at h
      refine z_iinc (v := (a1 + 1)) fx dX4_digest_169 rfl rfl (by decide) rfl ?_
      refine z_goto (tgt := 107) fx dX4_digest_172 (by decide) ?_
      exact z_lv2 (hk107 (a1 + 1) J h) rfl
    · rw [if_neg q2] at h
      refine z_aload_n fx dX4_digest_148 rfl ?_
      refine z_aload_n fx dX4_digest_149 rfl ?_
      refine gM_rows fx wf_X4_20 dX4_digest_150 ?_
      refine z_bipush (v := 24) fx dX4_digest_153 rfl ?_
      refine z_iload_n fx dX4_digest_155 rfl ?_
      refine z_imul fx dX4_digest_156 ?_
      refine z_iload_n fx dX4_digest_157 rfl ?_
      refine z_iadd fx dX4_digest_158 ?_
      obtain ⟨q3, h⟩ := oi h
      refine m_ild fx (Nat.le_of_ble_eq_true rfl) (cfM_3 g ad) q3 dX4_digest_159 ?_
      refine zVv (k := 0) (rest := []) fx hR (c_X4_mix (zl E) D ad g (I (3) ((24 * a1) + a2).toNatClampNeg) I J rfl) rcM mvX4_mix wm_X4_271 dX4_digest_160 rfl ⟨rfl, rfl⟩ rfl rfl rfl ?_
      refine z_iinc (v := (a2 + 1)) fx dX4_digest_163 rfl rfl (by decide) rfl ?_
      refine z_goto (tgt := 138) fx dX4_digest_166 (by decide) ?_
      exact z_lv2 (ih a1 (a2 + 1) (f_X4_mix (I (3) ((24 * a1) + a2).toNatClampNeg) J) h) rfl
set_option maxRecDepth 100000 in
set_option maxHeartbeats 4000000 in
theorem w_X4_digest_107 {E : zE} {D : va_G} {ad : Nat → Nat} {g : Nat → ClassId} (fx : zFX E (mw D ad g) cX4_digest RX4 4 (some .long)) (hR : zR E = rmX4_digest) {r : Int64 × zMl} {I : zMi} (hr : zRX E (mw D ad g) (some (.long r.1)) I r.2) : ∀ (fuel : Nat) (a1 : Int32) (J : zMl) , f_X4_digest_107 I fuel a1 J = some r → zAt E (mw D ad g) 107 [(0, .ref (ad (0))), (1, .int a1)] [] I J := by
  intro fuel
  induction fuel with
  | zero => intro a1 J h; rw [f_X4_digest_107] at h; cases h
  | succ f ih =>
    intro a1 J h
    rw [f_X4_digest_107] at h
    refine z_iload_n fx dX4_digest_107 rfl ?_
    refine z_bipush (v := 6) fx dX4_digest_108 rfl ?_
    refine z_icmp_ge (tgt := 175) fx dX4_digest_110 (by decide) (fun q1 => ?_) (fun q1 => ?_)
    · rw [if_pos q1] at h
      refine z_aload_n fx dX4_digest_175 rfl ?_
      refine gM_h fx wf_X4_266 dX4_digest_176 ?_
      cases h
      exact z_lret fx hr dX4_digest_179
    · rw [if_neg q1] at h
      refine z_aload_n fx dX4_digest_113 rfl ?_
      refine z_aload_n fx dX4_digest_114 rfl ?_
      refine gM_sizes fx wf_X4_17 dX4_digest_115 ?_
      refine z_iload_n fx dX4_digest_118 rfl ?_
      obtain ⟨q2, h⟩ := oi h
      refine m_ild fx (Nat.le_of_ble_eq_true rfl) (cfM_2 g ad) q2 dX4_digest_119 ?_
      refine z_if_ge (tgt := 127) fx dX4_digest_120 (by decide) (fun q3 => ?_) (fun q3 => ?_)
      · rw [if_pos q3] at h
        refine z_aload_n fx dX4_digest_127 rfl ?_
        refine gM_sizes fx wf_X4_17 dX4_digest_128 ?_
        refine z_iload_n fx dX4_digest_131 rfl ?_
        refine m_ild fx (Nat.le_of_ble_eq_true rfl) (cfM_2 g ad) q2 dX4_digest_132 ?_
        refine zVv (k := 0) (rest := []) fx hR (c_X4_mix (zl E) D ad g (I (2) a1.toNatClampNeg) I J rfl) rcM mvX4_mix wm_X4_271 dX4_digest_133 rfl ⟨rfl, rfl⟩ rfl rfl rfl ?_
        refine z_iconst (v := 0) fx dX4_digest_136 rfl ?_
        refine z_istore_n fx dX4_digest_137 (by decide) rfl ?_
        exact z_lv2 (w_X4_digest_138 fx hR hr ih fu a1 0 (f_X4_mix (I (2) a1.toNatClampNeg) J) h) rfl
      · rw [if_neg q3] at h
        refine z_iconst (v := (-1)) fx dX4_digest_123 rfl ?_
        refine z_goto (tgt := 133) fx dX4_digest_124 (by decide) ?_
        refine zVv (k := 0) (rest := []) fx hR (c_X4_mix (zl E) D ad g (-1) I J rfl) rcM mvX4_mix wm_X4_271 dX4_digest_133 rfl ⟨rfl, rfl⟩ rfl rfl rfl ?_
        refine z_iconst (v := 0) fx dX4_digest_136 rfl ?_
        refine z_istore_n fx dX4_digest_137 (by decide) rfl ?_
        exact z_lv2 (w_X4_digest_138 fx hR hr ih fu a1 0 (f_X4_mix (-1) J) h) rfl
set_option maxRecDepth 100000 in
set_option maxHeartbeats 4000000 in
theorem w_X4_digest_66 {E : zE} {D : va_G} {ad : Nat → Nat} {g : Nat → ClassId} (fx : zFX E (mw D ad g) cX4_digest RX4 4 (some .long)) (hR : zR E = rmX4_digest) {r : Int64 × zMl} {I : zMi} (hr : zRX E (mw D ad g) (some (.long r.1)) I r.2) {k9 : Int32 → zMl → Option (Int64 × zMl)} (hk9 : ∀ (a1 : Int32) (J : zMl) , k9 a1 J = some r → zAt E (mw D ad g) 9 [(0, .ref (ad (0))), (1, .int a1)] [] I J) {k54 : Int32 → Int32 → zMl → Option (Int64 × zMl)} (hk54 : ∀ (a1 : Int32) (a2 : Int32) (J : zMl) , k54 a1 a2 J = some r → zAt E (mw D ad g) 54 [(0, .ref (ad (0))), (1, .int a1), (2, .int a2)] [] I J) : ∀ (fuel : Nat) (a1 : Int32) (a2 : Int32) (a3 : Int32) (J : zMl) , f_X4_digest_66 I k9 k54 fuel a1 a2 a3 J = some r → zAt E (mw D ad g) 66 [(0, .ref (ad (0))), (1, .int a1), (2, .int a2), (3, .int a3)] [] I J := by
  intro fuel
  induction fuel with
  | zero => intro a1 a2 a3 J h; rw [f_X4_digest_66] at h; cases h
  | succ f ih =>
    intro a1 a2 a3 J h
    rw [f_X4_digest_66] at h
    refine z_iload_n fx dX4_digest_66 rfl ?_
    refine z_aload_n fx dX4_digest_67 rfl ?_
    refine gM_wide fx wf_X4_26 dX4_digest_68 ?_
    refine z_iload_n fx dX4_digest_71 rfl ?_
    obtain ⟨q1, h⟩ := oi h
    refine m_ild fx (Nat.le_of_ble_eq_true rfl) (cfM_5 g ad) q1 dX4_digest_72 ?_
    refine z_icmp_ge (tgt := 93) fx dX4_digest_73 (by decide) (fun q2 => ?_) (fun q2 => ?_)
    · rw [if_pos q2] at h
      refine z_iinc (v := (a2 + 1)) fx dX4_digest_93 rfl rfl (by decide) rfl ?_
      refine z_goto (tgt := 54) fx dX4_digest_96 (by decide) ?_
      exact z_lv2 (hk54 a1 (a2 + 1) J h) rfl
    · rw [if_neg q2] at h
      refine z_aload_n fx dX4_digest_76 rfl ?_
      refine z_aload_n fx dX4_digest_77 rfl ?_
      refine z_iload_n fx dX4_digest_78 rfl ?_
      refine z_iload_n fx dX4_digest_79 rfl ?_
      refine z_iload_n fx dX4_digest_80 rfl ?_
      obtain ⟨x3, ex3, h⟩ := ob h
      refine zVi (k := 0) (rest := [.ref (ad (0))]) fx hR (c_X4_get (zl E) D ad g a1 a2 a3 I J ex3) rcM mvX4_get wm_X4_102 dX4_digest_81 rfl ⟨rfl, rfl⟩ rfl rfl rfl ?_
      refine zVv (k := 0) (rest := []) fx hR (c_X4_mix (zl E) D ad g x3 I J rfl) rcM mvX4_mix wm_X4_271 dX4_digest_84 rfl ⟨rfl, rfl⟩ rfl rfl rfl ?_
      refine z_iinc (v := (a3 + 1)) fx dX4_digest_87 rfl rfl (by decide) rfl ?_
      refine z_goto (tgt := 66) fx dX4_digest_90 (by decide) ?_
      exact z_lv2 (ih a1 a2 (a3 + 1) (f_X4_mix x3 J) h) rfl
set_option maxRecDepth 100000 in
set_option maxHeartbeats 4000000 in
theorem w_X4_digest_54 {E : zE} {D : va_G} {ad : Nat → Nat} {g : Nat → ClassId} (fx : zFX E (mw D ad g) cX4_digest RX4 4 (some .long)) (hR : zR E = rmX4_digest) {r : Int64 × zMl} {I : zMi} (hr : zRX E (mw D ad g) (some (.long r.1)) I r.2) {k9 : Int32 → zMl → Option (Int64 × zMl)} (hk9 : ∀ (a1 : Int32) (J : zMl) , k9 a1 J = some r → zAt E (mw D ad g) 9 [(0, .ref (ad (0))), (1, .int a1)] [] I J) : ∀ (fuel : Nat) (a1 : Int32) (a2 : Int32) (J : zMl) , f_X4_digest_54 I k9 fuel a1 a2 J = some r → zAt E (mw D ad g) 54 [(0, .ref (ad (0))), (1, .int a1), (2, .int a2)] [] I J := by
  intro fuel
  induction fuel with
  | zero => intro a1 a2 J h; rw [f_X4_digest_54] at h; cases h
  | succ f ih =>
    intro a1 a2 J h
    rw [f_X4_digest_54] at h
    refine z_iload_n fx dX4_digest_54 rfl ?_
    refine z_aload_n fx dX4_digest_55 rfl ?_
    refine gM_wide fx wf_X4_26 dX4_digest_56 ?_
    refine z_iload_n fx dX4_digest_59 rfl ?_
    obtain ⟨q1, h⟩ := oi h
    refine m_ild fx (Nat.le_of_ble_eq_true rfl) (cfM_5 g ad) q1 dX4_digest_60 ?_
    refine z_icmp_ge (tgt := 99) fx dX4_digest_61 (by decide) (fun q2 => ?_) (fun q2 => ?_)
    · rw [if_pos q2] at h
      refine z_iinc (v := (a1 + 1)) fx dX4_digest_99 rfl rfl (by decide) rfl ?_
      refine z_goto (tgt := 9) fx dX4_digest_102 (by decide) ?_
      exact z_lv2 (hk9 (a1 + 1) J h) rfl
    · rw [if_neg q2] at h
      refine z_iconst (v := 0) fx dX4_digest_64 rfl ?_
      refine z_istore_n fx dX4_digest_65 (by decide) rfl ?_
      exact z_lv2 (w_X4_digest_66 fx hR hr hk9 ih fu a1 a2 0 J h) rfl
set_option maxRecDepth 100000 in
set_option maxHeartbeats 4000000 in
theorem w_X4_digest_9 {E : zE} {D : va_G} {ad : Nat → Nat} {g : Nat → ClassId} (fx : zFX E (mw D ad g) cX4_digest RX4 4 (some .long)) (hR : zR E = rmX4_digest) {r : Int64 × zMl} {I : zMi} (hr : zRX E (mw D ad g) (some (.long r.1)) I r.2) : ∀ (fuel : Nat) (a1 : Int32) (J : zMl) , f_X4_digest_9 I fuel a1 J = some r → zAt E (mw D ad g) 9 [(0, .ref (ad (0))), (1, .int a1)] [] I J := by
  intro fuel
  induction fuel with
  | zero => intro a1 J h; rw [f_X4_digest_9] at h; cases h
  | succ f ih =>
    intro a1 J h
    rw [f_X4_digest_9] at h
    refine z_iload_n fx dX4_digest_9 rfl ?_
    refine z_bipush (v := 10) fx dX4_digest_10 rfl ?_
    refine z_icmp_ge (tgt := 105) fx dX4_digest_12 (by decide) (fun q1 => ?_) (fun q1 => ?_)
    · rw [if_pos q1] at h
      refine z_iconst (v := 0) fx dX4_digest_105 rfl ?_
      refine z_istore_n fx dX4_digest_106 (by decide) rfl ?_
      exact z_lv2 (w_X4_digest_107 fx hR hr fu 0 J h) rfl
    · rw [if_neg q1] at h
      refine z_aload_n fx dX4_digest_15 rfl ?_
      refine gM_wide fx wf_X4_26 dX4_digest_16 ?_
      refine z_iload_n fx dX4_digest_19 rfl ?_
      obtain ⟨q2, h⟩ := oi h
      refine m_ild fx (Nat.le_of_ble_eq_true rfl) (cfM_5 g ad) q2 dX4_digest_20 ?_
      refine z_if_ne (tgt := 32) fx dX4_digest_21 (by decide) (fun q3 => ?_) (fun q3 => ?_)
      · rw [if_neg q3] at h
        refine z_aload_n fx dX4_digest_32 rfl ?_
        refine z_aload_n fx dX4_digest_33 rfl ?_
        refine gM_kinds fx wf_X4_32 dX4_digest_34 ?_
        refine z_iload_n fx dX4_digest_37 rfl ?_
        refine m_ild fx (Nat.le_of_ble_eq_true rfl) (cfM_7 g ad) q2 dX4_digest_38 ?_
        refine zVv (k := 0) (rest := []) fx hR (c_X4_mix (zl E) D ad g (I (7) a1.toNatClampNeg) I J rfl) rcM mvX4_mix wm_X4_271 dX4_digest_39 rfl ⟨rfl, rfl⟩ rfl rfl rfl ?_
        refine z_aload_n fx dX4_digest_42 rfl ?_
        refine z_aload_n fx dX4_digest_43 rfl ?_
        refine gM_wide fx wf_X4_26 dX4_digest_44 ?_
        refine z_iload_n fx dX4_digest_47 rfl ?_
        refine m_ild fx (Nat.le_of_ble_eq_true rfl) (cfM_5 g ad) q2 dX4_digest_48 ?_
        refine zVv (k := 0) (rest := []) fx hR (c_X4_mix (zl E) D ad g (I (5) a1.toNatClampNeg) I (f_X4_mix (I (7) a1.toNatClampNeg) J) rfl) rcM mvX4_mix wm_X4_271 dX4_digest_49 rfl ⟨rfl, rfl⟩ rfl rfl rfl ?_
        refine z_iconst (v := 0) fx dX4_digest_52 rfl ?_
        refine z_istore_n fx dX4_digest_53 (by decide) rfl ?_
        exact z_lv2 (w_X4_digest_54 fx hR hr ih fu a1 0 (f_X4_mix (I (5) a1.toNatClampNeg) (f_X4_mix (I (7) a1.toNatClampNeg) J)) h) rfl
      · rw [if_pos q3] at h
        refine z_aload_n fx dX4_digest_24 rfl ?_
        refine z_iconst (v := (-1)) fx dX4_digest_25 rfl ?_
        refine zVv (k := 0) (rest := []) fx hR (c_X4_mix (zl E) D ad g (-1) I J rfl) rcM mvX4_mix wm_X4_271 dX4_digest_26 rfl ⟨rfl, rfl⟩ rfl rfl rfl ?_
        refine z_goto (tgt := 99) fx dX4_digest_29 (by decide) ?_
        refine z_iinc (v := (a1 + 1)) fx dX4_digest_99 rfl rfl (by decide) rfl ?_
        refine z_goto (tgt := 9) fx dX4_digest_102 (by decide) ?_
        exact z_lv2 (ih (a1 + 1) (f_X4_mix (-1) J) h) rfl
set_option maxRecDepth 100000 in
set_option maxHeartbeats 4000000 in
theorem c_X4_digest (l : Launch) (D : va_G) (ad : Nat → Nat) (g : Nat → ClassId) (I : zMi) (J : zMl) {r : Int64 × zMl} (h : f_X4_digest I J = some r) : zCM (mw D ad g) l yX4_digest cX4_digest 4 (some .long) rmX4_digest [.ref (ad (0))] I J (some (.long r.1)) I r.2 := by
  refine zCM.of (by decide) (Nat.le_of_ble_eq_true rfl) (fun E hl hR fx hr => ?_)
  subst hl
  rw [f_X4_digest] at h
  refine z_aload_n fx dX4_digest_0 rfl ?_
  refine z_ldc2 fx wc_X4_269 dX4_digest_1 ?_
  refine pM_h fx wf_X4_266 dX4_digest_4 ?_
  refine z_iconst (v := 0) fx dX4_digest_7 rfl ?_
  refine z_istore_n fx dX4_digest_8 (by decide) rfl ?_
  exact z_lv2 (w_X4_digest_9 fx hR hr fu 0 (wJ J (0) 22 17) h) rfl
