set_option maxRecDepth 100000 in
set_option maxHeartbeats 4000000 in
theorem w_X4_residue_21 {E : zE} {D : va_G} {ad : Nat → Nat} {g : Nat → ClassId} (fx : zFX E (mw D ad g) cX4_residue RX4 5 (some .int)) (hR : zR E = rmX4_residue) {r : Int32} {I : zMi} {J : zMl} (hr : zRX E (mw D ad g) (some (.int r)) I J) : ∀ (fuel : Nat) (a1 : Int32) (a2 : Int32) (a3 : Int32) (a4 : Int32), f_X4_residue_21 fuel a1 a2 a3 a4 = some r → zAt E (mw D ad g) 21 [(1, .int a1), (2, .int a2), (3, .int a3), (4, .int a4)] [] I J := by
  intro fuel
  induction fuel with
  | zero => intro a1 a2 a3 a4 h; rw [f_X4_residue_21] at h; cases h
  | succ f ih =>
    intro a1 a2 a3 a4 h
    rw [f_X4_residue_21] at h
    refine z_iload fx dX4_residue_21 rfl ?_
    refine z_iload_n fx dX4_residue_23 rfl ?_
    refine z_icmp_ge (tgt := 54) fx dX4_residue_24 (by decide) (fun q1 => ?_) (fun q1 => ?_)
    · rw [if_pos q1] at h
      refine z_iload_n fx dX4_residue_54 rfl ?_
      cases h
      exact z_iret fx hr dX4_residue_55
    · rw [if_neg q1] at h
      refine z_iload_n fx dX4_residue_27 rfl ?_
      refine z_if_eq (tgt := 46) fx dX4_residue_28 (by decide) (fun q2 => ?_) (fun q2 => ?_)
      · rw [if_pos q2] at h
        refine z_iload_n fx dX4_residue_46 rfl ?_
        refine z_istore_n fx dX4_residue_47 (by decide) rfl ?_
        refine z_iinc (v := (a4 + 1)) fx dX4_residue_48 rfl rfl (by decide) rfl ?_
        refine z_goto (tgt := 21) fx dX4_residue_51 (by decide) ?_
        exact z_lv2 (ih a1 a2 a3 (a4 + 1) h) rfl
      · rw [if_neg q2] at h
        refine z_iload fx dX4_residue_31 rfl ?_
        refine z_iload fx dX4_residue_33 rfl ?_
        refine z_imul fx dX4_residue_35 ?_
        refine z_iload_n fx dX4_residue_36 rfl ?_
        obtain ⟨q3, h⟩ := on h
        refine z_irem fx dX4_residue_37 q3 ?_
        refine z_iload_n fx dX4_residue_38 rfl ?_
        refine z_icmp_ne (tgt := 46) fx dX4_residue_39 (by decide) (fun q4 => ?_) (fun q4 => ?_)
        · rw [if_neg q4] at h
          refine z_iload_n fx dX4_residue_46 rfl ?_
          refine z_istore_n fx dX4_residue_47 (by decide) rfl ?_
          refine z_iinc (v := (a4 + 1)) fx dX4_residue_48 rfl rfl (by decide) rfl ?_
          refine z_goto (tgt := 21) fx dX4_residue_51 (by decide) ?_
          exact z_lv2 (ih a1 a2 a3 (a4 + 1) h) rfl
        · rw [if_pos q4] at h
          refine z_iconst (v := 1) fx dX4_residue_42 rfl ?_
          refine z_goto (tgt := 47) fx dX4_residue_43 (by decide) ?_
          refine z_istore_n fx dX4_residue_47 (by decide) rfl ?_
          refine z_iinc (v := (a4 + 1)) fx dX4_residue_48 rfl rfl (by decide) rfl ?_
          refine z_goto (tgt := 21) fx dX4_residue_51 (by decide) ?_
          exact z_lv2 (ih a1 a2 1 (a4 + 1) h) rfl
set_option maxRecDepth 100000 in
set_option maxHeartbeats 4000000 in
theorem c_X4_residue (l : Launch) (D : va_G) (ad : Nat → Nat) (g : Nat → ClassId) (a0 : Int32) (a1 : Int32) (I : zMi) (J : zMl) {r : Int32} (h : f_X4_residue a0 a1 = some r) : zCM (mw D ad g) l yX4_residue cX4_residue 5 (some .int) rmX4_residue [.int a0, .int a1] I J (some (.int r)) I J := by
  refine zCM.of (by decide) (Nat.le_of_ble_eq_true rfl) (fun E hl hR fx hr => ?_)
  subst hl
  rw [f_X4_residue] at h
  refine z_iload_n fx dX4_residue_0 rfl ?_
  refine z_iload_n fx dX4_residue_1 rfl ?_
  obtain ⟨q1, h⟩ := on h
  refine z_irem fx dX4_residue_2 q1 ?_
  refine z_iload_n fx dX4_residue_3 rfl ?_
  refine z_iadd fx dX4_residue_4 ?_
  refine z_iload_n fx dX4_residue_5 rfl ?_
  refine z_irem fx dX4_residue_6 q1 ?_
  refine z_istore_n fx dX4_residue_7 (by decide) rfl ?_
  refine z_iload_n fx dX4_residue_8 rfl ?_
  refine z_if_ne (tgt := 16) fx dX4_residue_9 (by decide) (fun q2 => ?_) (fun q2 => ?_)
  · rw [if_neg q2] at h
    refine z_iconst (v := (-1)) fx dX4_residue_16 rfl ?_
    refine z_istore_n fx dX4_residue_17 (by decide) rfl ?_
    refine z_iconst (v := 1) fx dX4_residue_18 rfl ?_
    refine z_istore fx dX4_residue_19 (by decide) rfl ?_
    exact z_lv2 (w_X4_residue_21 fx hR hr fu a1 (((a0 - a0 / a1 * a1) + a1) - ((a0 - a0 / a1 * a1) + a1) / a1 * a1) (-1) 1 h) rfl
  · rw [if_pos q2] at h
    refine z_iconst (v := 0) fx dX4_residue_12 rfl ?_
    refine z_goto (tgt := 17) fx dX4_residue_13 (by decide) ?_
    refine z_istore_n fx dX4_residue_17 (by decide) rfl ?_
    refine z_iconst (v := 1) fx dX4_residue_18 rfl ?_
    refine z_istore fx dX4_residue_19 (by decide) rfl ?_
    exact z_lv2 (w_X4_residue_21 fx hR hr fu a1 (((a0 - a0 / a1 * a1) + a1) - ((a0 - a0 / a1 * a1) + a1) / a1 * a1) 0 1 h) rfl
set_option maxRecDepth 100000 in
set_option maxHeartbeats 4000000 in
theorem w_X4_residues_41 {E : zE} {D : va_G} {ad : Nat → Nat} {g : Nat → ClassId} (fx : zFX E (mw D ad g) cX4_residues RX4 5 (some .int)) (hR : zR E = rmX4_residues) {r : Int32 × zMi} {J : zMl} (hr : zRX E (mw D ad g) (some (.int r.1)) r.2 J) {k33 : Int32 → Int32 → Int32 → zMi → Option (Int32 × zMi)} (hk33 : ∀ (a1 : Int32) (a2 : Int32) (a3 : Int32) (I : zMi) , k33 a1 a2 a3 I = some r → zAt E (mw D ad g) 33 [(0, .ref (ad (0))), (1, .int a1), (2, .int a2), (3, .int a3)] [] I J) : ∀ (fuel : Nat) (a1 : Int32) (a2 : Int32) (a3 : Int32) (a4 : Int32) (I : zMi) , f_X4_residues_41 k33 fuel a1 a2 a3 a4 I = some r → zAt E (mw D ad g) 41 [(0, .ref (ad (0))), (1, .int a1), (2, .int a2), (3, .int a3), (4, .int a4)] [] I J := by
  intro fuel
  induction fuel with
  | zero => intro a1 a2 a3 a4 I h; rw [f_X4_residues_41] at h; cases h
  | succ f ih =>
    intro a1 a2 a3 a4 I h
    rw [f_X4_residues_41] at h
    refine z_iload fx dX4_residues_41 rfl ?_
    refine z_iload_n fx dX4_residues_43 rfl ?_
    refine z_icmp_ge (tgt := 73) fx dX4_residues_44 (by decide) (fun q1 => ?_) (fun q1 => ?_)
    · rw [if_pos q1] at h
      refine z_iinc (v := (a3 + 1)) fx dX4_residues_73 rfl rfl (by decide) rfl ?_
      refine z_goto (tgt := 33) fx dX4_residues_76 (by decide) ?_
      exact z_lv2 (hk33 a1 a2 (a3 + 1) I h) rfl
    · rw [if_neg q1] at h
      refine z_aload_n fx dX4_residues_47 rfl ?_
      refine gM_built fx wf_X4_35 dX4_residues_48 ?_
      refine z_bipush (v := 12) fx dX4_residues_51 rfl ?_
      refine z_iload_n fx dX4_residues_53 rfl ?_
      refine z_imul fx dX4_residues_54 ?_
      refine z_iload fx dX4_residues_55 rfl ?_
      refine z_iadd fx dX4_residues_57 ?_
      refine z_iload fx dX4_residues_58 rfl ?_
      refine z_iload_n fx dX4_residues_60 rfl ?_
      refine z_isub fx dX4_residues_61 ?_
      refine z_iload_n fx dX4_residues_62 rfl ?_
      obtain ⟨x2, ex2, h⟩ := ob h
      refine zSi (rest := [.int ((12 * a3) + a4), .ref (ad (8))]) fx hR (c_X4_residue (zl E) D ad g (a4 - a3) a2 I J ex2) mvX4_residue wm_X4_165 dX4_residues_63 rfl ⟨rfl, rfl⟩ rfl rfl rfl ?_
      obtain ⟨q3, h⟩ := oi h
      refine m_ist fx (Nat.le_of_ble_eq_true rfl) (cfM_8 g ad) q3 dX4_residues_66 ?_
      refine z_iinc (v := (a4 + 1)) fx dX4_residues_67 rfl rfl (by decide) rfl ?_
      refine z_goto (tgt := 41) fx dX4_residues_70 (by decide) ?_
      exact z_lv2 (ih a1 a2 a3 (a4 + 1) (wI I (8) ((12 * a3) + a4).toNatClampNeg x2) h) rfl
set_option maxRecDepth 100000 in
set_option maxHeartbeats 4000000 in
theorem w_X4_residues_33 {E : zE} {D : va_G} {ad : Nat → Nat} {g : Nat → ClassId} (fx : zFX E (mw D ad g) cX4_residues RX4 5 (some .int)) (hR : zR E = rmX4_residues) {r : Int32 × zMi} {J : zMl} (hr : zRX E (mw D ad g) (some (.int r.1)) r.2 J) : ∀ (fuel : Nat) (a1 : Int32) (a2 : Int32) (a3 : Int32) (I : zMi) , f_X4_residues_33 fuel a1 a2 a3 I = some r → zAt E (mw D ad g) 33 [(0, .ref (ad (0))), (1, .int a1), (2, .int a2), (3, .int a3)] [] I J := by
  intro fuel
  induction fuel with
  | zero => intro a1 a2 a3 I h; rw [f_X4_residues_33] at h; cases h
  | succ f ih =>
    intro a1 a2 a3 I h
    rw [f_X4_residues_33] at h
    refine z_iload_n fx dX4_residues_33 rfl ?_
    refine z_iload_n fx dX4_residues_34 rfl ?_
    refine z_icmp_ge (tgt := 79) fx dX4_residues_35 (by decide) (fun q1 => ?_) (fun q1 => ?_)
    · rw [if_pos q1] at h
      refine z_aload_n fx dX4_residues_79 rfl ?_
      refine z_iload_n fx dX4_residues_80 rfl ?_
      refine z_iload_n fx dX4_residues_81 rfl ?_
      obtain ⟨x2, ex2, h⟩ := ob h
      refine zVi (k := 0) (rest := []) fx hR (c_X4_take (zl E) D ad g a1 a2 I J ex2) rcM mvX4_take wm_X4_162 dX4_residues_82 rfl ⟨rfl, rfl⟩ rfl rfl rfl ?_
      cases h
      exact z_iret fx hr dX4_residues_85
    · rw [if_neg q1] at h
      refine z_iconst (v := 0) fx dX4_residues_38 rfl ?_
      refine z_istore fx dX4_residues_39 (by decide) rfl ?_
      exact z_lv2 (w_X4_residues_41 fx hR hr ih fu a1 a2 a3 0 I h) rfl
set_option maxRecDepth 100000 in
set_option maxHeartbeats 4000000 in
theorem c_X4_residues (l : Launch) (D : va_G) (ad : Nat → Nat) (g : Nat → ClassId) (a1 : Int32) (a2 : Int32) (I : zMi) (J : zMl) {r : Int32 × zMi} (h : f_X4_residues a1 a2 I = some r) : zCM (mw D ad g) l yX4_residues cX4_residues 5 (some .int) rmX4_residues [.ref (ad (0)), .int a1, .int a2] I J (some (.int r.1)) r.2 J := by
  refine zCM.of (by decide) (Nat.le_of_ble_eq_true rfl) (fun E hl hR fx hr => ?_)
  subst hl
  rw [f_X4_residues] at h
  refine z_iload_n fx dX4_residues_0 rfl ?_
  refine zSi (rest := []) fx hR (c_X4_isTable (zl E) D ad g a1 I J rfl) mvX4_isTable wm_X4_99 dX4_residues_1 rfl ⟨rfl, rfl⟩ rfl rfl rfl ?_
  refine z_if_eq (tgt := 29) fx dX4_residues_4 (by decide) (fun q1 => ?_) (fun q1 => ?_)
  · rw [if_pos q1] at h
    refine z_iconst (v := (-1)) fx dX4_residues_29 rfl ?_
    cases h
    exact z_iret fx hr dX4_residues_30
  · rw [if_neg q1] at h
    refine z_iload_n fx dX4_residues_7 rfl ?_
    refine z_iconst (v := 3) fx dX4_residues_8 rfl ?_
    refine z_icmp_eq (tgt := 31) fx dX4_residues_9 (by decide) (fun q2 => ?_) (fun q2 => ?_)
    · rw [if_pos q2] at h
      refine z_iconst (v := 0) fx dX4_residues_31 rfl ?_
      refine z_istore_n fx dX4_residues_32 (by decide) rfl ?_
      exact z_lv2 (w_X4_residues_33 fx hR hr fu a1 a2 0 I h) rfl
    · rw [if_neg q2] at h
      refine z_iload_n fx dX4_residues_12 rfl ?_
      refine z_iconst (v := 5) fx dX4_residues_13 rfl ?_
      refine z_icmp_eq (tgt := 31) fx dX4_residues_14 (by decide) (fun q3 => ?_) (fun q3 => ?_)
      · rw [if_pos q3] at h
        refine z_iconst (v := 0) fx dX4_residues_31 rfl ?_
        refine z_istore_n fx dX4_residues_32 (by decide) rfl ?_
        exact z_lv2 (w_X4_residues_33 fx hR hr fu a1 a2 0 I h) rfl
      · rw [if_neg q3] at h
        refine z_iload_n fx dX4_residues_17 rfl ?_
        refine z_bipush (v := 7) fx dX4_residues_18 rfl ?_
        refine z_icmp_eq (tgt := 31) fx dX4_residues_20 (by decide) (fun q4 => ?_) (fun q4 => ?_)
        · rw [if_pos q4] at h
          refine z_iconst (v := 0) fx dX4_residues_31 rfl ?_
          refine z_istore_n fx dX4_residues_32 (by decide) rfl ?_
          exact z_lv2 (w_X4_residues_33 fx hR hr fu a1 a2 0 I h) rfl
        · rw [if_neg q4] at h
          refine z_iload_n fx dX4_residues_23 rfl ?_
          refine z_bipush (v := 11) fx dX4_residues_24 rfl ?_
          refine z_icmp_eq (tgt := 31) fx dX4_residues_26 (by decide) (fun q5 => ?_) (fun q5 => ?_)
          · rw [if_pos q5] at h
            refine z_iconst (v := 0) fx dX4_residues_31 rfl ?_
            refine z_istore_n fx dX4_residues_32 (by decide) rfl ?_
            exact z_lv2 (w_X4_residues_33 fx hR hr fu a1 a2 0 I h) rfl
          · rw [if_neg q5] at h
            refine z_iconst (v := (-1)) fx dX4_residues_29 rfl ?_
            cases h
            exact z_iret fx hr dX4_residues_30
set_option maxRecDepth 100000 in
set_option maxHeartbeats 4000000 in
theorem w_X4_bordered_36 {E : zE} {D : va_G} {ad : Nat → Nat} {g : Nat → ClassId} (fx : zFX E (mw D ad g) cX4_bordered RX4 5 (some .int)) (hR : zR E = rmX4_bordered) {r : Int32 × zMi} {J : zMl} (hr : zRX E (mw D ad g) (some (.int r.1)) r.2 J) {k28 : Int32 → Int32 → Int32 → zMi → Option (Int32 × zMi)} (hk28 : ∀ (a1 : Int32) (a2 : Int32) (a3 : Int32) (I : zMi) , k28 a1 a2 a3 I = some r → zAt E (mw D ad g) 28 [(0, .ref (ad (0))), (1, .int a1), (2, .int a2), (3, .int a3)] [] I J) : ∀ (fuel : Nat) (a1 : Int32) (a2 : Int32) (a3 : Int32) (a4 : Int32) (I : zMi) , f_X4_bordered_36 k28 fuel a1 a2 a3 a4 I = some r → zAt E (mw D ad g) 36 [(0, .ref (ad (0))), (1, .int a1), (2, .int a2), (3, .int a3), (4, .int a4)] [] I J := by
  intro fuel
  induction fuel with
  | zero => intro a1 a2 a3 a4 I h; rw [f_X4_bordered_36] at h; cases h
  | succ f ih =>
    intro a1 a2 a3 a4 I h
    rw [f_X4_bordered_36] at h
    refine z_iload fx dX4_bordered_36 rfl ?_
    refine z_iload_n fx dX4_bordered_38 rfl ?_
    refine z_icmp_gt (tgt := 95) fx dX4_bordered_39 (by decide) (fun q1 => ?_) (fun q1 => ?_)
    · rw [if_pos q1] at h
      refine z_iinc (v := (a3 + 1)) fx dX4_bordered_95 rfl rfl (by decide) rfl ?_
      refine z_goto (tgt := 28) fx dX4_bordered_98 (by decide) ?_
      exact z_lv2 (hk28 a1 a2 (a3 + 1) I h) rfl
    · rw [if_neg q1] at h
      refine z_aload_n fx dX4_bordered_42 rfl ?_
      refine gM_built fx wf_X4_35 dX4_bordered_43 ?_
      refine z_bipush (v := 12) fx dX4_bordered_46 rfl ?_
      refine z_iload_n fx dX4_bordered_48 rfl ?_
      refine z_imul fx dX4_bordered_49 ?_
      refine z_iload fx dX4_bordered_50 rfl ?_
      refine z_iadd fx dX4_bordered_52 ?_
      refine z_iload_n fx dX4_bordered_53 rfl ?_
      refine z_if_ne (tgt := 61) fx dX4_bordered_54 (by decide) (fun q2 => ?_) (fun q2 => ?_)
      · rw [if_neg q2] at h
        refine z_iload fx dX4_bordered_61 rfl ?_
        refine z_if_ne (tgt := 70) fx dX4_bordered_63 (by decide) (fun q3 => ?_) (fun q3 => ?_)
        · rw [if_neg q3] at h
          refine z_iload_n fx dX4_bordered_70 rfl ?_
          refine z_iload fx dX4_bordered_71 rfl ?_
          refine z_icmp_ne (tgt := 80) fx dX4_bordered_73 (by decide) (fun q4 => ?_) (fun q4 => ?_)
          · rw [if_neg q4] at h
            refine z_iload fx dX4_bordered_80 rfl ?_
            refine z_iload_n fx dX4_bordered_82 rfl ?_
            refine z_isub fx dX4_bordered_83 ?_
            refine z_iload_n fx dX4_bordered_84 rfl ?_
            obtain ⟨x5, ex5, h⟩ := ob h
            refine zSi (rest := [.int ((12 * a3) + a4), .ref (ad (8))]) fx hR (c_X4_residue (zl E) D ad g (a4 - a3) a2 I J ex5) mvX4_residue wm_X4_165 dX4_bordered_85 rfl ⟨rfl, rfl⟩ rfl rfl rfl ?_
            obtain ⟨q6, h⟩ := oi h
            refine m_ist fx (Nat.le_of_ble_eq_true rfl) (cfM_8 g ad) q6 dX4_bordered_88 ?_
            refine z_iinc (v := (a4 + 1)) fx dX4_bordered_89 rfl rfl (by decide) rfl ?_
            refine z_goto (tgt := 36) fx dX4_bordered_92 (by decide) ?_
            exact z_lv2 (ih a1 a2 a3 (a4 + 1) (wI I (8) ((12 * a3) + a4).toNatClampNeg x5) h) rfl
          · rw [if_pos q4] at h
            refine z_iconst (v := 1) fx dX4_bordered_76 rfl ?_
            refine z_goto (tgt := 88) fx dX4_bordered_77 (by decide) ?_
            obtain ⟨q7, h⟩ := oi h
            refine m_ist fx (Nat.le_of_ble_eq_true rfl) (cfM_8 g ad) q7 dX4_bordered_88 ?_
            refine z_iinc (v := (a4 + 1)) fx dX4_bordered_89 rfl rfl (by decide) rfl ?_
            refine z_goto (tgt := 36) fx dX4_bordered_92 (by decide) ?_
            exact z_lv2 (ih a1 a2 a3 (a4 + 1) (wI I (8) ((12 * a3) + a4).toNatClampNeg 1) h) rfl
        · rw [if_pos q3] at h
          refine z_iconst (v := (-1)) fx dX4_bordered_66 rfl ?_
          refine z_goto (tgt := 88) fx dX4_bordered_67 (by decide) ?_
          obtain ⟨q8, h⟩ := oi h
          refine m_ist fx (Nat.le_of_ble_eq_true rfl) (cfM_8 g ad) q8 dX4_bordered_88 ?_
          refine z_iinc (v := (a4 + 1)) fx dX4_bordered_89 rfl rfl (by decide) rfl ?_
          refine z_goto (tgt := 36) fx dX4_bordered_92 (by decide) ?_
          exact z_lv2 (ih a1 a2 a3 (a4 + 1) (wI I (8) ((12 * a3) + a4).toNatClampNeg (-1)) h) rfl
      · rw [if_pos q2] at h
        refine z_iconst (v := 1) fx dX4_bordered_57 rfl ?_
        refine z_goto (tgt := 88) fx dX4_bordered_58 (by decide) ?_
        obtain ⟨q9, h⟩ := oi h
        refine m_ist fx (Nat.le_of_ble_eq_true rfl) (cfM_8 g ad) q9 dX4_bordered_88 ?_
        refine z_iinc (v := (a4 + 1)) fx dX4_bordered_89 rfl rfl (by decide) rfl ?_
        refine z_goto (tgt := 36) fx dX4_bordered_92 (by decide) ?_
        exact z_lv2 (ih a1 a2 a3 (a4 + 1) (wI I (8) ((12 * a3) + a4).toNatClampNeg 1) h) rfl
set_option maxRecDepth 100000 in
set_option maxHeartbeats 4000000 in
theorem w_X4_bordered_28 {E : zE} {D : va_G} {ad : Nat → Nat} {g : Nat → ClassId} (fx : zFX E (mw D ad g) cX4_bordered RX4 5 (some .int)) (hR : zR E = rmX4_bordered) {r : Int32 × zMi} {J : zMl} (hr : zRX E (mw D ad g) (some (.int r.1)) r.2 J) : ∀ (fuel : Nat) (a1 : Int32) (a2 : Int32) (a3 : Int32) (I : zMi) , f_X4_bordered_28 fuel a1 a2 a3 I = some r → zAt E (mw D ad g) 28 [(0, .ref (ad (0))), (1, .int a1), (2, .int a2), (3, .int a3)] [] I J := by
  intro fuel
  induction fuel with
  | zero => intro a1 a2 a3 I h; rw [f_X4_bordered_28] at h; cases h
  | succ f ih =>
    intro a1 a2 a3 I h
    rw [f_X4_bordered_28] at h
    refine z_iload_n fx dX4_bordered_28 rfl ?_
    refine z_iload_n fx dX4_bordered_29 rfl ?_
    refine z_icmp_gt (tgt := 101) fx dX4_bordered_30 (by decide) (fun q1 => ?_) (fun q1 => ?_)
    · rw [if_pos q1] at h
      refine z_aload_n fx dX4_bordered_101 rfl ?_
      refine z_iload_n fx dX4_bordered_102 rfl ?_
      refine z_iload_n fx dX4_bordered_103 rfl ?_
      refine z_iconst (v := 1) fx dX4_bordered_104 rfl ?_
      refine z_iadd fx dX4_bordered_105 ?_
      obtain ⟨x2, ex2, h⟩ := ob h
      refine zVi (k := 0) (rest := []) fx hR (c_X4_take (zl E) D ad g a1 (a2 + 1) I J ex2) rcM mvX4_take wm_X4_162 dX4_bordered_106 rfl ⟨rfl, rfl⟩ rfl rfl rfl ?_
      cases h
      exact z_iret fx hr dX4_bordered_109
    · rw [if_neg q1] at h
      refine z_iconst (v := 0) fx dX4_bordered_33 rfl ?_
      refine z_istore fx dX4_bordered_34 (by decide) rfl ?_
      exact z_lv2 (w_X4_bordered_36 fx hR hr ih fu a1 a2 a3 0 I h) rfl
set_option maxRecDepth 100000 in
set_option maxHeartbeats 4000000 in
theorem c_X4_bordered (l : Launch) (D : va_G) (ad : Nat → Nat) (g : Nat → ClassId) (a1 : Int32) (a2 : Int32) (I : zMi) (J : zMl) {r : Int32 × zMi} (h : f_X4_bordered a1 a2 I = some r) : zCM (mw D ad g) l yX4_bordered cX4_bordered 5 (some .int) rmX4_bordered [.ref (ad (0)), .int a1, .int a2] I J (some (.int r.1)) r.2 J := by
  refine zCM.of (by decide) (Nat.le_of_ble_eq_true rfl) (fun E hl hR fx hr => ?_)
  subst hl
  rw [f_X4_bordered] at h
  refine z_iload_n fx dX4_bordered_0 rfl ?_
  refine zSi (rest := []) fx hR (c_X4_isTable (zl E) D ad g a1 I J rfl) mvX4_isTable wm_X4_99 dX4_bordered_1 rfl ⟨rfl, rfl⟩ rfl rfl rfl ?_
  refine z_if_eq (tgt := 24) fx dX4_bordered_4 (by decide) (fun q1 => ?_) (fun q1 => ?_)
  · rw [if_pos q1] at h
    refine z_iconst (v := (-1)) fx dX4_bordered_24 rfl ?_
    cases h
    exact z_iret fx hr dX4_bordered_25
  · rw [if_neg q1] at h
    refine z_iload_n fx dX4_bordered_7 rfl ?_
    refine z_iconst (v := 3) fx dX4_bordered_8 rfl ?_
    refine z_icmp_eq (tgt := 26) fx dX4_bordered_9 (by decide) (fun q2 => ?_) (fun q2 => ?_)
    · rw [if_pos q2] at h
      refine z_iconst (v := 0) fx dX4_bordered_26 rfl ?_
      refine z_istore_n fx dX4_bordered_27 (by decide) rfl ?_
      exact z_lv2 (w_X4_bordered_28 fx hR hr fu a1 a2 0 I h) rfl
    · rw [if_neg q2] at h
      refine z_iload_n fx dX4_bordered_12 rfl ?_
      refine z_bipush (v := 7) fx dX4_bordered_13 rfl ?_
      refine z_icmp_eq (tgt := 26) fx dX4_bordered_15 (by decide) (fun q3 => ?_) (fun q3 => ?_)
      · rw [if_pos q3] at h
        refine z_iconst (v := 0) fx dX4_bordered_26 rfl ?_
        refine z_istore_n fx dX4_bordered_27 (by decide) rfl ?_
        exact z_lv2 (w_X4_bordered_28 fx hR hr fu a1 a2 0 I h) rfl
      · rw [if_neg q3] at h
        refine z_iload_n fx dX4_bordered_18 rfl ?_
        refine z_bipush (v := 11) fx dX4_bordered_19 rfl ?_
        refine z_icmp_eq (tgt := 26) fx dX4_bordered_21 (by decide) (fun q4 => ?_) (fun q4 => ?_)
        · rw [if_pos q4] at h
          refine z_iconst (v := 0) fx dX4_bordered_26 rfl ?_
          refine z_istore_n fx dX4_bordered_27 (by decide) rfl ?_
          exact z_lv2 (w_X4_bordered_28 fx hR hr fu a1 a2 0 I h) rfl
        · rw [if_neg q4] at h
          refine z_iconst (v := (-1)) fx dX4_bordered_24 rfl ?_
          cases h
          exact z_iret fx hr dX4_bordered_25
set_option maxRecDepth 100000 in
set_option maxHeartbeats 4000000 in
theorem w_X4_roundEcho_13 {E : zE} {D : va_G} {ad : Nat → Nat} {g : Nat → ClassId} (fx : zFX E (mw D ad g) cX4_roundEcho RX4 6 (some .int)) (hR : zR E = rmX4_roundEcho) {r : Int32} {I : zMi} {J : zMl} (hr : zRX E (mw D ad g) (some (.int r)) I J) : ∀ (fuel : Nat) (a1 : Int32) (a2 : Int32) (a3 : Int32) (a4 : Int32) (a5 : Int32), f_X4_roundEcho_13 I fuel a1 a2 a3 a4 a5 = some r → zAt E (mw D ad g) 13 [(0, .ref (ad (0))), (1, .int a1), (2, .int a2), (3, .int a3), (4, .int a4), (5, .int a5)] [] I J := by
  intro fuel
  induction fuel with
  | zero => intro a1 a2 a3 a4 a5 h; rw [f_X4_roundEcho_13] at h; cases h
  | succ f ih =>
    intro a1 a2 a3 a4 a5 h
    rw [f_X4_roundEcho_13] at h
    refine z_iload fx dX4_roundEcho_13 rfl ?_
    refine z_iload_n fx dX4_roundEcho_15 rfl ?_
    refine z_icmp_ge (tgt := 59) fx dX4_roundEcho_16 (by decide) (fun q1 => ?_) (fun q1 => ?_)
    · rw [if_pos q1] at h
      refine z_iload fx dX4_roundEcho_59 rfl ?_
      cases h
      exact z_iret fx hr dX4_roundEcho_61
    · rw [if_neg q1] at h
      refine z_iload fx dX4_roundEcho_19 rfl ?_
      refine z_aload_n fx dX4_roundEcho_21 rfl ?_
      refine gM_rows fx wf_X4_20 dX4_roundEcho_22 ?_
      refine z_bipush (v := 24) fx dX4_roundEcho_25 rfl ?_
      refine z_iload_n fx dX4_roundEcho_27 rfl ?_
      refine z_imul fx dX4_roundEcho_28 ?_
      refine z_iload fx dX4_roundEcho_29 rfl ?_
      refine z_iadd fx dX4_roundEcho_31 ?_
      obtain ⟨q2, h⟩ := oi h
      refine m_ild fx (Nat.le_of_ble_eq_true rfl) (cfM_3 g ad) q2 dX4_roundEcho_32 ?_
      refine z_aload_n fx dX4_roundEcho_33 rfl ?_
      refine gM_rows fx wf_X4_20 dX4_roundEcho_34 ?_
      refine z_bipush (v := 24) fx dX4_roundEcho_37 rfl ?_
      refine z_iload_n fx dX4_roundEcho_39 rfl ?_
      refine z_imul fx dX4_roundEcho_40 ?_
      refine z_iload fx dX4_roundEcho_41 rfl ?_
      refine z_iload_n fx dX4_roundEcho_43 rfl ?_
      refine z_iadd fx dX4_roundEcho_44 ?_
      refine z_iload_n fx dX4_roundEcho_45 rfl ?_
      obtain ⟨q3, h⟩ := on h
      refine z_irem fx dX4_roundEcho_46 q3 ?_
      refine z_iadd fx dX4_roundEcho_47 ?_
      obtain ⟨q4, h⟩ := oi h
      refine m_ild fx (Nat.le_of_ble_eq_true rfl) (cfM_3 g ad) q4 dX4_roundEcho_48 ?_
      refine z_imul fx dX4_roundEcho_49 ?_
      refine z_iadd fx dX4_roundEcho_50 ?_
      refine z_istore fx dX4_roundEcho_51 (by decide) rfl ?_
      refine z_iinc (v := (a5 + 1)) fx dX4_roundEcho_53 rfl rfl (by decide) rfl ?_
      refine z_goto (tgt := 13) fx dX4_roundEcho_56 (by decide) ?_
      exact z_lv2 (ih a1 a2 a3 (a4 + ((I (3) ((24 * a1) + a5).toNatClampNeg) * (I (3) ((24 * a1) + ((a5 + a2) - (a5 + a2) / a3 * a3)).toNatClampNeg))) (a5 + 1) h) rfl
set_option maxRecDepth 100000 in
set_option maxHeartbeats 4000000 in
theorem c_X4_roundEcho (l : Launch) (D : va_G) (ad : Nat → Nat) (g : Nat → ClassId) (a1 : Int32) (a2 : Int32) (I : zMi) (J : zMl) {r : Int32} (h : f_X4_roundEcho a1 a2 I = some r) : zCM (mw D ad g) l yX4_roundEcho cX4_roundEcho 6 (some .int) rmX4_roundEcho [.ref (ad (0)), .int a1, .int a2] I J (some (.int r)) I J := by
  refine zCM.of (by decide) (Nat.le_of_ble_eq_true rfl) (fun E hl hR fx hr => ?_)
  subst hl
  rw [f_X4_roundEcho] at h
  refine z_aload_n fx dX4_roundEcho_0 rfl ?_
  refine gM_sizes fx wf_X4_17 dX4_roundEcho_1 ?_
  refine z_iload_n fx dX4_roundEcho_4 rfl ?_
  obtain ⟨q1, h⟩ := oi h
  refine m_ild fx (Nat.le_of_ble_eq_true rfl) (cfM_2 g ad) q1 dX4_roundEcho_5 ?_
  refine z_istore_n fx dX4_roundEcho_6 (by decide) rfl ?_
  refine z_iconst (v := 0) fx dX4_roundEcho_7 rfl ?_
  refine z_istore fx dX4_roundEcho_8 (by decide) rfl ?_
  refine z_iconst (v := 0) fx dX4_roundEcho_10 rfl ?_
  refine z_istore fx dX4_roundEcho_11 (by decide) rfl ?_
  exact z_lv2 (w_X4_roundEcho_13 fx hR hr fu a1 a2 (I (2) a1.toNatClampNeg) 0 0 h) rfl
set_option maxRecDepth 100000 in
set_option maxHeartbeats 4000000 in
theorem c_X4_partAt (l : Launch) (D : va_G) (ad : Nat → Nat) (g : Nat → ClassId) (a0 : Int32) (a1 : Int32) (I : zMi) (J : zMl) {r : Int32} (h : f_X4_partAt a0 a1 = r) : zCM (mw D ad g) l yX4_partAt cX4_partAt 2 (some .int) rmX4_partAt [.int a0, .int a1] I J (some (.int r)) I J := by
  refine zCM.of (by decide) (Nat.le_of_ble_eq_true rfl) (fun E hl hR fx hr => ?_)
  subst hl
  rw [f_X4_partAt] at h
  refine z_iconst (v := 4) fx dX4_partAt_0 rfl ?_
  refine z_iload_n fx dX4_partAt_1 rfl ?_
  refine z_imul fx dX4_partAt_2 ?_
  refine z_iload_n fx dX4_partAt_3 rfl ?_
  refine z_iadd fx dX4_partAt_4 ?_
  by_cases q1 : ((4 * a0) + a1) = 0
  · rw [if_pos q1] at h
    refine z_tin (off := 75) (tgt := 80) fx dX4_partAt_5 (by rw [q1]; decide) (by rw [q1]; decide) (by rw [q1]; rfl) (by decide) ?_
    refine z_iconst (v := 1) fx dX4_partAt_80 rfl ?_
    subst h
    exact z_iret fx hr dX4_partAt_81
  · rw [if_neg q1] at h
    by_cases q2 : ((4 * a0) + a1) = 1
    · rw [if_pos q2] at h
      refine z_tin (off := 77) (tgt := 82) fx dX4_partAt_5 (by rw [q2]; decide) (by rw [q2]; decide) (by rw [q2]; rfl) (by decide) ?_
      refine z_iconst (v := 2) fx dX4_partAt_82 rfl ?_
      subst h
      exact z_iret fx hr dX4_partAt_83
    · rw [if_neg q2] at h
      by_cases q3 : ((4 * a0) + a1) = 2
      · rw [if_pos q3] at h
        refine z_tin (off := 79) (tgt := 84) fx dX4_partAt_5 (by rw [q3]; decide) (by rw [q3]; decide) (by rw [q3]; rfl) (by decide) ?_
        refine z_iconst (v := 3) fx dX4_partAt_84 rfl ?_
        subst h
        exact z_iret fx hr dX4_partAt_85
      · rw [if_neg q3] at h
        by_cases q4 : ((4 * a0) + a1) = 3
        · rw [if_pos q4] at h
          refine z_tin (off := 81) (tgt := 86) fx dX4_partAt_5 (by rw [q4]; decide) (by rw [q4]; decide) (by rw [q4]; rfl) (by decide) ?_
          refine z_iconst (v := 4) fx dX4_partAt_86 rfl ?_
          subst h
          exact z_iret fx hr dX4_partAt_87
        · rw [if_neg q4] at h
          by_cases q5 : ((4 * a0) + a1) = 4
          · rw [if_pos q5] at h
            refine z_tin (off := 83) (tgt := 88) fx dX4_partAt_5 (by rw [q5]; decide) (by rw [q5]; decide) (by rw [q5]; rfl) (by decide) ?_
            refine z_bipush (v := (-2)) fx dX4_partAt_88 rfl ?_
            subst h
            exact z_iret fx hr dX4_partAt_90
          · rw [if_neg q5] at h
            by_cases q6 : ((4 * a0) + a1) = 5
            · rw [if_pos q6] at h
              refine z_tin (off := 86) (tgt := 91) fx dX4_partAt_5 (by rw [q6]; decide) (by rw [q6]; decide) (by rw [q6]; rfl) (by decide) ?_
              refine z_iconst (v := 1) fx dX4_partAt_91 rfl ?_
              subst h
              exact z_iret fx hr dX4_partAt_92
            · rw [if_neg q6] at h
              by_cases q7 : ((4 * a0) + a1) = 6
              · rw [if_pos q7] at h
                refine z_tin (off := 88) (tgt := 93) fx dX4_partAt_5 (by rw [q7]; decide) (by rw [q7]; decide) (by rw [q7]; rfl) (by decide) ?_
                refine z_bipush (v := (-4)) fx dX4_partAt_93 rfl ?_
                subst h
                exact z_iret fx hr dX4_partAt_95
              · rw [if_neg q7] at h
                by_cases q8 : ((4 * a0) + a1) = 7
                · rw [if_pos q8] at h
                  refine z_tin (off := 91) (tgt := 96) fx dX4_partAt_5 (by rw [q8]; decide) (by rw [q8]; decide) (by rw [q8]; rfl) (by decide) ?_
                  refine z_iconst (v := 3) fx dX4_partAt_96 rfl ?_
                  subst h
                  exact z_iret fx hr dX4_partAt_97
                · rw [if_neg q8] at h
                  by_cases q9 : ((4 * a0) + a1) = 8
                  · rw [if_pos q9] at h
                    refine z_tin (off := 93) (tgt := 98) fx dX4_partAt_5 (by rw [q9]; decide) (by rw [q9]; decide) (by rw [q9]; rfl) (by decide) ?_
                    refine z_bipush (v := (-3)) fx dX4_partAt_98 rfl ?_
                    subst h
                    exact z_iret fx hr dX4_partAt_100
                  · rw [if_neg q9] at h
                    by_cases q10 : ((4 * a0) + a1) = 9
                    · rw [if_pos q10] at h
                      refine z_tin (off := 96) (tgt := 101) fx dX4_partAt_5 (by rw [q10]; decide) (by rw [q10]; decide) (by rw [q10]; rfl) (by decide) ?_
                      refine z_iconst (v := 4) fx dX4_partAt_101 rfl ?_
                      subst h
                      exact z_iret fx hr dX4_partAt_102
                    · rw [if_neg q10] at h
                      by_cases q11 : ((4 * a0) + a1) = 10
                      · rw [if_pos q11] at h
                        refine z_tin (off := 98) (tgt := 103) fx dX4_partAt_5 (by rw [q11]; decide) (by rw [q11]; decide) (by rw [q11]; rfl) (by decide) ?_
                        refine z_iconst (v := 1) fx dX4_partAt_103 rfl ?_
                        subst h
                        exact z_iret fx hr dX4_partAt_104
                      · rw [if_neg q11] at h
                        by_cases q12 : ((4 * a0) + a1) = 11
                        · rw [if_pos q12] at h
                          refine z_tin (off := 100) (tgt := 105) fx dX4_partAt_5 (by rw [q12]; decide) (by rw [q12]; decide) (by rw [q12]; rfl) (by decide) ?_
                          refine z_bipush (v := (-2)) fx dX4_partAt_105 rfl ?_
                          subst h
                          exact z_iret fx hr dX4_partAt_107
                        · rw [if_neg q12] at h
                          by_cases q13 : ((4 * a0) + a1) = 12
                          · rw [if_pos q13] at h
                            refine z_tin (off := 103) (tgt := 108) fx dX4_partAt_5 (by rw [q13]; decide) (by rw [q13]; decide) (by rw [q13]; rfl) (by decide) ?_
                            refine z_bipush (v := (-4)) fx dX4_partAt_108 rfl ?_
                            subst h
                            exact z_iret fx hr dX4_partAt_110
                          · rw [if_neg q13] at h
                            by_cases q14 : ((4 * a0) + a1) = 13
                            · rw [if_pos q14] at h
                              refine z_tin (off := 106) (tgt := 111) fx dX4_partAt_5 (by rw [q14]; decide) (by rw [q14]; decide) (by rw [q14]; rfl) (by decide) ?_
                              refine z_bipush (v := (-3)) fx dX4_partAt_111 rfl ?_
                              subst h
                              exact z_iret fx hr dX4_partAt_113
                            · rw [if_neg q14] at h
                              by_cases q15 : ((4 * a0) + a1) = 14
                              · rw [if_pos q15] at h
                                refine z_tin (off := 109) (tgt := 114) fx dX4_partAt_5 (by rw [q15]; decide) (by rw [q15]; decide) (by rw [q15]; rfl) (by decide) ?_
                                refine z_iconst (v := 2) fx dX4_partAt_114 rfl ?_
                                subst h
                                exact z_iret fx hr dX4_partAt_115
                              · rw [if_neg q15] at h
                                refine z_tout (tgt := 116) fx dX4_partAt_5 (by have := zne q1 (n := 0) (by decide); have := zne q2 (n := 1) (by decide); have := zne q3 (n := 2) (by decide); have := zne q4 (n := 3) (by decide); have := zne q5 (n := 4) (by decide); have := zne q6 (n := 5) (by decide); have := zne q7 (n := 6) (by decide); have := zne q8 (n := 7) (by decide); have := zne q9 (n := 8) (by decide); have := zne q10 (n := 9) (by decide); have := zne q11 (n := 10) (by decide); have := zne q12 (n := 11) (by decide); have := zne q13 (n := 12) (by decide); have := zne q14 (n := 13) (by decide); have := zne q15 (n := 14) (by decide); omega) (by decide) ?_
                                refine z_iconst (v := 1) fx dX4_partAt_116 rfl ?_
                                subst h
                                exact z_iret fx hr dX4_partAt_117
set_option maxRecDepth 100000 in
set_option maxHeartbeats 4000000 in
theorem w_X4_four_423 {E : zE} {D : va_G} {ad : Nat → Nat} {g : Nat → ClassId} (fx : zFX E (mw D ad g) cX4_four RX4 15 (some .int)) (hR : zR E = rmX4_four) {r : Int32 × zMi} {J : zMl} (hr : zRX E (mw D ad g) (some (.int r.1)) r.2 J) {k377 : Int32 → Int32 → Int32 → zMi → Option (Int32 × zMi)} (hk377 : ∀ (a1 : Int32) (a9 : Int32) (a10 : Int32) (I : zMi) , k377 a1 a9 a10 I = some r → zAt E (mw D ad g) 377 [(0, .ref (ad (0))), (1, .int a1), (9, .int a9), (10, .int a10)] [] I J) {k389 : Int32 → Int32 → Int32 → Int32 → zMi → Option (Int32 × zMi)} (hk389 : ∀ (a1 : Int32) (a9 : Int32) (a10 : Int32) (a11 : Int32) (I : zMi) , k389 a1 a9 a10 a11 I = some r → zAt E (mw D ad g) 389 [(0, .ref (ad (0))), (1, .int a1), (9, .int a9), (10, .int a10), (11, .int a11)] [] I J) : ∀ (a1 : Int32) (a9 : Int32) (a10 : Int32) (a11 : Int32) (a12 : Int32) (s0 : Int32) (I : zMi) , f_X4_four_423 k377 k389 a1 a9 a10 a11 a12 s0 I = some r → zAt E (mw D ad g) 423 [(0, .ref (ad (0))), (1, .int a1), (9, .int a9), (10, .int a10), (11, .int a11), (12, .int a12)] [.int s0] I J := by
  intro a1 a9 a10 a11 a12 s0 I h
  rw [f_X4_four_423] at h
  refine z_istore fx dX4_four_423 (by decide) rfl ?_
  refine z_aload_n fx dX4_four_425 rfl ?_
  refine gM_parts fx wf_X4_38 dX4_four_426 ?_
  refine z_iload fx dX4_four_429 rfl ?_
  refine zSi (rest := [.ref (ad (9))]) fx hR (c_X4_abs (zl E) D ad g a12 I J rfl) mvX4_abs wm_X4_177 dX4_four_431 rfl ⟨rfl, rfl⟩ rfl rfl rfl ?_
  refine z_iconst (v := 1) fx dX4_four_434 rfl ?_
  refine z_isub fx dX4_four_435 ?_
  obtain ⟨q1, h⟩ := oi h
  refine m_ild fx (Nat.le_of_ble_eq_true rfl) (cfM_9 g ad) q1 dX4_four_436 ?_
  refine z_istore fx dX4_four_437 (by decide) rfl ?_
  refine z_aload_n fx dX4_four_439 rfl ?_
  refine gM_built fx wf_X4_35 dX4_four_440 ?_
  refine z_bipush (v := 12) fx dX4_four_443 rfl ?_
  refine z_iload fx dX4_four_445 rfl ?_
  refine z_imul fx dX4_four_447 ?_
  refine z_iload fx dX4_four_448 rfl ?_
  refine z_iadd fx dX4_four_450 ?_
  refine z_iload fx dX4_four_451 rfl ?_
  refine z_aload_n fx dX4_four_453 rfl ?_
  refine gM_rows fx wf_X4_20 dX4_four_454 ?_
  refine z_bipush (v := 24) fx dX4_four_457 rfl ?_
  refine z_iload fx dX4_four_459 rfl ?_
  refine z_imul fx dX4_four_461 ?_
  refine z_iload fx dX4_four_462 rfl ?_
  refine z_iload fx dX4_four_464 rfl ?_
  obtain ⟨q2, h⟩ := on h
  refine z_irem fx dX4_four_466 q2 ?_
  refine z_iload fx dX4_four_467 rfl ?_
  refine z_iload fx dX4_four_469 rfl ?_
  refine z_irem fx dX4_four_471 q2 ?_
  refine z_isub fx dX4_four_472 ?_
  refine z_iload fx dX4_four_473 rfl ?_
  refine z_iadd fx dX4_four_475 ?_
  refine z_iload fx dX4_four_476 rfl ?_
  refine z_irem fx dX4_four_478 q2 ?_
  refine z_iadd fx dX4_four_479 ?_
  obtain ⟨q3, h⟩ := oi h
  refine m_ild fx (Nat.le_of_ble_eq_true rfl) (cfM_3 g ad) q3 dX4_four_480 ?_
  refine z_imul fx dX4_four_481 ?_
  obtain ⟨q4, h⟩ := oi h
  refine m_ist fx (Nat.le_of_ble_eq_true rfl) (cfM_8 g ad) q4 dX4_four_482 ?_
  refine z_iinc (v := (a11 + 1)) fx dX4_four_483 rfl rfl (by decide) rfl ?_
  refine z_goto (tgt := 389) fx dX4_four_486 (by decide) ?_
  exact z_lv2 (hk389 a1 a9 a10 (a11 + 1) (wI I (8) ((12 * a10) + a11).toNatClampNeg (s0 * (I (3) ((24 * (I (9) ((f_X4_abs a12) - 1).toNatClampNeg)) + ((((a11 - a11 / a9 * a9) - (a10 - a10 / a9 * a9)) + a9) - (((a11 - a11 / a9 * a9) - (a10 - a10 / a9 * a9)) + a9) / a9 * a9)).toNatClampNeg))) h) rfl
set_option maxRecDepth 100000 in
set_option maxHeartbeats 4000000 in
theorem w_X4_four_389 {E : zE} {D : va_G} {ad : Nat → Nat} {g : Nat → ClassId} (fx : zFX E (mw D ad g) cX4_four RX4 15 (some .int)) (hR : zR E = rmX4_four) {r : Int32 × zMi} {J : zMl} (hr : zRX E (mw D ad g) (some (.int r.1)) r.2 J) {k377 : Int32 → Int32 → Int32 → zMi → Option (Int32 × zMi)} (hk377 : ∀ (a1 : Int32) (a9 : Int32) (a10 : Int32) (I : zMi) , k377 a1 a9 a10 I = some r → zAt E (mw D ad g) 377 [(0, .ref (ad (0))), (1, .int a1), (9, .int a9), (10, .int a10)] [] I J) : ∀ (fuel : Nat) (a1 : Int32) (a9 : Int32) (a10 : Int32) (a11 : Int32) (I : zMi) , f_X4_four_389 k377 fuel a1 a9 a10 a11 I = some r → zAt E (mw D ad g) 389 [(0, .ref (ad (0))), (1, .int a1), (9, .int a9), (10, .int a10), (11, .int a11)] [] I J := by
  intro fuel
  induction fuel with
  | zero => intro a1 a9 a10 a11 I h; rw [f_X4_four_389] at h; cases h
  | succ f ih =>
    intro a1 a9 a10 a11 I h
    rw [f_X4_four_389] at h
    refine z_iload fx dX4_four_389 rfl ?_
    refine z_iconst (v := 4) fx dX4_four_391 rfl ?_
    refine z_iload fx dX4_four_392 rfl ?_
    refine z_imul fx dX4_four_394 ?_
    refine z_icmp_ge (tgt := 489) fx dX4_four_395 (by decide) (fun q1 => ?_) (fun q1 => ?_)
    · rw [if_pos q1] at h
      refine z_iinc (v := (a10 + 1)) fx dX4_four_489 rfl rfl (by decide) rfl ?_
      refine z_goto (tgt := 377) fx dX4_four_492 (by decide) ?_
      exact z_lv2 (hk377 a1 a9 (a10 + 1) I h) rfl
    · rw [if_neg q1] at h
      refine z_iload fx dX4_four_398 rfl ?_
      refine z_iload fx dX4_four_400 rfl ?_
      obtain ⟨q2, h⟩ := on h
      refine z_idiv fx dX4_four_402 q2 ?_
      refine z_iload fx dX4_four_403 rfl ?_
      refine z_iload fx dX4_four_405 rfl ?_
      refine z_idiv fx dX4_four_407 q2 ?_
      refine zSi (rest := []) fx hR (c_X4_partAt (zl E) D ad g (a10 / a9) (a11 / a9) I J rfl) mvX4_partAt wm_X4_174 dX4_four_408 rfl ⟨rfl, rfl⟩ rfl rfl rfl ?_
      refine z_istore fx dX4_four_411 (by decide) rfl ?_
      refine z_iload fx dX4_four_413 rfl ?_
      refine z_if_ge (tgt := 422) fx dX4_four_415 (by decide) (fun q3 => ?_) (fun q3 => ?_)
      · rw [if_pos q3] at h
        refine z_iconst (v := 1) fx dX4_four_422 rfl ?_
        exact z_lv2 (w_X4_four_423 fx hR hr hk377 ih a1 a9 a10 a11 (f_X4_partAt (a10 / a9) (a11 / a9)) 1 I h) rfl
      · rw [if_neg q3] at h
        refine z_iconst (v := (-1)) fx dX4_four_418 rfl ?_
        refine z_goto (tgt := 423) fx dX4_four_419 (by decide) ?_
        exact z_lv2 (w_X4_four_423 fx hR hr hk377 ih a1 a9 a10 a11 (f_X4_partAt (a10 / a9) (a11 / a9)) (-1) I h) rfl
set_option maxRecDepth 100000 in
set_option maxHeartbeats 4000000 in
theorem w_X4_four_377 {E : zE} {D : va_G} {ad : Nat → Nat} {g : Nat → ClassId} (fx : zFX E (mw D ad g) cX4_four RX4 15 (some .int)) (hR : zR E = rmX4_four) {r : Int32 × zMi} {J : zMl} (hr : zRX E (mw D ad g) (some (.int r.1)) r.2 J) : ∀ (fuel : Nat) (a1 : Int32) (a9 : Int32) (a10 : Int32) (I : zMi) , f_X4_four_377 fuel a1 a9 a10 I = some r → zAt E (mw D ad g) 377 [(0, .ref (ad (0))), (1, .int a1), (9, .int a9), (10, .int a10)] [] I J := by
  intro fuel
  induction fuel with
  | zero => intro a1 a9 a10 I h; rw [f_X4_four_377] at h; cases h
  | succ f ih =>
    intro a1 a9 a10 I h
    rw [f_X4_four_377] at h
    refine z_iload fx dX4_four_377 rfl ?_
    refine z_iconst (v := 4) fx dX4_four_379 rfl ?_
    refine z_iload fx dX4_four_380 rfl ?_
    refine z_imul fx dX4_four_382 ?_
    refine z_icmp_ge (tgt := 495) fx dX4_four_383 (by decide) (fun q1 => ?_) (fun q1 => ?_)
    · rw [if_pos q1] at h
      refine z_aload_n fx dX4_four_495 rfl ?_
      refine z_iload_n fx dX4_four_496 rfl ?_
      refine z_iconst (v := 4) fx dX4_four_497 rfl ?_
      refine z_iload fx dX4_four_498 rfl ?_
      refine z_imul fx dX4_four_500 ?_
      obtain ⟨x2, ex2, h⟩ := ob h
      refine zVi (k := 0) (rest := []) fx hR (c_X4_take (zl E) D ad g a1 (4 * a9) I J ex2) rcM mvX4_take wm_X4_162 dX4_four_501 rfl ⟨rfl, rfl⟩ rfl rfl rfl ?_
      cases h
      exact z_iret fx hr dX4_four_504
    · rw [if_neg q1] at h
      refine z_iconst (v := 0) fx dX4_four_386 rfl ?_
      refine z_istore fx dX4_four_387 (by decide) rfl ?_
      exact z_lv2 (w_X4_four_389 fx hR hr ih fu a1 a9 a10 0 I h) rfl
set_option maxRecDepth 100000 in
set_option maxHeartbeats 4000000 in
theorem w_X4_four_322 {E : zE} {D : va_G} {ad : Nat → Nat} {g : Nat → ClassId} (fx : zFX E (mw D ad g) cX4_four RX4 15 (some .int)) (hR : zR E = rmX4_four) {r : Int32 × zMi} {J : zMl} (hr : zRX E (mw D ad g) (some (.int r.1)) r.2 J) : ∀ (fuel : Nat) (a1 : Int32) (a2 : Int32) (a3 : Int32) (a4 : Int32) (a5 : Int32) (a9 : Int32) (a10 : Int32) (I : zMi) , f_X4_four_322 fuel a1 a2 a3 a4 a5 a9 a10 I = some r → zAt E (mw D ad g) 322 [(0, .ref (ad (0))), (1, .int a1), (2, .int a2), (3, .int a3), (4, .int a4), (5, .int a5), (9, .int a9), (10, .int a10)] [] I J := by
  intro fuel
  induction fuel with
  | zero => intro a1 a2 a3 a4 a5 a9 a10 I h; rw [f_X4_four_322] at h; cases h
  | succ f ih =>
    intro a1 a2 a3 a4 a5 a9 a10 I h
    rw [f_X4_four_322] at h
    refine z_iload fx dX4_four_322 rfl ?_
    refine z_iload fx dX4_four_324 rfl ?_
    refine z_icmp_ge (tgt := 374) fx dX4_four_326 (by decide) (fun q1 => ?_) (fun q1 => ?_)
    · rw [if_pos q1] at h
      refine z_iconst (v := 0) fx dX4_four_374 rfl ?_
      refine z_istore fx dX4_four_375 (by decide) rfl ?_
      exact z_lv2 (w_X4_four_377 fx hR hr fu a1 a9 0 I h) rfl
    · rw [if_neg q1] at h
      refine z_aload_n fx dX4_four_329 rfl ?_
      refine z_iload_n fx dX4_four_330 rfl ?_
      refine z_iload fx dX4_four_331 rfl ?_
      obtain ⟨x2, ex2, h⟩ := ob h
      refine zVi (k := 0) (rest := []) fx hR (c_X4_roundEcho (zl E) D ad g a2 a10 I J ex2) rcM mvX4_roundEcho wm_X4_171 dX4_four_333 rfl ⟨rfl, rfl⟩ rfl rfl rfl ?_
      refine z_aload_n fx dX4_four_336 rfl ?_
      refine z_iload_n fx dX4_four_337 rfl ?_
      refine z_iload fx dX4_four_338 rfl ?_
      obtain ⟨x3, ex3, h⟩ := ob h
      refine zVi (k := 0) (rest := [.int x2]) fx hR (c_X4_roundEcho (zl E) D ad g a3 a10 I J ex3) rcM mvX4_roundEcho wm_X4_171 dX4_four_340 rfl ⟨rfl, rfl⟩ rfl rfl rfl ?_
      refine z_iadd fx dX4_four_343 ?_
      refine z_aload_n fx dX4_four_344 rfl ?_
      refine z_iload fx dX4_four_345 rfl ?_
      refine z_iload fx dX4_four_347 rfl ?_
      obtain ⟨x4, ex4, h⟩ := ob h
      refine zVi (k := 0) (rest := [.int (x2 + x3)]) fx hR (c_X4_roundEcho (zl E) D ad g a4 a10 I J ex4) rcM mvX4_roundEcho wm_X4_171 dX4_four_349 rfl ⟨rfl, rfl⟩ rfl rfl rfl ?_
      refine z_iadd fx dX4_four_352 ?_
      refine z_aload_n fx dX4_four_353 rfl ?_
      refine z_iload fx dX4_four_354 rfl ?_
      refine z_iload fx dX4_four_356 rfl ?_
      obtain ⟨x5, ex5, h⟩ := ob h
      refine zVi (k := 0) (rest := [.int ((x2 + x3) + x4)]) fx hR (c_X4_roundEcho (zl E) D ad g a5 a10 I J ex5) rcM mvX4_roundEcho wm_X4_171 dX4_four_358 rfl ⟨rfl, rfl⟩ rfl rfl rfl ?_
      refine z_iadd fx dX4_four_361 ?_
      refine z_if_eq (tgt := 368) fx dX4_four_362 (by decide) (fun q6 => ?_) (fun q6 => ?_)
      · rw [if_pos q6] at h
        refine z_iinc (v := (a10 + 1)) fx dX4_four_368 rfl rfl (by decide) rfl ?_
        refine z_goto (tgt := 322) fx dX4_four_371 (by decide) ?_
        exact z_lv2 (ih a1 a2 a3 a4 a5 a9 (a10 + 1) I h) rfl
      · rw [if_neg q6] at h
        refine z_bipush (v := (-4)) fx dX4_four_365 rfl ?_
        cases h
        exact z_iret fx hr dX4_four_367
set_option maxRecDepth 100000 in
set_option maxHeartbeats 4000000 in
theorem w_X4_four_235 {E : zE} {D : va_G} {ad : Nat → Nat} {g : Nat → ClassId} (fx : zFX E (mw D ad g) cX4_four RX4 15 (some .int)) (hR : zR E = rmX4_four) {r : Int32 × zMi} {J : zMl} (hr : zRX E (mw D ad g) (some (.int r.1)) r.2 J) {k200 : Int32 → Int32 → Int32 → Int32 → Int32 → Int32 → Int32 → Int32 → zMi → Option (Int32 × zMi)} (hk200 : ∀ (a1 : Int32) (a2 : Int32) (a3 : Int32) (a4 : Int32) (a5 : Int32) (a8 : Int32) (a9 : Int32) (a10 : Int32) (I : zMi) , k200 a1 a2 a3 a4 a5 a8 a9 a10 I = some r → zAt E (mw D ad g) 200 [(0, .ref (ad (0))), (1, .int a1), (2, .int a2), (3, .int a3), (4, .int a4), (5, .int a5), (8, .int a8), (9, .int a9), (10, .int a10)] [] I J) : ∀ (fuel : Nat) (a1 : Int32) (a2 : Int32) (a3 : Int32) (a4 : Int32) (a5 : Int32) (a8 : Int32) (a9 : Int32) (a10 : Int32) (a11 : Int32) (I : zMi) , f_X4_four_235 k200 fuel a1 a2 a3 a4 a5 a8 a9 a10 a11 I = some r → zAt E (mw D ad g) 235 [(0, .ref (ad (0))), (1, .int a1), (2, .int a2), (3, .int a3), (4, .int a4), (5, .int a5), (8, .int a8), (9, .int a9), (10, .int a10), (11, .int a11)] [] I J := by
  intro fuel
  induction fuel with
  | zero => intro a1 a2 a3 a4 a5 a8 a9 a10 a11 I h; rw [f_X4_four_235] at h; cases h
  | succ f ih =>
    intro a1 a2 a3 a4 a5 a8 a9 a10 a11 I h
    rw [f_X4_four_235] at h
    refine z_iload fx dX4_four_235 rfl ?_
    refine z_iload fx dX4_four_237 rfl ?_
    refine z_icmp_ge (tgt := 302) fx dX4_four_239 (by decide) (fun q1 => ?_) (fun q1 => ?_)
    · rw [if_pos q1] at h
      refine z_iinc (v := (a10 + 1)) fx dX4_four_302 rfl rfl (by decide) rfl ?_
      refine z_goto (tgt := 200) fx dX4_four_305 (by decide) ?_
      exact z_lv2 (hk200 a1 a2 a3 a4 a5 a8 a9 (a10 + 1) I h) rfl
    · rw [if_neg q1] at h
      refine z_iload fx dX4_four_242 rfl ?_
      refine z_if_eq (tgt := 293) fx dX4_four_244 (by decide) (fun q2 => ?_) (fun q2 => ?_)
      · rw [if_pos q2] at h
        refine z_iconst (v := 0) fx dX4_four_293 rfl ?_
        refine z_istore fx dX4_four_294 (by decide) rfl ?_
        refine z_iinc (v := (a11 + 1)) fx dX4_four_296 rfl rfl (by decide) rfl ?_
        refine z_goto (tgt := 235) fx dX4_four_299 (by decide) ?_
        exact z_lv2 (ih a1 a2 a3 a4 a5 0 a9 a10 (a11 + 1) I h) rfl
      · rw [if_neg q2] at h
        refine z_aload_n fx dX4_four_247 rfl ?_
        refine gM_rows fx wf_X4_20 dX4_four_248 ?_
        refine z_bipush (v := 24) fx dX4_four_251 rfl ?_
        refine z_aload_n fx dX4_four_253 rfl ?_
        refine gM_parts fx wf_X4_38 dX4_four_254 ?_
        refine z_iload fx dX4_four_257 rfl ?_
        obtain ⟨q3, h⟩ := oi h
        refine m_ild fx (Nat.le_of_ble_eq_true rfl) (cfM_9 g ad) q3 dX4_four_259 ?_
        refine z_imul fx dX4_four_260 ?_
        refine z_iload fx dX4_four_261 rfl ?_
        refine z_iadd fx dX4_four_263 ?_
        obtain ⟨q4, h⟩ := oi h
        refine m_ild fx (Nat.le_of_ble_eq_true rfl) (cfM_3 g ad) q4 dX4_four_264 ?_
        refine z_aload_n fx dX4_four_265 rfl ?_
        refine gM_rows fx wf_X4_20 dX4_four_266 ?_
        refine z_bipush (v := 24) fx dX4_four_269 rfl ?_
        refine z_aload_n fx dX4_four_271 rfl ?_
        refine gM_parts fx wf_X4_38 dX4_four_272 ?_
        refine z_iload fx dX4_four_275 rfl ?_
        refine m_ild fx (Nat.le_of_ble_eq_true rfl) (cfM_9 g ad) q3 dX4_four_277 ?_
        refine z_imul fx dX4_four_278 ?_
        refine z_iload fx dX4_four_279 rfl ?_
        refine z_iadd fx dX4_four_281 ?_
        refine z_iload fx dX4_four_282 rfl ?_
        refine z_isub fx dX4_four_284 ?_
        obtain ⟨q5, h⟩ := oi h
        refine m_ild fx (Nat.le_of_ble_eq_true rfl) (cfM_3 g ad) q5 dX4_four_285 ?_
        refine z_icmp_ne (tgt := 293) fx dX4_four_286 (by decide) (fun q6 => ?_) (fun q6 => ?_)
        · rw [if_neg q6] at h
          refine z_iconst (v := 0) fx dX4_four_293 rfl ?_
          refine z_istore fx dX4_four_294 (by decide) rfl ?_
          refine z_iinc (v := (a11 + 1)) fx dX4_four_296 rfl rfl (by decide) rfl ?_
          refine z_goto (tgt := 235) fx dX4_four_299 (by decide) ?_
          exact z_lv2 (ih a1 a2 a3 a4 a5 0 a9 a10 (a11 + 1) I h) rfl
        · rw [if_pos q6] at h
          refine z_iconst (v := 1) fx dX4_four_289 rfl ?_
          refine z_goto (tgt := 294) fx dX4_four_290 (by decide) ?_
          refine z_istore fx dX4_four_294 (by decide) rfl ?_
          refine z_iinc (v := (a11 + 1)) fx dX4_four_296 rfl rfl (by decide) rfl ?_
          refine z_goto (tgt := 235) fx dX4_four_299 (by decide) ?_
          exact z_lv2 (ih a1 a2 a3 a4 a5 1 a9 a10 (a11 + 1) I h) rfl
set_option maxRecDepth 100000 in
set_option maxHeartbeats 4000000 in
theorem w_X4_four_200 {E : zE} {D : va_G} {ad : Nat → Nat} {g : Nat → ClassId} (fx : zFX E (mw D ad g) cX4_four RX4 15 (some .int)) (hR : zR E = rmX4_four) {r : Int32 × zMi} {J : zMl} (hr : zRX E (mw D ad g) (some (.int r.1)) r.2 J) : ∀ (fuel : Nat) (a1 : Int32) (a2 : Int32) (a3 : Int32) (a4 : Int32) (a5 : Int32) (a8 : Int32) (a9 : Int32) (a10 : Int32) (I : zMi) , f_X4_four_200 fuel a1 a2 a3 a4 a5 a8 a9 a10 I = some r → zAt E (mw D ad g) 200 [(0, .ref (ad (0))), (1, .int a1), (2, .int a2), (3, .int a3), (4, .int a4), (5, .int a5), (8, .int a8), (9, .int a9), (10, .int a10)] [] I J := by
  intro fuel
  induction fuel with
  | zero => intro a1 a2 a3 a4 a5 a8 a9 a10 I h; rw [f_X4_four_200] at h; cases h
  | succ f ih =>
    intro a1 a2 a3 a4 a5 a8 a9 a10 I h
    rw [f_X4_four_200] at h
    refine z_iload fx dX4_four_200 rfl ?_
    refine z_iconst (v := 4) fx dX4_four_202 rfl ?_
    refine z_icmp_ge (tgt := 308) fx dX4_four_203 (by decide) (fun q1 => ?_) (fun q1 => ?_)
    · rw [if_pos q1] at h
      refine z_iload fx dX4_four_308 rfl ?_
      refine z_if_ne (tgt := 319) fx dX4_four_310 (by decide) (fun q2 => ?_) (fun q2 => ?_)
      · rw [if_neg q2] at h
        refine z_iconst (v := 1) fx dX4_four_319 rfl ?_
        refine z_istore fx dX4_four_320 (by decide) rfl ?_
        exact z_lv2 (w_X4_four_322 fx hR hr fu a1 a2 a3 a4 a5 a9 1 I h) rfl
      · rw [if_pos q2] at h
        refine z_aload_n fx dX4_four_313 rfl ?_
        refine z_iconst (v := 3) fx dX4_four_314 rfl ?_
        obtain ⟨x3, ex3, h⟩ := ob h
        refine zVi (k := 0) (rest := []) fx hR (c_X4_meets (zl E) D ad g 3 I J ex3) rcM mvX4_meets wm_X4_81 dX4_four_315 rfl ⟨rfl, rfl⟩ rfl rfl rfl ?_
        cases h
        exact z_iret fx hr dX4_four_318
    · rw [if_neg q1] at h
      refine z_iload fx dX4_four_206 rfl ?_
      refine z_if_eq (tgt := 229) fx dX4_four_208 (by decide) (fun q4 => ?_) (fun q4 => ?_)
      · rw [if_pos q4] at h
        refine z_iconst (v := 0) fx dX4_four_229 rfl ?_
        refine z_istore fx dX4_four_230 (by decide) rfl ?_
        refine z_iconst (v := 1) fx dX4_four_232 rfl ?_
        refine z_istore fx dX4_four_233 (by decide) rfl ?_
        exact z_lv2 (w_X4_four_235 fx hR hr ih fu a1 a2 a3 a4 a5 0 a9 a10 1 I h) rfl
      · rw [if_neg q4] at h
        refine z_aload_n fx dX4_four_211 rfl ?_
        refine z_aload_n fx dX4_four_212 rfl ?_
        refine gM_parts fx wf_X4_38 dX4_four_213 ?_
        refine z_iload fx dX4_four_216 rfl ?_
        obtain ⟨q5, h⟩ := oi h
        refine m_ild fx (Nat.le_of_ble_eq_true rfl) (cfM_9 g ad) q5 dX4_four_218 ?_
        obtain ⟨x6, ex6, h⟩ := ob h
        refine zVi (k := 0) (rest := []) fx hR (c_X4_areSigns (zl E) D ad g (I (9) a10.toNatClampNeg) I J ex6) rcM mvX4_areSigns wm_X4_168 dX4_four_219 rfl ⟨rfl, rfl⟩ rfl rfl rfl ?_
        refine z_if_eq (tgt := 229) fx dX4_four_222 (by decide) (fun q7 => ?_) (fun q7 => ?_)
        · rw [if_pos q7] at h
          refine z_iconst (v := 0) fx dX4_four_229 rfl ?_
          refine z_istore fx dX4_four_230 (by decide) rfl ?_
          refine z_iconst (v := 1) fx dX4_four_232 rfl ?_
          refine z_istore fx dX4_four_233 (by decide) rfl ?_
          exact z_lv2 (w_X4_four_235 fx hR hr ih fu a1 a2 a3 a4 a5 0 a9 a10 1 I h) rfl
        · rw [if_neg q7] at h
          refine z_iconst (v := 1) fx dX4_four_225 rfl ?_
          refine z_goto (tgt := 230) fx dX4_four_226 (by decide) ?_
          refine z_istore fx dX4_four_230 (by decide) rfl ?_
          refine z_iconst (v := 1) fx dX4_four_232 rfl ?_
          refine z_istore fx dX4_four_233 (by decide) rfl ?_
          exact z_lv2 (w_X4_four_235 fx hR hr ih fu a1 a2 a3 a4 a5 1 a9 a10 1 I h) rfl
set_option maxRecDepth 100000 in
set_option maxHeartbeats 4000000 in
theorem w_X4_four_112 {E : zE} {D : va_G} {ad : Nat → Nat} {g : Nat → ClassId} (fx : zFX E (mw D ad g) cX4_four RX4 15 (some .int)) (hR : zR E = rmX4_four) {r : Int32 × zMi} {J : zMl} (hr : zRX E (mw D ad g) (some (.int r.1)) r.2 J) {k81 : Int32 → Int32 → Int32 → Int32 → Int32 → Int32 → Int32 → Int32 → Int32 → zMi → Option (Int32 × zMi)} (hk81 : ∀ (a1 : Int32) (a2 : Int32) (a3 : Int32) (a4 : Int32) (a5 : Int32) (a6 : Int32) (a7 : Int32) (a8 : Int32) (a9 : Int32) (I : zMi) , k81 a1 a2 a3 a4 a5 a6 a7 a8 a9 I = some r → zAt E (mw D ad g) 81 [(0, .ref (ad (0))), (1, .int a1), (2, .int a2), (3, .int a3), (4, .int a4), (5, .int a5), (6, .int a6), (7, .int a7), (8, .int a8), (9, .int a9)] [] I J) : ∀ (a1 : Int32) (a2 : Int32) (a3 : Int32) (a4 : Int32) (a5 : Int32) (a7 : Int32) (a8 : Int32) (a9 : Int32) (s0 : Int32) (I : zMi) , f_X4_four_112 k81 a1 a2 a3 a4 a5 a7 a8 a9 s0 I = some r → zAt E (mw D ad g) 112 [(0, .ref (ad (0))), (1, .int a1), (2, .int a2), (3, .int a3), (4, .int a4), (5, .int a5), (7, .int a7), (8, .int a8), (9, .int a9)] [.int s0] I J := by
  intro a1 a2 a3 a4 a5 a7 a8 a9 s0 I h
  rw [f_X4_four_112] at h
  refine z_istore fx dX4_four_112 (by decide) rfl ?_
  refine z_iload fx dX4_four_114 rfl ?_
  refine z_if_eq (tgt := 158) fx dX4_four_116 (by decide) (fun q1 => ?_) (fun q1 => ?_)
  · rw [if_pos q1] at h
    refine z_iconst (v := 0) fx dX4_four_158 rfl ?_
    refine z_istore fx dX4_four_159 (by decide) rfl ?_
    refine z_iinc (v := (a9 + 1)) fx dX4_four_161 rfl rfl (by decide) rfl ?_
    refine z_goto (tgt := 81) fx dX4_four_164 (by decide) ?_
    exact z_lv2 (hk81 a1 a2 a3 a4 a5 s0 0 a8 (a9 + 1) I h) rfl
  · rw [if_neg q1] at h
    refine z_aload_n fx dX4_four_119 rfl ?_
    refine gM_sizes fx wf_X4_17 dX4_four_120 ?_
    refine z_aload_n fx dX4_four_123 rfl ?_
    refine gM_parts fx wf_X4_38 dX4_four_124 ?_
    refine z_iload fx dX4_four_127 rfl ?_
    obtain ⟨q2, h⟩ := oi h
    refine m_ild fx (Nat.le_of_ble_eq_true rfl) (cfM_9 g ad) q2 dX4_four_129 ?_
    obtain ⟨q3, h⟩ := oi h
    refine m_ild fx (Nat.le_of_ble_eq_true rfl) (cfM_2 g ad) q3 dX4_four_130 ?_
    refine z_aload_n fx dX4_four_131 rfl ?_
    refine gM_sizes fx wf_X4_17 dX4_four_132 ?_
    refine z_iload_n fx dX4_four_135 rfl ?_
    obtain ⟨q4, h⟩ := oi h
    refine m_ild fx (Nat.le_of_ble_eq_true rfl) (cfM_2 g ad) q4 dX4_four_136 ?_
    refine z_icmp_ne (tgt := 158) fx dX4_four_137 (by decide) (fun q5 => ?_) (fun q5 => ?_)
    · rw [if_neg q5] at h
      refine z_iconst (v := 0) fx dX4_four_158 rfl ?_
      refine z_istore fx dX4_four_159 (by decide) rfl ?_
      refine z_iinc (v := (a9 + 1)) fx dX4_four_161 rfl rfl (by decide) rfl ?_
      refine z_goto (tgt := 81) fx dX4_four_164 (by decide) ?_
      exact z_lv2 (hk81 a1 a2 a3 a4 a5 s0 0 a8 (a9 + 1) I h) rfl
    · rw [if_pos q5] at h
      refine z_aload_n fx dX4_four_140 rfl ?_
      refine gM_sizes fx wf_X4_17 dX4_four_141 ?_
      refine z_iload_n fx dX4_four_144 rfl ?_
      refine m_ild fx (Nat.le_of_ble_eq_true rfl) (cfM_2 g ad) q4 dX4_four_145 ?_
      refine z_iconst (v := 1) fx dX4_four_146 rfl ?_
      refine z_iconst (v := 3) fx dX4_four_147 rfl ?_
      refine zSi (rest := []) fx hR (c_X4_in (zl E) D ad g (I (2) a2.toNatClampNeg) 1 3 I J rfl) mvX4_in wm_X4_73 dX4_four_148 rfl ⟨rfl, rfl⟩ rfl rfl rfl ?_
      refine z_if_eq (tgt := 158) fx dX4_four_151 (by decide) (fun q6 => ?_) (fun q6 => ?_)
      · rw [if_pos q6] at h
        refine z_iconst (v := 0) fx dX4_four_158 rfl ?_
        refine z_istore fx dX4_four_159 (by decide) rfl ?_
        refine z_iinc (v := (a9 + 1)) fx dX4_four_161 rfl rfl (by decide) rfl ?_
        refine z_goto (tgt := 81) fx dX4_four_164 (by decide) ?_
        exact z_lv2 (hk81 a1 a2 a3 a4 a5 s0 0 a8 (a9 + 1) I h) rfl
      · rw [if_neg q6] at h
        refine z_iconst (v := 1) fx dX4_four_154 rfl ?_
        refine z_goto (tgt := 159) fx dX4_four_155 (by decide) ?_
        refine z_istore fx dX4_four_159 (by decide) rfl ?_
        refine z_iinc (v := (a9 + 1)) fx dX4_four_161 rfl rfl (by decide) rfl ?_
        refine z_goto (tgt := 81) fx dX4_four_164 (by decide) ?_
        exact z_lv2 (hk81 a1 a2 a3 a4 a5 s0 1 a8 (a9 + 1) I h) rfl
set_option maxRecDepth 100000 in
set_option maxHeartbeats 4000000 in
theorem w_X4_four_81 {E : zE} {D : va_G} {ad : Nat → Nat} {g : Nat → ClassId} (fx : zFX E (mw D ad g) cX4_four RX4 15 (some .int)) (hR : zR E = rmX4_four) {r : Int32 × zMi} {J : zMl} (hr : zRX E (mw D ad g) (some (.int r.1)) r.2 J) : ∀ (fuel : Nat) (a1 : Int32) (a2 : Int32) (a3 : Int32) (a4 : Int32) (a5 : Int32) (a6 : Int32) (a7 : Int32) (a8 : Int32) (a9 : Int32) (I : zMi) , f_X4_four_81 fuel a1 a2 a3 a4 a5 a6 a7 a8 a9 I = some r → zAt E (mw D ad g) 81 [(0, .ref (ad (0))), (1, .int a1), (2, .int a2), (3, .int a3), (4, .int a4), (5, .int a5), (6, .int a6), (7, .int a7), (8, .int a8), (9, .int a9)] [] I J := by
  intro fuel
  induction fuel with
  | zero => intro a1 a2 a3 a4 a5 a6 a7 a8 a9 I h; rw [f_X4_four_81] at h; cases h
  | succ f ih =>
    intro a1 a2 a3 a4 a5 a6 a7 a8 a9 I h
    rw [f_X4_four_81] at h
    refine z_iload fx dX4_four_81 rfl ?_
    refine z_iconst (v := 4) fx dX4_four_83 rfl ?_
    refine z_icmp_ge (tgt := 167) fx dX4_four_84 (by decide) (fun q1 => ?_) (fun q1 => ?_)
    · rw [if_pos q1] at h
      refine z_iload fx dX4_four_167 rfl ?_
      refine z_if_ne (tgt := 178) fx dX4_four_169 (by decide) (fun q2 => ?_) (fun q2 => ?_)
      · rw [if_neg q2] at h
        refine z_iload fx dX4_four_178 rfl ?_
        refine z_if_ne (tgt := 189) fx dX4_four_180 (by decide) (fun q3 => ?_) (fun q3 => ?_)
        · rw [if_neg q3] at h
          refine z_aload_n fx dX4_four_189 rfl ?_
          refine gM_sizes fx wf_X4_17 dX4_four_190 ?_
          refine z_iload_n fx dX4_four_193 rfl ?_
          obtain ⟨q4, h⟩ := oi h
          refine m_ild fx (Nat.le_of_ble_eq_true rfl) (cfM_2 g ad) q4 dX4_four_194 ?_
          refine z_istore fx dX4_four_195 (by decide) rfl ?_
          refine z_iconst (v := 0) fx dX4_four_197 rfl ?_
          refine z_istore fx dX4_four_198 (by decide) rfl ?_
          exact z_lv2 (w_X4_four_200 fx hR hr fu a1 a2 a3 a4 a5 a8 (I (2) a2.toNatClampNeg) 0 I h) rfl
        · rw [if_pos q3] at h
          refine z_aload_n fx dX4_four_183 rfl ?_
          refine z_iconst (v := 5) fx dX4_four_184 rfl ?_
          obtain ⟨x5, ex5, h⟩ := ob h
          refine zVi (k := 0) (rest := []) fx hR (c_X4_meets (zl E) D ad g 5 I J ex5) rcM mvX4_meets wm_X4_81 dX4_four_185 rfl ⟨rfl, rfl⟩ rfl rfl rfl ?_
          cases h
          exact z_iret fx hr dX4_four_188
      · rw [if_pos q2] at h
        refine z_aload_n fx dX4_four_172 rfl ?_
        refine z_iconst (v := 1) fx dX4_four_173 rfl ?_
        obtain ⟨x6, ex6, h⟩ := ob h
        refine zVi (k := 0) (rest := []) fx hR (c_X4_meets (zl E) D ad g 1 I J ex6) rcM mvX4_meets wm_X4_81 dX4_four_174 rfl ⟨rfl, rfl⟩ rfl rfl rfl ?_
        cases h
        exact z_iret fx hr dX4_four_177
    · rw [if_neg q1] at h
      refine z_iload fx dX4_four_87 rfl ?_
      refine z_if_eq (tgt := 111) fx dX4_four_89 (by decide) (fun q7 => ?_) (fun q7 => ?_)
      · rw [if_pos q7] at h
        refine z_iconst (v := 0) fx dX4_four_111 rfl ?_
        exact z_lv2 (w_X4_four_112 fx hR hr ih a1 a2 a3 a4 a5 a7 a8 a9 0 I h) rfl
      · rw [if_neg q7] at h
        refine z_aload_n fx dX4_four_92 rfl ?_
        refine gM_sizes fx wf_X4_17 dX4_four_93 ?_
        refine z_aload_n fx dX4_four_96 rfl ?_
        refine gM_parts fx wf_X4_38 dX4_four_97 ?_
        refine z_iload fx dX4_four_100 rfl ?_
        obtain ⟨q8, h⟩ := oi h
        refine m_ild fx (Nat.le_of_ble_eq_true rfl) (cfM_9 g ad) q8 dX4_four_102 ?_
        obtain ⟨q9, h⟩ := oi h
        refine m_ild fx (Nat.le_of_ble_eq_true rfl) (cfM_2 g ad) q9 dX4_four_103 ?_
        refine z_if_lt (tgt := 111) fx dX4_four_104 (by decide) (fun q10 => ?_) (fun q10 => ?_)
        · rw [if_pos q10] at h
          refine z_iconst (v := 0) fx dX4_four_111 rfl ?_
          exact z_lv2 (w_X4_four_112 fx hR hr ih a1 a2 a3 a4 a5 a7 a8 a9 0 I h) rfl
        · rw [if_neg q10] at h
          refine z_iconst (v := 1) fx dX4_four_107 rfl ?_
          refine z_goto (tgt := 112) fx dX4_four_108 (by decide) ?_
          exact z_lv2 (w_X4_four_112 fx hR hr ih a1 a2 a3 a4 a5 a7 a8 a9 1 I h) rfl
set_option maxRecDepth 100000 in
set_option maxHeartbeats 4000000 in
theorem c_X4_four (l : Launch) (D : va_G) (ad : Nat → Nat) (g : Nat → ClassId) (a1 : Int32) (a2 : Int32) (a3 : Int32) (a4 : Int32) (a5 : Int32) (I : zMi) (J : zMl) {r : Int32 × zMi} (h : f_X4_four a1 a2 a3 a4 a5 I = some r) : zCM (mw D ad g) l yX4_four cX4_four 15 (some .int) rmX4_four [.ref (ad (0)), .int a1, .int a2, .int a3, .int a4, .int a5] I J (some (.int r.1)) r.2 J := by
  refine zCM.of (by decide) (Nat.le_of_ble_eq_true rfl) (fun E hl hR fx hr => ?_)
  subst hl
  rw [f_X4_four] at h
  refine z_iload_n fx dX4_four_0 rfl ?_
  refine zSi (rest := []) fx hR (c_X4_isTable (zl E) D ad g a1 I J rfl) mvX4_isTable wm_X4_99 dX4_four_1 rfl ⟨rfl, rfl⟩ rfl rfl rfl ?_
  refine z_if_eq (tgt := 37) fx dX4_four_4 (by decide) (fun q1 => ?_) (fun q1 => ?_)
  · rw [if_pos q1] at h
    refine z_iconst (v := (-1)) fx dX4_four_37 rfl ?_
    cases h
    exact z_iret fx hr dX4_four_38
  · rw [if_neg q1] at h
    refine z_iload_n fx dX4_four_7 rfl ?_
    refine zSi (rest := []) fx hR (c_X4_isRow (zl E) D ad g a2 I J rfl) mvX4_isRow wm_X4_77 dX4_four_8 rfl ⟨rfl, rfl⟩ rfl rfl rfl ?_
    refine z_if_eq (tgt := 37) fx dX4_four_11 (by decide) (fun q2 => ?_) (fun q2 => ?_)
    · rw [if_pos q2] at h
      refine z_iconst (v := (-1)) fx dX4_four_37 rfl ?_
      cases h
      exact z_iret fx hr dX4_four_38
    · rw [if_neg q2] at h
      refine z_iload_n fx dX4_four_14 rfl ?_
      refine zSi (rest := []) fx hR (c_X4_isRow (zl E) D ad g a3 I J rfl) mvX4_isRow wm_X4_77 dX4_four_15 rfl ⟨rfl, rfl⟩ rfl rfl rfl ?_
      refine z_if_eq (tgt := 37) fx dX4_four_18 (by decide) (fun q3 => ?_) (fun q3 => ?_)
      · rw [if_pos q3] at h
        refine z_iconst (v := (-1)) fx dX4_four_37 rfl ?_
        cases h
        exact z_iret fx hr dX4_four_38
      · rw [if_neg q3] at h
        refine z_iload fx dX4_four_21 rfl ?_
        refine zSi (rest := []) fx hR (c_X4_isRow (zl E) D ad g a4 I J rfl) mvX4_isRow wm_X4_77 dX4_four_23 rfl ⟨rfl, rfl⟩ rfl rfl rfl ?_
        refine z_if_eq (tgt := 37) fx dX4_four_26 (by decide) (fun q4 => ?_) (fun q4 => ?_)
        · rw [if_pos q4] at h
          refine z_iconst (v := (-1)) fx dX4_four_37 rfl ?_
          cases h
          exact z_iret fx hr dX4_four_38
        · rw [if_neg q4] at h
          refine z_iload fx dX4_four_29 rfl ?_
          refine zSi (rest := []) fx hR (c_X4_isRow (zl E) D ad g a5 I J rfl) mvX4_isRow wm_X4_77 dX4_four_31 rfl ⟨rfl, rfl⟩ rfl rfl rfl ?_
          refine z_if_ne (tgt := 39) fx dX4_four_34 (by decide) (fun q5 => ?_) (fun q5 => ?_)
          · rw [if_neg q5] at h
            refine z_aload_n fx dX4_four_39 rfl ?_
            refine gM_parts fx wf_X4_38 dX4_four_40 ?_
            refine z_iconst (v := 0) fx dX4_four_43 rfl ?_
            refine z_iload_n fx dX4_four_44 rfl ?_
            refine m_ist fx (Nat.le_of_ble_eq_true rfl) (cfM_9 g ad) (by decide) dX4_four_45 ?_
            refine z_aload_n fx dX4_four_46 rfl ?_
            refine gM_parts fx wf_X4_38 dX4_four_47 ?_
            refine z_iconst (v := 1) fx dX4_four_50 rfl ?_
            refine z_iload_n fx dX4_four_51 rfl ?_
            refine m_ist fx (Nat.le_of_ble_eq_true rfl) (cfM_9 g ad) (by decide) dX4_four_52 ?_
            refine z_aload_n fx dX4_four_53 rfl ?_
            refine gM_parts fx wf_X4_38 dX4_four_54 ?_
            refine z_iconst (v := 2) fx dX4_four_57 rfl ?_
            refine z_iload fx dX4_four_58 rfl ?_
            refine m_ist fx (Nat.le_of_ble_eq_true rfl) (cfM_9 g ad) (by decide) dX4_four_60 ?_
            refine z_aload_n fx dX4_four_61 rfl ?_
            refine gM_parts fx wf_X4_38 dX4_four_62 ?_
            refine z_iconst (v := 3) fx dX4_four_65 rfl ?_
            refine z_iload fx dX4_four_66 rfl ?_
            refine m_ist fx (Nat.le_of_ble_eq_true rfl) (cfM_9 g ad) (by decide) dX4_four_68 ?_
            refine z_iconst (v := 1) fx dX4_four_69 rfl ?_
            refine z_istore fx dX4_four_70 (by decide) rfl ?_
            refine z_iconst (v := 1) fx dX4_four_72 rfl ?_
            refine z_istore fx dX4_four_73 (by decide) rfl ?_
            refine z_iconst (v := 1) fx dX4_four_75 rfl ?_
            refine z_istore fx dX4_four_76 (by decide) rfl ?_
            refine z_iconst (v := 0) fx dX4_four_78 rfl ?_
            refine z_istore fx dX4_four_79 (by decide) rfl ?_
            exact z_lv2 (w_X4_four_81 fx hR hr fu a1 a2 a3 a4 a5 1 1 1 0 (wI (wI (wI (wI I (9) (0 : Int32).toNatClampNeg a2) (9) (1 : Int32).toNatClampNeg a3) (9) (2 : Int32).toNatClampNeg a4) (9) (3 : Int32).toNatClampNeg a5) h) rfl
          · rw [if_pos q5] at h
            refine z_iconst (v := (-1)) fx dX4_four_37 rfl ?_
            cases h
            exact z_iret fx hr dX4_four_38
set_option maxRecDepth 100000 in
set_option maxHeartbeats 4000000 in
theorem w_X4_turnRow_2 {E : zE} {D : va_G} {ad : Nat → Nat} {g : Nat → ClassId} (fx : zFX E (mw D ad g) cX4_turnRow RX4 4 none) (hR : zR E = rmX4_turnRow) {r : zMi} {J : zMl} (hr : zRX E (mw D ad g) none r J) : ∀ (fuel : Nat) (a1 : Int32) (a2 : Int32) (a3 : Int32) (I : zMi) , f_X4_turnRow_2 fuel a1 a2 a3 I = some r → zAt E (mw D ad g) 2 [(0, .ref (ad (0))), (1, .int a1), (2, .int a2), (3, .int a3)] [] I J := by
  intro fuel
  induction fuel with
  | zero => intro a1 a2 a3 I h; rw [f_X4_turnRow_2] at h; cases h
  | succ f ih =>
    intro a1 a2 a3 I h
    rw [f_X4_turnRow_2] at h
    refine z_iload_n fx dX4_turnRow_2 rfl ?_
    refine z_aload_n fx dX4_turnRow_3 rfl ?_
    refine gM_wide fx wf_X4_26 dX4_turnRow_4 ?_
    refine z_iload_n fx dX4_turnRow_7 rfl ?_
    obtain ⟨q1, h⟩ := oi h
    refine m_ild fx (Nat.le_of_ble_eq_true rfl) (cfM_5 g ad) q1 dX4_turnRow_8 ?_
    refine z_icmp_ge (tgt := 33) fx dX4_turnRow_9 (by decide) (fun q2 => ?_) (fun q2 => ?_)
    · rw [if_pos q2] at h
      cases h
      exact z_vret fx hr dX4_turnRow_33
    · rw [if_neg q2] at h
      refine z_aload_n fx dX4_turnRow_12 rfl ?_
      refine z_iload_n fx dX4_turnRow_13 rfl ?_
      refine z_iload_n fx dX4_turnRow_14 rfl ?_
      refine z_iload_n fx dX4_turnRow_15 rfl ?_
      refine z_aload_n fx dX4_turnRow_16 rfl ?_
      refine z_iload_n fx dX4_turnRow_17 rfl ?_
      refine z_iload_n fx dX4_turnRow_18 rfl ?_
      refine z_iload_n fx dX4_turnRow_19 rfl ?_
      obtain ⟨x3, ex3, h⟩ := ob h
      refine zVi (k := 0) (rest := [.int a3, .int a2, .int a1, .ref (ad (0))]) fx hR (c_X4_get (zl E) D ad g a1 a2 a3 I J ex3) rcM mvX4_get wm_X4_102 dX4_turnRow_20 rfl ⟨rfl, rfl⟩ rfl rfl rfl ?_
      refine z_ineg fx dX4_turnRow_23 ?_
      obtain ⟨x4, ex4, h⟩ := ob h
      refine zVv (k := 0) (rest := []) fx hR (c_X4_let (zl E) D ad g a1 a2 a3 (-x3) I J ex4) rcM mvX4_let wm_X4_133 dX4_turnRow_24 rfl ⟨rfl, rfl⟩ rfl rfl rfl ?_
      refine z_iinc (v := (a3 + 1)) fx dX4_turnRow_27 rfl rfl (by decide) rfl ?_
      refine z_goto (tgt := 2) fx dX4_turnRow_30 (by decide) ?_
      exact z_lv2 (ih a1 a2 (a3 + 1) x4 h) rfl
set_option maxRecDepth 100000 in
set_option maxHeartbeats 4000000 in
theorem c_X4_turnRow (l : Launch) (D : va_G) (ad : Nat → Nat) (g : Nat → ClassId) (a1 : Int32) (a2 : Int32) (I : zMi) (J : zMl) {r : zMi} (h : f_X4_turnRow a1 a2 I = some r) : zCM (mw D ad g) l yX4_turnRow cX4_turnRow 4 none rmX4_turnRow [.ref (ad (0)), .int a1, .int a2] I J none r J := by
  refine zCM.of (by decide) (Nat.le_of_ble_eq_true rfl) (fun E hl hR fx hr => ?_)
  subst hl
  rw [f_X4_turnRow] at h
  refine z_iconst (v := 0) fx dX4_turnRow_0 rfl ?_
  refine z_istore_n fx dX4_turnRow_1 (by decide) rfl ?_
  exact z_lv2 (w_X4_turnRow_2 fx hR hr fu a1 a2 0 I h) rfl
set_option maxRecDepth 100000 in
set_option maxHeartbeats 4000000 in
theorem w_X4_turnColumn_2 {E : zE} {D : va_G} {ad : Nat → Nat} {g : Nat → ClassId} (fx : zFX E (mw D ad g) cX4_turnColumn RX4 4 none) (hR : zR E = rmX4_turnColumn) {r : zMi} {J : zMl} (hr : zRX E (mw D ad g) none r J) : ∀ (fuel : Nat) (a1 : Int32) (a2 : Int32) (a3 : Int32) (I : zMi) , f_X4_turnColumn_2 fuel a1 a2 a3 I = some r → zAt E (mw D ad g) 2 [(0, .ref (ad (0))), (1, .int a1), (2, .int a2), (3, .int a3)] [] I J := by
  intro fuel
  induction fuel with
  | zero => intro a1 a2 a3 I h; rw [f_X4_turnColumn_2] at h; cases h
  | succ f ih =>
    intro a1 a2 a3 I h
    rw [f_X4_turnColumn_2] at h
    refine z_iload_n fx dX4_turnColumn_2 rfl ?_
    refine z_aload_n fx dX4_turnColumn_3 rfl ?_
    refine gM_wide fx wf_X4_26 dX4_turnColumn_4 ?_
    refine z_iload_n fx dX4_turnColumn_7 rfl ?_
    obtain ⟨q1, h⟩ := oi h
    refine m_ild fx (Nat.le_of_ble_eq_true rfl) (cfM_5 g ad) q1 dX4_turnColumn_8 ?_
    refine z_icmp_ge (tgt := 33) fx dX4_turnColumn_9 (by decide) (fun q2 => ?_) (fun q2 => ?_)
    · rw [if_pos q2] at h
      cases h
      exact z_vret fx hr dX4_turnColumn_33
    · rw [if_neg q2] at h
      refine z_aload_n fx dX4_turnColumn_12 rfl ?_
      refine z_iload_n fx dX4_turnColumn_13 rfl ?_
      refine z_iload_n fx dX4_turnColumn_14 rfl ?_
      refine z_iload_n fx dX4_turnColumn_15 rfl ?_
      refine z_aload_n fx dX4_turnColumn_16 rfl ?_
      refine z_iload_n fx dX4_turnColumn_17 rfl ?_
      refine z_iload_n fx dX4_turnColumn_18 rfl ?_
      refine z_iload_n fx dX4_turnColumn_19 rfl ?_
      obtain ⟨x3, ex3, h⟩ := ob h
      refine zVi (k := 0) (rest := [.int a2, .int a3, .int a1, .ref (ad (0))]) fx hR (c_X4_get (zl E) D ad g a1 a3 a2 I J ex3) rcM mvX4_get wm_X4_102 dX4_turnColumn_20 rfl ⟨rfl, rfl⟩ rfl rfl rfl ?_
      refine z_ineg fx dX4_turnColumn_23 ?_
      obtain ⟨x4, ex4, h⟩ := ob h
      refine zVv (k := 0) (rest := []) fx hR (c_X4_let (zl E) D ad g a1 a3 a2 (-x3) I J ex4) rcM mvX4_let wm_X4_133 dX4_turnColumn_24 rfl ⟨rfl, rfl⟩ rfl rfl rfl ?_
      refine z_iinc (v := (a3 + 1)) fx dX4_turnColumn_27 rfl rfl (by decide) rfl ?_
      refine z_goto (tgt := 2) fx dX4_turnColumn_30 (by decide) ?_
      exact z_lv2 (ih a1 a2 (a3 + 1) x4 h) rfl
set_option maxRecDepth 100000 in
set_option maxHeartbeats 4000000 in
theorem c_X4_turnColumn (l : Launch) (D : va_G) (ad : Nat → Nat) (g : Nat → ClassId) (a1 : Int32) (a2 : Int32) (I : zMi) (J : zMl) {r : zMi} (h : f_X4_turnColumn a1 a2 I = some r) : zCM (mw D ad g) l yX4_turnColumn cX4_turnColumn 4 none rmX4_turnColumn [.ref (ad (0)), .int a1, .int a2] I J none r J := by
  refine zCM.of (by decide) (Nat.le_of_ble_eq_true rfl) (fun E hl hR fx hr => ?_)
  subst hl
  rw [f_X4_turnColumn] at h
  refine z_iconst (v := 0) fx dX4_turnColumn_0 rfl ?_
  refine z_istore_n fx dX4_turnColumn_1 (by decide) rfl ?_
  exact z_lv2 (w_X4_turnColumn_2 fx hR hr fu a1 a2 0 I h) rfl
set_option maxRecDepth 100000 in
set_option maxHeartbeats 4000000 in
theorem c_X4_isSet (l : Launch) (D : va_G) (ad : Nat → Nat) (g : Nat → ClassId) (a1 : Int32) (a2 : Int32) (I : zMi) (J : zMl) {r : Int32} (h : f_X4_isSet a1 a2 I = some r) : zCM (mw D ad g) l yX4_isSet cX4_isSet 3 (some .boolean) rmX4_isSet [.ref (ad (0)), .int a1, .int a2] I J (some (.int r)) I J := by
  refine zCM.of (by decide) (Nat.le_of_ble_eq_true rfl) (fun E hl hR fx hr => ?_)
  subst hl
  rw [f_X4_isSet] at h
  refine z_iload_n fx dX4_isSet_0 rfl ?_
  refine z_iconst (v := 0) fx dX4_isSet_1 rfl ?_
  refine z_iconst (v := 1) fx dX4_isSet_2 rfl ?_
  refine z_aload_n fx dX4_isSet_3 rfl ?_
  refine gM_wide fx wf_X4_26 dX4_isSet_4 ?_
  refine z_iload_n fx dX4_isSet_7 rfl ?_
  obtain ⟨q1, h⟩ := oi h
  refine m_ild fx (Nat.le_of_ble_eq_true rfl) (cfM_5 g ad) q1 dX4_isSet_8 ?_
  refine z_ishl fx dX4_isSet_9 ?_
  refine z_iconst (v := 1) fx dX4_isSet_10 rfl ?_
  refine z_isub fx dX4_isSet_11 ?_
  refine zSi (rest := []) fx hR (c_X4_in (zl E) D ad g a2 0 (((1 : Int32) <<< ((I (5) a1.toNatClampNeg) &&& 31)) - 1) I J rfl) mvX4_in wm_X4_73 dX4_isSet_12 rfl ⟨rfl, rfl⟩ rfl rfl rfl ?_
  cases h
  exact z_zret fx (bz_X4_in ) hr dX4_isSet_15
set_option maxRecDepth 100000 in
set_option maxHeartbeats 4000000 in
theorem w_X4_turn_38 {E : zE} {D : va_G} {ad : Nat → Nat} {g : Nat → ClassId} (fx : zFX E (mw D ad g) cX4_turn RX4 6 (some .int)) (hR : zR E = rmX4_turn) {r : Int32 × zMi} {J : zMl} (hr : zRX E (mw D ad g) (some (.int r.1)) r.2 J) : ∀ (fuel : Nat) (a1 : Int32) (a2 : Int32) (a3 : Int32) (a5 : Int32) (I : zMi) , f_X4_turn_38 fuel a1 a2 a3 a5 I = some r → zAt E (mw D ad g) 38 [(0, .ref (ad (0))), (1, .int a1), (2, .int a2), (3, .int a3), (5, .int a5)] [] I J := by
  intro fuel
  induction fuel with
  | zero => intro a1 a2 a3 a5 I h; rw [f_X4_turn_38] at h; cases h
  | succ f ih =>
    intro a1 a2 a3 a5 I h
    rw [f_X4_turn_38] at h
    refine z_iload fx dX4_turn_38 rfl ?_
    refine z_aload_n fx dX4_turn_40 rfl ?_
    refine gM_wide fx wf_X4_26 dX4_turn_41 ?_
    refine z_iload_n fx dX4_turn_44 rfl ?_
    obtain ⟨q1, h⟩ := oi h
    refine m_ild fx (Nat.le_of_ble_eq_true rfl) (cfM_5 g ad) q1 dX4_turn_45 ?_
    refine z_icmp_ge (tgt := 89) fx dX4_turn_46 (by decide) (fun q2 => ?_) (fun q2 => ?_)
    · rw [if_pos q2] at h
      refine z_aload_n fx dX4_turn_89 rfl ?_
      refine z_iload_n fx dX4_turn_90 rfl ?_
      obtain ⟨x3, ex3, h⟩ := ob h
      refine zVi (k := 0) (rest := []) fx hR (c_X4_setKind (zl E) D ad g a1 I J ex3) rcM mvX4_setKind wm_X4_137 dX4_turn_91 rfl ⟨rfl, rfl⟩ rfl rfl rfl ?_
      cases h
      exact z_iret fx hr dX4_turn_94
    · rw [if_neg q2] at h
      refine z_iload_n fx dX4_turn_49 rfl ?_
      refine z_iload fx dX4_turn_50 rfl ?_
      refine z_ishr fx dX4_turn_52 ?_
      refine z_iconst (v := 1) fx dX4_turn_53 rfl ?_
      refine z_iand fx dX4_turn_54 ?_
      refine z_iconst (v := 1) fx dX4_turn_55 rfl ?_
      refine z_icmp_ne (tgt := 66) fx dX4_turn_56 (by decide) (fun q4 => ?_) (fun q4 => ?_)
      · rw [if_neg q4] at h
        refine z_iload_n fx dX4_turn_66 rfl ?_
        refine z_iload fx dX4_turn_67 rfl ?_
        refine z_ishr fx dX4_turn_69 ?_
        refine z_iconst (v := 1) fx dX4_turn_70 rfl ?_
        refine z_iand fx dX4_turn_71 ?_
        refine z_iconst (v := 1) fx dX4_turn_72 rfl ?_
        refine z_icmp_ne (tgt := 83) fx dX4_turn_73 (by decide) (fun q5 => ?_) (fun q5 => ?_)
        · rw [if_neg q5] at h
          refine z_iinc (v := (a5 + 1)) fx dX4_turn_83 rfl rfl (by decide) rfl ?_
          refine z_goto (tgt := 38) fx dX4_turn_86 (by decide) ?_
          exact z_lv2 (ih a1 a2 a3 (a5 + 1) I h) rfl
        · rw [if_pos q5] at h
          refine z_aload_n fx dX4_turn_76 rfl ?_
          refine z_iload_n fx dX4_turn_77 rfl ?_
          refine z_iload fx dX4_turn_78 rfl ?_
          obtain ⟨x6, ex6, h⟩ := ob h
          refine zVv (k := 0) (rest := []) fx hR (c_X4_turnColumn (zl E) D ad g a1 a5 I J ex6) rcM mvX4_turnColumn wm_X4_186 dX4_turn_80 rfl ⟨rfl, rfl⟩ rfl rfl rfl ?_
          refine z_iinc (v := (a5 + 1)) fx dX4_turn_83 rfl rfl (by decide) rfl ?_
          refine z_goto (tgt := 38) fx dX4_turn_86 (by decide) ?_
          exact z_lv2 (ih a1 a2 a3 (a5 + 1) x6 h) rfl
      · rw [if_pos q4] at h
        refine z_aload_n fx dX4_turn_59 rfl ?_
        refine z_iload_n fx dX4_turn_60 rfl ?_
        refine z_iload fx dX4_turn_61 rfl ?_
        obtain ⟨x7, ex7, h⟩ := ob h
        refine zVv (k := 0) (rest := []) fx hR (c_X4_turnRow (zl E) D ad g a1 a5 I J ex7) rcM mvX4_turnRow wm_X4_183 dX4_turn_63 rfl ⟨rfl, rfl⟩ rfl rfl rfl ?_
        refine z_iload_n fx dX4_turn_66 rfl ?_
        refine z_iload fx dX4_turn_67 rfl ?_
        refine z_ishr fx dX4_turn_69 ?_
        refine z_iconst (v := 1) fx dX4_turn_70 rfl ?_
        refine z_iand fx dX4_turn_71 ?_
        refine z_iconst (v := 1) fx dX4_turn_72 rfl ?_
        refine z_icmp_ne (tgt := 83) fx dX4_turn_73 (by decide) (fun q8 => ?_) (fun q8 => ?_)
        · rw [if_neg q8] at h
          refine z_iinc (v := (a5 + 1)) fx dX4_turn_83 rfl rfl (by decide) rfl ?_
          refine z_goto (tgt := 38) fx dX4_turn_86 (by decide) ?_
          exact z_lv2 (ih a1 a2 a3 (a5 + 1) x7 h) rfl
        · rw [if_pos q8] at h
          refine z_aload_n fx dX4_turn_76 rfl ?_
          refine z_iload_n fx dX4_turn_77 rfl ?_
          refine z_iload fx dX4_turn_78 rfl ?_
          obtain ⟨x9, ex9, h⟩ := ob h
          refine zVv (k := 0) (rest := []) fx hR (c_X4_turnColumn (zl E) D ad g a1 a5 x7 J ex9) rcM mvX4_turnColumn wm_X4_186 dX4_turn_80 rfl ⟨rfl, rfl⟩ rfl rfl rfl ?_
          refine z_iinc (v := (a5 + 1)) fx dX4_turn_83 rfl rfl (by decide) rfl ?_
          refine z_goto (tgt := 38) fx dX4_turn_86 (by decide) ?_
          exact z_lv2 (ih a1 a2 a3 (a5 + 1) x9 h) rfl
set_option maxRecDepth 100000 in
set_option maxHeartbeats 4000000 in
theorem c_X4_turn (l : Launch) (D : va_G) (ad : Nat → Nat) (g : Nat → ClassId) (a1 : Int32) (a2 : Int32) (a3 : Int32) (I : zMi) (J : zMl) {r : Int32 × zMi} (h : f_X4_turn a1 a2 a3 I = some r) : zCM (mw D ad g) l yX4_turn cX4_turn 6 (some .int) rmX4_turn [.ref (ad (0)), .int a1, .int a2, .int a3] I J (some (.int r.1)) r.2 J := by
  refine zCM.of (by decide) (Nat.le_of_ble_eq_true rfl) (fun E hl hR fx hr => ?_)
  subst hl
  rw [f_X4_turn] at h
  refine z_aload_n fx dX4_turn_0 rfl ?_
  refine z_iload_n fx dX4_turn_1 rfl ?_
  obtain ⟨x1, ex1, h⟩ := ob h
  refine zVi (k := 0) (rest := []) fx hR (c_X4_askedTable (zl E) D ad g a1 I J ex1) rcM mvX4_askedTable wm_X4_143 dX4_turn_2 rfl ⟨rfl, rfl⟩ rfl rfl rfl ?_
  refine z_istore fx dX4_turn_5 (by decide) rfl ?_
  refine z_iload fx dX4_turn_7 rfl ?_
  refine z_if_ge (tgt := 15) fx dX4_turn_9 (by decide) (fun q2 => ?_) (fun q2 => ?_)
  · rw [if_pos q2] at h
    refine z_aload_n fx dX4_turn_15 rfl ?_
    refine z_iload_n fx dX4_turn_16 rfl ?_
    refine z_iload_n fx dX4_turn_17 rfl ?_
    obtain ⟨x3, ex3, h⟩ := ob h
    refine zVi (k := 0) (rest := []) fx hR (c_X4_isSet (zl E) D ad g a1 a2 x1.2 J ex3) rcM mvX4_isSet wm_X4_180 dX4_turn_18 rfl ⟨rfl, rfl⟩ rfl rfl rfl ?_
    refine z_if_eq (tgt := 33) fx dX4_turn_21 (by decide) (fun q4 => ?_) (fun q4 => ?_)
    · rw [if_pos q4] at h
      refine z_iconst (v := (-1)) fx dX4_turn_33 rfl ?_
      cases h
      exact z_iret fx hr dX4_turn_34
    · rw [if_neg q4] at h
      refine z_aload_n fx dX4_turn_24 rfl ?_
      refine z_iload_n fx dX4_turn_25 rfl ?_
      refine z_iload_n fx dX4_turn_26 rfl ?_
      obtain ⟨x5, ex5, h⟩ := ob h
      refine zVi (k := 0) (rest := []) fx hR (c_X4_isSet (zl E) D ad g a1 a3 x1.2 J ex5) rcM mvX4_isSet wm_X4_180 dX4_turn_27 rfl ⟨rfl, rfl⟩ rfl rfl rfl ?_
      refine z_if_ne (tgt := 35) fx dX4_turn_30 (by decide) (fun q6 => ?_) (fun q6 => ?_)
      · rw [if_neg q6] at h
        refine z_iconst (v := 0) fx dX4_turn_35 rfl ?_
        refine z_istore fx dX4_turn_36 (by decide) rfl ?_
        exact z_lv2 (w_X4_turn_38 fx hR hr fu a1 a2 a3 0 x1.2 h) rfl
      · rw [if_pos q6] at h
        refine z_iconst (v := (-1)) fx dX4_turn_33 rfl ?_
        cases h
        exact z_iret fx hr dX4_turn_34
  · rw [if_neg q2] at h
    refine z_iload fx dX4_turn_12 rfl ?_
    cases h
    exact z_iret fx hr dX4_turn_14
set_option maxRecDepth 100000 in
set_option maxHeartbeats 4000000 in
theorem w_X4_swap_120 {E : zE} {D : va_G} {ad : Nat → Nat} {g : Nat → ClassId} (fx : zFX E (mw D ad g) cX4_swap RX4 9 (some .int)) (hR : zR E = rmX4_swap) {r : Int32 × zMi} {J : zMl} (hr : zRX E (mw D ad g) (some (.int r.1)) r.2 J) {k35 : Int32 → Int32 → Int32 → Int32 → Int32 → zMi → Option (Int32 × zMi)} (hk35 : ∀ (a1 : Int32) (a2 : Int32) (a3 : Int32) (a4 : Int32) (a6 : Int32) (I : zMi) , k35 a1 a2 a3 a4 a6 I = some r → zAt E (mw D ad g) 35 [(0, .ref (ad (0))), (1, .int a1), (2, .int a2), (3, .int a3), (4, .int a4), (6, .int a6)] [] I J) : ∀ (a1 : Int32) (a2 : Int32) (a3 : Int32) (a4 : Int32) (a6 : Int32) (a7 : Int32) (a8 : Int32) (s0 : Int32) (s1 : Int32) (s2 : Int32) (I : zMi) , f_X4_swap_120 k35 a1 a2 a3 a4 a6 a7 a8 s0 s1 s2 I = some r → zAt E (mw D ad g) 120 [(0, .ref (ad (0))), (1, .int a1), (2, .int a2), (3, .int a3), (4, .int a4), (6, .int a6), (7, .int a7), (8, .int a8)] [.int s0, .int s1, .int s2, .ref (ad (0))] I J := by
  intro a1 a2 a3 a4 a6 a7 a8 s0 s1 s2 I h
  rw [f_X4_swap_120] at h
  refine z_iload fx dX4_swap_120 rfl ?_
  obtain ⟨x1, ex1, h⟩ := ob h
  refine zVv (k := 0) (rest := []) fx hR (c_X4_let (zl E) D ad g s2 s1 s0 a8 I J ex1) rcM mvX4_let wm_X4_133 dX4_swap_122 rfl ⟨rfl, rfl⟩ rfl rfl rfl ?_
  refine z_aload_n fx dX4_swap_125 rfl ?_
  refine z_iload_n fx dX4_swap_126 rfl ?_
  refine z_iload_n fx dX4_swap_127 rfl ?_
  refine z_if_eq (tgt := 136) fx dX4_swap_128 (by decide) (fun q2 => ?_) (fun q2 => ?_)
  · rw [if_pos q2] at h
    refine z_iload fx dX4_swap_136 rfl ?_
    refine z_iload_n fx dX4_swap_138 rfl ?_
    refine z_if_eq (tgt := 147) fx dX4_swap_139 (by decide) (fun q3 => ?_) (fun q3 => ?_)
    · rw [if_pos q3] at h
      refine z_iload fx dX4_swap_147 rfl ?_
      refine z_iload fx dX4_swap_149 rfl ?_
      obtain ⟨x4, ex4, h⟩ := ob h
      refine zVv (k := 0) (rest := []) fx hR (c_X4_let (zl E) D ad g a1 a4 a6 a7 x1 J ex4) rcM mvX4_let wm_X4_133 dX4_swap_151 rfl ⟨rfl, rfl⟩ rfl rfl rfl ?_
      refine z_iinc (v := (a6 + 1)) fx dX4_swap_154 rfl rfl (by decide) rfl ?_
      refine z_goto (tgt := 35) fx dX4_swap_157 (by decide) ?_
      exact z_lv2 (hk35 a1 a2 a3 a4 (a6 + 1) x4 h) rfl
    · rw [if_neg q3] at h
      refine z_iload fx dX4_swap_142 rfl ?_
      refine z_goto (tgt := 149) fx dX4_swap_144 (by decide) ?_
      refine z_iload fx dX4_swap_149 rfl ?_
      obtain ⟨x5, ex5, h⟩ := ob h
      refine zVv (k := 0) (rest := []) fx hR (c_X4_let (zl E) D ad g a1 a4 a4 a7 x1 J ex5) rcM mvX4_let wm_X4_133 dX4_swap_151 rfl ⟨rfl, rfl⟩ rfl rfl rfl ?_
      refine z_iinc (v := (a6 + 1)) fx dX4_swap_154 rfl rfl (by decide) rfl ?_
      refine z_goto (tgt := 35) fx dX4_swap_157 (by decide) ?_
      exact z_lv2 (hk35 a1 a2 a3 a4 (a6 + 1) x5 h) rfl
  · rw [if_neg q2] at h
    refine z_iload fx dX4_swap_131 rfl ?_
    refine z_goto (tgt := 138) fx dX4_swap_133 (by decide) ?_
    refine z_iload_n fx dX4_swap_138 rfl ?_
    refine z_if_eq (tgt := 147) fx dX4_swap_139 (by decide) (fun q6 => ?_) (fun q6 => ?_)
    · rw [if_pos q6] at h
      refine z_iload fx dX4_swap_147 rfl ?_
      refine z_iload fx dX4_swap_149 rfl ?_
      obtain ⟨x7, ex7, h⟩ := ob h
      refine zVv (k := 0) (rest := []) fx hR (c_X4_let (zl E) D ad g a1 a6 a6 a7 x1 J ex7) rcM mvX4_let wm_X4_133 dX4_swap_151 rfl ⟨rfl, rfl⟩ rfl rfl rfl ?_
      refine z_iinc (v := (a6 + 1)) fx dX4_swap_154 rfl rfl (by decide) rfl ?_
      refine z_goto (tgt := 35) fx dX4_swap_157 (by decide) ?_
      exact z_lv2 (hk35 a1 a2 a3 a4 (a6 + 1) x7 h) rfl
    · rw [if_neg q6] at h
      refine z_iload fx dX4_swap_142 rfl ?_
      refine z_goto (tgt := 149) fx dX4_swap_144 (by decide) ?_
      refine z_iload fx dX4_swap_149 rfl ?_
      obtain ⟨x8, ex8, h⟩ := ob h
      refine zVv (k := 0) (rest := []) fx hR (c_X4_let (zl E) D ad g a1 a6 a4 a7 x1 J ex8) rcM mvX4_let wm_X4_133 dX4_swap_151 rfl ⟨rfl, rfl⟩ rfl rfl rfl ?_
      refine z_iinc (v := (a6 + 1)) fx dX4_swap_154 rfl rfl (by decide) rfl ?_
      refine z_goto (tgt := 35) fx dX4_swap_157 (by decide) ?_
      exact z_lv2 (hk35 a1 a2 a3 a4 (a6 + 1) x8 h) rfl
set_option maxRecDepth 100000 in
set_option maxHeartbeats 4000000 in
theorem w_X4_swap_69 {E : zE} {D : va_G} {ad : Nat → Nat} {g : Nat → ClassId} (fx : zFX E (mw D ad g) cX4_swap RX4 9 (some .int)) (hR : zR E = rmX4_swap) {r : Int32 × zMi} {J : zMl} (hr : zRX E (mw D ad g) (some (.int r.1)) r.2 J) {k35 : Int32 → Int32 → Int32 → Int32 → Int32 → zMi → Option (Int32 × zMi)} (hk35 : ∀ (a1 : Int32) (a2 : Int32) (a3 : Int32) (a4 : Int32) (a6 : Int32) (I : zMi) , k35 a1 a2 a3 a4 a6 I = some r → zAt E (mw D ad g) 35 [(0, .ref (ad (0))), (1, .int a1), (2, .int a2), (3, .int a3), (4, .int a4), (6, .int a6)] [] I J) : ∀ (a1 : Int32) (a2 : Int32) (a3 : Int32) (a4 : Int32) (a6 : Int32) (s0 : Int32) (I : zMi) , f_X4_swap_69 k35 a1 a2 a3 a4 a6 s0 I = some r → zAt E (mw D ad g) 69 [(0, .ref (ad (0))), (1, .int a1), (2, .int a2), (3, .int a3), (4, .int a4), (6, .int a6)] [.int s0] I J := by
  intro a1 a2 a3 a4 a6 s0 I h
  rw [f_X4_swap_69] at h
  refine z_istore fx dX4_swap_69 (by decide) rfl ?_
  refine z_iload_n fx dX4_swap_71 rfl ?_
  refine z_if_eq (tgt := 87) fx dX4_swap_72 (by decide) (fun q1 => ?_) (fun q1 => ?_)
  · rw [if_pos q1] at h
    refine z_aload_n fx dX4_swap_87 rfl ?_
    refine z_iload_n fx dX4_swap_88 rfl ?_
    refine z_iload fx dX4_swap_89 rfl ?_
    refine z_iload fx dX4_swap_91 rfl ?_
    obtain ⟨x2, ex2, h⟩ := ob h
    refine zVi (k := 0) (rest := []) fx hR (c_X4_get (zl E) D ad g a1 a4 a6 I J ex2) rcM mvX4_get wm_X4_102 dX4_swap_93 rfl ⟨rfl, rfl⟩ rfl rfl rfl ?_
    refine z_istore fx dX4_swap_96 (by decide) rfl ?_
    refine z_aload_n fx dX4_swap_98 rfl ?_
    refine z_iload_n fx dX4_swap_99 rfl ?_
    refine z_iload_n fx dX4_swap_100 rfl ?_
    refine z_if_eq (tgt := 109) fx dX4_swap_101 (by decide) (fun q3 => ?_) (fun q3 => ?_)
    · rw [if_pos q3] at h
      refine z_iload_n fx dX4_swap_109 rfl ?_
      refine z_iload_n fx dX4_swap_110 rfl ?_
      refine z_if_eq (tgt := 118) fx dX4_swap_111 (by decide) (fun q4 => ?_) (fun q4 => ?_)
      · rw [if_pos q4] at h
        refine z_iload fx dX4_swap_118 rfl ?_
        exact z_lv2 (w_X4_swap_120 fx hR hr hk35 a1 a2 a3 a4 a6 s0 x2 a6 a3 a1 I h) rfl
      · rw [if_neg q4] at h
        refine z_iload_n fx dX4_swap_114 rfl ?_
        refine z_goto (tgt := 120) fx dX4_swap_115 (by decide) ?_
        exact z_lv2 (w_X4_swap_120 fx hR hr hk35 a1 a2 a3 a4 a6 s0 x2 a3 a3 a1 I h) rfl
    · rw [if_neg q3] at h
      refine z_iload fx dX4_swap_104 rfl ?_
      refine z_goto (tgt := 110) fx dX4_swap_106 (by decide) ?_
      refine z_iload_n fx dX4_swap_110 rfl ?_
      refine z_if_eq (tgt := 118) fx dX4_swap_111 (by decide) (fun q5 => ?_) (fun q5 => ?_)
      · rw [if_pos q5] at h
        refine z_iload fx dX4_swap_118 rfl ?_
        exact z_lv2 (w_X4_swap_120 fx hR hr hk35 a1 a2 a3 a4 a6 s0 x2 a6 a6 a1 I h) rfl
      · rw [if_neg q5] at h
        refine z_iload_n fx dX4_swap_114 rfl ?_
        refine z_goto (tgt := 120) fx dX4_swap_115 (by decide) ?_
        exact z_lv2 (w_X4_swap_120 fx hR hr hk35 a1 a2 a3 a4 a6 s0 x2 a3 a6 a1 I h) rfl
  · rw [if_neg q1] at h
    refine z_aload_n fx dX4_swap_75 rfl ?_
    refine z_iload_n fx dX4_swap_76 rfl ?_
    refine z_iload fx dX4_swap_77 rfl ?_
    refine z_iload fx dX4_swap_79 rfl ?_
    obtain ⟨x6, ex6, h⟩ := ob h
    refine zVi (k := 0) (rest := []) fx hR (c_X4_get (zl E) D ad g a1 a6 a4 I J ex6) rcM mvX4_get wm_X4_102 dX4_swap_81 rfl ⟨rfl, rfl⟩ rfl rfl rfl ?_
    refine z_goto (tgt := 96) fx dX4_swap_84 (by decide) ?_
    refine z_istore fx dX4_swap_96 (by decide) rfl ?_
    refine z_aload_n fx dX4_swap_98 rfl ?_
    refine z_iload_n fx dX4_swap_99 rfl ?_
    refine z_iload_n fx dX4_swap_100 rfl ?_
    refine z_if_eq (tgt := 109) fx dX4_swap_101 (by decide) (fun q7 => ?_) (fun q7 => ?_)
    · rw [if_pos q7] at h
      refine z_iload_n fx dX4_swap_109 rfl ?_
      refine z_iload_n fx dX4_swap_110 rfl ?_
      refine z_if_eq (tgt := 118) fx dX4_swap_111 (by decide) (fun q8 => ?_) (fun q8 => ?_)
      · rw [if_pos q8] at h
        refine z_iload fx dX4_swap_118 rfl ?_
        exact z_lv2 (w_X4_swap_120 fx hR hr hk35 a1 a2 a3 a4 a6 s0 x6 a6 a3 a1 I h) rfl
      · rw [if_neg q8] at h
        refine z_iload_n fx dX4_swap_114 rfl ?_
        refine z_goto (tgt := 120) fx dX4_swap_115 (by decide) ?_
        exact z_lv2 (w_X4_swap_120 fx hR hr hk35 a1 a2 a3 a4 a6 s0 x6 a3 a3 a1 I h) rfl
    · rw [if_neg q7] at h
      refine z_iload fx dX4_swap_104 rfl ?_
      refine z_goto (tgt := 110) fx dX4_swap_106 (by decide) ?_
      refine z_iload_n fx dX4_swap_110 rfl ?_
      refine z_if_eq (tgt := 118) fx dX4_swap_111 (by decide) (fun q9 => ?_) (fun q9 => ?_)
      · rw [if_pos q9] at h
        refine z_iload fx dX4_swap_118 rfl ?_
        exact z_lv2 (w_X4_swap_120 fx hR hr hk35 a1 a2 a3 a4 a6 s0 x6 a6 a6 a1 I h) rfl
      · rw [if_neg q9] at h
        refine z_iload_n fx dX4_swap_114 rfl ?_
        refine z_goto (tgt := 120) fx dX4_swap_115 (by decide) ?_
        exact z_lv2 (w_X4_swap_120 fx hR hr hk35 a1 a2 a3 a4 a6 s0 x6 a3 a6 a1 I h) rfl
set_option maxRecDepth 100000 in
set_option maxHeartbeats 4000000 in
theorem w_X4_swap_35 {E : zE} {D : va_G} {ad : Nat → Nat} {g : Nat → ClassId} (fx : zFX E (mw D ad g) cX4_swap RX4 9 (some .int)) (hR : zR E = rmX4_swap) {r : Int32 × zMi} {J : zMl} (hr : zRX E (mw D ad g) (some (.int r.1)) r.2 J) : ∀ (fuel : Nat) (a1 : Int32) (a2 : Int32) (a3 : Int32) (a4 : Int32) (a6 : Int32) (I : zMi) , f_X4_swap_35 fuel a1 a2 a3 a4 a6 I = some r → zAt E (mw D ad g) 35 [(0, .ref (ad (0))), (1, .int a1), (2, .int a2), (3, .int a3), (4, .int a4), (6, .int a6)] [] I J := by
  intro fuel
  induction fuel with
  | zero => intro a1 a2 a3 a4 a6 I h; rw [f_X4_swap_35] at h; cases h
  | succ f ih =>
    intro a1 a2 a3 a4 a6 I h
    rw [f_X4_swap_35] at h
    refine z_iload fx dX4_swap_35 rfl ?_
    refine z_aload_n fx dX4_swap_37 rfl ?_
    refine gM_wide fx wf_X4_26 dX4_swap_38 ?_
    refine z_iload_n fx dX4_swap_41 rfl ?_
    obtain ⟨q1, h⟩ := oi h
    refine m_ild fx (Nat.le_of_ble_eq_true rfl) (cfM_5 g ad) q1 dX4_swap_42 ?_
    refine z_icmp_ge (tgt := 160) fx dX4_swap_43 (by decide) (fun q2 => ?_) (fun q2 => ?_)
    · rw [if_pos q2] at h
      refine z_aload_n fx dX4_swap_160 rfl ?_
      refine z_iload_n fx dX4_swap_161 rfl ?_
      obtain ⟨x3, ex3, h⟩ := ob h
      refine zVi (k := 0) (rest := []) fx hR (c_X4_setKind (zl E) D ad g a1 I J ex3) rcM mvX4_setKind wm_X4_137 dX4_swap_162 rfl ⟨rfl, rfl⟩ rfl rfl rfl ?_
      cases h
      exact z_iret fx hr dX4_swap_165
    · rw [if_neg q2] at h
      refine z_iload_n fx dX4_swap_46 rfl ?_
      refine z_if_eq (tgt := 61) fx dX4_swap_47 (by decide) (fun q4 => ?_) (fun q4 => ?_)
      · rw [if_pos q4] at h
        refine z_aload_n fx dX4_swap_61 rfl ?_
        refine z_iload_n fx dX4_swap_62 rfl ?_
        refine z_iload_n fx dX4_swap_63 rfl ?_
        refine z_iload fx dX4_swap_64 rfl ?_
        obtain ⟨x5, ex5, h⟩ := ob h
        refine zVi (k := 0) (rest := []) fx hR (c_X4_get (zl E) D ad g a1 a3 a6 I J ex5) rcM mvX4_get wm_X4_102 dX4_swap_66 rfl ⟨rfl, rfl⟩ rfl rfl rfl ?_
        exact z_lv2 (w_X4_swap_69 fx hR hr ih a1 a2 a3 a4 a6 x5 I h) rfl
      · rw [if_neg q4] at h
        refine z_aload_n fx dX4_swap_50 rfl ?_
        refine z_iload_n fx dX4_swap_51 rfl ?_
        refine z_iload fx dX4_swap_52 rfl ?_
        refine z_iload_n fx dX4_swap_54 rfl ?_
        obtain ⟨x6, ex6, h⟩ := ob h
        refine zVi (k := 0) (rest := []) fx hR (c_X4_get (zl E) D ad g a1 a6 a3 I J ex6) rcM mvX4_get wm_X4_102 dX4_swap_55 rfl ⟨rfl, rfl⟩ rfl rfl rfl ?_
        refine z_goto (tgt := 69) fx dX4_swap_58 (by decide) ?_
        exact z_lv2 (w_X4_swap_69 fx hR hr ih a1 a2 a3 a4 a6 x6 I h) rfl
set_option maxRecDepth 100000 in
set_option maxHeartbeats 4000000 in
theorem c_X4_swap (l : Launch) (D : va_G) (ad : Nat → Nat) (g : Nat → ClassId) (a1 : Int32) (a2 : Int32) (a3 : Int32) (a4 : Int32) (I : zMi) (J : zMl) {r : Int32 × zMi} (h : f_X4_swap a1 a2 a3 a4 I = some r) : zCM (mw D ad g) l yX4_swap cX4_swap 9 (some .int) rmX4_swap [.ref (ad (0)), .int a1, .int a2, .int a3, .int a4] I J (some (.int r.1)) r.2 J := by
  refine zCM.of (by decide) (Nat.le_of_ble_eq_true rfl) (fun E hl hR fx hr => ?_)
  subst hl
  rw [f_X4_swap] at h
  refine z_aload_n fx dX4_swap_0 rfl ?_
  refine z_iload_n fx dX4_swap_1 rfl ?_
  obtain ⟨x1, ex1, h⟩ := ob h
  refine zVi (k := 0) (rest := []) fx hR (c_X4_askedTable (zl E) D ad g a1 I J ex1) rcM mvX4_askedTable wm_X4_143 dX4_swap_2 rfl ⟨rfl, rfl⟩ rfl rfl rfl ?_
  refine z_istore fx dX4_swap_5 (by decide) rfl ?_
  refine z_iload fx dX4_swap_7 rfl ?_
  refine z_if_ge (tgt := 15) fx dX4_swap_9 (by decide) (fun q2 => ?_) (fun q2 => ?_)
  · rw [if_pos q2] at h
    refine z_aload_n fx dX4_swap_15 rfl ?_
    refine z_iload_n fx dX4_swap_16 rfl ?_
    refine z_iload_n fx dX4_swap_17 rfl ?_
    refine z_iload fx dX4_swap_18 rfl ?_
    obtain ⟨x3, ex3, h⟩ := ob h
    refine zVi (k := 0) (rest := []) fx hR (c_X4_isPlace (zl E) D ad g a1 a3 a4 x1.2 J ex3) rcM mvX4_isPlace wm_X4_146 dX4_swap_20 rfl ⟨rfl, rfl⟩ rfl rfl rfl ?_
    refine z_if_ne (tgt := 32) fx dX4_swap_23 (by decide) (fun q4 => ?_) (fun q4 => ?_)
    · rw [if_neg q4] at h
      refine z_iconst (v := 0) fx dX4_swap_32 rfl ?_
      refine z_istore fx dX4_swap_33 (by decide) rfl ?_
      exact z_lv2 (w_X4_swap_35 fx hR hr fu a1 a2 a3 a4 0 x1.2 h) rfl
    · rw [if_pos q4] at h
      refine z_aload_n fx dX4_swap_26 rfl ?_
      refine z_iconst (v := 2) fx dX4_swap_27 rfl ?_
      obtain ⟨x5, ex5, h⟩ := ob h
      refine zVi (k := 0) (rest := []) fx hR (c_X4_meets (zl E) D ad g 2 x1.2 J ex5) rcM mvX4_meets wm_X4_81 dX4_swap_28 rfl ⟨rfl, rfl⟩ rfl rfl rfl ?_
      cases h
      exact z_iret fx hr dX4_swap_31
  · rw [if_neg q2] at h
    refine z_iload fx dX4_swap_12 rfl ?_
    cases h
    exact z_iret fx hr dX4_swap_14
set_option maxRecDepth 100000 in
set_option maxHeartbeats 4000000 in
theorem w_X4_flip_27 {E : zE} {D : va_G} {ad : Nat → Nat} {g : Nat → ClassId} (fx : zFX E (mw D ad g) cX4_flip RX4 6 (some .int)) (hR : zR E = rmX4_flip) {r : Int32 × zMi} {J : zMl} (hr : zRX E (mw D ad g) (some (.int r.1)) r.2 J) {k14 : Int32 → Int32 → zMi → Option (Int32 × zMi)} (hk14 : ∀ (a1 : Int32) (a3 : Int32) (I : zMi) , k14 a1 a3 I = some r → zAt E (mw D ad g) 14 [(0, .ref (ad (0))), (1, .int a1), (3, .int a3)] [] I J) : ∀ (fuel : Nat) (a1 : Int32) (a3 : Int32) (a4 : Int32) (I : zMi) , f_X4_flip_27 k14 fuel a1 a3 a4 I = some r → zAt E (mw D ad g) 27 [(0, .ref (ad (0))), (1, .int a1), (3, .int a3), (4, .int a4)] [] I J := by
  intro fuel
  induction fuel with
  | zero => intro a1 a3 a4 I h; rw [f_X4_flip_27] at h; cases h
  | succ f ih =>
    intro a1 a3 a4 I h
    rw [f_X4_flip_27] at h
    refine z_iload fx dX4_flip_27 rfl ?_
    refine z_iload_n fx dX4_flip_29 rfl ?_
    refine z_icmp_ge (tgt := 75) fx dX4_flip_30 (by decide) (fun q1 => ?_) (fun q1 => ?_)
    · rw [if_pos q1] at h
      refine z_iinc (v := (a3 + 1)) fx dX4_flip_75 rfl rfl (by decide) rfl ?_
      refine z_goto (tgt := 14) fx dX4_flip_78 (by decide) ?_
      exact z_lv2 (hk14 a1 (a3 + 1) I h) rfl
    · rw [if_neg q1] at h
      refine z_aload_n fx dX4_flip_33 rfl ?_
      refine z_iload_n fx dX4_flip_34 rfl ?_
      refine z_iload_n fx dX4_flip_35 rfl ?_
      refine z_iload fx dX4_flip_36 rfl ?_
      obtain ⟨x2, ex2, h⟩ := ob h
      refine zVi (k := 0) (rest := []) fx hR (c_X4_get (zl E) D ad g a1 a3 a4 I J ex2) rcM mvX4_get wm_X4_102 dX4_flip_38 rfl ⟨rfl, rfl⟩ rfl rfl rfl ?_
      refine z_istore fx dX4_flip_41 (by decide) rfl ?_
      refine z_aload_n fx dX4_flip_43 rfl ?_
      refine z_iload_n fx dX4_flip_44 rfl ?_
      refine z_iload_n fx dX4_flip_45 rfl ?_
      refine z_iload fx dX4_flip_46 rfl ?_
      refine z_aload_n fx dX4_flip_48 rfl ?_
      refine z_iload_n fx dX4_flip_49 rfl ?_
      refine z_iload fx dX4_flip_50 rfl ?_
      refine z_iload_n fx dX4_flip_52 rfl ?_
      obtain ⟨x3, ex3, h⟩ := ob h
      refine zVi (k := 0) (rest := [.int a4, .int a3, .int a1, .ref (ad (0))]) fx hR (c_X4_get (zl E) D ad g a1 a4 a3 I J ex3) rcM mvX4_get wm_X4_102 dX4_flip_53 rfl ⟨rfl, rfl⟩ rfl rfl rfl ?_
      obtain ⟨x4, ex4, h⟩ := ob h
      refine zVv (k := 0) (rest := []) fx hR (c_X4_let (zl E) D ad g a1 a3 a4 x3 I J ex4) rcM mvX4_let wm_X4_133 dX4_flip_56 rfl ⟨rfl, rfl⟩ rfl rfl rfl ?_
      refine z_aload_n fx dX4_flip_59 rfl ?_
      refine z_iload_n fx dX4_flip_60 rfl ?_
      refine z_iload fx dX4_flip_61 rfl ?_
      refine z_iload_n fx dX4_flip_63 rfl ?_
      refine z_iload fx dX4_flip_64 rfl ?_
      obtain ⟨x5, ex5, h⟩ := ob h
      refine zVv (k := 0) (rest := []) fx hR (c_X4_let (zl E) D ad g a1 a4 a3 x2 x4 J ex5) rcM mvX4_let wm_X4_133 dX4_flip_66 rfl ⟨rfl, rfl⟩ rfl rfl rfl ?_
      refine z_iinc (v := (a4 + 1)) fx dX4_flip_69 rfl rfl (by decide) rfl ?_
      refine z_goto (tgt := 27) fx dX4_flip_72 (by decide) ?_
      exact z_lv2 (ih a1 a3 (a4 + 1) x5 h) rfl
set_option maxRecDepth 100000 in
set_option maxHeartbeats 4000000 in
theorem w_X4_flip_14 {E : zE} {D : va_G} {ad : Nat → Nat} {g : Nat → ClassId} (fx : zFX E (mw D ad g) cX4_flip RX4 6 (some .int)) (hR : zR E = rmX4_flip) {r : Int32 × zMi} {J : zMl} (hr : zRX E (mw D ad g) (some (.int r.1)) r.2 J) : ∀ (fuel : Nat) (a1 : Int32) (a3 : Int32) (I : zMi) , f_X4_flip_14 fuel a1 a3 I = some r → zAt E (mw D ad g) 14 [(0, .ref (ad (0))), (1, .int a1), (3, .int a3)] [] I J := by
  intro fuel
  induction fuel with
  | zero => intro a1 a3 I h; rw [f_X4_flip_14] at h; cases h
  | succ f ih =>
    intro a1 a3 I h
    rw [f_X4_flip_14] at h
    refine z_iload_n fx dX4_flip_14 rfl ?_
    refine z_aload_n fx dX4_flip_15 rfl ?_
    refine gM_wide fx wf_X4_26 dX4_flip_16 ?_
    refine z_iload_n fx dX4_flip_19 rfl ?_
    obtain ⟨q1, h⟩ := oi h
    refine m_ild fx (Nat.le_of_ble_eq_true rfl) (cfM_5 g ad) q1 dX4_flip_20 ?_
    refine z_icmp_ge (tgt := 81) fx dX4_flip_21 (by decide) (fun q2 => ?_) (fun q2 => ?_)
    · rw [if_pos q2] at h
      refine z_aload_n fx dX4_flip_81 rfl ?_
      refine z_iload_n fx dX4_flip_82 rfl ?_
      obtain ⟨x3, ex3, h⟩ := ob h
      refine zVi (k := 0) (rest := []) fx hR (c_X4_setKind (zl E) D ad g a1 I J ex3) rcM mvX4_setKind wm_X4_137 dX4_flip_83 rfl ⟨rfl, rfl⟩ rfl rfl rfl ?_
      cases h
      exact z_iret fx hr dX4_flip_86
    · rw [if_neg q2] at h
      refine z_iconst (v := 0) fx dX4_flip_24 rfl ?_
      refine z_istore fx dX4_flip_25 (by decide) rfl ?_
      exact z_lv2 (w_X4_flip_27 fx hR hr ih fu a1 a3 0 I h) rfl
set_option maxRecDepth 100000 in
set_option maxHeartbeats 4000000 in
theorem c_X4_flip (l : Launch) (D : va_G) (ad : Nat → Nat) (g : Nat → ClassId) (a1 : Int32) (I : zMi) (J : zMl) {r : Int32 × zMi} (h : f_X4_flip a1 I = some r) : zCM (mw D ad g) l yX4_flip cX4_flip 6 (some .int) rmX4_flip [.ref (ad (0)), .int a1] I J (some (.int r.1)) r.2 J := by
  refine zCM.of (by decide) (Nat.le_of_ble_eq_true rfl) (fun E hl hR fx hr => ?_)
  subst hl
  rw [f_X4_flip] at h
  refine z_aload_n fx dX4_flip_0 rfl ?_
  refine z_iload_n fx dX4_flip_1 rfl ?_
  obtain ⟨x1, ex1, h⟩ := ob h
  refine zVi (k := 0) (rest := []) fx hR (c_X4_askedTable (zl E) D ad g a1 I J ex1) rcM mvX4_askedTable wm_X4_143 dX4_flip_2 rfl ⟨rfl, rfl⟩ rfl rfl rfl ?_
  refine z_istore_n fx dX4_flip_5 (by decide) rfl ?_
  refine z_iload_n fx dX4_flip_6 rfl ?_
  refine z_if_ge (tgt := 12) fx dX4_flip_7 (by decide) (fun q2 => ?_) (fun q2 => ?_)
  · rw [if_pos q2] at h
    refine z_iconst (v := 0) fx dX4_flip_12 rfl ?_
    refine z_istore_n fx dX4_flip_13 (by decide) rfl ?_
    exact z_lv2 (w_X4_flip_14 fx hR hr fu a1 0 x1.2 h) rfl
  · rw [if_neg q2] at h
    refine z_iload_n fx dX4_flip_10 rfl ?_
    cases h
    exact z_iret fx hr dX4_flip_11
set_option maxRecDepth 100000 in
set_option maxHeartbeats 4000000 in
theorem w_X4_normal_72 {E : zE} {D : va_G} {ad : Nat → Nat} {g : Nat → ClassId} (fx : zFX E (mw D ad g) cX4_normal RX4 5 (some .int)) (hR : zR E = rmX4_normal) {r : Int32 × zMi} {J : zMl} (hr : zRX E (mw D ad g) (some (.int r.1)) r.2 J) : ∀ (fuel : Nat) (a1 : Int32) (a3 : Int32) (a4 : Int32) (I : zMi) , f_X4_normal_72 fuel a1 a3 a4 I = some r → zAt E (mw D ad g) 72 [(0, .ref (ad (0))), (1, .int a1), (3, .int a3), (4, .int a4)] [] I J := by
  intro fuel
  induction fuel with
  | zero => intro a1 a3 a4 I h; rw [f_X4_normal_72] at h; cases h
  | succ f ih =>
    intro a1 a3 a4 I h
    rw [f_X4_normal_72] at h
    refine z_iload fx dX4_normal_72 rfl ?_
    refine z_aload_n fx dX4_normal_74 rfl ?_
    refine gM_wide fx wf_X4_26 dX4_normal_75 ?_
    refine z_iload_n fx dX4_normal_78 rfl ?_
    obtain ⟨q1, h⟩ := oi h
    refine m_ild fx (Nat.le_of_ble_eq_true rfl) (cfM_5 g ad) q1 dX4_normal_79 ?_
    refine z_icmp_ge (tgt := 110) fx dX4_normal_80 (by decide) (fun q2 => ?_) (fun q2 => ?_)
    · rw [if_pos q2] at h
      refine z_aload_n fx dX4_normal_110 rfl ?_
      refine z_iload_n fx dX4_normal_111 rfl ?_
      obtain ⟨x3, ex3, h⟩ := ob h
      refine zVi (k := 0) (rest := []) fx hR (c_X4_setKind (zl E) D ad g a1 I J ex3) rcM mvX4_setKind wm_X4_137 dX4_normal_112 rfl ⟨rfl, rfl⟩ rfl rfl rfl ?_
      refine z_pop fx dX4_normal_115 rfl ?_
      refine z_iload_n fx dX4_normal_116 rfl ?_
      cases h
      exact z_iret fx hr dX4_normal_117
    · rw [if_neg q2] at h
      refine z_aload_n fx dX4_normal_83 rfl ?_
      refine z_iload_n fx dX4_normal_84 rfl ?_
      refine z_iload fx dX4_normal_85 rfl ?_
      refine z_iconst (v := 0) fx dX4_normal_87 rfl ?_
      obtain ⟨x4, ex4, h⟩ := ob h
      refine zVi (k := 0) (rest := []) fx hR (c_X4_get (zl E) D ad g a1 a4 0 I J ex4) rcM mvX4_get wm_X4_102 dX4_normal_88 rfl ⟨rfl, rfl⟩ rfl rfl rfl ?_
      refine z_if_ge (tgt := 104) fx dX4_normal_91 (by decide) (fun q5 => ?_) (fun q5 => ?_)
      · rw [if_pos q5] at h
        refine z_iinc (v := (a4 + 1)) fx dX4_normal_104 rfl rfl (by decide) rfl ?_
        refine z_goto (tgt := 72) fx dX4_normal_107 (by decide) ?_
        exact z_lv2 (ih a1 a3 (a4 + 1) I h) rfl
      · rw [if_neg q5] at h
        refine z_aload_n fx dX4_normal_94 rfl ?_
        refine z_iload_n fx dX4_normal_95 rfl ?_
        refine z_iload fx dX4_normal_96 rfl ?_
        obtain ⟨x6, ex6, h⟩ := ob h
        refine zVv (k := 0) (rest := []) fx hR (c_X4_turnRow (zl E) D ad g a1 a4 I J ex6) rcM mvX4_turnRow wm_X4_183 dX4_normal_98 rfl ⟨rfl, rfl⟩ rfl rfl rfl ?_
        refine z_iinc (v := (a3 + 1)) fx dX4_normal_101 rfl rfl (by decide) rfl ?_
        refine z_iinc (v := (a4 + 1)) fx dX4_normal_104 rfl rfl (by decide) rfl ?_
        refine z_goto (tgt := 72) fx dX4_normal_107 (by decide) ?_
        exact z_lv2 (ih a1 (a3 + 1) (a4 + 1) x6 h) rfl
set_option maxRecDepth 100000 in
set_option maxHeartbeats 4000000 in
theorem w_X4_normal_31 {E : zE} {D : va_G} {ad : Nat → Nat} {g : Nat → ClassId} (fx : zFX E (mw D ad g) cX4_normal RX4 5 (some .int)) (hR : zR E = rmX4_normal) {r : Int32 × zMi} {J : zMl} (hr : zRX E (mw D ad g) (some (.int r.1)) r.2 J) : ∀ (fuel : Nat) (a1 : Int32) (a3 : Int32) (a4 : Int32) (I : zMi) , f_X4_normal_31 fuel a1 a3 a4 I = some r → zAt E (mw D ad g) 31 [(0, .ref (ad (0))), (1, .int a1), (3, .int a3), (4, .int a4)] [] I J := by
  intro fuel
  induction fuel with
  | zero => intro a1 a3 a4 I h; rw [f_X4_normal_31] at h; cases h
  | succ f ih =>
    intro a1 a3 a4 I h
    rw [f_X4_normal_31] at h
    refine z_iload fx dX4_normal_31 rfl ?_
    refine z_aload_n fx dX4_normal_33 rfl ?_
    refine gM_wide fx wf_X4_26 dX4_normal_34 ?_
    refine z_iload_n fx dX4_normal_37 rfl ?_
    obtain ⟨q1, h⟩ := oi h
    refine m_ild fx (Nat.le_of_ble_eq_true rfl) (cfM_5 g ad) q1 dX4_normal_38 ?_
    refine z_icmp_ge (tgt := 69) fx dX4_normal_39 (by decide) (fun q2 => ?_) (fun q2 => ?_)
    · rw [if_pos q2] at h
      refine z_iconst (v := 0) fx dX4_normal_69 rfl ?_
      refine z_istore fx dX4_normal_70 (by decide) rfl ?_
      exact z_lv2 (w_X4_normal_72 fx hR hr fu a1 a3 0 I h) rfl
    · rw [if_neg q2] at h
      refine z_aload_n fx dX4_normal_42 rfl ?_
      refine z_iload_n fx dX4_normal_43 rfl ?_
      refine z_iconst (v := 0) fx dX4_normal_44 rfl ?_
      refine z_iload fx dX4_normal_45 rfl ?_
      obtain ⟨x3, ex3, h⟩ := ob h
      refine zVi (k := 0) (rest := []) fx hR (c_X4_get (zl E) D ad g a1 0 a4 I J ex3) rcM mvX4_get wm_X4_102 dX4_normal_47 rfl ⟨rfl, rfl⟩ rfl rfl rfl ?_
      refine z_if_ge (tgt := 63) fx dX4_normal_50 (by decide) (fun q4 => ?_) (fun q4 => ?_)
      · rw [if_pos q4] at h
        refine z_iinc (v := (a4 + 1)) fx dX4_normal_63 rfl rfl (by decide) rfl ?_
        refine z_goto (tgt := 31) fx dX4_normal_66 (by decide) ?_
        exact z_lv2 (ih a1 a3 (a4 + 1) I h) rfl
      · rw [if_neg q4] at h
        refine z_aload_n fx dX4_normal_53 rfl ?_
        refine z_iload_n fx dX4_normal_54 rfl ?_
        refine z_iload fx dX4_normal_55 rfl ?_
        obtain ⟨x5, ex5, h⟩ := ob h
        refine zVv (k := 0) (rest := []) fx hR (c_X4_turnColumn (zl E) D ad g a1 a4 I J ex5) rcM mvX4_turnColumn wm_X4_186 dX4_normal_57 rfl ⟨rfl, rfl⟩ rfl rfl rfl ?_
        refine z_iinc (v := (a3 + 1)) fx dX4_normal_60 rfl rfl (by decide) rfl ?_
        refine z_iinc (v := (a4 + 1)) fx dX4_normal_63 rfl rfl (by decide) rfl ?_
        refine z_goto (tgt := 31) fx dX4_normal_66 (by decide) ?_
        exact z_lv2 (ih a1 (a3 + 1) (a4 + 1) x5 h) rfl
set_option maxRecDepth 100000 in
set_option maxHeartbeats 4000000 in
theorem c_X4_normal (l : Launch) (D : va_G) (ad : Nat → Nat) (g : Nat → ClassId) (a1 : Int32) (I : zMi) (J : zMl) {r : Int32 × zMi} (h : f_X4_normal a1 I = some r) : zCM (mw D ad g) l yX4_normal cX4_normal 5 (some .int) rmX4_normal [.ref (ad (0)), .int a1] I J (some (.int r.1)) r.2 J := by
  refine zCM.of (by decide) (Nat.le_of_ble_eq_true rfl) (fun E hl hR fx hr => ?_)
  subst hl
  rw [f_X4_normal] at h
  refine z_aload_n fx dX4_normal_0 rfl ?_
  refine z_iload_n fx dX4_normal_1 rfl ?_
  obtain ⟨x1, ex1, h⟩ := ob h
  refine zVi (k := 0) (rest := []) fx hR (c_X4_askedTable (zl E) D ad g a1 I J ex1) rcM mvX4_askedTable wm_X4_143 dX4_normal_2 rfl ⟨rfl, rfl⟩ rfl rfl rfl ?_
  refine z_istore_n fx dX4_normal_5 (by decide) rfl ?_
  refine z_iload_n fx dX4_normal_6 rfl ?_
  refine z_if_ge (tgt := 12) fx dX4_normal_7 (by decide) (fun q2 => ?_) (fun q2 => ?_)
  · rw [if_pos q2] at h
    refine z_aload_n fx dX4_normal_12 rfl ?_
    refine z_iload_n fx dX4_normal_13 rfl ?_
    obtain ⟨x3, ex3, h⟩ := ob h
    refine zVi (k := 0) (rest := []) fx hR (c_X4_hasZero (zl E) D ad g a1 x1.2 J ex3) rcM mvX4_hasZero wm_X4_118 dX4_normal_14 rfl ⟨rfl, rfl⟩ rfl rfl rfl ?_
    refine z_if_eq (tgt := 26) fx dX4_normal_17 (by decide) (fun q4 => ?_) (fun q4 => ?_)
    · rw [if_pos q4] at h
      refine z_iconst (v := 0) fx dX4_normal_26 rfl ?_
      refine z_istore_n fx dX4_normal_27 (by decide) rfl ?_
      refine z_iconst (v := 0) fx dX4_normal_28 rfl ?_
      refine z_istore fx dX4_normal_29 (by decide) rfl ?_
      exact z_lv2 (w_X4_normal_31 fx hR hr fu a1 0 0 x1.2 h) rfl
    · rw [if_neg q4] at h
      refine z_aload_n fx dX4_normal_20 rfl ?_
      refine z_iconst (v := 3) fx dX4_normal_21 rfl ?_
      obtain ⟨x5, ex5, h⟩ := ob h
      refine zVi (k := 0) (rest := []) fx hR (c_X4_meets (zl E) D ad g 3 x1.2 J ex5) rcM mvX4_meets wm_X4_81 dX4_normal_22 rfl ⟨rfl, rfl⟩ rfl rfl rfl ?_
      cases h
      exact z_iret fx hr dX4_normal_25
  · rw [if_neg q2] at h
    refine z_iload_n fx dX4_normal_10 rfl ?_
    cases h
    exact z_iret fx hr dX4_normal_11
set_option maxRecDepth 100000 in
set_option maxHeartbeats 4000000 in
theorem w_X4_clear_171 {E : zE} {D : va_G} {ad : Nat → Nat} {g : Nat → ClassId} (fx : zFX E (mw D ad g) cX4_clear RX4 10 (some .long)) (hR : zR E = rmX4_clear) {r : Int64 × zMl} {I : zMi} (hr : zRX E (mw D ad g) (some (.long r.1)) I r.2) {k8 : Int32 → Int64 → Int32 → Int32 → zMl → Option (Int64 × zMl)} (hk8 : ∀ (a1 : Int32) (a2 : Int64) (a4 : Int32) (a5 : Int32) (J : zMl) , k8 a1 a2 a4 a5 J = some r → zAt E (mw D ad g) 8 [(0, .ref (ad (0))), (1, .int a1), (2, .long a2), (4, .int a4), (5, .int a5)] [] I J) {k159 : Int32 → Int64 → Int32 → Int32 → Int32 → zMl → Option (Int64 × zMl)} (hk159 : ∀ (a1 : Int32) (a2 : Int64) (a4 : Int32) (a5 : Int32) (a7 : Int32) (J : zMl) , k159 a1 a2 a4 a5 a7 J = some r → zAt E (mw D ad g) 159 [(0, .ref (ad (0))), (1, .int a1), (2, .long a2), (4, .int a4), (5, .int a5), (7, .int a7)] [] I J) : ∀ (fuel : Nat) (a1 : Int32) (a2 : Int64) (a4 : Int32) (a5 : Int32) (a7 : Int32) (a8 : Int32) (J : zMl) , f_X4_clear_171 k8 k159 fuel a1 a2 a4 a5 a7 a8 J = some r → zAt E (mw D ad g) 171 [(0, .ref (ad (0))), (1, .int a1), (2, .long a2), (4, .int a4), (5, .int a5), (7, .int a7), (8, .int a8)] [] I J := by
  intro fuel
  induction fuel with
  | zero => intro a1 a2 a4 a5 a7 a8 J h; rw [f_X4_clear_171] at h; cases h
  | succ f ih =>
    intro a1 a2 a4 a5 a7 a8 J h
    rw [f_X4_clear_171] at h
    refine z_iload fx dX4_clear_171 rfl ?_
    refine z_iload_n fx dX4_clear_173 rfl ?_
    refine z_icmp_ge (tgt := 253) fx dX4_clear_174 (by decide) (fun q1 => ?_) (fun q1 => ?_)
    · rw [if_pos q1] at h
      refine z_iinc (v := (a7 + 1)) fx dX4_clear_253 rfl rfl (by decide) rfl ?_
      refine z_goto (tgt := 159) fx dX4_clear_256 (by decide) ?_
      exact z_lv2 (hk159 a1 a2 a4 a5 (a7 + 1) J h) rfl
    · rw [if_neg q1] at h
      refine z_aload_n fx dX4_clear_177 rfl ?_
      refine gM_cleared fx wf_X4_41 dX4_clear_178 ?_
      refine z_bipush (v := 12) fx dX4_clear_181 rfl ?_
      refine z_iload fx dX4_clear_183 rfl ?_
      refine z_imul fx dX4_clear_185 ?_
      refine z_iload fx dX4_clear_186 rfl ?_
      refine z_iadd fx dX4_clear_188 ?_
      refine z_aload_n fx dX4_clear_189 rfl ?_
      refine gM_cleared fx wf_X4_41 dX4_clear_190 ?_
      refine z_bipush (v := 12) fx dX4_clear_193 rfl ?_
      refine z_iload fx dX4_clear_195 rfl ?_
      refine z_imul fx dX4_clear_197 ?_
      refine z_iload fx dX4_clear_198 rfl ?_
      refine z_iadd fx dX4_clear_200 ?_
      obtain ⟨q2, h⟩ := oi h
      refine m_lld fx (Nat.le_of_ble_eq_true rfl) (cfM_10 g ad) q2 dX4_clear_201 ?_
      refine z_aload_n fx dX4_clear_202 rfl ?_
      refine gM_cleared fx wf_X4_41 dX4_clear_203 ?_
      refine z_bipush (v := 12) fx dX4_clear_206 rfl ?_
      refine z_iload fx dX4_clear_208 rfl ?_
      refine z_imul fx dX4_clear_210 ?_
      refine z_iload fx dX4_clear_211 rfl ?_
      refine z_iadd fx dX4_clear_213 ?_
      obtain ⟨q3, h⟩ := oi h
      refine m_lld fx (Nat.le_of_ble_eq_true rfl) (cfM_10 g ad) q3 dX4_clear_214 ?_
      refine z_lmul fx dX4_clear_215 ?_
      refine z_aload_n fx dX4_clear_216 rfl ?_
      refine gM_cleared fx wf_X4_41 dX4_clear_217 ?_
      refine z_bipush (v := 12) fx dX4_clear_220 rfl ?_
      refine z_iload fx dX4_clear_222 rfl ?_
      refine z_imul fx dX4_clear_224 ?_
      refine z_iload fx dX4_clear_225 rfl ?_
      refine z_iadd fx dX4_clear_227 ?_
      obtain ⟨q4, h⟩ := oi h
      refine m_lld fx (Nat.le_of_ble_eq_true rfl) (cfM_10 g ad) q4 dX4_clear_228 ?_
      refine z_aload_n fx dX4_clear_229 rfl ?_
      refine gM_cleared fx wf_X4_41 dX4_clear_230 ?_
      refine z_bipush (v := 12) fx dX4_clear_233 rfl ?_
      refine z_iload fx dX4_clear_235 rfl ?_
      refine z_imul fx dX4_clear_237 ?_
      refine z_iload fx dX4_clear_238 rfl ?_
      refine z_iadd fx dX4_clear_240 ?_
      obtain ⟨q5, h⟩ := oi h
      refine m_lld fx (Nat.le_of_ble_eq_true rfl) (cfM_10 g ad) q5 dX4_clear_241 ?_
      refine z_lmul fx dX4_clear_242 ?_
      refine z_lsub fx dX4_clear_243 ?_
      refine z_lload_n fx dX4_clear_244 rfl ?_
      obtain ⟨q6, h⟩ := on h
      refine z_ldiv fx dX4_clear_245 q6 ?_
      refine m_lst fx (Nat.le_of_ble_eq_true rfl) (cfM_10 g ad) q2 dX4_clear_246 ?_
      refine z_iinc (v := (a8 + 1)) fx dX4_clear_247 rfl rfl (by decide) rfl ?_
      refine z_goto (tgt := 171) fx dX4_clear_250 (by decide) ?_
      exact z_lv2 (ih a1 a2 a4 a5 a7 (a8 + 1) (wJ J (10) ((12 * a7) + a8).toNatClampNeg ((((J (10) ((12 * a7) + a8).toNatClampNeg) * (J (10) ((12 * a5) + a5).toNatClampNeg)) - ((J (10) ((12 * a7) + a5).toNatClampNeg) * (J (10) ((12 * a5) + a8).toNatClampNeg))) / a2)) h) rfl
set_option maxRecDepth 100000 in
set_option maxHeartbeats 4000000 in
theorem w_X4_clear_159 {E : zE} {D : va_G} {ad : Nat → Nat} {g : Nat → ClassId} (fx : zFX E (mw D ad g) cX4_clear RX4 10 (some .long)) (hR : zR E = rmX4_clear) {r : Int64 × zMl} {I : zMi} (hr : zRX E (mw D ad g) (some (.long r.1)) I r.2) {k8 : Int32 → Int64 → Int32 → Int32 → zMl → Option (Int64 × zMl)} (hk8 : ∀ (a1 : Int32) (a2 : Int64) (a4 : Int32) (a5 : Int32) (J : zMl) , k8 a1 a2 a4 a5 J = some r → zAt E (mw D ad g) 8 [(0, .ref (ad (0))), (1, .int a1), (2, .long a2), (4, .int a4), (5, .int a5)] [] I J) : ∀ (fuel : Nat) (a1 : Int32) (a2 : Int64) (a4 : Int32) (a5 : Int32) (a7 : Int32) (J : zMl) , f_X4_clear_159 k8 fuel a1 a2 a4 a5 a7 J = some r → zAt E (mw D ad g) 159 [(0, .ref (ad (0))), (1, .int a1), (2, .long a2), (4, .int a4), (5, .int a5), (7, .int a7)] [] I J := by
  intro fuel
  induction fuel with
  | zero => intro a1 a2 a4 a5 a7 J h; rw [f_X4_clear_159] at h; cases h
  | succ f ih =>
    intro a1 a2 a4 a5 a7 J h
    rw [f_X4_clear_159] at h
    refine z_iload fx dX4_clear_159 rfl ?_
    refine z_iload_n fx dX4_clear_161 rfl ?_
    refine z_icmp_ge (tgt := 259) fx dX4_clear_162 (by decide) (fun q1 => ?_) (fun q1 => ?_)
    · rw [if_pos q1] at h
      refine z_aload_n fx dX4_clear_259 rfl ?_
      refine gM_cleared fx wf_X4_41 dX4_clear_260 ?_
      refine z_bipush (v := 12) fx dX4_clear_263 rfl ?_
      refine z_iload fx dX4_clear_265 rfl ?_
      refine z_imul fx dX4_clear_267 ?_
      refine z_iload fx dX4_clear_268 rfl ?_
      refine z_iadd fx dX4_clear_270 ?_
      obtain ⟨q2, h⟩ := oi h
      refine m_lld fx (Nat.le_of_ble_eq_true rfl) (cfM_10 g ad) q2 dX4_clear_271 ?_
      refine z_lstore_n fx dX4_clear_272 (by decide) rfl ?_
      refine z_iinc (v := (a5 + 1)) fx dX4_clear_273 rfl rfl (by decide) rfl ?_
      refine z_goto (tgt := 8) fx dX4_clear_276 (by decide) ?_
      exact z_lv2 (hk8 a1 (J (10) ((12 * a5) + a5).toNatClampNeg) a4 (a5 + 1) J h) rfl
    · rw [if_neg q1] at h
      refine z_iload fx dX4_clear_165 rfl ?_
      refine z_iconst (v := 1) fx dX4_clear_167 rfl ?_
      refine z_iadd fx dX4_clear_168 ?_
      refine z_istore fx dX4_clear_169 (by decide) rfl ?_
      exact z_lv2 (w_X4_clear_171 fx hR hr hk8 ih fu a1 a2 a4 a5 a7 (a5 + 1) J h) rfl
set_option maxRecDepth 100000 in
set_option maxHeartbeats 4000000 in
theorem w_X4_clear_61 {E : zE} {D : va_G} {ad : Nat → Nat} {g : Nat → ClassId} (fx : zFX E (mw D ad g) cX4_clear RX4 10 (some .long)) (hR : zR E = rmX4_clear) {r : Int64 × zMl} {I : zMi} (hr : zRX E (mw D ad g) (some (.long r.1)) I r.2) {k8 : Int32 → Int64 → Int32 → Int32 → zMl → Option (Int64 × zMl)} (hk8 : ∀ (a1 : Int32) (a2 : Int64) (a4 : Int32) (a5 : Int32) (J : zMl) , k8 a1 a2 a4 a5 J = some r → zAt E (mw D ad g) 8 [(0, .ref (ad (0))), (1, .int a1), (2, .long a2), (4, .int a4), (5, .int a5)] [] I J) : ∀ (fuel : Nat) (a1 : Int32) (a2 : Int64) (a4 : Int32) (a5 : Int32) (a6 : Int32) (a7 : Int32) (J : zMl) , f_X4_clear_61 k8 fuel a1 a2 a4 a5 a6 a7 J = some r → zAt E (mw D ad g) 61 [(0, .ref (ad (0))), (1, .int a1), (2, .long a2), (4, .int a4), (5, .int a5), (6, .int a6), (7, .int a7)] [] I J := by
  intro fuel
  induction fuel with
  | zero => intro a1 a2 a4 a5 a6 a7 J h; rw [f_X4_clear_61] at h; cases h
  | succ f ih =>
    intro a1 a2 a4 a5 a6 a7 J h
    rw [f_X4_clear_61] at h
    refine z_iload fx dX4_clear_61 rfl ?_
    refine z_iload_n fx dX4_clear_63 rfl ?_
    refine z_icmp_ge (tgt := 136) fx dX4_clear_64 (by decide) (fun q1 => ?_) (fun q1 => ?_)
    · rw [if_pos q1] at h
      refine z_iload fx dX4_clear_136 rfl ?_
      refine z_iload fx dX4_clear_138 rfl ?_
      refine z_icmp_ne (tgt := 148) fx dX4_clear_140 (by decide) (fun q2 => ?_) (fun q2 => ?_)
      · rw [if_neg q2] at h
        refine z_iload fx dX4_clear_148 rfl ?_
        refine z_ineg fx dX4_clear_150 ?_
        refine z_istore fx dX4_clear_151 (by decide) rfl ?_
        refine z_iload fx dX4_clear_153 rfl ?_
        refine z_iconst (v := 1) fx dX4_clear_155 rfl ?_
        refine z_iadd fx dX4_clear_156 ?_
        refine z_istore fx dX4_clear_157 (by decide) rfl ?_
        exact z_lv2 (w_X4_clear_159 fx hR hr hk8 fu a1 a2 (-a4) a5 (a5 + 1) J h) rfl
      · rw [if_pos q2] at h
        refine z_iload fx dX4_clear_143 rfl ?_
        refine z_goto (tgt := 151) fx dX4_clear_145 (by decide) ?_
        refine z_istore fx dX4_clear_151 (by decide) rfl ?_
        refine z_iload fx dX4_clear_153 rfl ?_
        refine z_iconst (v := 1) fx dX4_clear_155 rfl ?_
        refine z_iadd fx dX4_clear_156 ?_
        refine z_istore fx dX4_clear_157 (by decide) rfl ?_
        exact z_lv2 (w_X4_clear_159 fx hR hr hk8 fu a1 a2 a4 a5 (a5 + 1) J h) rfl
    · rw [if_neg q1] at h
      refine z_iload fx dX4_clear_67 rfl ?_
      refine z_iload fx dX4_clear_69 rfl ?_
      refine z_icmp_eq (tgt := 136) fx dX4_clear_71 (by decide) (fun q3 => ?_) (fun q3 => ?_)
      · rw [if_pos q3] at h
        refine z_iload fx dX4_clear_136 rfl ?_
        refine z_iload fx dX4_clear_138 rfl ?_
        refine z_icmp_ne (tgt := 148) fx dX4_clear_140 (by decide) (fun q4 => ?_) (fun q4 => ?_)
        · rw [if_neg q4] at h
          refine z_iload fx dX4_clear_148 rfl ?_
          refine z_ineg fx dX4_clear_150 ?_
          refine z_istore fx dX4_clear_151 (by decide) rfl ?_
          refine z_iload fx dX4_clear_153 rfl ?_
          refine z_iconst (v := 1) fx dX4_clear_155 rfl ?_
          refine z_iadd fx dX4_clear_156 ?_
          refine z_istore fx dX4_clear_157 (by decide) rfl ?_
          exact z_lv2 (w_X4_clear_159 fx hR hr hk8 fu a1 a2 (-a4) a5 (a5 + 1) J h) rfl
        · rw [if_pos q4] at h
          refine z_iload fx dX4_clear_143 rfl ?_
          refine z_goto (tgt := 151) fx dX4_clear_145 (by decide) ?_
          refine z_istore fx dX4_clear_151 (by decide) rfl ?_
          refine z_iload fx dX4_clear_153 rfl ?_
          refine z_iconst (v := 1) fx dX4_clear_155 rfl ?_
          refine z_iadd fx dX4_clear_156 ?_
          refine z_istore fx dX4_clear_157 (by decide) rfl ?_
          exact z_lv2 (w_X4_clear_159 fx hR hr hk8 fu a1 a2 a4 a5 (a5 + 1) J h) rfl
      · rw [if_neg q3] at h
        refine z_aload_n fx dX4_clear_74 rfl ?_
        refine gM_cleared fx wf_X4_41 dX4_clear_75 ?_
        refine z_bipush (v := 12) fx dX4_clear_78 rfl ?_
        refine z_iload fx dX4_clear_80 rfl ?_
        refine z_imul fx dX4_clear_82 ?_
        refine z_iload fx dX4_clear_83 rfl ?_
        refine z_iadd fx dX4_clear_85 ?_
        obtain ⟨q5, h⟩ := oi h
        refine m_lld fx (Nat.le_of_ble_eq_true rfl) (cfM_10 g ad) q5 dX4_clear_86 ?_
        refine z_lstore fx dX4_clear_87 (by decide) rfl ?_
        refine z_aload_n fx dX4_clear_89 rfl ?_
        refine gM_cleared fx wf_X4_41 dX4_clear_90 ?_
        refine z_bipush (v := 12) fx dX4_clear_93 rfl ?_
        refine z_iload fx dX4_clear_95 rfl ?_
        refine z_imul fx dX4_clear_97 ?_
        refine z_iload fx dX4_clear_98 rfl ?_
        refine z_iadd fx dX4_clear_100 ?_
        refine z_aload_n fx dX4_clear_101 rfl ?_
        refine gM_cleared fx wf_X4_41 dX4_clear_102 ?_
        refine z_bipush (v := 12) fx dX4_clear_105 rfl ?_
        refine z_iload fx dX4_clear_107 rfl ?_
        refine z_imul fx dX4_clear_109 ?_
        refine z_iload fx dX4_clear_110 rfl ?_
        refine z_iadd fx dX4_clear_112 ?_
        obtain ⟨q6, h⟩ := oi h
        refine m_lld fx (Nat.le_of_ble_eq_true rfl) (cfM_10 g ad) q6 dX4_clear_113 ?_
        refine m_lst fx (Nat.le_of_ble_eq_true rfl) (cfM_10 g ad) q5 dX4_clear_114 ?_
        refine z_aload_n fx dX4_clear_115 rfl ?_
        refine gM_cleared fx wf_X4_41 dX4_clear_116 ?_
        refine z_bipush (v := 12) fx dX4_clear_119 rfl ?_
        refine z_iload fx dX4_clear_121 rfl ?_
        refine z_imul fx dX4_clear_123 ?_
        refine z_iload fx dX4_clear_124 rfl ?_
        refine z_iadd fx dX4_clear_126 ?_
        refine z_lload fx dX4_clear_127 rfl ?_
        refine m_lst fx (Nat.le_of_ble_eq_true rfl) (cfM_10 g ad) q6 dX4_clear_129 ?_
        refine z_iinc (v := (a7 + 1)) fx dX4_clear_130 rfl rfl (by decide) rfl ?_
        refine z_goto (tgt := 61) fx dX4_clear_133 (by decide) ?_
        exact z_lv2 (ih a1 a2 a4 a5 a6 (a7 + 1) (wJ (wJ J (10) ((12 * a6) + a7).toNatClampNeg (J (10) ((12 * a5) + a7).toNatClampNeg)) (10) ((12 * a5) + a7).toNatClampNeg (J (10) ((12 * a6) + a7).toNatClampNeg)) h) rfl
set_option maxRecDepth 100000 in
set_option maxHeartbeats 4000000 in
theorem w_X4_clear_20 {E : zE} {D : va_G} {ad : Nat → Nat} {g : Nat → ClassId} (fx : zFX E (mw D ad g) cX4_clear RX4 10 (some .long)) (hR : zR E = rmX4_clear) {r : Int64 × zMl} {I : zMi} (hr : zRX E (mw D ad g) (some (.long r.1)) I r.2) {k8 : Int32 → Int64 → Int32 → Int32 → zMl → Option (Int64 × zMl)} (hk8 : ∀ (a1 : Int32) (a2 : Int64) (a4 : Int32) (a5 : Int32) (J : zMl) , k8 a1 a2 a4 a5 J = some r → zAt E (mw D ad g) 8 [(0, .ref (ad (0))), (1, .int a1), (2, .long a2), (4, .int a4), (5, .int a5)] [] I J) : ∀ (fuel : Nat) (a1 : Int32) (a2 : Int64) (a4 : Int32) (a5 : Int32) (a6 : Int32) (J : zMl) , f_X4_clear_20 k8 fuel a1 a2 a4 a5 a6 J = some r → zAt E (mw D ad g) 20 [(0, .ref (ad (0))), (1, .int a1), (2, .long a2), (4, .int a4), (5, .int a5), (6, .int a6)] [] I J := by
  intro fuel
  induction fuel with
  | zero => intro a1 a2 a4 a5 a6 J h; rw [f_X4_clear_20] at h; cases h
  | succ f ih =>
    intro a1 a2 a4 a5 a6 J h
    rw [f_X4_clear_20] at h
    refine z_iload fx dX4_clear_20 rfl ?_
    refine z_iload_n fx dX4_clear_22 rfl ?_
    refine z_icmp_ge (tgt := 50) fx dX4_clear_23 (by decide) (fun q1 => ?_) (fun q1 => ?_)
    · rw [if_pos q1] at h
      refine z_iload fx dX4_clear_50 rfl ?_
      refine z_iload_n fx dX4_clear_52 rfl ?_
      refine z_icmp_ne (tgt := 58) fx dX4_clear_53 (by decide) (fun q2 => ?_) (fun q2 => ?_)
      · rw [if_neg q2] at h
        refine z_iconst (v := 0) fx dX4_clear_58 rfl ?_
        refine z_istore fx dX4_clear_59 (by decide) rfl ?_
        exact z_lv2 (w_X4_clear_61 fx hR hr hk8 fu a1 a2 a4 a5 a6 0 J h) rfl
      · rw [if_pos q2] at h
        refine z_lconst (v := 0) fx dX4_clear_56 rfl ?_
        cases h
        exact z_lret fx hr dX4_clear_57
    · rw [if_neg q1] at h
      refine z_aload_n fx dX4_clear_26 rfl ?_
      refine gM_cleared fx wf_X4_41 dX4_clear_27 ?_
      refine z_bipush (v := 12) fx dX4_clear_30 rfl ?_
      refine z_iload fx dX4_clear_32 rfl ?_
      refine z_imul fx dX4_clear_34 ?_
      refine z_iload fx dX4_clear_35 rfl ?_
      refine z_iadd fx dX4_clear_37 ?_
      obtain ⟨q3, h⟩ := oi h
      refine m_lld fx (Nat.le_of_ble_eq_true rfl) (cfM_10 g ad) q3 dX4_clear_38 ?_
      refine z_lconst (v := 0) fx dX4_clear_39 rfl ?_
      refine z_lcmp fx dX4_clear_40 ?_
      refine z_if_ne (tgt := 50) fx dX4_clear_41 (by decide) (fun q4 => ?_) (fun q4 => ?_)
      · rw [if_neg q4] at h
        refine z_iload fx dX4_clear_50 rfl ?_
        refine z_iload_n fx dX4_clear_52 rfl ?_
        refine z_icmp_ne (tgt := 58) fx dX4_clear_53 (by decide) (fun q5 => ?_) (fun q5 => ?_)
        · rw [if_neg q5] at h
          refine z_iconst (v := 0) fx dX4_clear_58 rfl ?_
          refine z_istore fx dX4_clear_59 (by decide) rfl ?_
          exact z_lv2 (w_X4_clear_61 fx hR hr hk8 fu a1 a2 a4 a5 a6 0 J h) rfl
        · rw [if_pos q5] at h
          refine z_lconst (v := 0) fx dX4_clear_56 rfl ?_
          cases h
          exact z_lret fx hr dX4_clear_57
      · rw [if_pos q4] at h
        refine z_iinc (v := (a6 + 1)) fx dX4_clear_44 rfl rfl (by decide) rfl ?_
        refine z_goto (tgt := 20) fx dX4_clear_47 (by decide) ?_
        exact z_lv2 (ih a1 a2 a4 a5 (a6 + 1) J h) rfl
set_option maxRecDepth 100000 in
set_option maxHeartbeats 4000000 in
theorem w_X4_clear_8 {E : zE} {D : va_G} {ad : Nat → Nat} {g : Nat → ClassId} (fx : zFX E (mw D ad g) cX4_clear RX4 10 (some .long)) (hR : zR E = rmX4_clear) {r : Int64 × zMl} {I : zMi} (hr : zRX E (mw D ad g) (some (.long r.1)) I r.2) : ∀ (fuel : Nat) (a1 : Int32) (a2 : Int64) (a4 : Int32) (a5 : Int32) (J : zMl) , f_X4_clear_8 fuel a1 a2 a4 a5 J = some r → zAt E (mw D ad g) 8 [(0, .ref (ad (0))), (1, .int a1), (2, .long a2), (4, .int a4), (5, .int a5)] [] I J := by
  intro fuel
  induction fuel with
  | zero => intro a1 a2 a4 a5 J h; rw [f_X4_clear_8] at h; cases h
  | succ f ih =>
    intro a1 a2 a4 a5 J h
    rw [f_X4_clear_8] at h
    refine z_iload fx dX4_clear_8 rfl ?_
    refine z_iload_n fx dX4_clear_10 rfl ?_
    refine z_iconst (v := 1) fx dX4_clear_11 rfl ?_
    refine z_isub fx dX4_clear_12 ?_
    refine z_icmp_ge (tgt := 279) fx dX4_clear_13 (by decide) (fun q1 => ?_) (fun q1 => ?_)
    · rw [if_pos q1] at h
      refine z_iload fx dX4_clear_279 rfl ?_
      refine z_i2l fx dX4_clear_281 ?_
      refine z_aload_n fx dX4_clear_282 rfl ?_
      refine gM_cleared fx wf_X4_41 dX4_clear_283 ?_
      refine z_bipush (v := 12) fx dX4_clear_286 rfl ?_
      refine z_iload_n fx dX4_clear_288 rfl ?_
      refine z_iconst (v := 1) fx dX4_clear_289 rfl ?_
      refine z_isub fx dX4_clear_290 ?_
      refine z_imul fx dX4_clear_291 ?_
      refine z_iload_n fx dX4_clear_292 rfl ?_
      refine z_iadd fx dX4_clear_293 ?_
      refine z_iconst (v := 1) fx dX4_clear_294 rfl ?_
      refine z_isub fx dX4_clear_295 ?_
      obtain ⟨q2, h⟩ := oi h
      refine m_lld fx (Nat.le_of_ble_eq_true rfl) (cfM_10 g ad) q2 dX4_clear_296 ?_
      refine z_lmul fx dX4_clear_297 ?_
      cases h
      exact z_lret fx hr dX4_clear_298
    · rw [if_neg q1] at h
      refine z_iload fx dX4_clear_16 rfl ?_
      refine z_istore fx dX4_clear_18 (by decide) rfl ?_
      exact z_lv2 (w_X4_clear_20 fx hR hr ih fu a1 a2 a4 a5 a5 J h) rfl
set_option maxRecDepth 100000 in
set_option maxHeartbeats 4000000 in
theorem c_X4_clear (l : Launch) (D : va_G) (ad : Nat → Nat) (g : Nat → ClassId) (a1 : Int32) (I : zMi) (J : zMl) {r : Int64 × zMl} (h : f_X4_clear a1 J = some r) : zCM (mw D ad g) l yX4_clear cX4_clear 10 (some .long) rmX4_clear [.ref (ad (0)), .int a1] I J (some (.long r.1)) I r.2 := by
  refine zCM.of (by decide) (Nat.le_of_ble_eq_true rfl) (fun E hl hR fx hr => ?_)
  subst hl
  rw [f_X4_clear] at h
  refine z_lconst (v := 1) fx dX4_clear_0 rfl ?_
  refine z_lstore_n fx dX4_clear_1 (by decide) rfl ?_
  refine z_iconst (v := 1) fx dX4_clear_2 rfl ?_
  refine z_istore fx dX4_clear_3 (by decide) rfl ?_
  refine z_iconst (v := 0) fx dX4_clear_5 rfl ?_
  refine z_istore fx dX4_clear_6 (by decide) rfl ?_
  exact z_lv2 (w_X4_clear_8 fx hR hr fu a1 1 1 0 J h) rfl
set_option maxRecDepth 100000 in
set_option maxHeartbeats 4000000 in
theorem w_X4_worth_31 {E : zE} {D : va_G} {ad : Nat → Nat} {g : Nat → ClassId} (fx : zFX E (mw D ad g) cX4_worth RX4 6 (some .int)) (hR : zR E = rmX4_worth) {r : Int32 × zMi × zMl} (hr : zRX E (mw D ad g) (some (.int r.1)) r.2.1 r.2.2) {k22 : Int32 → Int32 → Int32 → zMi → zMl → Option (Int32 × zMi × zMl)} (hk22 : ∀ (a1 : Int32) (a3 : Int32) (a4 : Int32) (I : zMi) (J : zMl) , k22 a1 a3 a4 I J = some r → zAt E (mw D ad g) 22 [(0, .ref (ad (0))), (1, .int a1), (3, .int a3), (4, .int a4)] [] I J) : ∀ (fuel : Nat) (a1 : Int32) (a3 : Int32) (a4 : Int32) (a5 : Int32) (I : zMi) (J : zMl) , f_X4_worth_31 k22 fuel a1 a3 a4 a5 I J = some r → zAt E (mw D ad g) 31 [(0, .ref (ad (0))), (1, .int a1), (3, .int a3), (4, .int a4), (5, .int a5)] [] I J := by
  intro fuel
  induction fuel with
  | zero => intro a1 a3 a4 a5 I J h; rw [f_X4_worth_31] at h; cases h
  | succ f ih =>
    intro a1 a3 a4 a5 I J h
    rw [f_X4_worth_31] at h
    refine z_iload fx dX4_worth_31 rfl ?_
    refine z_iload_n fx dX4_worth_33 rfl ?_
    refine z_icmp_ge (tgt := 66) fx dX4_worth_34 (by decide) (fun q1 => ?_) (fun q1 => ?_)
    · rw [if_pos q1] at h
      refine z_iinc (v := (a4 + 1)) fx dX4_worth_66 rfl rfl (by decide) rfl ?_
      refine z_goto (tgt := 22) fx dX4_worth_69 (by decide) ?_
      exact z_lv2 (hk22 a1 a3 (a4 + 1) I J h) rfl
    · rw [if_neg q1] at h
      refine z_aload_n fx dX4_worth_37 rfl ?_
      refine gM_cleared fx wf_X4_41 dX4_worth_38 ?_
      refine z_bipush (v := 12) fx dX4_worth_41 rfl ?_
      refine z_iload fx dX4_worth_43 rfl ?_
      refine z_imul fx dX4_worth_45 ?_
      refine z_iload fx dX4_worth_46 rfl ?_
      refine z_iadd fx dX4_worth_48 ?_
      refine z_aload_n fx dX4_worth_49 rfl ?_
      refine z_iload_n fx dX4_worth_50 rfl ?_
      refine z_iload fx dX4_worth_51 rfl ?_
      refine z_iload fx dX4_worth_53 rfl ?_
      obtain ⟨x2, ex2, h⟩ := ob h
      refine zVi (k := 0) (rest := [.int ((12 * a4) + a5), .ref (ad (10))]) fx hR (c_X4_get (zl E) D ad g a1 a4 a5 I J ex2) rcM mvX4_get wm_X4_102 dX4_worth_55 rfl ⟨rfl, rfl⟩ rfl rfl rfl ?_
      refine z_i2l fx dX4_worth_58 ?_
      obtain ⟨q3, h⟩ := oi h
      refine m_lst fx (Nat.le_of_ble_eq_true rfl) (cfM_10 g ad) q3 dX4_worth_59 ?_
      refine z_iinc (v := (a5 + 1)) fx dX4_worth_60 rfl rfl (by decide) rfl ?_
      refine z_goto (tgt := 31) fx dX4_worth_63 (by decide) ?_
      exact z_lv2 (ih a1 a3 a4 (a5 + 1) I (wJ J (10) ((12 * a4) + a5).toNatClampNeg (x2.toInt64)) h) rfl
set_option maxRecDepth 100000 in
set_option maxHeartbeats 4000000 in
theorem w_X4_worth_22 {E : zE} {D : va_G} {ad : Nat → Nat} {g : Nat → ClassId} (fx : zFX E (mw D ad g) cX4_worth RX4 6 (some .int)) (hR : zR E = rmX4_worth) {r : Int32 × zMi × zMl} (hr : zRX E (mw D ad g) (some (.int r.1)) r.2.1 r.2.2) : ∀ (fuel : Nat) (a1 : Int32) (a3 : Int32) (a4 : Int32) (I : zMi) (J : zMl) , f_X4_worth_22 fuel a1 a3 a4 I J = some r → zAt E (mw D ad g) 22 [(0, .ref (ad (0))), (1, .int a1), (3, .int a3), (4, .int a4)] [] I J := by
  intro fuel
  induction fuel with
  | zero => intro a1 a3 a4 I J h; rw [f_X4_worth_22] at h; cases h
  | succ f ih =>
    intro a1 a3 a4 I J h
    rw [f_X4_worth_22] at h
    refine z_iload fx dX4_worth_22 rfl ?_
    refine z_iload_n fx dX4_worth_24 rfl ?_
    refine z_icmp_ge (tgt := 72) fx dX4_worth_25 (by decide) (fun q1 => ?_) (fun q1 => ?_)
    · rw [if_pos q1] at h
      refine z_aload_n fx dX4_worth_72 rfl ?_
      refine z_aload_n fx dX4_worth_73 rfl ?_
      refine z_iload_n fx dX4_worth_74 rfl ?_
      obtain ⟨x2, ex2, h⟩ := ob h
      refine zVl (k := 0) (rest := [.ref (ad (0))]) fx hR (c_X4_clear (zl E) D ad g a3 I J ex2) rcM mvX4_clear wm_X4_189 dX4_worth_75 rfl ⟨rfl, rfl⟩ rfl rfl rfl ?_
      refine pM_worthTold fx wf_X4_193 dX4_worth_78 ?_
      refine z_iconst (v := 1) fx dX4_worth_81 rfl ?_
      cases h
      exact z_iret fx hr dX4_worth_82
    · rw [if_neg q1] at h
      refine z_iconst (v := 0) fx dX4_worth_28 rfl ?_
      refine z_istore fx dX4_worth_29 (by decide) rfl ?_
      exact z_lv2 (w_X4_worth_31 fx hR hr ih fu a1 a3 a4 0 I J h) rfl
set_option maxRecDepth 100000 in
set_option maxHeartbeats 4000000 in
theorem c_X4_worth (l : Launch) (D : va_G) (ad : Nat → Nat) (g : Nat → ClassId) (a1 : Int32) (I : zMi) (J : zMl) {r : Int32 × zMi × zMl} (h : f_X4_worth a1 I J = some r) : zCM (mw D ad g) l yX4_worth cX4_worth 6 (some .int) rmX4_worth [.ref (ad (0)), .int a1] I J (some (.int r.1)) r.2.1 r.2.2 := by
  refine zCM.of (by decide) (Nat.le_of_ble_eq_true rfl) (fun E hl hR fx hr => ?_)
  subst hl
  rw [f_X4_worth] at h
  refine z_aload_n fx dX4_worth_0 rfl ?_
  refine z_iload_n fx dX4_worth_1 rfl ?_
  obtain ⟨x1, ex1, h⟩ := ob h
  refine zVi (k := 0) (rest := []) fx hR (c_X4_askedTable (zl E) D ad g a1 I J ex1) rcM mvX4_askedTable wm_X4_143 dX4_worth_2 rfl ⟨rfl, rfl⟩ rfl rfl rfl ?_
  refine z_istore_n fx dX4_worth_5 (by decide) rfl ?_
  refine z_iload_n fx dX4_worth_6 rfl ?_
  refine z_if_ge (tgt := 12) fx dX4_worth_7 (by decide) (fun q2 => ?_) (fun q2 => ?_)
  · rw [if_pos q2] at h
    refine z_aload_n fx dX4_worth_12 rfl ?_
    refine gM_wide fx wf_X4_26 dX4_worth_13 ?_
    refine z_iload_n fx dX4_worth_16 rfl ?_
    obtain ⟨q3, h⟩ := oi h
    refine m_ild fx (Nat.le_of_ble_eq_true rfl) (cfM_5 g ad) q3 dX4_worth_17 ?_
    refine z_istore_n fx dX4_worth_18 (by decide) rfl ?_
    refine z_iconst (v := 0) fx dX4_worth_19 rfl ?_
    refine z_istore fx dX4_worth_20 (by decide) rfl ?_
    exact z_lv2 (w_X4_worth_22 fx hR hr fu a1 (x1.2 (5) a1.toNatClampNeg) 0 x1.2 J h) rfl
  · rw [if_neg q2] at h
    refine z_iload_n fx dX4_worth_10 rfl ?_
    cases h
    exact z_iret fx hr dX4_worth_11
set_option maxRecDepth 100000 in
set_option maxHeartbeats 4000000 in
theorem c_X4_balanced (l : Launch) (D : va_G) (ad : Nat → Nat) (g : Nat → ClassId) (a1 : Int32) (I : zMi) (J : zMl) {r : Int32 × zMi} (h : f_X4_balanced a1 I = some r) : zCM (mw D ad g) l yX4_balanced cX4_balanced 3 (some .int) rmX4_balanced [.ref (ad (0)), .int a1] I J (some (.int r.1)) r.2 J := by
  refine zCM.of (by decide) (Nat.le_of_ble_eq_true rfl) (fun E hl hR fx hr => ?_)
  subst hl
  rw [f_X4_balanced] at h
  refine z_aload_n fx dX4_balanced_0 rfl ?_
  refine z_iload_n fx dX4_balanced_1 rfl ?_
  obtain ⟨x1, ex1, h⟩ := ob h
  refine zVi (k := 0) (rest := []) fx hR (c_X4_askedTable (zl E) D ad g a1 I J ex1) rcM mvX4_askedTable wm_X4_143 dX4_balanced_2 rfl ⟨rfl, rfl⟩ rfl rfl rfl ?_
  refine z_istore_n fx dX4_balanced_5 (by decide) rfl ?_
  refine z_iload_n fx dX4_balanced_6 rfl ?_
  refine z_if_ge (tgt := 14) fx dX4_balanced_7 (by decide) (fun q2 => ?_) (fun q2 => ?_)
  · rw [if_pos q2] at h
    refine z_aload_n fx dX4_balanced_14 rfl ?_
    refine z_iload_n fx dX4_balanced_15 rfl ?_
    obtain ⟨x3, ex3, h⟩ := ob h
    refine zVi (k := 0) (rest := []) fx hR (c_X4_pairsThatBalance (zl E) D ad g a1 x1.2 J ex3) rcM mvX4_pairsThatBalance wm_X4_121 dX4_balanced_16 rfl ⟨rfl, rfl⟩ rfl rfl rfl ?_
    cases h
    exact z_iret fx hr dX4_balanced_19
  · rw [if_neg q2] at h
    refine z_iload_n fx dX4_balanced_10 rfl ?_
    refine z_goto (tgt := 19) fx dX4_balanced_11 (by decide) ?_
    cases h
    exact z_iret fx hr dX4_balanced_19
set_option maxRecDepth 100000 in
set_option maxHeartbeats 4000000 in
theorem w_X4_commonSum_23 {E : zE} {D : va_G} {ad : Nat → Nat} {g : Nat → ClassId} (fx : zFX E (mw D ad g) cX4_commonSum RX4 8 (some .int)) (hR : zR E = rmX4_commonSum) {r : Int32} {I : zMi} {J : zMl} (hr : zRX E (mw D ad g) (some (.int r)) I J) {k6 : Int32 → Int32 → Int32 → Int32 → Int32 → Option Int32} (hk6 : ∀ (a1 : Int32) (a2 : Int32) (a3 : Int32) (a4 : Int32) (a5 : Int32), k6 a1 a2 a3 a4 a5 = some r → zAt E (mw D ad g) 6 [(0, .ref (ad (0))), (1, .int a1), (2, .int a2), (3, .int a3), (4, .int a4), (5, .int a5)] [] I J) : ∀ (fuel : Nat) (a1 : Int32) (a2 : Int32) (a3 : Int32) (a4 : Int32) (a5 : Int32) (a6 : Int32) (a7 : Int32), f_X4_commonSum_23 I k6 fuel a1 a2 a3 a4 a5 a6 a7 = some r → zAt E (mw D ad g) 23 [(0, .ref (ad (0))), (1, .int a1), (2, .int a2), (3, .int a3), (4, .int a4), (5, .int a5), (6, .int a6), (7, .int a7)] [] I J := by
  intro fuel
  induction fuel with
  | zero => intro a1 a2 a3 a4 a5 a6 a7 h; rw [f_X4_commonSum_23] at h; cases h
  | succ f ih =>
    intro a1 a2 a3 a4 a5 a6 a7 h
    rw [f_X4_commonSum_23] at h
    refine z_iload fx dX4_commonSum_23 rfl ?_
    refine z_aload_n fx dX4_commonSum_25 rfl ?_
    refine gM_wide fx wf_X4_26 dX4_commonSum_26 ?_
    refine z_iload_n fx dX4_commonSum_29 rfl ?_
    obtain ⟨q1, h⟩ := oi h
    refine m_ild fx (Nat.le_of_ble_eq_true rfl) (cfM_5 g ad) q1 dX4_commonSum_30 ?_
    refine z_icmp_ge (tgt := 83) fx dX4_commonSum_31 (by decide) (fun q2 => ?_) (fun q2 => ?_)
    · rw [if_pos q2] at h
      refine z_iload fx dX4_commonSum_83 rfl ?_
      refine z_iload fx dX4_commonSum_85 rfl ?_
      refine z_iadd fx dX4_commonSum_87 ?_
      refine z_istore fx dX4_commonSum_88 (by decide) rfl ?_
      refine z_iinc (v := (a5 + 1)) fx dX4_commonSum_90 rfl rfl (by decide) rfl ?_
      refine z_goto (tgt := 6) fx dX4_commonSum_93 (by decide) ?_
      exact z_lv2 (hk6 a1 a2 a3 (a4 + a6) (a5 + 1) h) rfl
    · rw [if_neg q2] at h
      refine z_iload fx dX4_commonSum_34 rfl ?_
      refine z_iload_n fx dX4_commonSum_36 rfl ?_
      refine z_iload fx dX4_commonSum_37 rfl ?_
      refine z_ishr fx dX4_commonSum_39 ?_
      refine z_iconst (v := 1) fx dX4_commonSum_40 rfl ?_
      refine z_iand fx dX4_commonSum_41 ?_
      refine z_if_ne (tgt := 49) fx dX4_commonSum_42 (by decide) (fun q3 => ?_) (fun q3 => ?_)
      · rw [if_neg q3] at h
        refine z_iload_n fx dX4_commonSum_49 rfl ?_
        refine z_if_eq (tgt := 65) fx dX4_commonSum_50 (by decide) (fun q4 => ?_) (fun q4 => ?_)
        · rw [if_pos q4] at h
          refine z_aload_n fx dX4_commonSum_65 rfl ?_
          refine z_iload_n fx dX4_commonSum_66 rfl ?_
          refine z_iload fx dX4_commonSum_67 rfl ?_
          refine z_iload fx dX4_commonSum_69 rfl ?_
          obtain ⟨x5, ex5, h⟩ := ob h
          refine zVi (k := 0) (rest := [.int a6]) fx hR (c_X4_get (zl E) D ad g a1 a7 a5 I J ex5) rcM mvX4_get wm_X4_102 dX4_commonSum_71 rfl ⟨rfl, rfl⟩ rfl rfl rfl ?_
          refine z_imul fx dX4_commonSum_74 ?_
          refine z_istore fx dX4_commonSum_75 (by decide) rfl ?_
          refine z_iinc (v := (a7 + 1)) fx dX4_commonSum_77 rfl rfl (by decide) rfl ?_
          refine z_goto (tgt := 23) fx dX4_commonSum_80 (by decide) ?_
          exact z_lv2 (ih a1 a2 a3 a4 a5 (a6 * x5) (a7 + 1) h) rfl
        · rw [if_neg q4] at h
          refine z_aload_n fx dX4_commonSum_53 rfl ?_
          refine z_iload_n fx dX4_commonSum_54 rfl ?_
          refine z_iload fx dX4_commonSum_55 rfl ?_
          refine z_iload fx dX4_commonSum_57 rfl ?_
          obtain ⟨x6, ex6, h⟩ := ob h
          refine zVi (k := 0) (rest := [.int a6]) fx hR (c_X4_get (zl E) D ad g a1 a5 a7 I J ex6) rcM mvX4_get wm_X4_102 dX4_commonSum_59 rfl ⟨rfl, rfl⟩ rfl rfl rfl ?_
          refine z_goto (tgt := 74) fx dX4_commonSum_62 (by decide) ?_
          refine z_imul fx dX4_commonSum_74 ?_
          refine z_istore fx dX4_commonSum_75 (by decide) rfl ?_
          refine z_iinc (v := (a7 + 1)) fx dX4_commonSum_77 rfl rfl (by decide) rfl ?_
          refine z_goto (tgt := 23) fx dX4_commonSum_80 (by decide) ?_
          exact z_lv2 (ih a1 a2 a3 a4 a5 (a6 * x6) (a7 + 1) h) rfl
      · rw [if_pos q3] at h
        refine z_iconst (v := 1) fx dX4_commonSum_45 rfl ?_
        refine z_goto (tgt := 74) fx dX4_commonSum_46 (by decide) ?_
        refine z_imul fx dX4_commonSum_74 ?_
        refine z_istore fx dX4_commonSum_75 (by decide) rfl ?_
        refine z_iinc (v := (a7 + 1)) fx dX4_commonSum_77 rfl rfl (by decide) rfl ?_
        refine z_goto (tgt := 23) fx dX4_commonSum_80 (by decide) ?_
        exact z_lv2 (ih a1 a2 a3 a4 a5 (a6 * 1) (a7 + 1) h) rfl
set_option maxRecDepth 100000 in
set_option maxHeartbeats 4000000 in
theorem w_X4_commonSum_6 {E : zE} {D : va_G} {ad : Nat → Nat} {g : Nat → ClassId} (fx : zFX E (mw D ad g) cX4_commonSum RX4 8 (some .int)) (hR : zR E = rmX4_commonSum) {r : Int32} {I : zMi} {J : zMl} (hr : zRX E (mw D ad g) (some (.int r)) I J) : ∀ (fuel : Nat) (a1 : Int32) (a2 : Int32) (a3 : Int32) (a4 : Int32) (a5 : Int32), f_X4_commonSum_6 I fuel a1 a2 a3 a4 a5 = some r → zAt E (mw D ad g) 6 [(0, .ref (ad (0))), (1, .int a1), (2, .int a2), (3, .int a3), (4, .int a4), (5, .int a5)] [] I J := by
  intro fuel
  induction fuel with
  | zero => intro a1 a2 a3 a4 a5 h; rw [f_X4_commonSum_6] at h; cases h
  | succ f ih =>
    intro a1 a2 a3 a4 a5 h
    rw [f_X4_commonSum_6] at h
    refine z_iload fx dX4_commonSum_6 rfl ?_
    refine z_aload_n fx dX4_commonSum_8 rfl ?_
    refine gM_wide fx wf_X4_26 dX4_commonSum_9 ?_
    refine z_iload_n fx dX4_commonSum_12 rfl ?_
    obtain ⟨q1, h⟩ := oi h
    refine m_ild fx (Nat.le_of_ble_eq_true rfl) (cfM_5 g ad) q1 dX4_commonSum_13 ?_
    refine z_icmp_ge (tgt := 96) fx dX4_commonSum_14 (by decide) (fun q2 => ?_) (fun q2 => ?_)
    · rw [if_pos q2] at h
      refine z_iload fx dX4_commonSum_96 rfl ?_
      refine zSi (rest := []) fx hR (c_X4_abs (zl E) D ad g a4 I J rfl) mvX4_abs wm_X4_177 dX4_commonSum_98 rfl ⟨rfl, rfl⟩ rfl rfl rfl ?_
      cases h
      exact z_iret fx hr dX4_commonSum_101
    · rw [if_neg q2] at h
      refine z_iconst (v := 1) fx dX4_commonSum_17 rfl ?_
      refine z_istore fx dX4_commonSum_18 (by decide) rfl ?_
      refine z_iconst (v := 0) fx dX4_commonSum_20 rfl ?_
      refine z_istore fx dX4_commonSum_21 (by decide) rfl ?_
      exact z_lv2 (w_X4_commonSum_23 fx hR hr ih fu a1 a2 a3 a4 a5 1 0 h) rfl
set_option maxRecDepth 100000 in
set_option maxHeartbeats 4000000 in
theorem c_X4_commonSum (l : Launch) (D : va_G) (ad : Nat → Nat) (g : Nat → ClassId) (a1 : Int32) (a2 : Int32) (a3 : Int32) (I : zMi) (J : zMl) {r : Int32} (h : f_X4_commonSum a1 a2 a3 I = some r) : zCM (mw D ad g) l yX4_commonSum cX4_commonSum 8 (some .int) rmX4_commonSum [.ref (ad (0)), .int a1, .int a2, .int a3] I J (some (.int r)) I J := by
  refine zCM.of (by decide) (Nat.le_of_ble_eq_true rfl) (fun E hl hR fx hr => ?_)
  subst hl
  rw [f_X4_commonSum] at h
  refine z_iconst (v := 0) fx dX4_commonSum_0 rfl ?_
  refine z_istore fx dX4_commonSum_1 (by decide) rfl ?_
  refine z_iconst (v := 0) fx dX4_commonSum_3 rfl ?_
  refine z_istore fx dX4_commonSum_4 (by decide) rfl ?_
  exact z_lv2 (w_X4_commonSum_6 fx hR hr fu a1 a2 a3 0 0 h) rfl
set_option maxRecDepth 100000 in
set_option maxHeartbeats 4000000 in
theorem c_X4_common (l : Launch) (D : va_G) (ad : Nat → Nat) (g : Nat → ClassId) (a1 : Int32) (a2 : Int32) (I : zMi) (J : zMl) {r : Int32 × zMi} (h : f_X4_common a1 a2 I = some r) : zCM (mw D ad g) l yX4_common cX4_common 4 (some .int) rmX4_common [.ref (ad (0)), .int a1, .int a2] I J (some (.int r.1)) r.2 J := by
  refine zCM.of (by decide) (Nat.le_of_ble_eq_true rfl) (fun E hl hR fx hr => ?_)
  subst hl
  rw [f_X4_common] at h
  refine z_aload_n fx dX4_common_0 rfl ?_
  refine z_iload_n fx dX4_common_1 rfl ?_
  obtain ⟨x1, ex1, h⟩ := ob h
  refine zVi (k := 0) (rest := []) fx hR (c_X4_askedTable (zl E) D ad g a1 I J ex1) rcM mvX4_askedTable wm_X4_143 dX4_common_2 rfl ⟨rfl, rfl⟩ rfl rfl rfl ?_
  refine z_istore_n fx dX4_common_5 (by decide) rfl ?_
  refine z_iload_n fx dX4_common_6 rfl ?_
  refine z_if_ge (tgt := 12) fx dX4_common_7 (by decide) (fun q2 => ?_) (fun q2 => ?_)
  · rw [if_pos q2] at h
    refine z_aload_n fx dX4_common_12 rfl ?_
    refine z_iload_n fx dX4_common_13 rfl ?_
    obtain ⟨x3, ex3, h⟩ := ob h
    refine zVi (k := 0) (rest := []) fx hR (c_X4_hasZero (zl E) D ad g a1 x1.2 J ex3) rcM mvX4_hasZero wm_X4_118 dX4_common_14 rfl ⟨rfl, rfl⟩ rfl rfl rfl ?_
    refine z_if_eq (tgt := 26) fx dX4_common_17 (by decide) (fun q4 => ?_) (fun q4 => ?_)
    · rw [if_pos q4] at h
      refine z_iload_n fx dX4_common_26 rfl ?_
      refine z_if_eq (tgt := 39) fx dX4_common_27 (by decide) (fun q5 => ?_) (fun q5 => ?_)
      · rw [if_pos q5] at h
        refine z_aload_n fx dX4_common_39 rfl ?_
        refine z_iconst (v := 2) fx dX4_common_40 rfl ?_
        obtain ⟨x6, ex6, h⟩ := ob h
        refine zVi (k := 0) (rest := []) fx hR (c_X4_meets (zl E) D ad g 2 x1.2 J ex6) rcM mvX4_meets wm_X4_81 dX4_common_41 rfl ⟨rfl, rfl⟩ rfl rfl rfl ?_
        refine z_goto (tgt := 54) fx dX4_common_44 (by decide) ?_
        cases h
        exact z_iret fx hr dX4_common_54
      · rw [if_neg q5] at h
        refine z_aload_n fx dX4_common_30 rfl ?_
        refine z_iload_n fx dX4_common_31 rfl ?_
        refine z_iload_n fx dX4_common_32 rfl ?_
        obtain ⟨x7, ex7, h⟩ := ob h
        refine zVi (k := 0) (rest := []) fx hR (c_X4_isSet (zl E) D ad g a1 a2 x1.2 J ex7) rcM mvX4_isSet wm_X4_180 dX4_common_33 rfl ⟨rfl, rfl⟩ rfl rfl rfl ?_
        refine z_if_ne (tgt := 47) fx dX4_common_36 (by decide) (fun q8 => ?_) (fun q8 => ?_)
        · rw [if_neg q8] at h
          refine z_aload_n fx dX4_common_47 rfl ?_
          refine z_iload_n fx dX4_common_48 rfl ?_
          refine z_iload_n fx dX4_common_49 rfl ?_
          refine z_iconst (v := 0) fx dX4_common_50 rfl ?_
          obtain ⟨x9, ex9, h⟩ := ob h
          refine zVi (k := 0) (rest := []) fx hR (c_X4_commonSum (zl E) D ad g a1 a2 0 x1.2 J ex9) rcM mvX4_commonSum wm_X4_196 dX4_common_51 rfl ⟨rfl, rfl⟩ rfl rfl rfl ?_
          cases h
          exact z_iret fx hr dX4_common_54
        · rw [if_pos q8] at h
          refine z_aload_n fx dX4_common_39 rfl ?_
          refine z_iconst (v := 2) fx dX4_common_40 rfl ?_
          obtain ⟨x10, ex10, h⟩ := ob h
          refine zVi (k := 0) (rest := []) fx hR (c_X4_meets (zl E) D ad g 2 x1.2 J ex10) rcM mvX4_meets wm_X4_81 dX4_common_41 rfl ⟨rfl, rfl⟩ rfl rfl rfl ?_
          refine z_goto (tgt := 54) fx dX4_common_44 (by decide) ?_
          cases h
          exact z_iret fx hr dX4_common_54
    · rw [if_neg q4] at h
      refine z_aload_n fx dX4_common_20 rfl ?_
      refine z_iconst (v := 3) fx dX4_common_21 rfl ?_
      obtain ⟨x11, ex11, h⟩ := ob h
      refine zVi (k := 0) (rest := []) fx hR (c_X4_meets (zl E) D ad g 3 x1.2 J ex11) rcM mvX4_meets wm_X4_81 dX4_common_22 rfl ⟨rfl, rfl⟩ rfl rfl rfl ?_
      cases h
      exact z_iret fx hr dX4_common_25
  · rw [if_neg q2] at h
    refine z_iload_n fx dX4_common_10 rfl ?_
    cases h
    exact z_iret fx hr dX4_common_11
