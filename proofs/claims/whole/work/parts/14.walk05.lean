set_option maxRecDepth 100000 in
set_option maxHeartbeats 4000000 in
theorem c_X4_isSign (l : Launch) (D : va_G) (ad : Nat → Nat) (g : Nat → ClassId) (a0 : Int32) (I : zMi) (J : zMl) {r : Int32} (h : f_X4_isSign a0 = r) : zCM (mw D ad g) l yX4_isSign cX4_isSign 1 (some .boolean) rmX4_isSign [.int a0] I J (some (.int r)) I J := by
  refine zCM.of (by decide) (Nat.le_of_ble_eq_true rfl) (fun E hl hR fx hr => ?_)
  subst hl
  rw [f_X4_isSign] at h
  refine z_iload_n fx dX4_isSign_0 rfl ?_
  refine z_iconst (v := 1) fx dX4_isSign_1 rfl ?_
  refine z_icmp_eq (tgt := 10) fx dX4_isSign_2 (by decide) (fun q1 => ?_) (fun q1 => ?_)
  · rw [if_pos q1] at h
    refine z_iconst (v := 1) fx dX4_isSign_10 rfl ?_
    refine z_goto (tgt := 15) fx dX4_isSign_11 (by decide) ?_
    subst h
    exact z_zret fx rfl hr dX4_isSign_15
  · rw [if_neg q1] at h
    refine z_iload_n fx dX4_isSign_5 rfl ?_
    refine z_iconst (v := (-1)) fx dX4_isSign_6 rfl ?_
    refine z_icmp_ne (tgt := 14) fx dX4_isSign_7 (by decide) (fun q2 => ?_) (fun q2 => ?_)
    · rw [if_neg q2] at h
      refine z_iconst (v := 0) fx dX4_isSign_14 rfl ?_
      subst h
      exact z_zret fx rfl hr dX4_isSign_15
    · rw [if_pos q2] at h
      refine z_iconst (v := 1) fx dX4_isSign_10 rfl ?_
      refine z_goto (tgt := 15) fx dX4_isSign_11 (by decide) ?_
      subst h
      exact z_zret fx rfl hr dX4_isSign_15
set_option maxRecDepth 100000 in
set_option maxHeartbeats 4000000 in
theorem w_X4_areSigns_4 {E : zE} {D : va_G} {ad : Nat → Nat} {g : Nat → ClassId} (fx : zFX E (mw D ad g) cX4_areSigns RX4 4 (some .boolean)) (hR : zR E = rmX4_areSigns) {r : Int32} {I : zMi} {J : zMl} (hr : zRX E (mw D ad g) (some (.int r)) I J) : ∀ (fuel : Nat) (a1 : Int32) (a2 : Int32) (a3 : Int32), f_X4_areSigns_4 I fuel a1 a2 a3 = some r → narrow .boolean (.int a2) = .int a2 → zAt E (mw D ad g) 4 [(0, .ref (ad (0))), (1, .int a1), (2, .int a2), (3, .int a3)] [] I J := by
  intro fuel
  induction fuel with
  | zero => intro a1 a2 a3 h z2; rw [f_X4_areSigns_4] at h; cases h
  | succ f ih =>
    intro a1 a2 a3 h z2
    rw [f_X4_areSigns_4] at h
    refine z_iload_n fx dX4_areSigns_4 rfl ?_
    refine z_aload_n fx dX4_areSigns_5 rfl ?_
    refine gM_sizes fx wf_X4_17 dX4_areSigns_6 ?_
    refine z_iload_n fx dX4_areSigns_9 rfl ?_
    obtain ⟨q1, h⟩ := oi h
    refine m_ild fx (Nat.le_of_ble_eq_true rfl) (cfM_2 g ad) q1 dX4_areSigns_10 ?_
    refine z_icmp_ge (tgt := 47) fx dX4_areSigns_11 (by decide) (fun q2 => ?_) (fun q2 => ?_)
    · rw [if_pos q2] at h
      refine z_iload_n fx dX4_areSigns_47 rfl ?_
      cases h
      exact z_zret fx z2 hr dX4_areSigns_48
    · rw [if_neg q2] at h
      refine z_iload_n fx dX4_areSigns_14 rfl ?_
      refine z_if_eq (tgt := 39) fx dX4_areSigns_15 (by decide) (fun q3 => ?_) (fun q3 => ?_)
      · rw [if_pos q3] at h
        refine z_iconst (v := 0) fx dX4_areSigns_39 rfl ?_
        refine z_istore_n fx dX4_areSigns_40 (by decide) rfl ?_
        refine z_iinc (v := (a3 + 1)) fx dX4_areSigns_41 rfl rfl (by decide) rfl ?_
        refine z_goto (tgt := 4) fx dX4_areSigns_44 (by decide) ?_
        exact z_lv2 (ih a1 0 (a3 + 1) h rfl) rfl
      · rw [if_neg q3] at h
        refine z_aload_n fx dX4_areSigns_18 rfl ?_
        refine gM_rows fx wf_X4_20 dX4_areSigns_19 ?_
        refine z_bipush (v := 24) fx dX4_areSigns_22 rfl ?_
        refine z_iload_n fx dX4_areSigns_24 rfl ?_
        refine z_imul fx dX4_areSigns_25 ?_
        refine z_iload_n fx dX4_areSigns_26 rfl ?_
        refine z_iadd fx dX4_areSigns_27 ?_
        obtain ⟨q4, h⟩ := oi h
        refine m_ild fx (Nat.le_of_ble_eq_true rfl) (cfM_3 g ad) q4 dX4_areSigns_28 ?_
        refine zSi (rest := []) fx hR (c_X4_isSign (zl E) D ad g (I (3) ((24 * a1) + a3).toNatClampNeg) I J rfl) mvX4_isSign wm_X4_96 dX4_areSigns_29 rfl ⟨rfl, rfl⟩ rfl rfl rfl ?_
        refine z_if_eq (tgt := 39) fx dX4_areSigns_32 (by decide) (fun q5 => ?_) (fun q5 => ?_)
        · rw [if_pos q5] at h
          refine z_iconst (v := 0) fx dX4_areSigns_39 rfl ?_
          refine z_istore_n fx dX4_areSigns_40 (by decide) rfl ?_
          refine z_iinc (v := (a3 + 1)) fx dX4_areSigns_41 rfl rfl (by decide) rfl ?_
          refine z_goto (tgt := 4) fx dX4_areSigns_44 (by decide) ?_
          exact z_lv2 (ih a1 0 (a3 + 1) h rfl) rfl
        · rw [if_neg q5] at h
          refine z_iconst (v := 1) fx dX4_areSigns_35 rfl ?_
          refine z_goto (tgt := 40) fx dX4_areSigns_36 (by decide) ?_
          refine z_istore_n fx dX4_areSigns_40 (by decide) rfl ?_
          refine z_iinc (v := (a3 + 1)) fx dX4_areSigns_41 rfl rfl (by decide) rfl ?_
          refine z_goto (tgt := 4) fx dX4_areSigns_44 (by decide) ?_
          exact z_lv2 (ih a1 1 (a3 + 1) h rfl) rfl
set_option maxRecDepth 100000 in
set_option maxHeartbeats 4000000 in
theorem c_X4_areSigns (l : Launch) (D : va_G) (ad : Nat → Nat) (g : Nat → ClassId) (a1 : Int32) (I : zMi) (J : zMl) {r : Int32} (h : f_X4_areSigns a1 I = some r) : zCM (mw D ad g) l yX4_areSigns cX4_areSigns 4 (some .boolean) rmX4_areSigns [.ref (ad (0)), .int a1] I J (some (.int r)) I J := by
  refine zCM.of (by decide) (Nat.le_of_ble_eq_true rfl) (fun E hl hR fx hr => ?_)
  subst hl
  rw [f_X4_areSigns] at h
  refine z_iconst (v := 1) fx dX4_areSigns_0 rfl ?_
  refine z_istore_n fx dX4_areSigns_1 (by decide) rfl ?_
  refine z_iconst (v := 0) fx dX4_areSigns_2 rfl ?_
  refine z_istore_n fx dX4_areSigns_3 (by decide) rfl ?_
  exact z_lv2 (w_X4_areSigns_4 fx hR hr fu a1 1 0 h rfl) rfl
set_option maxRecDepth 100000 in
set_option maxHeartbeats 4000000 in
theorem c_X4_isTable (l : Launch) (D : va_G) (ad : Nat → Nat) (g : Nat → ClassId) (a0 : Int32) (I : zMi) (J : zMl) {r : Int32} (h : f_X4_isTable a0 = r) : zCM (mw D ad g) l yX4_isTable cX4_isTable 1 (some .boolean) rmX4_isTable [.int a0] I J (some (.int r)) I J := by
  refine zCM.of (by decide) (Nat.le_of_ble_eq_true rfl) (fun E hl hR fx hr => ?_)
  subst hl
  rw [f_X4_isTable] at h
  refine z_iload_n fx dX4_isTable_0 rfl ?_
  refine z_iconst (v := 0) fx dX4_isTable_1 rfl ?_
  refine z_bipush (v := 9) fx dX4_isTable_2 rfl ?_
  refine zSi (rest := []) fx hR (c_X4_in (zl E) D ad g a0 0 9 I J rfl) mvX4_in wm_X4_73 dX4_isTable_4 rfl ⟨rfl, rfl⟩ rfl rfl rfl ?_
  subst h
  exact z_zret fx (bz_X4_in ) hr dX4_isTable_7
set_option maxRecDepth 100000 in
set_option maxHeartbeats 4000000 in
theorem c_X4_askedTable (l : Launch) (D : va_G) (ad : Nat → Nat) (g : Nat → ClassId) (a1 : Int32) (I : zMi) (J : zMl) {r : Int32 × zMi} (h : f_X4_askedTable a1 I = some r) : zCM (mw D ad g) l yX4_askedTable cX4_askedTable 2 (some .int) rmX4_askedTable [.ref (ad (0)), .int a1] I J (some (.int r.1)) r.2 J := by
  refine zCM.of (by decide) (Nat.le_of_ble_eq_true rfl) (fun E hl hR fx hr => ?_)
  subst hl
  rw [f_X4_askedTable] at h
  refine z_iload_n fx dX4_askedTable_0 rfl ?_
  refine zSi (rest := []) fx hR (c_X4_isTable (zl E) D ad g a1 I J rfl) mvX4_isTable wm_X4_99 dX4_askedTable_1 rfl ⟨rfl, rfl⟩ rfl rfl rfl ?_
  refine z_if_ne (tgt := 11) fx dX4_askedTable_4 (by decide) (fun q1 => ?_) (fun q1 => ?_)
  · rw [if_neg q1] at h
    refine z_aload_n fx dX4_askedTable_11 rfl ?_
    refine gM_wide fx wf_X4_26 dX4_askedTable_12 ?_
    refine z_iload_n fx dX4_askedTable_15 rfl ?_
    obtain ⟨q2, h⟩ := oi h
    refine m_ild fx (Nat.le_of_ble_eq_true rfl) (cfM_5 g ad) q2 dX4_askedTable_16 ?_
    refine z_if_ne (tgt := 28) fx dX4_askedTable_17 (by decide) (fun q3 => ?_) (fun q3 => ?_)
    · rw [if_neg q3] at h
      refine z_iconst (v := 0) fx dX4_askedTable_28 rfl ?_
      cases h
      exact z_iret fx hr dX4_askedTable_29
    · rw [if_pos q3] at h
      refine z_aload_n fx dX4_askedTable_20 rfl ?_
      refine z_iconst (v := 1) fx dX4_askedTable_21 rfl ?_
      obtain ⟨x4, ex4, h⟩ := ob h
      refine zVi (k := 0) (rest := []) fx hR (c_X4_meets (zl E) D ad g 1 I J ex4) rcM mvX4_meets wm_X4_81 dX4_askedTable_22 rfl ⟨rfl, rfl⟩ rfl rfl rfl ?_
      refine z_goto (tgt := 29) fx dX4_askedTable_25 (by decide) ?_
      cases h
      exact z_iret fx hr dX4_askedTable_29
  · rw [if_pos q1] at h
    refine z_iconst (v := (-1)) fx dX4_askedTable_7 rfl ?_
    refine z_goto (tgt := 29) fx dX4_askedTable_8 (by decide) ?_
    cases h
    exact z_iret fx hr dX4_askedTable_29
set_option maxRecDepth 100000 in
set_option maxHeartbeats 4000000 in
theorem c_X4_get (l : Launch) (D : va_G) (ad : Nat → Nat) (g : Nat → ClassId) (a1 : Int32) (a2 : Int32) (a3 : Int32) (I : zMi) (J : zMl) {r : Int32} (h : f_X4_get a1 a2 a3 I = some r) : zCM (mw D ad g) l yX4_get cX4_get 4 (some .int) rmX4_get [.ref (ad (0)), .int a1, .int a2, .int a3] I J (some (.int r)) I J := by
  refine zCM.of (by decide) (Nat.le_of_ble_eq_true rfl) (fun E hl hR fx hr => ?_)
  subst hl
  rw [f_X4_get] at h
  refine z_aload_n fx dX4_get_0 rfl ?_
  refine gM_numbers fx wf_X4_29 dX4_get_1 ?_
  refine z_sipush (v := 144) fx dX4_get_4 rfl ?_
  refine z_iload_n fx dX4_get_7 rfl ?_
  refine z_imul fx dX4_get_8 ?_
  refine z_bipush (v := 12) fx dX4_get_9 rfl ?_
  refine z_iload_n fx dX4_get_11 rfl ?_
  refine z_imul fx dX4_get_12 ?_
  refine z_iadd fx dX4_get_13 ?_
  refine z_iload_n fx dX4_get_14 rfl ?_
  refine z_iadd fx dX4_get_15 ?_
  obtain ⟨q1, h⟩ := oi h
  refine m_ild fx (Nat.le_of_ble_eq_true rfl) (cfM_6 g ad) q1 dX4_get_16 ?_
  cases h
  exact z_iret fx hr dX4_get_17
set_option maxRecDepth 100000 in
set_option maxHeartbeats 4000000 in
theorem c_X4_let (l : Launch) (D : va_G) (ad : Nat → Nat) (g : Nat → ClassId) (a1 : Int32) (a2 : Int32) (a3 : Int32) (a4 : Int32) (I : zMi) (J : zMl) {r : zMi} (h : f_X4_let a1 a2 a3 a4 I = some r) : zCM (mw D ad g) l yX4_let cX4_let 5 none rmX4_let [.ref (ad (0)), .int a1, .int a2, .int a3, .int a4] I J none r J := by
  refine zCM.of (by decide) (Nat.le_of_ble_eq_true rfl) (fun E hl hR fx hr => ?_)
  subst hl
  rw [f_X4_let] at h
  refine z_aload_n fx dX4_let_0 rfl ?_
  refine gM_numbers fx wf_X4_29 dX4_let_1 ?_
  refine z_sipush (v := 144) fx dX4_let_4 rfl ?_
  refine z_iload_n fx dX4_let_7 rfl ?_
  refine z_imul fx dX4_let_8 ?_
  refine z_bipush (v := 12) fx dX4_let_9 rfl ?_
  refine z_iload_n fx dX4_let_11 rfl ?_
  refine z_imul fx dX4_let_12 ?_
  refine z_iadd fx dX4_let_13 ?_
  refine z_iload_n fx dX4_let_14 rfl ?_
  refine z_iadd fx dX4_let_15 ?_
  refine z_iload fx dX4_let_16 rfl ?_
  obtain ⟨q1, h⟩ := oi h
  refine m_ist fx (Nat.le_of_ble_eq_true rfl) (cfM_6 g ad) q1 dX4_let_18 ?_
  cases h
  exact z_vret fx hr dX4_let_19
set_option maxRecDepth 100000 in
set_option maxHeartbeats 4000000 in
theorem w_X4_hasZero_17 {E : zE} {D : va_G} {ad : Nat → Nat} {g : Nat → ClassId} (fx : zFX E (mw D ad g) cX4_hasZero RX4 5 (some .boolean)) (hR : zR E = rmX4_hasZero) {r : Int32} {I : zMi} {J : zMl} (hr : zRX E (mw D ad g) (some (.int r)) I J) {k4 : Int32 → Int32 → Int32 → Option Int32} (hk4 : ∀ (a1 : Int32) (a2 : Int32) (a3 : Int32), k4 a1 a2 a3 = some r → narrow .boolean (.int a2) = .int a2 → zAt E (mw D ad g) 4 [(0, .ref (ad (0))), (1, .int a1), (2, .int a2), (3, .int a3)] [] I J) : ∀ (fuel : Nat) (a1 : Int32) (a2 : Int32) (a3 : Int32) (a4 : Int32), f_X4_hasZero_17 I k4 fuel a1 a2 a3 a4 = some r → narrow .boolean (.int a2) = .int a2 → zAt E (mw D ad g) 17 [(0, .ref (ad (0))), (1, .int a1), (2, .int a2), (3, .int a3), (4, .int a4)] [] I J := by
  intro fuel
  induction fuel with
  | zero => intro a1 a2 a3 a4 h z2; rw [f_X4_hasZero_17] at h; cases h
  | succ f ih =>
    intro a1 a2 a3 a4 h z2
    rw [f_X4_hasZero_17] at h
    refine z_iload fx dX4_hasZero_17 rfl ?_
    refine z_aload_n fx dX4_hasZero_19 rfl ?_
    refine gM_wide fx wf_X4_26 dX4_hasZero_20 ?_
    refine z_iload_n fx dX4_hasZero_23 rfl ?_
    obtain ⟨q1, h⟩ := oi h
    refine m_ild fx (Nat.le_of_ble_eq_true rfl) (cfM_5 g ad) q1 dX4_hasZero_24 ?_
    refine z_icmp_ge (tgt := 55) fx dX4_hasZero_25 (by decide) (fun q2 => ?_) (fun q2 => ?_)
    · rw [if_pos q2] at h
      refine z_iinc (v := (a3 + 1)) fx dX4_hasZero_55 rfl rfl (by decide) rfl ?_
      refine z_goto (tgt := 4) fx dX4_hasZero_58 (by decide) ?_
      exact z_lv2 (hk4 a1 a2 (a3 + 1) h z2) rfl
    · rw [if_neg q2] at h
      refine z_iload_n fx dX4_hasZero_28 rfl ?_
      refine z_if_ne (tgt := 43) fx dX4_hasZero_29 (by decide) (fun q3 => ?_) (fun q3 => ?_)
      · rw [if_neg q3] at h
        refine z_iconst (v := 1) fx dX4_hasZero_43 rfl ?_
        refine z_goto (tgt := 48) fx dX4_hasZero_44 (by decide) ?_
        refine z_istore_n fx dX4_hasZero_48 (by decide) rfl ?_
        refine z_iinc (v := (a4 + 1)) fx dX4_hasZero_49 rfl rfl (by decide) rfl ?_
        refine z_goto (tgt := 17) fx dX4_hasZero_52 (by decide) ?_
        exact z_lv2 (ih a1 1 a3 (a4 + 1) h rfl) rfl
      · rw [if_pos q3] at h
        refine z_aload_n fx dX4_hasZero_32 rfl ?_
        refine z_iload_n fx dX4_hasZero_33 rfl ?_
        refine z_iload_n fx dX4_hasZero_34 rfl ?_
        refine z_iload fx dX4_hasZero_35 rfl ?_
        obtain ⟨x4, ex4, h⟩ := ob h
        refine zVi (k := 0) (rest := []) fx hR (c_X4_get (zl E) D ad g a1 a3 a4 I J ex4) rcM mvX4_get wm_X4_102 dX4_hasZero_37 rfl ⟨rfl, rfl⟩ rfl rfl rfl ?_
        refine z_if_ne (tgt := 47) fx dX4_hasZero_40 (by decide) (fun q5 => ?_) (fun q5 => ?_)
        · rw [if_neg q5] at h
          refine z_iconst (v := 0) fx dX4_hasZero_47 rfl ?_
          refine z_istore_n fx dX4_hasZero_48 (by decide) rfl ?_
          refine z_iinc (v := (a4 + 1)) fx dX4_hasZero_49 rfl rfl (by decide) rfl ?_
          refine z_goto (tgt := 17) fx dX4_hasZero_52 (by decide) ?_
          exact z_lv2 (ih a1 0 a3 (a4 + 1) h rfl) rfl
        · rw [if_pos q5] at h
          refine z_iconst (v := 1) fx dX4_hasZero_43 rfl ?_
          refine z_goto (tgt := 48) fx dX4_hasZero_44 (by decide) ?_
          refine z_istore_n fx dX4_hasZero_48 (by decide) rfl ?_
          refine z_iinc (v := (a4 + 1)) fx dX4_hasZero_49 rfl rfl (by decide) rfl ?_
          refine z_goto (tgt := 17) fx dX4_hasZero_52 (by decide) ?_
          exact z_lv2 (ih a1 1 a3 (a4 + 1) h rfl) rfl
set_option maxRecDepth 100000 in
set_option maxHeartbeats 4000000 in
theorem w_X4_hasZero_4 {E : zE} {D : va_G} {ad : Nat → Nat} {g : Nat → ClassId} (fx : zFX E (mw D ad g) cX4_hasZero RX4 5 (some .boolean)) (hR : zR E = rmX4_hasZero) {r : Int32} {I : zMi} {J : zMl} (hr : zRX E (mw D ad g) (some (.int r)) I J) : ∀ (fuel : Nat) (a1 : Int32) (a2 : Int32) (a3 : Int32), f_X4_hasZero_4 I fuel a1 a2 a3 = some r → narrow .boolean (.int a2) = .int a2 → zAt E (mw D ad g) 4 [(0, .ref (ad (0))), (1, .int a1), (2, .int a2), (3, .int a3)] [] I J := by
  intro fuel
  induction fuel with
  | zero => intro a1 a2 a3 h z2; rw [f_X4_hasZero_4] at h; cases h
  | succ f ih =>
    intro a1 a2 a3 h z2
    rw [f_X4_hasZero_4] at h
    refine z_iload_n fx dX4_hasZero_4 rfl ?_
    refine z_aload_n fx dX4_hasZero_5 rfl ?_
    refine gM_wide fx wf_X4_26 dX4_hasZero_6 ?_
    refine z_iload_n fx dX4_hasZero_9 rfl ?_
    obtain ⟨q1, h⟩ := oi h
    refine m_ild fx (Nat.le_of_ble_eq_true rfl) (cfM_5 g ad) q1 dX4_hasZero_10 ?_
    refine z_icmp_ge (tgt := 61) fx dX4_hasZero_11 (by decide) (fun q2 => ?_) (fun q2 => ?_)
    · rw [if_pos q2] at h
      refine z_iload_n fx dX4_hasZero_61 rfl ?_
      cases h
      exact z_zret fx z2 hr dX4_hasZero_62
    · rw [if_neg q2] at h
      refine z_iconst (v := 0) fx dX4_hasZero_14 rfl ?_
      refine z_istore fx dX4_hasZero_15 (by decide) rfl ?_
      exact z_lv2 (w_X4_hasZero_17 fx hR hr ih fu a1 a2 a3 0 h z2) rfl
set_option maxRecDepth 100000 in
set_option maxHeartbeats 4000000 in
theorem c_X4_hasZero (l : Launch) (D : va_G) (ad : Nat → Nat) (g : Nat → ClassId) (a1 : Int32) (I : zMi) (J : zMl) {r : Int32} (h : f_X4_hasZero a1 I = some r) : zCM (mw D ad g) l yX4_hasZero cX4_hasZero 5 (some .boolean) rmX4_hasZero [.ref (ad (0)), .int a1] I J (some (.int r)) I J := by
  refine zCM.of (by decide) (Nat.le_of_ble_eq_true rfl) (fun E hl hR fx hr => ?_)
  subst hl
  rw [f_X4_hasZero] at h
  refine z_iconst (v := 0) fx dX4_hasZero_0 rfl ?_
  refine z_istore_n fx dX4_hasZero_1 (by decide) rfl ?_
  refine z_iconst (v := 0) fx dX4_hasZero_2 rfl ?_
  refine z_istore_n fx dX4_hasZero_3 (by decide) rfl ?_
  exact z_lv2 (w_X4_hasZero_4 fx hR hr fu a1 0 0 h rfl) rfl
set_option maxRecDepth 100000 in
set_option maxHeartbeats 4000000 in
theorem w_X4_balance_6 {E : zE} {D : va_G} {ad : Nat → Nat} {g : Nat → ClassId} (fx : zFX E (mw D ad g) cX4_balance RX4 6 (some .boolean)) (hR : zR E = rmX4_balance) {r : Int32} {I : zMi} {J : zMl} (hr : zRX E (mw D ad g) (some (.int r)) I J) : ∀ (fuel : Nat) (a1 : Int32) (a2 : Int32) (a3 : Int32) (a4 : Int32) (a5 : Int32), f_X4_balance_6 I fuel a1 a2 a3 a4 a5 = some r → zAt E (mw D ad g) 6 [(0, .ref (ad (0))), (1, .int a1), (2, .int a2), (3, .int a3), (4, .int a4), (5, .int a5)] [] I J := by
  intro fuel
  induction fuel with
  | zero => intro a1 a2 a3 a4 a5 h; rw [f_X4_balance_6] at h; cases h
  | succ f ih =>
    intro a1 a2 a3 a4 a5 h
    rw [f_X4_balance_6] at h
    refine z_iload fx dX4_balance_6 rfl ?_
    refine z_aload_n fx dX4_balance_8 rfl ?_
    refine gM_wide fx wf_X4_26 dX4_balance_9 ?_
    refine z_iload_n fx dX4_balance_12 rfl ?_
    obtain ⟨q1, h⟩ := oi h
    refine m_ild fx (Nat.le_of_ble_eq_true rfl) (cfM_5 g ad) q1 dX4_balance_13 ?_
    refine z_icmp_ge (tgt := 45) fx dX4_balance_14 (by decide) (fun q2 => ?_) (fun q2 => ?_)
    · rw [if_pos q2] at h
      refine z_iload fx dX4_balance_45 rfl ?_
      refine z_if_ne (tgt := 54) fx dX4_balance_47 (by decide) (fun q3 => ?_) (fun q3 => ?_)
      · rw [if_neg q3] at h
        refine z_iconst (v := 0) fx dX4_balance_54 rfl ?_
        cases h
        exact z_zret fx rfl hr dX4_balance_55
      · rw [if_pos q3] at h
        refine z_iconst (v := 1) fx dX4_balance_50 rfl ?_
        refine z_goto (tgt := 55) fx dX4_balance_51 (by decide) ?_
        cases h
        exact z_zret fx rfl hr dX4_balance_55
    · rw [if_neg q2] at h
      refine z_iload fx dX4_balance_17 rfl ?_
      refine z_aload_n fx dX4_balance_19 rfl ?_
      refine z_iload_n fx dX4_balance_20 rfl ?_
      refine z_iload_n fx dX4_balance_21 rfl ?_
      refine z_iload fx dX4_balance_22 rfl ?_
      obtain ⟨x4, ex4, h⟩ := ob h
      refine zVi (k := 0) (rest := [.int a4]) fx hR (c_X4_get (zl E) D ad g a1 a2 a5 I J ex4) rcM mvX4_get wm_X4_102 dX4_balance_24 rfl ⟨rfl, rfl⟩ rfl rfl rfl ?_
      refine z_aload_n fx dX4_balance_27 rfl ?_
      refine z_iload_n fx dX4_balance_28 rfl ?_
      refine z_iload_n fx dX4_balance_29 rfl ?_
      refine z_iload fx dX4_balance_30 rfl ?_
      obtain ⟨x5, ex5, h⟩ := ob h
      refine zVi (k := 0) (rest := [.int x4, .int a4]) fx hR (c_X4_get (zl E) D ad g a1 a3 a5 I J ex5) rcM mvX4_get wm_X4_102 dX4_balance_32 rfl ⟨rfl, rfl⟩ rfl rfl rfl ?_
      refine z_imul fx dX4_balance_35 ?_
      refine z_iadd fx dX4_balance_36 ?_
      refine z_istore fx dX4_balance_37 (by decide) rfl ?_
      refine z_iinc (v := (a5 + 1)) fx dX4_balance_39 rfl rfl (by decide) rfl ?_
      refine z_goto (tgt := 6) fx dX4_balance_42 (by decide) ?_
      exact z_lv2 (ih a1 a2 a3 (a4 + (x4 * x5)) (a5 + 1) h) rfl
set_option maxRecDepth 100000 in
set_option maxHeartbeats 4000000 in
theorem c_X4_balance (l : Launch) (D : va_G) (ad : Nat → Nat) (g : Nat → ClassId) (a1 : Int32) (a2 : Int32) (a3 : Int32) (I : zMi) (J : zMl) {r : Int32} (h : f_X4_balance a1 a2 a3 I = some r) : zCM (mw D ad g) l yX4_balance cX4_balance 6 (some .boolean) rmX4_balance [.ref (ad (0)), .int a1, .int a2, .int a3] I J (some (.int r)) I J := by
  refine zCM.of (by decide) (Nat.le_of_ble_eq_true rfl) (fun E hl hR fx hr => ?_)
  subst hl
  rw [f_X4_balance] at h
  refine z_iconst (v := 0) fx dX4_balance_0 rfl ?_
  refine z_istore fx dX4_balance_1 (by decide) rfl ?_
  refine z_iconst (v := 0) fx dX4_balance_3 rfl ?_
  refine z_istore fx dX4_balance_4 (by decide) rfl ?_
  exact z_lv2 (w_X4_balance_6 fx hR hr fu a1 a2 a3 0 0 h) rfl
set_option maxRecDepth 100000 in
set_option maxHeartbeats 4000000 in
theorem w_X4_pairsThatBalance_17 {E : zE} {D : va_G} {ad : Nat → Nat} {g : Nat → ClassId} (fx : zFX E (mw D ad g) cX4_pairsThatBalance RX4 5 (some .int)) (hR : zR E = rmX4_pairsThatBalance) {r : Int32} {I : zMi} {J : zMl} (hr : zRX E (mw D ad g) (some (.int r)) I J) {k4 : Int32 → Int32 → Int32 → Option Int32} (hk4 : ∀ (a1 : Int32) (a2 : Int32) (a3 : Int32), k4 a1 a2 a3 = some r → zAt E (mw D ad g) 4 [(0, .ref (ad (0))), (1, .int a1), (2, .int a2), (3, .int a3)] [] I J) : ∀ (fuel : Nat) (a1 : Int32) (a2 : Int32) (a3 : Int32) (a4 : Int32), f_X4_pairsThatBalance_17 I k4 fuel a1 a2 a3 a4 = some r → zAt E (mw D ad g) 17 [(0, .ref (ad (0))), (1, .int a1), (2, .int a2), (3, .int a3), (4, .int a4)] [] I J := by
  intro fuel
  induction fuel with
  | zero => intro a1 a2 a3 a4 h; rw [f_X4_pairsThatBalance_17] at h; cases h
  | succ f ih =>
    intro a1 a2 a3 a4 h
    rw [f_X4_pairsThatBalance_17] at h
    refine z_iload fx dX4_pairsThatBalance_17 rfl ?_
    refine z_iload_n fx dX4_pairsThatBalance_19 rfl ?_
    refine z_icmp_ge (tgt := 48) fx dX4_pairsThatBalance_20 (by decide) (fun q1 => ?_) (fun q1 => ?_)
    · rw [if_pos q1] at h
      refine z_iinc (v := (a3 + 1)) fx dX4_pairsThatBalance_48 rfl rfl (by decide) rfl ?_
      refine z_goto (tgt := 4) fx dX4_pairsThatBalance_51 (by decide) ?_
      exact z_lv2 (hk4 a1 a2 (a3 + 1) h) rfl
    · rw [if_neg q1] at h
      refine z_iload_n fx dX4_pairsThatBalance_23 rfl ?_
      refine z_aload_n fx dX4_pairsThatBalance_24 rfl ?_
      refine z_iload_n fx dX4_pairsThatBalance_25 rfl ?_
      refine z_iload_n fx dX4_pairsThatBalance_26 rfl ?_
      refine z_iload fx dX4_pairsThatBalance_27 rfl ?_
      obtain ⟨x2, ex2, h⟩ := ob h
      refine zVi (k := 0) (rest := [.int a2]) fx hR (c_X4_balance (zl E) D ad g a1 a3 a4 I J ex2) rcM mvX4_balance wm_X4_106 dX4_pairsThatBalance_29 rfl ⟨rfl, rfl⟩ rfl rfl rfl ?_
      refine z_if_eq (tgt := 39) fx dX4_pairsThatBalance_32 (by decide) (fun q3 => ?_) (fun q3 => ?_)
      · rw [if_pos q3] at h
        refine z_iconst (v := 0) fx dX4_pairsThatBalance_39 rfl ?_
        refine z_iadd fx dX4_pairsThatBalance_40 ?_
        refine z_istore_n fx dX4_pairsThatBalance_41 (by decide) rfl ?_
        refine z_iinc (v := (a4 + 1)) fx dX4_pairsThatBalance_42 rfl rfl (by decide) rfl ?_
        refine z_goto (tgt := 17) fx dX4_pairsThatBalance_45 (by decide) ?_
        exact z_lv2 (ih a1 (a2 + 0) a3 (a4 + 1) h) rfl
      · rw [if_neg q3] at h
        refine z_iconst (v := 1) fx dX4_pairsThatBalance_35 rfl ?_
        refine z_goto (tgt := 40) fx dX4_pairsThatBalance_36 (by decide) ?_
        refine z_iadd fx dX4_pairsThatBalance_40 ?_
        refine z_istore_n fx dX4_pairsThatBalance_41 (by decide) rfl ?_
        refine z_iinc (v := (a4 + 1)) fx dX4_pairsThatBalance_42 rfl rfl (by decide) rfl ?_
        refine z_goto (tgt := 17) fx dX4_pairsThatBalance_45 (by decide) ?_
        exact z_lv2 (ih a1 (a2 + 1) a3 (a4 + 1) h) rfl
set_option maxRecDepth 100000 in
set_option maxHeartbeats 4000000 in
theorem w_X4_pairsThatBalance_4 {E : zE} {D : va_G} {ad : Nat → Nat} {g : Nat → ClassId} (fx : zFX E (mw D ad g) cX4_pairsThatBalance RX4 5 (some .int)) (hR : zR E = rmX4_pairsThatBalance) {r : Int32} {I : zMi} {J : zMl} (hr : zRX E (mw D ad g) (some (.int r)) I J) : ∀ (fuel : Nat) (a1 : Int32) (a2 : Int32) (a3 : Int32), f_X4_pairsThatBalance_4 I fuel a1 a2 a3 = some r → zAt E (mw D ad g) 4 [(0, .ref (ad (0))), (1, .int a1), (2, .int a2), (3, .int a3)] [] I J := by
  intro fuel
  induction fuel with
  | zero => intro a1 a2 a3 h; rw [f_X4_pairsThatBalance_4] at h; cases h
  | succ f ih =>
    intro a1 a2 a3 h
    rw [f_X4_pairsThatBalance_4] at h
    refine z_iload_n fx dX4_pairsThatBalance_4 rfl ?_
    refine z_aload_n fx dX4_pairsThatBalance_5 rfl ?_
    refine gM_wide fx wf_X4_26 dX4_pairsThatBalance_6 ?_
    refine z_iload_n fx dX4_pairsThatBalance_9 rfl ?_
    obtain ⟨q1, h⟩ := oi h
    refine m_ild fx (Nat.le_of_ble_eq_true rfl) (cfM_5 g ad) q1 dX4_pairsThatBalance_10 ?_
    refine z_icmp_ge (tgt := 54) fx dX4_pairsThatBalance_11 (by decide) (fun q2 => ?_) (fun q2 => ?_)
    · rw [if_pos q2] at h
      refine z_iload_n fx dX4_pairsThatBalance_54 rfl ?_
      cases h
      exact z_iret fx hr dX4_pairsThatBalance_55
    · rw [if_neg q2] at h
      refine z_iconst (v := 0) fx dX4_pairsThatBalance_14 rfl ?_
      refine z_istore fx dX4_pairsThatBalance_15 (by decide) rfl ?_
      exact z_lv2 (w_X4_pairsThatBalance_17 fx hR hr ih fu a1 a2 a3 0 h) rfl
set_option maxRecDepth 100000 in
set_option maxHeartbeats 4000000 in
theorem c_X4_pairsThatBalance (l : Launch) (D : va_G) (ad : Nat → Nat) (g : Nat → ClassId) (a1 : Int32) (I : zMi) (J : zMl) {r : Int32} (h : f_X4_pairsThatBalance a1 I = some r) : zCM (mw D ad g) l yX4_pairsThatBalance cX4_pairsThatBalance 5 (some .int) rmX4_pairsThatBalance [.ref (ad (0)), .int a1] I J (some (.int r)) I J := by
  refine zCM.of (by decide) (Nat.le_of_ble_eq_true rfl) (fun E hl hR fx hr => ?_)
  subst hl
  rw [f_X4_pairsThatBalance] at h
  refine z_iconst (v := 0) fx dX4_pairsThatBalance_0 rfl ?_
  refine z_istore_n fx dX4_pairsThatBalance_1 (by decide) rfl ?_
  refine z_iconst (v := 0) fx dX4_pairsThatBalance_2 rfl ?_
  refine z_istore_n fx dX4_pairsThatBalance_3 (by decide) rfl ?_
  exact z_lv2 (w_X4_pairsThatBalance_4 fx hR hr fu a1 0 0 h) rfl
set_option maxRecDepth 100000 in
set_option maxHeartbeats 4000000 in
theorem w_X4_isRound_21 {E : zE} {D : va_G} {ad : Nat → Nat} {g : Nat → ClassId} (fx : zFX E (mw D ad g) cX4_isRound RX4 6 (some .boolean)) (hR : zR E = rmX4_isRound) {r : Int32} {I : zMi} {J : zMl} (hr : zRX E (mw D ad g) (some (.int r)) I J) {k12 : Int32 → Int32 → Int32 → Int32 → Option Int32} (hk12 : ∀ (a1 : Int32) (a2 : Int32) (a3 : Int32) (a4 : Int32), k12 a1 a2 a3 a4 = some r → narrow .boolean (.int a2) = .int a2 → zAt E (mw D ad g) 12 [(0, .ref (ad (0))), (1, .int a1), (2, .int a2), (3, .int a3), (4, .int a4)] [] I J) : ∀ (fuel : Nat) (a1 : Int32) (a2 : Int32) (a3 : Int32) (a4 : Int32) (a5 : Int32), f_X4_isRound_21 I k12 fuel a1 a2 a3 a4 a5 = some r → narrow .boolean (.int a2) = .int a2 → zAt E (mw D ad g) 21 [(0, .ref (ad (0))), (1, .int a1), (2, .int a2), (3, .int a3), (4, .int a4), (5, .int a5)] [] I J := by
  intro fuel
  induction fuel with
  | zero => intro a1 a2 a3 a4 a5 h z2; rw [f_X4_isRound_21] at h; cases h
  | succ f ih =>
    intro a1 a2 a3 a4 a5 h z2
    rw [f_X4_isRound_21] at h
    refine z_iload fx dX4_isRound_21 rfl ?_
    refine z_iload_n fx dX4_isRound_23 rfl ?_
    refine z_icmp_ge (tgt := 72) fx dX4_isRound_24 (by decide) (fun q1 => ?_) (fun q1 => ?_)
    · rw [if_pos q1] at h
      refine z_iinc (v := (a4 + 1)) fx dX4_isRound_72 rfl rfl (by decide) rfl ?_
      refine z_goto (tgt := 12) fx dX4_isRound_75 (by decide) ?_
      exact z_lv2 (hk12 a1 a2 a3 (a4 + 1) h z2) rfl
    · rw [if_neg q1] at h
      refine z_iload_n fx dX4_isRound_27 rfl ?_
      refine z_if_eq (tgt := 64) fx dX4_isRound_28 (by decide) (fun q2 => ?_) (fun q2 => ?_)
      · rw [if_pos q2] at h
        refine z_iconst (v := 0) fx dX4_isRound_64 rfl ?_
        refine z_istore_n fx dX4_isRound_65 (by decide) rfl ?_
        refine z_iinc (v := (a5 + 1)) fx dX4_isRound_66 rfl rfl (by decide) rfl ?_
        refine z_goto (tgt := 21) fx dX4_isRound_69 (by decide) ?_
        exact z_lv2 (ih a1 0 a3 a4 (a5 + 1) h rfl) rfl
      · rw [if_neg q2] at h
        refine z_aload_n fx dX4_isRound_31 rfl ?_
        refine z_iload_n fx dX4_isRound_32 rfl ?_
        refine z_iload fx dX4_isRound_33 rfl ?_
        refine z_iload fx dX4_isRound_35 rfl ?_
        obtain ⟨x3, ex3, h⟩ := ob h
        refine zVi (k := 0) (rest := []) fx hR (c_X4_get (zl E) D ad g a1 a4 a5 I J ex3) rcM mvX4_get wm_X4_102 dX4_isRound_37 rfl ⟨rfl, rfl⟩ rfl rfl rfl ?_
        refine z_aload_n fx dX4_isRound_40 rfl ?_
        refine z_iload_n fx dX4_isRound_41 rfl ?_
        refine z_iload fx dX4_isRound_42 rfl ?_
        refine z_iconst (v := 1) fx dX4_isRound_44 rfl ?_
        refine z_isub fx dX4_isRound_45 ?_
        refine z_iload fx dX4_isRound_46 rfl ?_
        refine z_iload_n fx dX4_isRound_48 rfl ?_
        refine z_iadd fx dX4_isRound_49 ?_
        refine z_iconst (v := 1) fx dX4_isRound_50 rfl ?_
        refine z_isub fx dX4_isRound_51 ?_
        refine z_iload_n fx dX4_isRound_52 rfl ?_
        obtain ⟨q4, h⟩ := on h
        refine z_irem fx dX4_isRound_53 q4 ?_
        obtain ⟨x5, ex5, h⟩ := ob h
        refine zVi (k := 0) (rest := [.int x3]) fx hR (c_X4_get (zl E) D ad g a1 (a4 - 1) (((a5 + a3) - 1) - ((a5 + a3) - 1) / a3 * a3) I J ex5) rcM mvX4_get wm_X4_102 dX4_isRound_54 rfl ⟨rfl, rfl⟩ rfl rfl rfl ?_
        refine z_icmp_ne (tgt := 64) fx dX4_isRound_57 (by decide) (fun q6 => ?_) (fun q6 => ?_)
        · rw [if_neg q6] at h
          refine z_iconst (v := 0) fx dX4_isRound_64 rfl ?_
          refine z_istore_n fx dX4_isRound_65 (by decide) rfl ?_
          refine z_iinc (v := (a5 + 1)) fx dX4_isRound_66 rfl rfl (by decide) rfl ?_
          refine z_goto (tgt := 21) fx dX4_isRound_69 (by decide) ?_
          exact z_lv2 (ih a1 0 a3 a4 (a5 + 1) h rfl) rfl
        · rw [if_pos q6] at h
          refine z_iconst (v := 1) fx dX4_isRound_60 rfl ?_
          refine z_goto (tgt := 65) fx dX4_isRound_61 (by decide) ?_
          refine z_istore_n fx dX4_isRound_65 (by decide) rfl ?_
          refine z_iinc (v := (a5 + 1)) fx dX4_isRound_66 rfl rfl (by decide) rfl ?_
          refine z_goto (tgt := 21) fx dX4_isRound_69 (by decide) ?_
          exact z_lv2 (ih a1 1 a3 a4 (a5 + 1) h rfl) rfl
set_option maxRecDepth 100000 in
set_option maxHeartbeats 4000000 in
theorem w_X4_isRound_12 {E : zE} {D : va_G} {ad : Nat → Nat} {g : Nat → ClassId} (fx : zFX E (mw D ad g) cX4_isRound RX4 6 (some .boolean)) (hR : zR E = rmX4_isRound) {r : Int32} {I : zMi} {J : zMl} (hr : zRX E (mw D ad g) (some (.int r)) I J) : ∀ (fuel : Nat) (a1 : Int32) (a2 : Int32) (a3 : Int32) (a4 : Int32), f_X4_isRound_12 I fuel a1 a2 a3 a4 = some r → narrow .boolean (.int a2) = .int a2 → zAt E (mw D ad g) 12 [(0, .ref (ad (0))), (1, .int a1), (2, .int a2), (3, .int a3), (4, .int a4)] [] I J := by
  intro fuel
  induction fuel with
  | zero => intro a1 a2 a3 a4 h z2; rw [f_X4_isRound_12] at h; cases h
  | succ f ih =>
    intro a1 a2 a3 a4 h z2
    rw [f_X4_isRound_12] at h
    refine z_iload fx dX4_isRound_12 rfl ?_
    refine z_iload_n fx dX4_isRound_14 rfl ?_
    refine z_icmp_ge (tgt := 78) fx dX4_isRound_15 (by decide) (fun q1 => ?_) (fun q1 => ?_)
    · rw [if_pos q1] at h
      refine z_iload_n fx dX4_isRound_78 rfl ?_
      cases h
      exact z_zret fx z2 hr dX4_isRound_79
    · rw [if_neg q1] at h
      refine z_iconst (v := 0) fx dX4_isRound_18 rfl ?_
      refine z_istore fx dX4_isRound_19 (by decide) rfl ?_
      exact z_lv2 (w_X4_isRound_21 fx hR hr ih fu a1 a2 a3 a4 0 h z2) rfl
set_option maxRecDepth 100000 in
set_option maxHeartbeats 4000000 in
theorem c_X4_isRound (l : Launch) (D : va_G) (ad : Nat → Nat) (g : Nat → ClassId) (a1 : Int32) (I : zMi) (J : zMl) {r : Int32} (h : f_X4_isRound a1 I = some r) : zCM (mw D ad g) l yX4_isRound cX4_isRound 6 (some .boolean) rmX4_isRound [.ref (ad (0)), .int a1] I J (some (.int r)) I J := by
  refine zCM.of (by decide) (Nat.le_of_ble_eq_true rfl) (fun E hl hR fx hr => ?_)
  subst hl
  rw [f_X4_isRound] at h
  refine z_iconst (v := 1) fx dX4_isRound_0 rfl ?_
  refine z_istore_n fx dX4_isRound_1 (by decide) rfl ?_
  refine z_aload_n fx dX4_isRound_2 rfl ?_
  refine gM_wide fx wf_X4_26 dX4_isRound_3 ?_
  refine z_iload_n fx dX4_isRound_6 rfl ?_
  obtain ⟨q1, h⟩ := oi h
  refine m_ild fx (Nat.le_of_ble_eq_true rfl) (cfM_5 g ad) q1 dX4_isRound_7 ?_
  refine z_istore_n fx dX4_isRound_8 (by decide) rfl ?_
  refine z_iconst (v := 1) fx dX4_isRound_9 rfl ?_
  refine z_istore fx dX4_isRound_10 (by decide) rfl ?_
  exact z_lv2 (w_X4_isRound_12 fx hR hr fu a1 1 (I (5) a1.toNatClampNeg) 1 h rfl) rfl
set_option maxRecDepth 100000 in
set_option maxHeartbeats 4000000 in
theorem w_X4_isGraph_17 {E : zE} {D : va_G} {ad : Nat → Nat} {g : Nat → ClassId} (fx : zFX E (mw D ad g) cX4_isGraph RX4 5 (some .boolean)) (hR : zR E = rmX4_isGraph) {r : Int32} {I : zMi} {J : zMl} (hr : zRX E (mw D ad g) (some (.int r)) I J) {k4 : Int32 → Int32 → Int32 → Option Int32} (hk4 : ∀ (a1 : Int32) (a2 : Int32) (a3 : Int32), k4 a1 a2 a3 = some r → narrow .boolean (.int a2) = .int a2 → zAt E (mw D ad g) 4 [(0, .ref (ad (0))), (1, .int a1), (2, .int a2), (3, .int a3)] [] I J) : ∀ (fuel : Nat) (a1 : Int32) (a2 : Int32) (a3 : Int32) (a4 : Int32), f_X4_isGraph_17 I k4 fuel a1 a2 a3 a4 = some r → narrow .boolean (.int a2) = .int a2 → zAt E (mw D ad g) 17 [(0, .ref (ad (0))), (1, .int a1), (2, .int a2), (3, .int a3), (4, .int a4)] [] I J := by
  intro fuel
  induction fuel with
  | zero => intro a1 a2 a3 a4 h z2; rw [f_X4_isGraph_17] at h; cases h
  | succ f ih =>
    intro a1 a2 a3 a4 h z2
    rw [f_X4_isGraph_17] at h
    refine z_iload fx dX4_isGraph_17 rfl ?_
    refine z_aload_n fx dX4_isGraph_19 rfl ?_
    refine gM_wide fx wf_X4_26 dX4_isGraph_20 ?_
    refine z_iload_n fx dX4_isGraph_23 rfl ?_
    obtain ⟨q1, h⟩ := oi h
    refine m_ild fx (Nat.le_of_ble_eq_true rfl) (cfM_5 g ad) q1 dX4_isGraph_24 ?_
    refine z_icmp_ge (tgt := 94) fx dX4_isGraph_25 (by decide) (fun q2 => ?_) (fun q2 => ?_)
    · rw [if_pos q2] at h
      refine z_iinc (v := (a3 + 1)) fx dX4_isGraph_94 rfl rfl (by decide) rfl ?_
      refine z_goto (tgt := 4) fx dX4_isGraph_97 (by decide) ?_
      exact z_lv2 (hk4 a1 a2 (a3 + 1) h z2) rfl
    · rw [if_neg q2] at h
      refine z_iload_n fx dX4_isGraph_28 rfl ?_
      refine z_if_eq (tgt := 86) fx dX4_isGraph_29 (by decide) (fun q3 => ?_) (fun q3 => ?_)
      · rw [if_pos q3] at h
        refine z_iconst (v := 0) fx dX4_isGraph_86 rfl ?_
        refine z_istore_n fx dX4_isGraph_87 (by decide) rfl ?_
        refine z_iinc (v := (a4 + 1)) fx dX4_isGraph_88 rfl rfl (by decide) rfl ?_
        refine z_goto (tgt := 17) fx dX4_isGraph_91 (by decide) ?_
        exact z_lv2 (ih a1 0 a3 (a4 + 1) h rfl) rfl
      · rw [if_neg q3] at h
        refine z_iload_n fx dX4_isGraph_32 rfl ?_
        refine z_iload fx dX4_isGraph_33 rfl ?_
        refine z_icmp_ne (tgt := 52) fx dX4_isGraph_35 (by decide) (fun q4 => ?_) (fun q4 => ?_)
        · rw [if_neg q4] at h
          refine z_aload_n fx dX4_isGraph_52 rfl ?_
          refine z_iload_n fx dX4_isGraph_53 rfl ?_
          refine z_iload_n fx dX4_isGraph_54 rfl ?_
          refine z_iload fx dX4_isGraph_55 rfl ?_
          obtain ⟨x5, ex5, h⟩ := ob h
          refine zVi (k := 0) (rest := []) fx hR (c_X4_get (zl E) D ad g a1 a3 a4 I J ex5) rcM mvX4_get wm_X4_102 dX4_isGraph_57 rfl ⟨rfl, rfl⟩ rfl rfl rfl ?_
          refine z_if_eq (tgt := 86) fx dX4_isGraph_60 (by decide) (fun q6 => ?_) (fun q6 => ?_)
          · rw [if_pos q6] at h
            refine z_iconst (v := 0) fx dX4_isGraph_86 rfl ?_
            refine z_istore_n fx dX4_isGraph_87 (by decide) rfl ?_
            refine z_iinc (v := (a4 + 1)) fx dX4_isGraph_88 rfl rfl (by decide) rfl ?_
            refine z_goto (tgt := 17) fx dX4_isGraph_91 (by decide) ?_
            exact z_lv2 (ih a1 0 a3 (a4 + 1) h rfl) rfl
          · rw [if_neg q6] at h
            refine z_aload_n fx dX4_isGraph_63 rfl ?_
            refine z_iload_n fx dX4_isGraph_64 rfl ?_
            refine z_iload_n fx dX4_isGraph_65 rfl ?_
            refine z_iload fx dX4_isGraph_66 rfl ?_
            obtain ⟨x7, ex7, h⟩ := ob h
            refine zVi (k := 0) (rest := []) fx hR (c_X4_get (zl E) D ad g a1 a3 a4 I J ex7) rcM mvX4_get wm_X4_102 dX4_isGraph_68 rfl ⟨rfl, rfl⟩ rfl rfl rfl ?_
            refine z_aload_n fx dX4_isGraph_71 rfl ?_
            refine z_iload_n fx dX4_isGraph_72 rfl ?_
            refine z_iload fx dX4_isGraph_73 rfl ?_
            refine z_iload_n fx dX4_isGraph_75 rfl ?_
            obtain ⟨x8, ex8, h⟩ := ob h
            refine zVi (k := 0) (rest := [.int x7]) fx hR (c_X4_get (zl E) D ad g a1 a4 a3 I J ex8) rcM mvX4_get wm_X4_102 dX4_isGraph_76 rfl ⟨rfl, rfl⟩ rfl rfl rfl ?_
            refine z_icmp_ne (tgt := 86) fx dX4_isGraph_79 (by decide) (fun q9 => ?_) (fun q9 => ?_)
            · rw [if_neg q9] at h
              refine z_iconst (v := 0) fx dX4_isGraph_86 rfl ?_
              refine z_istore_n fx dX4_isGraph_87 (by decide) rfl ?_
              refine z_iinc (v := (a4 + 1)) fx dX4_isGraph_88 rfl rfl (by decide) rfl ?_
              refine z_goto (tgt := 17) fx dX4_isGraph_91 (by decide) ?_
              exact z_lv2 (ih a1 0 a3 (a4 + 1) h rfl) rfl
            · rw [if_pos q9] at h
              refine z_iconst (v := 1) fx dX4_isGraph_82 rfl ?_
              refine z_goto (tgt := 87) fx dX4_isGraph_83 (by decide) ?_
              refine z_istore_n fx dX4_isGraph_87 (by decide) rfl ?_
              refine z_iinc (v := (a4 + 1)) fx dX4_isGraph_88 rfl rfl (by decide) rfl ?_
              refine z_goto (tgt := 17) fx dX4_isGraph_91 (by decide) ?_
              exact z_lv2 (ih a1 1 a3 (a4 + 1) h rfl) rfl
        · rw [if_pos q4] at h
          refine z_aload_n fx dX4_isGraph_38 rfl ?_
          refine z_iload_n fx dX4_isGraph_39 rfl ?_
          refine z_iload_n fx dX4_isGraph_40 rfl ?_
          refine z_iload fx dX4_isGraph_41 rfl ?_
          obtain ⟨x10, ex10, h⟩ := ob h
          refine zVi (k := 0) (rest := []) fx hR (c_X4_get (zl E) D ad g a1 a3 a4 I J ex10) rcM mvX4_get wm_X4_102 dX4_isGraph_43 rfl ⟨rfl, rfl⟩ rfl rfl rfl ?_
          refine z_if_ne (tgt := 86) fx dX4_isGraph_46 (by decide) (fun q11 => ?_) (fun q11 => ?_)
          · rw [if_neg q11] at h
            refine z_iconst (v := 0) fx dX4_isGraph_86 rfl ?_
            refine z_istore_n fx dX4_isGraph_87 (by decide) rfl ?_
            refine z_iinc (v := (a4 + 1)) fx dX4_isGraph_88 rfl rfl (by decide) rfl ?_
            refine z_goto (tgt := 17) fx dX4_isGraph_91 (by decide) ?_
            exact z_lv2 (ih a1 0 a3 (a4 + 1) h rfl) rfl
          · rw [if_pos q11] at h
            refine z_goto (tgt := 82) fx dX4_isGraph_49 (by decide) ?_
            refine z_iconst (v := 1) fx dX4_isGraph_82 rfl ?_
            refine z_goto (tgt := 87) fx dX4_isGraph_83 (by decide) ?_
            refine z_istore_n fx dX4_isGraph_87 (by decide) rfl ?_
            refine z_iinc (v := (a4 + 1)) fx dX4_isGraph_88 rfl rfl (by decide) rfl ?_
            refine z_goto (tgt := 17) fx dX4_isGraph_91 (by decide) ?_
            exact z_lv2 (ih a1 1 a3 (a4 + 1) h rfl) rfl
set_option maxRecDepth 100000 in
set_option maxHeartbeats 4000000 in
theorem w_X4_isGraph_4 {E : zE} {D : va_G} {ad : Nat → Nat} {g : Nat → ClassId} (fx : zFX E (mw D ad g) cX4_isGraph RX4 5 (some .boolean)) (hR : zR E = rmX4_isGraph) {r : Int32} {I : zMi} {J : zMl} (hr : zRX E (mw D ad g) (some (.int r)) I J) : ∀ (fuel : Nat) (a1 : Int32) (a2 : Int32) (a3 : Int32), f_X4_isGraph_4 I fuel a1 a2 a3 = some r → narrow .boolean (.int a2) = .int a2 → zAt E (mw D ad g) 4 [(0, .ref (ad (0))), (1, .int a1), (2, .int a2), (3, .int a3)] [] I J := by
  intro fuel
  induction fuel with
  | zero => intro a1 a2 a3 h z2; rw [f_X4_isGraph_4] at h; cases h
  | succ f ih =>
    intro a1 a2 a3 h z2
    rw [f_X4_isGraph_4] at h
    refine z_iload_n fx dX4_isGraph_4 rfl ?_
    refine z_aload_n fx dX4_isGraph_5 rfl ?_
    refine gM_wide fx wf_X4_26 dX4_isGraph_6 ?_
    refine z_iload_n fx dX4_isGraph_9 rfl ?_
    obtain ⟨q1, h⟩ := oi h
    refine m_ild fx (Nat.le_of_ble_eq_true rfl) (cfM_5 g ad) q1 dX4_isGraph_10 ?_
    refine z_icmp_ge (tgt := 100) fx dX4_isGraph_11 (by decide) (fun q2 => ?_) (fun q2 => ?_)
    · rw [if_pos q2] at h
      refine z_iload_n fx dX4_isGraph_100 rfl ?_
      cases h
      exact z_zret fx z2 hr dX4_isGraph_101
    · rw [if_neg q2] at h
      refine z_iconst (v := 0) fx dX4_isGraph_14 rfl ?_
      refine z_istore fx dX4_isGraph_15 (by decide) rfl ?_
      exact z_lv2 (w_X4_isGraph_17 fx hR hr ih fu a1 a2 a3 0 h z2) rfl
set_option maxRecDepth 100000 in
set_option maxHeartbeats 4000000 in
theorem c_X4_isGraph (l : Launch) (D : va_G) (ad : Nat → Nat) (g : Nat → ClassId) (a1 : Int32) (I : zMi) (J : zMl) {r : Int32} (h : f_X4_isGraph a1 I = some r) : zCM (mw D ad g) l yX4_isGraph cX4_isGraph 5 (some .boolean) rmX4_isGraph [.ref (ad (0)), .int a1] I J (some (.int r)) I J := by
  refine zCM.of (by decide) (Nat.le_of_ble_eq_true rfl) (fun E hl hR fx hr => ?_)
  subst hl
  rw [f_X4_isGraph] at h
  refine z_iconst (v := 1) fx dX4_isGraph_0 rfl ?_
  refine z_istore_n fx dX4_isGraph_1 (by decide) rfl ?_
  refine z_iconst (v := 0) fx dX4_isGraph_2 rfl ?_
  refine z_istore_n fx dX4_isGraph_3 (by decide) rfl ?_
  exact z_lv2 (w_X4_isGraph_4 fx hR hr fu a1 1 0 h rfl) rfl
set_option maxRecDepth 100000 in
set_option maxHeartbeats 4000000 in
theorem w_X4_neighbours_5 {E : zE} {D : va_G} {ad : Nat → Nat} {g : Nat → ClassId} (fx : zFX E (mw D ad g) cX4_neighbours RX4 5 (some .int)) (hR : zR E = rmX4_neighbours) {r : Int32} {I : zMi} {J : zMl} (hr : zRX E (mw D ad g) (some (.int r)) I J) : ∀ (fuel : Nat) (a1 : Int32) (a2 : Int32) (a3 : Int32) (a4 : Int32), f_X4_neighbours_5 I fuel a1 a2 a3 a4 = some r → zAt E (mw D ad g) 5 [(0, .ref (ad (0))), (1, .int a1), (2, .int a2), (3, .int a3), (4, .int a4)] [] I J := by
  intro fuel
  induction fuel with
  | zero => intro a1 a2 a3 a4 h; rw [f_X4_neighbours_5] at h; cases h
  | succ f ih =>
    intro a1 a2 a3 a4 h
    rw [f_X4_neighbours_5] at h
    refine z_iload fx dX4_neighbours_5 rfl ?_
    refine z_aload_n fx dX4_neighbours_7 rfl ?_
    refine gM_wide fx wf_X4_26 dX4_neighbours_8 ?_
    refine z_iload_n fx dX4_neighbours_11 rfl ?_
    obtain ⟨q1, h⟩ := oi h
    refine m_ild fx (Nat.le_of_ble_eq_true rfl) (cfM_5 g ad) q1 dX4_neighbours_12 ?_
    refine z_icmp_ge (tgt := 42) fx dX4_neighbours_13 (by decide) (fun q2 => ?_) (fun q2 => ?_)
    · rw [if_pos q2] at h
      refine z_iload_n fx dX4_neighbours_42 rfl ?_
      cases h
      exact z_iret fx hr dX4_neighbours_43
    · rw [if_neg q2] at h
      refine z_iload_n fx dX4_neighbours_16 rfl ?_
      refine z_aload_n fx dX4_neighbours_17 rfl ?_
      refine z_iload_n fx dX4_neighbours_18 rfl ?_
      refine z_iload_n fx dX4_neighbours_19 rfl ?_
      refine z_iload fx dX4_neighbours_20 rfl ?_
      obtain ⟨x3, ex3, h⟩ := ob h
      refine zVi (k := 0) (rest := [.int a3]) fx hR (c_X4_get (zl E) D ad g a1 a2 a4 I J ex3) rcM mvX4_get wm_X4_102 dX4_neighbours_22 rfl ⟨rfl, rfl⟩ rfl rfl rfl ?_
      refine z_iconst (v := (-1)) fx dX4_neighbours_25 rfl ?_
      refine z_icmp_ne (tgt := 33) fx dX4_neighbours_26 (by decide) (fun q4 => ?_) (fun q4 => ?_)
      · rw [if_neg q4] at h
        refine z_iconst (v := 0) fx dX4_neighbours_33 rfl ?_
        refine z_iadd fx dX4_neighbours_34 ?_
        refine z_istore_n fx dX4_neighbours_35 (by decide) rfl ?_
        refine z_iinc (v := (a4 + 1)) fx dX4_neighbours_36 rfl rfl (by decide) rfl ?_
        refine z_goto (tgt := 5) fx dX4_neighbours_39 (by decide) ?_
        exact z_lv2 (ih a1 a2 (a3 + 0) (a4 + 1) h) rfl
      · rw [if_pos q4] at h
        refine z_iconst (v := 1) fx dX4_neighbours_29 rfl ?_
        refine z_goto (tgt := 34) fx dX4_neighbours_30 (by decide) ?_
        refine z_iadd fx dX4_neighbours_34 ?_
        refine z_istore_n fx dX4_neighbours_35 (by decide) rfl ?_
        refine z_iinc (v := (a4 + 1)) fx dX4_neighbours_36 rfl rfl (by decide) rfl ?_
        refine z_goto (tgt := 5) fx dX4_neighbours_39 (by decide) ?_
        exact z_lv2 (ih a1 a2 (a3 + 1) (a4 + 1) h) rfl
set_option maxRecDepth 100000 in
set_option maxHeartbeats 4000000 in
theorem c_X4_neighbours (l : Launch) (D : va_G) (ad : Nat → Nat) (g : Nat → ClassId) (a1 : Int32) (a2 : Int32) (I : zMi) (J : zMl) {r : Int32} (h : f_X4_neighbours a1 a2 I = some r) : zCM (mw D ad g) l yX4_neighbours cX4_neighbours 5 (some .int) rmX4_neighbours [.ref (ad (0)), .int a1, .int a2] I J (some (.int r)) I J := by
  refine zCM.of (by decide) (Nat.le_of_ble_eq_true rfl) (fun E hl hR fx hr => ?_)
  subst hl
  rw [f_X4_neighbours] at h
  refine z_iconst (v := 0) fx dX4_neighbours_0 rfl ?_
  refine z_istore_n fx dX4_neighbours_1 (by decide) rfl ?_
  refine z_iconst (v := 0) fx dX4_neighbours_2 rfl ?_
  refine z_istore fx dX4_neighbours_3 (by decide) rfl ?_
  exact z_lv2 (w_X4_neighbours_5 fx hR hr fu a1 a2 0 0 h) rfl
set_option maxRecDepth 100000 in
set_option maxHeartbeats 4000000 in
theorem w_X4_inCommon_6 {E : zE} {D : va_G} {ad : Nat → Nat} {g : Nat → ClassId} (fx : zFX E (mw D ad g) cX4_inCommon RX4 6 (some .int)) (hR : zR E = rmX4_inCommon) {r : Int32} {I : zMi} {J : zMl} (hr : zRX E (mw D ad g) (some (.int r)) I J) : ∀ (fuel : Nat) (a1 : Int32) (a2 : Int32) (a3 : Int32) (a4 : Int32) (a5 : Int32), f_X4_inCommon_6 I fuel a1 a2 a3 a4 a5 = some r → zAt E (mw D ad g) 6 [(0, .ref (ad (0))), (1, .int a1), (2, .int a2), (3, .int a3), (4, .int a4), (5, .int a5)] [] I J := by
  intro fuel
  induction fuel with
  | zero => intro a1 a2 a3 a4 a5 h; rw [f_X4_inCommon_6] at h; cases h
  | succ f ih =>
    intro a1 a2 a3 a4 a5 h
    rw [f_X4_inCommon_6] at h
    refine z_iload fx dX4_inCommon_6 rfl ?_
    refine z_aload_n fx dX4_inCommon_8 rfl ?_
    refine gM_wide fx wf_X4_26 dX4_inCommon_9 ?_
    refine z_iload_n fx dX4_inCommon_12 rfl ?_
    obtain ⟨q1, h⟩ := oi h
    refine m_ild fx (Nat.le_of_ble_eq_true rfl) (cfM_5 g ad) q1 dX4_inCommon_13 ?_
    refine z_icmp_ge (tgt := 57) fx dX4_inCommon_14 (by decide) (fun q2 => ?_) (fun q2 => ?_)
    · rw [if_pos q2] at h
      refine z_iload fx dX4_inCommon_57 rfl ?_
      cases h
      exact z_iret fx hr dX4_inCommon_59
    · rw [if_neg q2] at h
      refine z_iload fx dX4_inCommon_17 rfl ?_
      refine z_aload_n fx dX4_inCommon_19 rfl ?_
      refine z_iload_n fx dX4_inCommon_20 rfl ?_
      refine z_iload_n fx dX4_inCommon_21 rfl ?_
      refine z_iload fx dX4_inCommon_22 rfl ?_
      obtain ⟨x3, ex3, h⟩ := ob h
      refine zVi (k := 0) (rest := [.int a4]) fx hR (c_X4_get (zl E) D ad g a1 a2 a5 I J ex3) rcM mvX4_get wm_X4_102 dX4_inCommon_24 rfl ⟨rfl, rfl⟩ rfl rfl rfl ?_
      refine z_iconst (v := (-1)) fx dX4_inCommon_27 rfl ?_
      refine z_icmp_ne (tgt := 47) fx dX4_inCommon_28 (by decide) (fun q4 => ?_) (fun q4 => ?_)
      · rw [if_neg q4] at h
        refine z_iconst (v := 0) fx dX4_inCommon_47 rfl ?_
        refine z_iadd fx dX4_inCommon_48 ?_
        refine z_istore fx dX4_inCommon_49 (by decide) rfl ?_
        refine z_iinc (v := (a5 + 1)) fx dX4_inCommon_51 rfl rfl (by decide) rfl ?_
        refine z_goto (tgt := 6) fx dX4_inCommon_54 (by decide) ?_
        exact z_lv2 (ih a1 a2 a3 (a4 + 0) (a5 + 1) h) rfl
      · rw [if_pos q4] at h
        refine z_aload_n fx dX4_inCommon_31 rfl ?_
        refine z_iload_n fx dX4_inCommon_32 rfl ?_
        refine z_iload_n fx dX4_inCommon_33 rfl ?_
        refine z_iload fx dX4_inCommon_34 rfl ?_
        obtain ⟨x5, ex5, h⟩ := ob h
        refine zVi (k := 0) (rest := [.int a4]) fx hR (c_X4_get (zl E) D ad g a1 a3 a5 I J ex5) rcM mvX4_get wm_X4_102 dX4_inCommon_36 rfl ⟨rfl, rfl⟩ rfl rfl rfl ?_
        refine z_iconst (v := (-1)) fx dX4_inCommon_39 rfl ?_
        refine z_icmp_ne (tgt := 47) fx dX4_inCommon_40 (by decide) (fun q6 => ?_) (fun q6 => ?_)
        · rw [if_neg q6] at h
          refine z_iconst (v := 0) fx dX4_inCommon_47 rfl ?_
          refine z_iadd fx dX4_inCommon_48 ?_
          refine z_istore fx dX4_inCommon_49 (by decide) rfl ?_
          refine z_iinc (v := (a5 + 1)) fx dX4_inCommon_51 rfl rfl (by decide) rfl ?_
          refine z_goto (tgt := 6) fx dX4_inCommon_54 (by decide) ?_
          exact z_lv2 (ih a1 a2 a3 (a4 + 0) (a5 + 1) h) rfl
        · rw [if_pos q6] at h
          refine z_iconst (v := 1) fx dX4_inCommon_43 rfl ?_
          refine z_goto (tgt := 48) fx dX4_inCommon_44 (by decide) ?_
          refine z_iadd fx dX4_inCommon_48 ?_
          refine z_istore fx dX4_inCommon_49 (by decide) rfl ?_
          refine z_iinc (v := (a5 + 1)) fx dX4_inCommon_51 rfl rfl (by decide) rfl ?_
          refine z_goto (tgt := 6) fx dX4_inCommon_54 (by decide) ?_
          exact z_lv2 (ih a1 a2 a3 (a4 + 1) (a5 + 1) h) rfl
set_option maxRecDepth 100000 in
set_option maxHeartbeats 4000000 in
theorem c_X4_inCommon (l : Launch) (D : va_G) (ad : Nat → Nat) (g : Nat → ClassId) (a1 : Int32) (a2 : Int32) (a3 : Int32) (I : zMi) (J : zMl) {r : Int32} (h : f_X4_inCommon a1 a2 a3 I = some r) : zCM (mw D ad g) l yX4_inCommon cX4_inCommon 6 (some .int) rmX4_inCommon [.ref (ad (0)), .int a1, .int a2, .int a3] I J (some (.int r)) I J := by
  refine zCM.of (by decide) (Nat.le_of_ble_eq_true rfl) (fun E hl hR fx hr => ?_)
  subst hl
  rw [f_X4_inCommon] at h
  refine z_iconst (v := 0) fx dX4_inCommon_0 rfl ?_
  refine z_istore fx dX4_inCommon_1 (by decide) rfl ?_
  refine z_iconst (v := 0) fx dX4_inCommon_3 rfl ?_
  refine z_istore fx dX4_inCommon_4 (by decide) rfl ?_
  exact z_lv2 (w_X4_inCommon_6 fx hR hr fu a1 a2 a3 0 0 h) rfl
set_option maxRecDepth 100000 in
set_option maxHeartbeats 4000000 in
theorem w_X4_commonOf_20 {E : zE} {D : va_G} {ad : Nat → Nat} {g : Nat → ClassId} (fx : zFX E (mw D ad g) cX4_commonOf RX4 7 (some .int)) (hR : zR E = rmX4_commonOf) {r : Int32} {I : zMi} {J : zMl} (hr : zRX E (mw D ad g) (some (.int r)) I J) {k6 : Int32 → Int32 → Int32 → Int32 → Option Int32} (hk6 : ∀ (a1 : Int32) (a2 : Int32) (a3 : Int32) (a4 : Int32), k6 a1 a2 a3 a4 = some r → zAt E (mw D ad g) 6 [(0, .ref (ad (0))), (1, .int a1), (2, .int a2), (3, .int a3), (4, .int a4)] [] I J) : ∀ (fuel : Nat) (a1 : Int32) (a2 : Int32) (a3 : Int32) (a4 : Int32) (a5 : Int32), f_X4_commonOf_20 I k6 fuel a1 a2 a3 a4 a5 = some r → zAt E (mw D ad g) 20 [(0, .ref (ad (0))), (1, .int a1), (2, .int a2), (3, .int a3), (4, .int a4), (5, .int a5)] [] I J := by
  intro fuel
  induction fuel with
  | zero => intro a1 a2 a3 a4 a5 h; rw [f_X4_commonOf_20] at h; cases h
  | succ f ih =>
    intro a1 a2 a3 a4 a5 h
    rw [f_X4_commonOf_20] at h
    refine z_iload fx dX4_commonOf_20 rfl ?_
    refine z_iload fx dX4_commonOf_22 rfl ?_
    refine z_icmp_ge (tgt := 76) fx dX4_commonOf_24 (by decide) (fun q1 => ?_) (fun q1 => ?_)
    · rw [if_pos q1] at h
      refine z_iinc (v := (a4 + 1)) fx dX4_commonOf_76 rfl rfl (by decide) rfl ?_
      refine z_goto (tgt := 6) fx dX4_commonOf_79 (by decide) ?_
      exact z_lv2 (hk6 a1 a2 a3 (a4 + 1) h) rfl
    · rw [if_neg q1] at h
      refine z_aload_n fx dX4_commonOf_27 rfl ?_
      refine z_iload_n fx dX4_commonOf_28 rfl ?_
      refine z_iload fx dX4_commonOf_29 rfl ?_
      refine z_iload fx dX4_commonOf_31 rfl ?_
      obtain ⟨x2, ex2, h⟩ := ob h
      refine zVi (k := 0) (rest := []) fx hR (c_X4_get (zl E) D ad g a1 a4 a5 I J ex2) rcM mvX4_get wm_X4_102 dX4_commonOf_33 rfl ⟨rfl, rfl⟩ rfl rfl rfl ?_
      refine z_iload_n fx dX4_commonOf_36 rfl ?_
      refine z_icmp_ne (tgt := 70) fx dX4_commonOf_37 (by decide) (fun q3 => ?_) (fun q3 => ?_)
      · rw [if_neg q3] at h
        refine z_iinc (v := (a5 + 1)) fx dX4_commonOf_70 rfl rfl (by decide) rfl ?_
        refine z_goto (tgt := 20) fx dX4_commonOf_73 (by decide) ?_
        exact z_lv2 (ih a1 a2 a3 a4 (a5 + 1) h) rfl
      · rw [if_pos q3] at h
        refine z_aload_n fx dX4_commonOf_40 rfl ?_
        refine z_iload_n fx dX4_commonOf_41 rfl ?_
        refine z_iload fx dX4_commonOf_42 rfl ?_
        refine z_iload fx dX4_commonOf_44 rfl ?_
        obtain ⟨x4, ex4, h⟩ := ob h
        refine zVi (k := 0) (rest := []) fx hR (c_X4_inCommon (zl E) D ad g a1 a4 a5 I J ex4) rcM mvX4_inCommon wm_X4_109 dX4_commonOf_46 rfl ⟨rfl, rfl⟩ rfl rfl rfl ?_
        refine z_istore fx dX4_commonOf_49 (by decide) rfl ?_
        refine z_iload_n fx dX4_commonOf_51 rfl ?_
        refine z_bipush (v := (-9)) fx dX4_commonOf_52 rfl ?_
        refine z_icmp_eq (tgt := 63) fx dX4_commonOf_54 (by decide) (fun q5 => ?_) (fun q5 => ?_)
        · rw [if_pos q5] at h
          refine z_iload fx dX4_commonOf_63 rfl ?_
          refine z_goto (tgt := 69) fx dX4_commonOf_65 (by decide) ?_
          refine z_istore_n fx dX4_commonOf_69 (by decide) rfl ?_
          refine z_iinc (v := (a5 + 1)) fx dX4_commonOf_70 rfl rfl (by decide) rfl ?_
          refine z_goto (tgt := 20) fx dX4_commonOf_73 (by decide) ?_
          exact z_lv2 (ih a1 a2 x4 a4 (a5 + 1) h) rfl
        · rw [if_neg q5] at h
          refine z_iload_n fx dX4_commonOf_57 rfl ?_
          refine z_iload fx dX4_commonOf_58 rfl ?_
          refine z_icmp_ne (tgt := 68) fx dX4_commonOf_60 (by decide) (fun q6 => ?_) (fun q6 => ?_)
          · rw [if_neg q6] at h
            refine z_iconst (v := (-1)) fx dX4_commonOf_68 rfl ?_
            refine z_istore_n fx dX4_commonOf_69 (by decide) rfl ?_
            refine z_iinc (v := (a5 + 1)) fx dX4_commonOf_70 rfl rfl (by decide) rfl ?_
            refine z_goto (tgt := 20) fx dX4_commonOf_73 (by decide) ?_
            exact z_lv2 (ih a1 a2 (-1) a4 (a5 + 1) h) rfl
          · rw [if_pos q6] at h
            refine z_iload fx dX4_commonOf_63 rfl ?_
            refine z_goto (tgt := 69) fx dX4_commonOf_65 (by decide) ?_
            refine z_istore_n fx dX4_commonOf_69 (by decide) rfl ?_
            refine z_iinc (v := (a5 + 1)) fx dX4_commonOf_70 rfl rfl (by decide) rfl ?_
            refine z_goto (tgt := 20) fx dX4_commonOf_73 (by decide) ?_
            exact z_lv2 (ih a1 a2 x4 a4 (a5 + 1) h) rfl
set_option maxRecDepth 100000 in
set_option maxHeartbeats 4000000 in
theorem w_X4_commonOf_6 {E : zE} {D : va_G} {ad : Nat → Nat} {g : Nat → ClassId} (fx : zFX E (mw D ad g) cX4_commonOf RX4 7 (some .int)) (hR : zR E = rmX4_commonOf) {r : Int32} {I : zMi} {J : zMl} (hr : zRX E (mw D ad g) (some (.int r)) I J) : ∀ (fuel : Nat) (a1 : Int32) (a2 : Int32) (a3 : Int32) (a4 : Int32), f_X4_commonOf_6 I fuel a1 a2 a3 a4 = some r → zAt E (mw D ad g) 6 [(0, .ref (ad (0))), (1, .int a1), (2, .int a2), (3, .int a3), (4, .int a4)] [] I J := by
  intro fuel
  induction fuel with
  | zero => intro a1 a2 a3 a4 h; rw [f_X4_commonOf_6] at h; cases h
  | succ f ih =>
    intro a1 a2 a3 a4 h
    rw [f_X4_commonOf_6] at h
    refine z_iload fx dX4_commonOf_6 rfl ?_
    refine z_aload_n fx dX4_commonOf_8 rfl ?_
    refine gM_wide fx wf_X4_26 dX4_commonOf_9 ?_
    refine z_iload_n fx dX4_commonOf_12 rfl ?_
    obtain ⟨q1, h⟩ := oi h
    refine m_ild fx (Nat.le_of_ble_eq_true rfl) (cfM_5 g ad) q1 dX4_commonOf_13 ?_
    refine z_icmp_ge (tgt := 82) fx dX4_commonOf_14 (by decide) (fun q2 => ?_) (fun q2 => ?_)
    · rw [if_pos q2] at h
      refine z_iload_n fx dX4_commonOf_82 rfl ?_
      cases h
      exact z_iret fx hr dX4_commonOf_83
    · rw [if_neg q2] at h
      refine z_iconst (v := 0) fx dX4_commonOf_17 rfl ?_
      refine z_istore fx dX4_commonOf_18 (by decide) rfl ?_
      exact z_lv2 (w_X4_commonOf_20 fx hR hr ih fu a1 a2 a3 a4 0 h) rfl
set_option maxRecDepth 100000 in
set_option maxHeartbeats 4000000 in
theorem c_X4_commonOf (l : Launch) (D : va_G) (ad : Nat → Nat) (g : Nat → ClassId) (a1 : Int32) (a2 : Int32) (I : zMi) (J : zMl) {r : Int32} (h : f_X4_commonOf a1 a2 I = some r) : zCM (mw D ad g) l yX4_commonOf cX4_commonOf 7 (some .int) rmX4_commonOf [.ref (ad (0)), .int a1, .int a2] I J (some (.int r)) I J := by
  refine zCM.of (by decide) (Nat.le_of_ble_eq_true rfl) (fun E hl hR fx hr => ?_)
  subst hl
  rw [f_X4_commonOf] at h
  refine z_bipush (v := (-9)) fx dX4_commonOf_0 rfl ?_
  refine z_istore_n fx dX4_commonOf_2 (by decide) rfl ?_
  refine z_iconst (v := 0) fx dX4_commonOf_3 rfl ?_
  refine z_istore fx dX4_commonOf_4 (by decide) rfl ?_
  exact z_lv2 (w_X4_commonOf_6 fx hR hr fu a1 a2 (-9) 0 h) rfl
set_option maxRecDepth 100000 in
set_option maxHeartbeats 4000000 in
theorem w_X4_isEven_28 {E : zE} {D : va_G} {ad : Nat → Nat} {g : Nat → ClassId} (fx : zFX E (mw D ad g) cX4_isEven RX4 4 (some .boolean)) (hR : zR E = rmX4_isEven) {r : Int32} {I : zMi} {J : zMl} (hr : zRX E (mw D ad g) (some (.int r)) I J) : ∀ (fuel : Nat) (a1 : Int32) (a2 : Int32) (a3 : Int32), f_X4_isEven_28 I fuel a1 a2 a3 = some r → narrow .boolean (.int a2) = .int a2 → zAt E (mw D ad g) 28 [(0, .ref (ad (0))), (1, .int a1), (2, .int a2), (3, .int a3)] [] I J := by
  intro fuel
  induction fuel with
  | zero => intro a1 a2 a3 h z2; rw [f_X4_isEven_28] at h; cases h
  | succ f ih =>
    intro a1 a2 a3 h z2
    rw [f_X4_isEven_28] at h
    refine z_iload_n fx dX4_isEven_28 rfl ?_
    refine z_aload_n fx dX4_isEven_29 rfl ?_
    refine gM_wide fx wf_X4_26 dX4_isEven_30 ?_
    refine z_iload_n fx dX4_isEven_33 rfl ?_
    obtain ⟨q1, h⟩ := oi h
    refine m_ild fx (Nat.le_of_ble_eq_true rfl) (cfM_5 g ad) q1 dX4_isEven_34 ?_
    refine z_icmp_ge (tgt := 69) fx dX4_isEven_35 (by decide) (fun q2 => ?_) (fun q2 => ?_)
    · rw [if_pos q2] at h
      refine z_iload_n fx dX4_isEven_69 rfl ?_
      cases h
      exact z_zret fx z2 hr dX4_isEven_70
    · rw [if_neg q2] at h
      refine z_iload_n fx dX4_isEven_38 rfl ?_
      refine z_if_eq (tgt := 61) fx dX4_isEven_39 (by decide) (fun q3 => ?_) (fun q3 => ?_)
      · rw [if_pos q3] at h
        refine z_iconst (v := 0) fx dX4_isEven_61 rfl ?_
        refine z_istore_n fx dX4_isEven_62 (by decide) rfl ?_
        refine z_iinc (v := (a3 + 1)) fx dX4_isEven_63 rfl rfl (by decide) rfl ?_
        refine z_goto (tgt := 28) fx dX4_isEven_66 (by decide) ?_
        exact z_lv2 (ih a1 0 (a3 + 1) h rfl) rfl
      · rw [if_neg q3] at h
        refine z_aload_n fx dX4_isEven_42 rfl ?_
        refine z_iload_n fx dX4_isEven_43 rfl ?_
        refine z_iload_n fx dX4_isEven_44 rfl ?_
        obtain ⟨x4, ex4, h⟩ := ob h
        refine zVi (k := 0) (rest := []) fx hR (c_X4_neighbours (zl E) D ad g a1 a3 I J ex4) rcM mvX4_neighbours wm_X4_115 dX4_isEven_45 rfl ⟨rfl, rfl⟩ rfl rfl rfl ?_
        refine z_aload_n fx dX4_isEven_48 rfl ?_
        refine z_iload_n fx dX4_isEven_49 rfl ?_
        refine z_iconst (v := 0) fx dX4_isEven_50 rfl ?_
        obtain ⟨x5, ex5, h⟩ := ob h
        refine zVi (k := 0) (rest := [.int x4]) fx hR (c_X4_neighbours (zl E) D ad g a1 0 I J ex5) rcM mvX4_neighbours wm_X4_115 dX4_isEven_51 rfl ⟨rfl, rfl⟩ rfl rfl rfl ?_
        refine z_icmp_ne (tgt := 61) fx dX4_isEven_54 (by decide) (fun q6 => ?_) (fun q6 => ?_)
        · rw [if_neg q6] at h
          refine z_iconst (v := 0) fx dX4_isEven_61 rfl ?_
          refine z_istore_n fx dX4_isEven_62 (by decide) rfl ?_
          refine z_iinc (v := (a3 + 1)) fx dX4_isEven_63 rfl rfl (by decide) rfl ?_
          refine z_goto (tgt := 28) fx dX4_isEven_66 (by decide) ?_
          exact z_lv2 (ih a1 0 (a3 + 1) h rfl) rfl
        · rw [if_pos q6] at h
          refine z_iconst (v := 1) fx dX4_isEven_57 rfl ?_
          refine z_goto (tgt := 62) fx dX4_isEven_58 (by decide) ?_
          refine z_istore_n fx dX4_isEven_62 (by decide) rfl ?_
          refine z_iinc (v := (a3 + 1)) fx dX4_isEven_63 rfl rfl (by decide) rfl ?_
          refine z_goto (tgt := 28) fx dX4_isEven_66 (by decide) ?_
          exact z_lv2 (ih a1 1 (a3 + 1) h rfl) rfl
set_option maxRecDepth 100000 in
set_option maxHeartbeats 4000000 in
theorem c_X4_isEven (l : Launch) (D : va_G) (ad : Nat → Nat) (g : Nat → ClassId) (a1 : Int32) (I : zMi) (J : zMl) {r : Int32} (h : f_X4_isEven a1 I = some r) : zCM (mw D ad g) l yX4_isEven cX4_isEven 4 (some .boolean) rmX4_isEven [.ref (ad (0)), .int a1] I J (some (.int r)) I J := by
  refine zCM.of (by decide) (Nat.le_of_ble_eq_true rfl) (fun E hl hR fx hr => ?_)
  subst hl
  rw [f_X4_isEven] at h
  refine z_aload_n fx dX4_isEven_0 rfl ?_
  refine z_iload_n fx dX4_isEven_1 rfl ?_
  refine z_iconst (v := (-1)) fx dX4_isEven_2 rfl ?_
  obtain ⟨x1, ex1, h⟩ := ob h
  refine zVi (k := 0) (rest := []) fx hR (c_X4_commonOf (zl E) D ad g a1 (-1) I J ex1) rcM mvX4_commonOf wm_X4_112 dX4_isEven_3 rfl ⟨rfl, rfl⟩ rfl rfl rfl ?_
  refine z_iconst (v := (-1)) fx dX4_isEven_6 rfl ?_
  refine z_icmp_eq (tgt := 24) fx dX4_isEven_7 (by decide) (fun q2 => ?_) (fun q2 => ?_)
  · rw [if_pos q2] at h
    refine z_iconst (v := 0) fx dX4_isEven_24 rfl ?_
    refine z_istore_n fx dX4_isEven_25 (by decide) rfl ?_
    refine z_iconst (v := 1) fx dX4_isEven_26 rfl ?_
    refine z_istore_n fx dX4_isEven_27 (by decide) rfl ?_
    exact z_lv2 (w_X4_isEven_28 fx hR hr fu a1 0 1 h rfl) rfl
  · rw [if_neg q2] at h
    refine z_aload_n fx dX4_isEven_10 rfl ?_
    refine z_iload_n fx dX4_isEven_11 rfl ?_
    refine z_iconst (v := 1) fx dX4_isEven_12 rfl ?_
    obtain ⟨x3, ex3, h⟩ := ob h
    refine zVi (k := 0) (rest := []) fx hR (c_X4_commonOf (zl E) D ad g a1 1 I J ex3) rcM mvX4_commonOf wm_X4_112 dX4_isEven_13 rfl ⟨rfl, rfl⟩ rfl rfl rfl ?_
    refine z_iconst (v := (-1)) fx dX4_isEven_16 rfl ?_
    refine z_icmp_eq (tgt := 24) fx dX4_isEven_17 (by decide) (fun q4 => ?_) (fun q4 => ?_)
    · rw [if_pos q4] at h
      refine z_iconst (v := 0) fx dX4_isEven_24 rfl ?_
      refine z_istore_n fx dX4_isEven_25 (by decide) rfl ?_
      refine z_iconst (v := 1) fx dX4_isEven_26 rfl ?_
      refine z_istore_n fx dX4_isEven_27 (by decide) rfl ?_
      exact z_lv2 (w_X4_isEven_28 fx hR hr fu a1 0 1 h rfl) rfl
    · rw [if_neg q4] at h
      refine z_iconst (v := 1) fx dX4_isEven_20 rfl ?_
      refine z_goto (tgt := 25) fx dX4_isEven_21 (by decide) ?_
      refine z_istore_n fx dX4_isEven_25 (by decide) rfl ?_
      refine z_iconst (v := 1) fx dX4_isEven_26 rfl ?_
      refine z_istore_n fx dX4_isEven_27 (by decide) rfl ?_
      exact z_lv2 (w_X4_isEven_28 fx hR hr fu a1 1 1 h rfl) rfl
set_option maxRecDepth 100000 in
set_option maxHeartbeats 4000000 in
theorem w_X4_setKind_52 {E : zE} {D : va_G} {ad : Nat → Nat} {g : Nat → ClassId} (fx : zFX E (mw D ad g) cX4_setKind RX4 3 (some .int)) (hR : zR E = rmX4_setKind) {r : Int32 × zMi} {J : zMl} (hr : zRX E (mw D ad g) (some (.int r.1)) r.2 J) : ∀ (a1 : Int32) (I : zMi) , f_X4_setKind_52 a1 I = some r → zAt E (mw D ad g) 52 [(0, .ref (ad (0))), (1, .int a1)] [] I J := by
  intro a1 I h
  rw [f_X4_setKind_52] at h
  refine z_aload_n fx dX4_setKind_52 rfl ?_
  refine z_iload_n fx dX4_setKind_53 rfl ?_
  obtain ⟨x1, ex1, h⟩ := ob h
  refine zVi (k := 0) (rest := []) fx hR (c_X4_isGraph (zl E) D ad g a1 I J ex1) rcM mvX4_isGraph wm_X4_127 dX4_setKind_54 rfl ⟨rfl, rfl⟩ rfl rfl rfl ?_
  refine z_if_eq (tgt := 82) fx dX4_setKind_57 (by decide) (fun q2 => ?_) (fun q2 => ?_)
  · rw [if_pos q2] at h
    refine z_aload_n fx dX4_setKind_82 rfl ?_
    refine gM_kinds fx wf_X4_32 dX4_setKind_83 ?_
    refine z_iload_n fx dX4_setKind_86 rfl ?_
    refine z_iconst (v := 0) fx dX4_setKind_87 rfl ?_
    obtain ⟨q3, h⟩ := oi h
    refine m_ist fx (Nat.le_of_ble_eq_true rfl) (cfM_7 g ad) q3 dX4_setKind_88 ?_
    refine z_aload_n fx dX4_setKind_89 rfl ?_
    refine gM_kinds fx wf_X4_32 dX4_setKind_90 ?_
    refine z_iload_n fx dX4_setKind_93 rfl ?_
    refine m_ild fx (Nat.le_of_ble_eq_true rfl) (cfM_7 g ad) q3 dX4_setKind_94 ?_
    cases h
    exact z_iret fx hr dX4_setKind_95
  · rw [if_neg q2] at h
    refine z_aload_n fx dX4_setKind_60 rfl ?_
    refine gM_kinds fx wf_X4_32 dX4_setKind_61 ?_
    refine z_iload_n fx dX4_setKind_64 rfl ?_
    refine z_aload_n fx dX4_setKind_65 rfl ?_
    refine z_iload_n fx dX4_setKind_66 rfl ?_
    obtain ⟨x4, ex4, h⟩ := ob h
    refine zVi (k := 0) (rest := [.int a1, .ref (ad (7))]) fx hR (c_X4_isEven (zl E) D ad g a1 I J ex4) rcM mvX4_isEven wm_X4_130 dX4_setKind_67 rfl ⟨rfl, rfl⟩ rfl rfl rfl ?_
    refine z_if_eq (tgt := 77) fx dX4_setKind_70 (by decide) (fun q5 => ?_) (fun q5 => ?_)
    · rw [if_pos q5] at h
      refine z_iconst (v := 3) fx dX4_setKind_77 rfl ?_
      obtain ⟨q6, h⟩ := oi h
      refine m_ist fx (Nat.le_of_ble_eq_true rfl) (cfM_7 g ad) q6 dX4_setKind_78 ?_
      refine z_goto (tgt := 89) fx dX4_setKind_79 (by decide) ?_
      refine z_aload_n fx dX4_setKind_89 rfl ?_
      refine gM_kinds fx wf_X4_32 dX4_setKind_90 ?_
      refine z_iload_n fx dX4_setKind_93 rfl ?_
      refine m_ild fx (Nat.le_of_ble_eq_true rfl) (cfM_7 g ad) q6 dX4_setKind_94 ?_
      cases h
      exact z_iret fx hr dX4_setKind_95
    · rw [if_neg q5] at h
      refine z_iconst (v := 4) fx dX4_setKind_73 rfl ?_
      refine z_goto (tgt := 78) fx dX4_setKind_74 (by decide) ?_
      obtain ⟨q7, h⟩ := oi h
      refine m_ist fx (Nat.le_of_ble_eq_true rfl) (cfM_7 g ad) q7 dX4_setKind_78 ?_
      refine z_goto (tgt := 89) fx dX4_setKind_79 (by decide) ?_
      refine z_aload_n fx dX4_setKind_89 rfl ?_
      refine gM_kinds fx wf_X4_32 dX4_setKind_90 ?_
      refine z_iload_n fx dX4_setKind_93 rfl ?_
      refine m_ild fx (Nat.le_of_ble_eq_true rfl) (cfM_7 g ad) q7 dX4_setKind_94 ?_
      cases h
      exact z_iret fx hr dX4_setKind_95
set_option maxRecDepth 100000 in
set_option maxHeartbeats 4000000 in
theorem c_X4_setKind (l : Launch) (D : va_G) (ad : Nat → Nat) (g : Nat → ClassId) (a1 : Int32) (I : zMi) (J : zMl) {r : Int32 × zMi} (h : f_X4_setKind a1 I = some r) : zCM (mw D ad g) l yX4_setKind cX4_setKind 3 (some .int) rmX4_setKind [.ref (ad (0)), .int a1] I J (some (.int r.1)) r.2 J := by
  refine zCM.of (by decide) (Nat.le_of_ble_eq_true rfl) (fun E hl hR fx hr => ?_)
  subst hl
  rw [f_X4_setKind] at h
  refine z_aload_n fx dX4_setKind_0 rfl ?_
  refine gM_wide fx wf_X4_26 dX4_setKind_1 ?_
  refine z_iload_n fx dX4_setKind_4 rfl ?_
  obtain ⟨q1, h⟩ := oi h
  refine m_ild fx (Nat.le_of_ble_eq_true rfl) (cfM_5 g ad) q1 dX4_setKind_5 ?_
  refine z_istore_n fx dX4_setKind_6 (by decide) rfl ?_
  refine z_aload_n fx dX4_setKind_7 rfl ?_
  refine z_iload_n fx dX4_setKind_8 rfl ?_
  obtain ⟨x2, ex2, h⟩ := ob h
  refine zVi (k := 0) (rest := []) fx hR (c_X4_hasZero (zl E) D ad g a1 I J ex2) rcM mvX4_hasZero wm_X4_118 dX4_setKind_9 rfl ⟨rfl, rfl⟩ rfl rfl rfl ?_
  refine z_if_ne (tgt := 52) fx dX4_setKind_12 (by decide) (fun q3 => ?_) (fun q3 => ?_)
  · rw [if_neg q3] at h
    exact z_lv2 (w_X4_setKind_52 fx hR hr a1 I h) rfl
  · rw [if_pos q3] at h
    refine z_iconst (v := 2) fx dX4_setKind_15 rfl ?_
    refine z_aload_n fx dX4_setKind_16 rfl ?_
    refine z_iload_n fx dX4_setKind_17 rfl ?_
    obtain ⟨x4, ex4, h⟩ := ob h
    refine zVi (k := 0) (rest := [.int 2]) fx hR (c_X4_pairsThatBalance (zl E) D ad g a1 I J ex4) rcM mvX4_pairsThatBalance wm_X4_121 dX4_setKind_18 rfl ⟨rfl, rfl⟩ rfl rfl rfl ?_
    refine z_imul fx dX4_setKind_21 ?_
    refine z_iload_n fx dX4_setKind_22 rfl ?_
    refine z_iload_n fx dX4_setKind_23 rfl ?_
    refine z_iconst (v := 1) fx dX4_setKind_24 rfl ?_
    refine z_isub fx dX4_setKind_25 ?_
    refine z_imul fx dX4_setKind_26 ?_
    refine z_icmp_ne (tgt := 52) fx dX4_setKind_27 (by decide) (fun q5 => ?_) (fun q5 => ?_)
    · rw [if_neg q5] at h
      exact z_lv2 (w_X4_setKind_52 fx hR hr a1 I h) rfl
    · rw [if_pos q5] at h
      refine z_aload_n fx dX4_setKind_30 rfl ?_
      refine gM_kinds fx wf_X4_32 dX4_setKind_31 ?_
      refine z_iload_n fx dX4_setKind_34 rfl ?_
      refine z_aload_n fx dX4_setKind_35 rfl ?_
      refine z_iload_n fx dX4_setKind_36 rfl ?_
      obtain ⟨x6, ex6, h⟩ := ob h
      refine zVi (k := 0) (rest := [.int a1, .ref (ad (7))]) fx hR (c_X4_isRound (zl E) D ad g a1 I J ex6) rcM mvX4_isRound wm_X4_124 dX4_setKind_37 rfl ⟨rfl, rfl⟩ rfl rfl rfl ?_
      refine z_if_eq (tgt := 47) fx dX4_setKind_40 (by decide) (fun q7 => ?_) (fun q7 => ?_)
      · rw [if_pos q7] at h
        refine z_iconst (v := 1) fx dX4_setKind_47 rfl ?_
        refine m_ist fx (Nat.le_of_ble_eq_true rfl) (cfM_7 g ad) q1 dX4_setKind_48 ?_
        refine z_goto (tgt := 89) fx dX4_setKind_49 (by decide) ?_
        refine z_aload_n fx dX4_setKind_89 rfl ?_
        refine gM_kinds fx wf_X4_32 dX4_setKind_90 ?_
        refine z_iload_n fx dX4_setKind_93 rfl ?_
        refine m_ild fx (Nat.le_of_ble_eq_true rfl) (cfM_7 g ad) q1 dX4_setKind_94 ?_
        cases h
        exact z_iret fx hr dX4_setKind_95
      · rw [if_neg q7] at h
        refine z_iconst (v := 2) fx dX4_setKind_43 rfl ?_
        refine z_goto (tgt := 48) fx dX4_setKind_44 (by decide) ?_
        refine m_ist fx (Nat.le_of_ble_eq_true rfl) (cfM_7 g ad) q1 dX4_setKind_48 ?_
        refine z_goto (tgt := 89) fx dX4_setKind_49 (by decide) ?_
        refine z_aload_n fx dX4_setKind_89 rfl ?_
        refine gM_kinds fx wf_X4_32 dX4_setKind_90 ?_
        refine z_iload_n fx dX4_setKind_93 rfl ?_
        refine m_ild fx (Nat.le_of_ble_eq_true rfl) (cfM_7 g ad) q1 dX4_setKind_94 ?_
        cases h
        exact z_iret fx hr dX4_setKind_95
set_option maxRecDepth 100000 in
set_option maxHeartbeats 4000000 in
theorem c_X4_is (l : Launch) (D : va_G) (ad : Nat → Nat) (g : Nat → ClassId) (a1 : Int32) (a2 : Int32) (I : zMi) (J : zMl) {r : Int32} (h : f_X4_is a1 a2 I = some r) : zCM (mw D ad g) l yX4_is cX4_is 3 (some .boolean) rmX4_is [.ref (ad (0)), .int a1, .int a2] I J (some (.int r)) I J := by
  refine zCM.of (by decide) (Nat.le_of_ble_eq_true rfl) (fun E hl hR fx hr => ?_)
  subst hl
  rw [f_X4_is] at h
  refine z_aload_n fx dX4_is_0 rfl ?_
  refine gM_kinds fx wf_X4_32 dX4_is_1 ?_
  refine z_iload_n fx dX4_is_4 rfl ?_
  obtain ⟨q1, h⟩ := oi h
  refine m_ild fx (Nat.le_of_ble_eq_true rfl) (cfM_7 g ad) q1 dX4_is_5 ?_
  refine z_iload_n fx dX4_is_6 rfl ?_
  refine z_icmp_eq (tgt := 40) fx dX4_is_7 (by decide) (fun q2 => ?_) (fun q2 => ?_)
  · rw [if_pos q2] at h
    refine z_iconst (v := 1) fx dX4_is_40 rfl ?_
    refine z_goto (tgt := 45) fx dX4_is_41 (by decide) ?_
    cases h
    exact z_zret fx rfl hr dX4_is_45
  · rw [if_neg q2] at h
    refine z_iload_n fx dX4_is_10 rfl ?_
    refine z_iconst (v := 1) fx dX4_is_11 rfl ?_
    refine z_icmp_ne (tgt := 25) fx dX4_is_12 (by decide) (fun q3 => ?_) (fun q3 => ?_)
    · rw [if_neg q3] at h
      refine z_iload_n fx dX4_is_25 rfl ?_
      refine z_iconst (v := 3) fx dX4_is_26 rfl ?_
      refine z_icmp_ne (tgt := 44) fx dX4_is_27 (by decide) (fun q4 => ?_) (fun q4 => ?_)
      · rw [if_neg q4] at h
        refine z_iconst (v := 0) fx dX4_is_44 rfl ?_
        cases h
        exact z_zret fx rfl hr dX4_is_45
      · rw [if_pos q4] at h
        refine z_aload_n fx dX4_is_30 rfl ?_
        refine gM_kinds fx wf_X4_32 dX4_is_31 ?_
        refine z_iload_n fx dX4_is_34 rfl ?_
        refine m_ild fx (Nat.le_of_ble_eq_true rfl) (cfM_7 g ad) q1 dX4_is_35 ?_
        refine z_iconst (v := 4) fx dX4_is_36 rfl ?_
        refine z_icmp_ne (tgt := 44) fx dX4_is_37 (by decide) (fun q5 => ?_) (fun q5 => ?_)
        · rw [if_neg q5] at h
          refine z_iconst (v := 0) fx dX4_is_44 rfl ?_
          cases h
          exact z_zret fx rfl hr dX4_is_45
        · rw [if_pos q5] at h
          refine z_iconst (v := 1) fx dX4_is_40 rfl ?_
          refine z_goto (tgt := 45) fx dX4_is_41 (by decide) ?_
          cases h
          exact z_zret fx rfl hr dX4_is_45
    · rw [if_pos q3] at h
      refine z_aload_n fx dX4_is_15 rfl ?_
      refine gM_kinds fx wf_X4_32 dX4_is_16 ?_
      refine z_iload_n fx dX4_is_19 rfl ?_
      refine m_ild fx (Nat.le_of_ble_eq_true rfl) (cfM_7 g ad) q1 dX4_is_20 ?_
      refine z_iconst (v := 2) fx dX4_is_21 rfl ?_
      refine z_icmp_eq (tgt := 40) fx dX4_is_22 (by decide) (fun q6 => ?_) (fun q6 => ?_)
      · rw [if_pos q6] at h
        refine z_iconst (v := 1) fx dX4_is_40 rfl ?_
        refine z_goto (tgt := 45) fx dX4_is_41 (by decide) ?_
        cases h
        exact z_zret fx rfl hr dX4_is_45
      · rw [if_neg q6] at h
        refine z_iload_n fx dX4_is_25 rfl ?_
        refine z_iconst (v := 3) fx dX4_is_26 rfl ?_
        refine z_icmp_ne (tgt := 44) fx dX4_is_27 (by decide) (fun q7 => ?_) (fun q7 => ?_)
        · rw [if_neg q7] at h
          refine z_iconst (v := 0) fx dX4_is_44 rfl ?_
          cases h
          exact z_zret fx rfl hr dX4_is_45
        · rw [if_pos q7] at h
          refine z_aload_n fx dX4_is_30 rfl ?_
          refine gM_kinds fx wf_X4_32 dX4_is_31 ?_
          refine z_iload_n fx dX4_is_34 rfl ?_
          refine m_ild fx (Nat.le_of_ble_eq_true rfl) (cfM_7 g ad) q1 dX4_is_35 ?_
          refine z_iconst (v := 4) fx dX4_is_36 rfl ?_
          refine z_icmp_ne (tgt := 44) fx dX4_is_37 (by decide) (fun q8 => ?_) (fun q8 => ?_)
          · rw [if_neg q8] at h
            refine z_iconst (v := 0) fx dX4_is_44 rfl ?_
            cases h
            exact z_zret fx rfl hr dX4_is_45
          · rw [if_pos q8] at h
            refine z_iconst (v := 1) fx dX4_is_40 rfl ?_
            refine z_goto (tgt := 45) fx dX4_is_41 (by decide) ?_
            cases h
            exact z_zret fx rfl hr dX4_is_45
set_option maxRecDepth 100000 in
set_option maxHeartbeats 4000000 in
theorem w_X4_table_36 {E : zE} {D : va_G} {ad : Nat → Nat} {g : Nat → ClassId} (fx : zFX E (mw D ad g) cX4_table RX4 5 (some .int)) (hR : zR E = rmX4_table) {r : Int32 × zMi} {J : zMl} (hr : zRX E (mw D ad g) (some (.int r.1)) r.2 J) {k28 : Int32 → Int32 → Int32 → zMi → Option (Int32 × zMi)} (hk28 : ∀ (a1 : Int32) (a2 : Int32) (a3 : Int32) (I : zMi) , k28 a1 a2 a3 I = some r → zAt E (mw D ad g) 28 [(0, .ref (ad (0))), (1, .int a1), (2, .int a2), (3, .int a3)] [] I J) : ∀ (fuel : Nat) (a1 : Int32) (a2 : Int32) (a3 : Int32) (a4 : Int32) (I : zMi) , f_X4_table_36 k28 fuel a1 a2 a3 a4 I = some r → zAt E (mw D ad g) 36 [(0, .ref (ad (0))), (1, .int a1), (2, .int a2), (3, .int a3), (4, .int a4)] [] I J := by
  intro fuel
  induction fuel with
  | zero => intro a1 a2 a3 a4 I h; rw [f_X4_table_36] at h; cases h
  | succ f ih =>
    intro a1 a2 a3 a4 I h
    rw [f_X4_table_36] at h
    refine z_iload fx dX4_table_36 rfl ?_
    refine z_iload_n fx dX4_table_38 rfl ?_
    refine z_icmp_ge (tgt := 57) fx dX4_table_39 (by decide) (fun q1 => ?_) (fun q1 => ?_)
    · rw [if_pos q1] at h
      refine z_iinc (v := (a3 + 1)) fx dX4_table_57 rfl rfl (by decide) rfl ?_
      refine z_goto (tgt := 28) fx dX4_table_60 (by decide) ?_
      exact z_lv2 (hk28 a1 a2 (a3 + 1) I h) rfl
    · rw [if_neg q1] at h
      refine z_aload_n fx dX4_table_42 rfl ?_
      refine z_iload_n fx dX4_table_43 rfl ?_
      refine z_iload_n fx dX4_table_44 rfl ?_
      refine z_iload fx dX4_table_45 rfl ?_
      refine z_iconst (v := 1) fx dX4_table_47 rfl ?_
      obtain ⟨x2, ex2, h⟩ := ob h
      refine zVv (k := 0) (rest := []) fx hR (c_X4_let (zl E) D ad g a1 a3 a4 1 I J ex2) rcM mvX4_let wm_X4_133 dX4_table_48 rfl ⟨rfl, rfl⟩ rfl rfl rfl ?_
      refine z_iinc (v := (a4 + 1)) fx dX4_table_51 rfl rfl (by decide) rfl ?_
      refine z_goto (tgt := 36) fx dX4_table_54 (by decide) ?_
      exact z_lv2 (ih a1 a2 a3 (a4 + 1) x2 h) rfl
set_option maxRecDepth 100000 in
set_option maxHeartbeats 4000000 in
theorem w_X4_table_28 {E : zE} {D : va_G} {ad : Nat → Nat} {g : Nat → ClassId} (fx : zFX E (mw D ad g) cX4_table RX4 5 (some .int)) (hR : zR E = rmX4_table) {r : Int32 × zMi} {J : zMl} (hr : zRX E (mw D ad g) (some (.int r.1)) r.2 J) : ∀ (fuel : Nat) (a1 : Int32) (a2 : Int32) (a3 : Int32) (I : zMi) , f_X4_table_28 fuel a1 a2 a3 I = some r → zAt E (mw D ad g) 28 [(0, .ref (ad (0))), (1, .int a1), (2, .int a2), (3, .int a3)] [] I J := by
  intro fuel
  induction fuel with
  | zero => intro a1 a2 a3 I h; rw [f_X4_table_28] at h; cases h
  | succ f ih =>
    intro a1 a2 a3 I h
    rw [f_X4_table_28] at h
    refine z_iload_n fx dX4_table_28 rfl ?_
    refine z_iload_n fx dX4_table_29 rfl ?_
    refine z_icmp_ge (tgt := 63) fx dX4_table_30 (by decide) (fun q1 => ?_) (fun q1 => ?_)
    · rw [if_pos q1] at h
      refine z_aload_n fx dX4_table_63 rfl ?_
      refine z_iload_n fx dX4_table_64 rfl ?_
      obtain ⟨x2, ex2, h⟩ := ob h
      refine zVi (k := 0) (rest := []) fx hR (c_X4_setKind (zl E) D ad g a1 I J ex2) rcM mvX4_setKind wm_X4_137 dX4_table_65 rfl ⟨rfl, rfl⟩ rfl rfl rfl ?_
      cases h
      exact z_iret fx hr dX4_table_68
    · rw [if_neg q1] at h
      refine z_iconst (v := 0) fx dX4_table_33 rfl ?_
      refine z_istore fx dX4_table_34 (by decide) rfl ?_
      exact z_lv2 (w_X4_table_36 fx hR hr ih fu a1 a2 a3 0 I h) rfl
set_option maxRecDepth 100000 in
set_option maxHeartbeats 4000000 in
theorem c_X4_table (l : Launch) (D : va_G) (ad : Nat → Nat) (g : Nat → ClassId) (a1 : Int32) (a2 : Int32) (I : zMi) (J : zMl) {r : Int32 × zMi} (h : f_X4_table a1 a2 I = some r) : zCM (mw D ad g) l yX4_table cX4_table 5 (some .int) rmX4_table [.ref (ad (0)), .int a1, .int a2] I J (some (.int r.1)) r.2 J := by
  refine zCM.of (by decide) (Nat.le_of_ble_eq_true rfl) (fun E hl hR fx hr => ?_)
  subst hl
  rw [f_X4_table] at h
  refine z_iload_n fx dX4_table_0 rfl ?_
  refine zSi (rest := []) fx hR (c_X4_isTable (zl E) D ad g a1 I J rfl) mvX4_isTable wm_X4_99 dX4_table_1 rfl ⟨rfl, rfl⟩ rfl rfl rfl ?_
  refine z_if_eq (tgt := 17) fx dX4_table_4 (by decide) (fun q1 => ?_) (fun q1 => ?_)
  · rw [if_pos q1] at h
    refine z_iconst (v := (-1)) fx dX4_table_17 rfl ?_
    cases h
    exact z_iret fx hr dX4_table_18
  · rw [if_neg q1] at h
    refine z_iload_n fx dX4_table_7 rfl ?_
    refine z_iconst (v := 1) fx dX4_table_8 rfl ?_
    refine z_bipush (v := 12) fx dX4_table_9 rfl ?_
    refine zSi (rest := []) fx hR (c_X4_in (zl E) D ad g a2 1 12 I J rfl) mvX4_in wm_X4_73 dX4_table_11 rfl ⟨rfl, rfl⟩ rfl rfl rfl ?_
    refine z_if_ne (tgt := 19) fx dX4_table_14 (by decide) (fun q2 => ?_) (fun q2 => ?_)
    · rw [if_neg q2] at h
      refine z_aload_n fx dX4_table_19 rfl ?_
      refine gM_wide fx wf_X4_26 dX4_table_20 ?_
      refine z_iload_n fx dX4_table_23 rfl ?_
      refine z_iload_n fx dX4_table_24 rfl ?_
      obtain ⟨q3, h⟩ := oi h
      refine m_ist fx (Nat.le_of_ble_eq_true rfl) (cfM_5 g ad) q3 dX4_table_25 ?_
      refine z_iconst (v := 0) fx dX4_table_26 rfl ?_
      refine z_istore_n fx dX4_table_27 (by decide) rfl ?_
      exact z_lv2 (w_X4_table_28 fx hR hr fu a1 a2 0 (wI I (5) a1.toNatClampNeg a2) h) rfl
    · rw [if_pos q2] at h
      refine z_iconst (v := (-1)) fx dX4_table_17 rfl ?_
      cases h
      exact z_iret fx hr dX4_table_18
set_option maxRecDepth 100000 in
set_option maxHeartbeats 4000000 in
theorem c_X4_isNumber (l : Launch) (D : va_G) (ad : Nat → Nat) (g : Nat → ClassId) (a0 : Int32) (I : zMi) (J : zMl) {r : Int32} (h : f_X4_isNumber a0 = r) : zCM (mw D ad g) l yX4_isNumber cX4_isNumber 1 (some .boolean) rmX4_isNumber [.int a0] I J (some (.int r)) I J := by
  refine zCM.of (by decide) (Nat.le_of_ble_eq_true rfl) (fun E hl hR fx hr => ?_)
  subst hl
  rw [f_X4_isNumber] at h
  refine z_iload_n fx dX4_isNumber_0 rfl ?_
  refine z_iconst (v := (-1)) fx dX4_isNumber_1 rfl ?_
  refine z_iconst (v := 1) fx dX4_isNumber_2 rfl ?_
  refine zSi (rest := []) fx hR (c_X4_in (zl E) D ad g a0 (-1) 1 I J rfl) mvX4_in wm_X4_73 dX4_isNumber_3 rfl ⟨rfl, rfl⟩ rfl rfl rfl ?_
  subst h
  exact z_zret fx (bz_X4_in ) hr dX4_isNumber_6
set_option maxRecDepth 100000 in
set_option maxHeartbeats 4000000 in
theorem w_X4_put_150 {E : zE} {D : va_G} {ad : Nat → Nat} {g : Nat → ClassId} (fx : zFX E (mw D ad g) cX4_put RX4 6 (some .int)) (hR : zR E = rmX4_put) {r : Int32 × zMi} {J : zMl} (hr : zRX E (mw D ad g) (some (.int r.1)) r.2 J) : ∀ (fuel : Nat) (a1 : Int32) (a2 : Int32) (a3 : Int32) (a5 : Int32) (I : zMi) , f_X4_put_150 fuel a1 a2 a3 a5 I = some r → zAt E (mw D ad g) 150 [(0, .ref (ad (0))), (1, .int a1), (2, .int a2), (3, .int a3), (5, .int a5)] [] I J := by
  intro fuel
  induction fuel with
  | zero => intro a1 a2 a3 a5 I h; rw [f_X4_put_150] at h; cases h
  | succ f ih =>
    intro a1 a2 a3 a5 I h
    rw [f_X4_put_150] at h
    refine z_iload fx dX4_put_150 rfl ?_
    refine z_aload_n fx dX4_put_152 rfl ?_
    refine gM_wide fx wf_X4_26 dX4_put_153 ?_
    refine z_iload_n fx dX4_put_156 rfl ?_
    obtain ⟨q1, h⟩ := oi h
    refine m_ild fx (Nat.le_of_ble_eq_true rfl) (cfM_5 g ad) q1 dX4_put_157 ?_
    refine z_icmp_ge (tgt := 187) fx dX4_put_158 (by decide) (fun q2 => ?_) (fun q2 => ?_)
    · rw [if_pos q2] at h
      refine z_aload_n fx dX4_put_187 rfl ?_
      refine z_iload_n fx dX4_put_188 rfl ?_
      obtain ⟨x3, ex3, h⟩ := ob h
      refine zVi (k := 0) (rest := []) fx hR (c_X4_setKind (zl E) D ad g a1 I J ex3) rcM mvX4_setKind wm_X4_137 dX4_put_189 rfl ⟨rfl, rfl⟩ rfl rfl rfl ?_
      cases h
      exact z_iret fx hr dX4_put_192
    · rw [if_neg q2] at h
      refine z_aload_n fx dX4_put_161 rfl ?_
      refine z_iload_n fx dX4_put_162 rfl ?_
      refine z_iload_n fx dX4_put_163 rfl ?_
      refine z_iload fx dX4_put_164 rfl ?_
      refine z_aload_n fx dX4_put_166 rfl ?_
      refine gM_rows fx wf_X4_20 dX4_put_167 ?_
      refine z_bipush (v := 24) fx dX4_put_170 rfl ?_
      refine z_iload_n fx dX4_put_172 rfl ?_
      refine z_imul fx dX4_put_173 ?_
      refine z_iload fx dX4_put_174 rfl ?_
      refine z_iadd fx dX4_put_176 ?_
      obtain ⟨q4, h⟩ := oi h
      refine m_ild fx (Nat.le_of_ble_eq_true rfl) (cfM_3 g ad) q4 dX4_put_177 ?_
      obtain ⟨x5, ex5, h⟩ := ob h
      refine zVv (k := 0) (rest := []) fx hR (c_X4_let (zl E) D ad g a1 a2 a5 (I (3) ((24 * a3) + a5).toNatClampNeg) I J ex5) rcM mvX4_let wm_X4_133 dX4_put_178 rfl ⟨rfl, rfl⟩ rfl rfl rfl ?_
      refine z_iinc (v := (a5 + 1)) fx dX4_put_181 rfl rfl (by decide) rfl ?_
      refine z_goto (tgt := 150) fx dX4_put_184 (by decide) ?_
      exact z_lv2 (ih a1 a2 a3 (a5 + 1) x5 h) rfl
set_option maxRecDepth 100000 in
set_option maxHeartbeats 4000000 in
theorem w_X4_put_89 {E : zE} {D : va_G} {ad : Nat → Nat} {g : Nat → ClassId} (fx : zFX E (mw D ad g) cX4_put RX4 6 (some .int)) (hR : zR E = rmX4_put) {r : Int32 × zMi} {J : zMl} (hr : zRX E (mw D ad g) (some (.int r.1)) r.2 J) : ∀ (fuel : Nat) (a1 : Int32) (a2 : Int32) (a3 : Int32) (a4 : Int32) (a5 : Int32) (I : zMi) , f_X4_put_89 fuel a1 a2 a3 a4 a5 I = some r → zAt E (mw D ad g) 89 [(0, .ref (ad (0))), (1, .int a1), (2, .int a2), (3, .int a3), (4, .int a4), (5, .int a5)] [] I J := by
  intro fuel
  induction fuel with
  | zero => intro a1 a2 a3 a4 a5 I h; rw [f_X4_put_89] at h; cases h
  | succ f ih =>
    intro a1 a2 a3 a4 a5 I h
    rw [f_X4_put_89] at h
    refine z_iload fx dX4_put_89 rfl ?_
    refine z_aload_n fx dX4_put_91 rfl ?_
    refine gM_wide fx wf_X4_26 dX4_put_92 ?_
    refine z_iload_n fx dX4_put_95 rfl ?_
    obtain ⟨q1, h⟩ := oi h
    refine m_ild fx (Nat.le_of_ble_eq_true rfl) (cfM_5 g ad) q1 dX4_put_96 ?_
    refine z_icmp_ge (tgt := 136) fx dX4_put_97 (by decide) (fun q2 => ?_) (fun q2 => ?_)
    · rw [if_pos q2] at h
      refine z_iload fx dX4_put_136 rfl ?_
      refine z_if_ne (tgt := 147) fx dX4_put_138 (by decide) (fun q3 => ?_) (fun q3 => ?_)
      · rw [if_neg q3] at h
        refine z_iconst (v := 0) fx dX4_put_147 rfl ?_
        refine z_istore fx dX4_put_148 (by decide) rfl ?_
        exact z_lv2 (w_X4_put_150 fx hR hr fu a1 a2 a3 0 I h) rfl
      · rw [if_pos q3] at h
        refine z_aload_n fx dX4_put_141 rfl ?_
        refine z_iconst (v := 3) fx dX4_put_142 rfl ?_
        obtain ⟨x4, ex4, h⟩ := ob h
        refine zVi (k := 0) (rest := []) fx hR (c_X4_meets (zl E) D ad g 3 I J ex4) rcM mvX4_meets wm_X4_81 dX4_put_143 rfl ⟨rfl, rfl⟩ rfl rfl rfl ?_
        cases h
        exact z_iret fx hr dX4_put_146
    · rw [if_neg q2] at h
      refine z_iload fx dX4_put_100 rfl ?_
      refine z_if_eq (tgt := 127) fx dX4_put_102 (by decide) (fun q5 => ?_) (fun q5 => ?_)
      · rw [if_pos q5] at h
        refine z_iconst (v := 0) fx dX4_put_127 rfl ?_
        refine z_istore fx dX4_put_128 (by decide) rfl ?_
        refine z_iinc (v := (a5 + 1)) fx dX4_put_130 rfl rfl (by decide) rfl ?_
        refine z_goto (tgt := 89) fx dX4_put_133 (by decide) ?_
        exact z_lv2 (ih a1 a2 a3 0 (a5 + 1) I h) rfl
      · rw [if_neg q5] at h
        refine z_aload_n fx dX4_put_105 rfl ?_
        refine gM_rows fx wf_X4_20 dX4_put_106 ?_
        refine z_bipush (v := 24) fx dX4_put_109 rfl ?_
        refine z_iload_n fx dX4_put_111 rfl ?_
        refine z_imul fx dX4_put_112 ?_
        refine z_iload fx dX4_put_113 rfl ?_
        refine z_iadd fx dX4_put_115 ?_
        obtain ⟨q6, h⟩ := oi h
        refine m_ild fx (Nat.le_of_ble_eq_true rfl) (cfM_3 g ad) q6 dX4_put_116 ?_
        refine zSi (rest := []) fx hR (c_X4_isNumber (zl E) D ad g (I (3) ((24 * a3) + a5).toNatClampNeg) I J rfl) mvX4_isNumber wm_X4_140 dX4_put_117 rfl ⟨rfl, rfl⟩ rfl rfl rfl ?_
        refine z_if_eq (tgt := 127) fx dX4_put_120 (by decide) (fun q7 => ?_) (fun q7 => ?_)
        · rw [if_pos q7] at h
          refine z_iconst (v := 0) fx dX4_put_127 rfl ?_
          refine z_istore fx dX4_put_128 (by decide) rfl ?_
          refine z_iinc (v := (a5 + 1)) fx dX4_put_130 rfl rfl (by decide) rfl ?_
          refine z_goto (tgt := 89) fx dX4_put_133 (by decide) ?_
          exact z_lv2 (ih a1 a2 a3 0 (a5 + 1) I h) rfl
        · rw [if_neg q7] at h
          refine z_iconst (v := 1) fx dX4_put_123 rfl ?_
          refine z_goto (tgt := 128) fx dX4_put_124 (by decide) ?_
          refine z_istore fx dX4_put_128 (by decide) rfl ?_
          refine z_iinc (v := (a5 + 1)) fx dX4_put_130 rfl rfl (by decide) rfl ?_
          refine z_goto (tgt := 89) fx dX4_put_133 (by decide) ?_
          exact z_lv2 (ih a1 a2 a3 1 (a5 + 1) I h) rfl
set_option maxRecDepth 100000 in
set_option maxHeartbeats 4000000 in
theorem c_X4_put (l : Launch) (D : va_G) (ad : Nat → Nat) (g : Nat → ClassId) (a1 : Int32) (a2 : Int32) (a3 : Int32) (I : zMi) (J : zMl) {r : Int32 × zMi} (h : f_X4_put a1 a2 a3 I = some r) : zCM (mw D ad g) l yX4_put cX4_put 6 (some .int) rmX4_put [.ref (ad (0)), .int a1, .int a2, .int a3] I J (some (.int r.1)) r.2 J := by
  refine zCM.of (by decide) (Nat.le_of_ble_eq_true rfl) (fun E hl hR fx hr => ?_)
  subst hl
  rw [f_X4_put] at h
  refine z_iload_n fx dX4_put_0 rfl ?_
  refine zSi (rest := []) fx hR (c_X4_isTable (zl E) D ad g a1 I J rfl) mvX4_isTable wm_X4_99 dX4_put_1 rfl ⟨rfl, rfl⟩ rfl rfl rfl ?_
  refine z_if_eq (tgt := 14) fx dX4_put_4 (by decide) (fun q1 => ?_) (fun q1 => ?_)
  · rw [if_pos q1] at h
    refine z_iconst (v := (-1)) fx dX4_put_14 rfl ?_
    cases h
    exact z_iret fx hr dX4_put_15
  · rw [if_neg q1] at h
    refine z_iload_n fx dX4_put_7 rfl ?_
    refine zSi (rest := []) fx hR (c_X4_isRow (zl E) D ad g a3 I J rfl) mvX4_isRow wm_X4_77 dX4_put_8 rfl ⟨rfl, rfl⟩ rfl rfl rfl ?_
    refine z_if_ne (tgt := 16) fx dX4_put_11 (by decide) (fun q2 => ?_) (fun q2 => ?_)
    · rw [if_neg q2] at h
      refine z_aload_n fx dX4_put_16 rfl ?_
      refine gM_wide fx wf_X4_26 dX4_put_17 ?_
      refine z_iload_n fx dX4_put_20 rfl ?_
      obtain ⟨q3, h⟩ := oi h
      refine m_ild fx (Nat.le_of_ble_eq_true rfl) (cfM_5 g ad) q3 dX4_put_21 ?_
      refine z_if_eq (tgt := 34) fx dX4_put_22 (by decide) (fun q4 => ?_) (fun q4 => ?_)
      · rw [if_pos q4] at h
        refine z_aload_n fx dX4_put_34 rfl ?_
        refine z_iconst (v := 1) fx dX4_put_35 rfl ?_
        obtain ⟨x5, ex5, h⟩ := ob h
        refine zVi (k := 0) (rest := []) fx hR (c_X4_meets (zl E) D ad g 1 I J ex5) rcM mvX4_meets wm_X4_81 dX4_put_36 rfl ⟨rfl, rfl⟩ rfl rfl rfl ?_
        cases h
        exact z_iret fx hr dX4_put_39
      · rw [if_neg q4] at h
        refine z_aload_n fx dX4_put_25 rfl ?_
        refine gM_sizes fx wf_X4_17 dX4_put_26 ?_
        refine z_iload_n fx dX4_put_29 rfl ?_
        obtain ⟨q6, h⟩ := oi h
        refine m_ild fx (Nat.le_of_ble_eq_true rfl) (cfM_2 g ad) q6 dX4_put_30 ?_
        refine z_if_ge (tgt := 40) fx dX4_put_31 (by decide) (fun q7 => ?_) (fun q7 => ?_)
        · rw [if_pos q7] at h
          refine z_iload_n fx dX4_put_40 rfl ?_
          refine z_iconst (v := 0) fx dX4_put_41 rfl ?_
          refine z_aload_n fx dX4_put_42 rfl ?_
          refine gM_wide fx wf_X4_26 dX4_put_43 ?_
          refine z_iload_n fx dX4_put_46 rfl ?_
          refine m_ild fx (Nat.le_of_ble_eq_true rfl) (cfM_5 g ad) q3 dX4_put_47 ?_
          refine z_iconst (v := 1) fx dX4_put_48 rfl ?_
          refine z_isub fx dX4_put_49 ?_
          refine zSi (rest := []) fx hR (c_X4_in (zl E) D ad g a2 0 ((I (5) a1.toNatClampNeg) - 1) I J rfl) mvX4_in wm_X4_73 dX4_put_50 rfl ⟨rfl, rfl⟩ rfl rfl rfl ?_
          refine z_if_ne (tgt := 62) fx dX4_put_53 (by decide) (fun q8 => ?_) (fun q8 => ?_)
          · rw [if_neg q8] at h
            refine z_aload_n fx dX4_put_62 rfl ?_
            refine gM_sizes fx wf_X4_17 dX4_put_63 ?_
            refine z_iload_n fx dX4_put_66 rfl ?_
            refine m_ild fx (Nat.le_of_ble_eq_true rfl) (cfM_2 g ad) q6 dX4_put_67 ?_
            refine z_aload_n fx dX4_put_68 rfl ?_
            refine gM_wide fx wf_X4_26 dX4_put_69 ?_
            refine z_iload_n fx dX4_put_72 rfl ?_
            refine m_ild fx (Nat.le_of_ble_eq_true rfl) (cfM_5 g ad) q3 dX4_put_73 ?_
            refine z_icmp_eq (tgt := 83) fx dX4_put_74 (by decide) (fun q9 => ?_) (fun q9 => ?_)
            · rw [if_pos q9] at h
              refine z_iconst (v := 1) fx dX4_put_83 rfl ?_
              refine z_istore fx dX4_put_84 (by decide) rfl ?_
              refine z_iconst (v := 0) fx dX4_put_86 rfl ?_
              refine z_istore fx dX4_put_87 (by decide) rfl ?_
              exact z_lv2 (w_X4_put_89 fx hR hr fu a1 a2 a3 1 0 I h) rfl
            · rw [if_neg q9] at h
              refine z_aload_n fx dX4_put_77 rfl ?_
              refine z_iconst (v := 5) fx dX4_put_78 rfl ?_
              obtain ⟨x10, ex10, h⟩ := ob h
              refine zVi (k := 0) (rest := []) fx hR (c_X4_meets (zl E) D ad g 5 I J ex10) rcM mvX4_meets wm_X4_81 dX4_put_79 rfl ⟨rfl, rfl⟩ rfl rfl rfl ?_
              cases h
              exact z_iret fx hr dX4_put_82
          · rw [if_pos q8] at h
            refine z_aload_n fx dX4_put_56 rfl ?_
            refine z_iconst (v := 2) fx dX4_put_57 rfl ?_
            obtain ⟨x11, ex11, h⟩ := ob h
            refine zVi (k := 0) (rest := []) fx hR (c_X4_meets (zl E) D ad g 2 I J ex11) rcM mvX4_meets wm_X4_81 dX4_put_58 rfl ⟨rfl, rfl⟩ rfl rfl rfl ?_
            cases h
            exact z_iret fx hr dX4_put_61
        · rw [if_neg q7] at h
          refine z_aload_n fx dX4_put_34 rfl ?_
          refine z_iconst (v := 1) fx dX4_put_35 rfl ?_
          obtain ⟨x12, ex12, h⟩ := ob h
          refine zVi (k := 0) (rest := []) fx hR (c_X4_meets (zl E) D ad g 1 I J ex12) rcM mvX4_meets wm_X4_81 dX4_put_36 rfl ⟨rfl, rfl⟩ rfl rfl rfl ?_
          cases h
          exact z_iret fx hr dX4_put_39
    · rw [if_pos q2] at h
      refine z_iconst (v := (-1)) fx dX4_put_14 rfl ?_
      cases h
      exact z_iret fx hr dX4_put_15
set_option maxRecDepth 100000 in
set_option maxHeartbeats 4000000 in
theorem c_X4_isPlace (l : Launch) (D : va_G) (ad : Nat → Nat) (g : Nat → ClassId) (a1 : Int32) (a2 : Int32) (a3 : Int32) (I : zMi) (J : zMl) {r : Int32} (h : f_X4_isPlace a1 a2 a3 I = some r) : zCM (mw D ad g) l yX4_isPlace cX4_isPlace 4 (some .boolean) rmX4_isPlace [.ref (ad (0)), .int a1, .int a2, .int a3] I J (some (.int r)) I J := by
  refine zCM.of (by decide) (Nat.le_of_ble_eq_true rfl) (fun E hl hR fx hr => ?_)
  subst hl
  rw [f_X4_isPlace] at h
  refine z_iload_n fx dX4_isPlace_0 rfl ?_
  refine z_iconst (v := 0) fx dX4_isPlace_1 rfl ?_
  refine z_aload_n fx dX4_isPlace_2 rfl ?_
  refine gM_wide fx wf_X4_26 dX4_isPlace_3 ?_
  refine z_iload_n fx dX4_isPlace_6 rfl ?_
  obtain ⟨q1, h⟩ := oi h
  refine m_ild fx (Nat.le_of_ble_eq_true rfl) (cfM_5 g ad) q1 dX4_isPlace_7 ?_
  refine z_iconst (v := 1) fx dX4_isPlace_8 rfl ?_
  refine z_isub fx dX4_isPlace_9 ?_
  refine zSi (rest := []) fx hR (c_X4_in (zl E) D ad g a2 0 ((I (5) a1.toNatClampNeg) - 1) I J rfl) mvX4_in wm_X4_73 dX4_isPlace_10 rfl ⟨rfl, rfl⟩ rfl rfl rfl ?_
  refine z_if_eq (tgt := 36) fx dX4_isPlace_13 (by decide) (fun q2 => ?_) (fun q2 => ?_)
  · rw [if_pos q2] at h
    refine z_iconst (v := 0) fx dX4_isPlace_36 rfl ?_
    cases h
    exact z_zret fx rfl hr dX4_isPlace_37
  · rw [if_neg q2] at h
    refine z_iload_n fx dX4_isPlace_16 rfl ?_
    refine z_iconst (v := 0) fx dX4_isPlace_17 rfl ?_
    refine z_aload_n fx dX4_isPlace_18 rfl ?_
    refine gM_wide fx wf_X4_26 dX4_isPlace_19 ?_
    refine z_iload_n fx dX4_isPlace_22 rfl ?_
    refine m_ild fx (Nat.le_of_ble_eq_true rfl) (cfM_5 g ad) q1 dX4_isPlace_23 ?_
    refine z_iconst (v := 1) fx dX4_isPlace_24 rfl ?_
    refine z_isub fx dX4_isPlace_25 ?_
    refine zSi (rest := []) fx hR (c_X4_in (zl E) D ad g a3 0 ((I (5) a1.toNatClampNeg) - 1) I J rfl) mvX4_in wm_X4_73 dX4_isPlace_26 rfl ⟨rfl, rfl⟩ rfl rfl rfl ?_
    refine z_if_eq (tgt := 36) fx dX4_isPlace_29 (by decide) (fun q3 => ?_) (fun q3 => ?_)
    · rw [if_pos q3] at h
      refine z_iconst (v := 0) fx dX4_isPlace_36 rfl ?_
      cases h
      exact z_zret fx rfl hr dX4_isPlace_37
    · rw [if_neg q3] at h
      refine z_iconst (v := 1) fx dX4_isPlace_32 rfl ?_
      refine z_goto (tgt := 37) fx dX4_isPlace_33 (by decide) ?_
      cases h
      exact z_zret fx rfl hr dX4_isPlace_37
set_option maxRecDepth 100000 in
set_option maxHeartbeats 4000000 in
theorem c_X4_set (l : Launch) (D : va_G) (ad : Nat → Nat) (g : Nat → ClassId) (a1 : Int32) (a2 : Int32) (a3 : Int32) (a4 : Int32) (a5 : Int32) (I : zMi) (J : zMl) {r : Int32 × zMi} (h : f_X4_set a1 a2 a3 a4 a5 I = some r) : zCM (mw D ad g) l yX4_set cX4_set 7 (some .int) rmX4_set [.ref (ad (0)), .int a1, .int a2, .int a3, .int a4, .int a5] I J (some (.int r.1)) r.2 J := by
  refine zCM.of (by decide) (Nat.le_of_ble_eq_true rfl) (fun E hl hR fx hr => ?_)
  subst hl
  rw [f_X4_set] at h
  refine z_iload fx dX4_set_0 rfl ?_
  refine zSi (rest := []) fx hR (c_X4_isNumber (zl E) D ad g a4 I J rfl) mvX4_isNumber wm_X4_140 dX4_set_2 rfl ⟨rfl, rfl⟩ rfl rfl rfl ?_
  refine z_if_ne (tgt := 10) fx dX4_set_5 (by decide) (fun q1 => ?_) (fun q1 => ?_)
  · rw [if_neg q1] at h
    refine z_aload_n fx dX4_set_10 rfl ?_
    refine z_iload_n fx dX4_set_11 rfl ?_
    obtain ⟨x2, ex2, h⟩ := ob h
    refine zVi (k := 0) (rest := []) fx hR (c_X4_askedTable (zl E) D ad g a1 I J ex2) rcM mvX4_askedTable wm_X4_143 dX4_set_12 rfl ⟨rfl, rfl⟩ rfl rfl rfl ?_
    refine z_istore fx dX4_set_15 (by decide) rfl ?_
    refine z_iload fx dX4_set_17 rfl ?_
    refine z_if_ge (tgt := 25) fx dX4_set_19 (by decide) (fun q3 => ?_) (fun q3 => ?_)
    · rw [if_pos q3] at h
      refine z_aload_n fx dX4_set_25 rfl ?_
      refine z_iload_n fx dX4_set_26 rfl ?_
      refine z_iload_n fx dX4_set_27 rfl ?_
      refine z_iload_n fx dX4_set_28 rfl ?_
      obtain ⟨x4, ex4, h⟩ := ob h
      refine zVi (k := 0) (rest := []) fx hR (c_X4_isPlace (zl E) D ad g a1 a2 a3 x2.2 J ex4) rcM mvX4_isPlace wm_X4_146 dX4_set_29 rfl ⟨rfl, rfl⟩ rfl rfl rfl ?_
      refine z_if_ne (tgt := 41) fx dX4_set_32 (by decide) (fun q5 => ?_) (fun q5 => ?_)
      · rw [if_neg q5] at h
        refine z_aload_n fx dX4_set_41 rfl ?_
        refine z_iload_n fx dX4_set_42 rfl ?_
        refine z_iload_n fx dX4_set_43 rfl ?_
        refine z_iload_n fx dX4_set_44 rfl ?_
        refine z_iload fx dX4_set_45 rfl ?_
        obtain ⟨x6, ex6, h⟩ := ob h
        refine zVv (k := 0) (rest := []) fx hR (c_X4_let (zl E) D ad g a1 a2 a3 a4 x2.2 J ex6) rcM mvX4_let wm_X4_133 dX4_set_47 rfl ⟨rfl, rfl⟩ rfl rfl rfl ?_
        refine z_iload fx dX4_set_50 rfl ?_
        refine z_if_eq (tgt := 64) fx dX4_set_52 (by decide) (fun q7 => ?_) (fun q7 => ?_)
        · rw [if_pos q7] at h
          refine z_aload_n fx dX4_set_64 rfl ?_
          refine z_iload_n fx dX4_set_65 rfl ?_
          obtain ⟨x8, ex8, h⟩ := ob h
          refine zVi (k := 0) (rest := []) fx hR (c_X4_setKind (zl E) D ad g a1 x6 J ex8) rcM mvX4_setKind wm_X4_137 dX4_set_66 rfl ⟨rfl, rfl⟩ rfl rfl rfl ?_
          cases h
          exact z_iret fx hr dX4_set_69
        · rw [if_neg q7] at h
          refine z_aload_n fx dX4_set_55 rfl ?_
          refine z_iload_n fx dX4_set_56 rfl ?_
          refine z_iload_n fx dX4_set_57 rfl ?_
          refine z_iload_n fx dX4_set_58 rfl ?_
          refine z_iload fx dX4_set_59 rfl ?_
          obtain ⟨x9, ex9, h⟩ := ob h
          refine zVv (k := 0) (rest := []) fx hR (c_X4_let (zl E) D ad g a1 a3 a2 a4 x6 J ex9) rcM mvX4_let wm_X4_133 dX4_set_61 rfl ⟨rfl, rfl⟩ rfl rfl rfl ?_
          refine z_aload_n fx dX4_set_64 rfl ?_
          refine z_iload_n fx dX4_set_65 rfl ?_
          obtain ⟨x10, ex10, h⟩ := ob h
          refine zVi (k := 0) (rest := []) fx hR (c_X4_setKind (zl E) D ad g a1 x9 J ex10) rcM mvX4_setKind wm_X4_137 dX4_set_66 rfl ⟨rfl, rfl⟩ rfl rfl rfl ?_
          cases h
          exact z_iret fx hr dX4_set_69
      · rw [if_pos q5] at h
        refine z_aload_n fx dX4_set_35 rfl ?_
        refine z_iconst (v := 2) fx dX4_set_36 rfl ?_
        obtain ⟨x11, ex11, h⟩ := ob h
        refine zVi (k := 0) (rest := []) fx hR (c_X4_meets (zl E) D ad g 2 x2.2 J ex11) rcM mvX4_meets wm_X4_81 dX4_set_37 rfl ⟨rfl, rfl⟩ rfl rfl rfl ?_
        cases h
        exact z_iret fx hr dX4_set_40
    · rw [if_neg q3] at h
      refine z_iload fx dX4_set_22 rfl ?_
      cases h
      exact z_iret fx hr dX4_set_24
  · rw [if_pos q1] at h
    refine z_iconst (v := (-1)) fx dX4_set_8 rfl ?_
    cases h
    exact z_iret fx hr dX4_set_9
set_option maxRecDepth 100000 in
set_option maxHeartbeats 4000000 in
theorem c_X4_drop (l : Launch) (D : va_G) (ad : Nat → Nat) (g : Nat → ClassId) (a1 : Int32) (I : zMi) (J : zMl) {r : Int32 × zMi} (h : f_X4_drop a1 I = some r) : zCM (mw D ad g) l yX4_drop cX4_drop 3 (some .int) rmX4_drop [.ref (ad (0)), .int a1] I J (some (.int r.1)) r.2 J := by
  refine zCM.of (by decide) (Nat.le_of_ble_eq_true rfl) (fun E hl hR fx hr => ?_)
  subst hl
  rw [f_X4_drop] at h
  refine z_aload_n fx dX4_drop_0 rfl ?_
  refine z_iload_n fx dX4_drop_1 rfl ?_
  obtain ⟨x1, ex1, h⟩ := ob h
  refine zVi (k := 0) (rest := []) fx hR (c_X4_askedTable (zl E) D ad g a1 I J ex1) rcM mvX4_askedTable wm_X4_143 dX4_drop_2 rfl ⟨rfl, rfl⟩ rfl rfl rfl ?_
  refine z_istore_n fx dX4_drop_5 (by decide) rfl ?_
  refine z_iload_n fx dX4_drop_6 rfl ?_
  refine z_if_ge (tgt := 12) fx dX4_drop_7 (by decide) (fun q2 => ?_) (fun q2 => ?_)
  · rw [if_pos q2] at h
    refine z_aload_n fx dX4_drop_12 rfl ?_
    refine gM_wide fx wf_X4_26 dX4_drop_13 ?_
    refine z_iload_n fx dX4_drop_16 rfl ?_
    refine z_iconst (v := 0) fx dX4_drop_17 rfl ?_
    obtain ⟨q3, h⟩ := oi h
    refine m_ist fx (Nat.le_of_ble_eq_true rfl) (cfM_5 g ad) q3 dX4_drop_18 ?_
    refine z_iconst (v := 1) fx dX4_drop_19 rfl ?_
    cases h
    exact z_iret fx hr dX4_drop_20
  · rw [if_neg q2] at h
    refine z_iload_n fx dX4_drop_10 rfl ?_
    cases h
    exact z_iret fx hr dX4_drop_11
set_option maxRecDepth 100000 in
set_option maxHeartbeats 4000000 in
theorem c_X4_at (l : Launch) (D : va_G) (ad : Nat → Nat) (g : Nat → ClassId) (a1 : Int32) (a2 : Int32) (a3 : Int32) (I : zMi) (J : zMl) {r : Int32 × zMi} (h : f_X4_at a1 a2 a3 I = some r) : zCM (mw D ad g) l yX4_at cX4_at 5 (some .int) rmX4_at [.ref (ad (0)), .int a1, .int a2, .int a3] I J (some (.int r.1)) r.2 J := by
  refine zCM.of (by decide) (Nat.le_of_ble_eq_true rfl) (fun E hl hR fx hr => ?_)
  subst hl
  rw [f_X4_at] at h
  refine z_aload_n fx dX4_at_0 rfl ?_
  refine z_iload_n fx dX4_at_1 rfl ?_
  obtain ⟨x1, ex1, h⟩ := ob h
  refine zVi (k := 0) (rest := []) fx hR (c_X4_askedTable (zl E) D ad g a1 I J ex1) rcM mvX4_askedTable wm_X4_143 dX4_at_2 rfl ⟨rfl, rfl⟩ rfl rfl rfl ?_
  refine z_istore fx dX4_at_5 (by decide) rfl ?_
  refine z_iload fx dX4_at_7 rfl ?_
  refine z_if_ge (tgt := 15) fx dX4_at_9 (by decide) (fun q2 => ?_) (fun q2 => ?_)
  · rw [if_pos q2] at h
    refine z_aload_n fx dX4_at_15 rfl ?_
    refine z_iload_n fx dX4_at_16 rfl ?_
    refine z_iload_n fx dX4_at_17 rfl ?_
    refine z_iload_n fx dX4_at_18 rfl ?_
    obtain ⟨x3, ex3, h⟩ := ob h
    refine zVi (k := 0) (rest := []) fx hR (c_X4_isPlace (zl E) D ad g a1 a2 a3 x1.2 J ex3) rcM mvX4_isPlace wm_X4_146 dX4_at_19 rfl ⟨rfl, rfl⟩ rfl rfl rfl ?_
    refine z_if_eq (tgt := 40) fx dX4_at_22 (by decide) (fun q4 => ?_) (fun q4 => ?_)
    · rw [if_pos q4] at h
      refine z_aload_n fx dX4_at_40 rfl ?_
      refine z_iconst (v := 2) fx dX4_at_41 rfl ?_
      obtain ⟨x5, ex5, h⟩ := ob h
      refine zVi (k := 0) (rest := []) fx hR (c_X4_meets (zl E) D ad g 2 x1.2 J ex5) rcM mvX4_meets wm_X4_81 dX4_at_42 rfl ⟨rfl, rfl⟩ rfl rfl rfl ?_
      cases h
      exact z_iret fx hr dX4_at_45
    · rw [if_neg q4] at h
      refine z_aload_n fx dX4_at_25 rfl ?_
      refine z_aload_n fx dX4_at_26 rfl ?_
      refine z_iload_n fx dX4_at_27 rfl ?_
      refine z_iload_n fx dX4_at_28 rfl ?_
      refine z_iload_n fx dX4_at_29 rfl ?_
      obtain ⟨x6, ex6, h⟩ := ob h
      refine zVi (k := 0) (rest := [.ref (ad (0))]) fx hR (c_X4_get (zl E) D ad g a1 a2 a3 x1.2 J ex6) rcM mvX4_get wm_X4_102 dX4_at_30 rfl ⟨rfl, rfl⟩ rfl rfl rfl ?_
      refine z_iconst (v := 1) fx dX4_at_33 rfl ?_
      refine zVi (k := 0) (rest := []) fx hR (c_X4_ask (zl E) D ad g x6 1 x1.2 J rfl) rcM mvX4_ask wm_X4_92 dX4_at_34 rfl ⟨rfl, rfl⟩ rfl rfl rfl ?_
      refine z_goto (tgt := 45) fx dX4_at_37 (by decide) ?_
      cases h
      exact z_iret fx hr dX4_at_45
  · rw [if_neg q2] at h
    refine z_iload fx dX4_at_12 rfl ?_
    cases h
    exact z_iret fx hr dX4_at_14
set_option maxRecDepth 100000 in
set_option maxHeartbeats 4000000 in
theorem w_X4_countOf_19 {E : zE} {D : va_G} {ad : Nat → Nat} {g : Nat → ClassId} (fx : zFX E (mw D ad g) cX4_countOf RX4 6 (some .int)) (hR : zR E = rmX4_countOf) {r : Int32} {I : zMi} {J : zMl} (hr : zRX E (mw D ad g) (some (.int r)) I J) {k5 : Int32 → Int32 → Int32 → Int32 → Option Int32} (hk5 : ∀ (a1 : Int32) (a2 : Int32) (a3 : Int32) (a4 : Int32), k5 a1 a2 a3 a4 = some r → zAt E (mw D ad g) 5 [(0, .ref (ad (0))), (1, .int a1), (2, .int a2), (3, .int a3), (4, .int a4)] [] I J) : ∀ (fuel : Nat) (a1 : Int32) (a2 : Int32) (a3 : Int32) (a4 : Int32) (a5 : Int32), f_X4_countOf_19 I k5 fuel a1 a2 a3 a4 a5 = some r → zAt E (mw D ad g) 19 [(0, .ref (ad (0))), (1, .int a1), (2, .int a2), (3, .int a3), (4, .int a4), (5, .int a5)] [] I J := by
  intro fuel
  induction fuel with
  | zero => intro a1 a2 a3 a4 a5 h; rw [f_X4_countOf_19] at h; cases h
  | succ f ih =>
    intro a1 a2 a3 a4 a5 h
    rw [f_X4_countOf_19] at h
    refine z_iload fx dX4_countOf_19 rfl ?_
    refine z_aload_n fx dX4_countOf_21 rfl ?_
    refine gM_wide fx wf_X4_26 dX4_countOf_22 ?_
    refine z_iload_n fx dX4_countOf_25 rfl ?_
    obtain ⟨q1, h⟩ := oi h
    refine m_ild fx (Nat.le_of_ble_eq_true rfl) (cfM_5 g ad) q1 dX4_countOf_26 ?_
    refine z_icmp_ge (tgt := 57) fx dX4_countOf_27 (by decide) (fun q2 => ?_) (fun q2 => ?_)
    · rw [if_pos q2] at h
      refine z_iinc (v := (a4 + 1)) fx dX4_countOf_57 rfl rfl (by decide) rfl ?_
      refine z_goto (tgt := 5) fx dX4_countOf_60 (by decide) ?_
      exact z_lv2 (hk5 a1 a2 a3 (a4 + 1) h) rfl
    · rw [if_neg q2] at h
      refine z_iload_n fx dX4_countOf_30 rfl ?_
      refine z_aload_n fx dX4_countOf_31 rfl ?_
      refine z_iload_n fx dX4_countOf_32 rfl ?_
      refine z_iload fx dX4_countOf_33 rfl ?_
      refine z_iload fx dX4_countOf_35 rfl ?_
      obtain ⟨x3, ex3, h⟩ := ob h
      refine zVi (k := 0) (rest := [.int a3]) fx hR (c_X4_get (zl E) D ad g a1 a4 a5 I J ex3) rcM mvX4_get wm_X4_102 dX4_countOf_37 rfl ⟨rfl, rfl⟩ rfl rfl rfl ?_
      refine z_iload_n fx dX4_countOf_40 rfl ?_
      refine z_icmp_ne (tgt := 48) fx dX4_countOf_41 (by decide) (fun q4 => ?_) (fun q4 => ?_)
      · rw [if_neg q4] at h
        refine z_iconst (v := 0) fx dX4_countOf_48 rfl ?_
        refine z_iadd fx dX4_countOf_49 ?_
        refine z_istore_n fx dX4_countOf_50 (by decide) rfl ?_
        refine z_iinc (v := (a5 + 1)) fx dX4_countOf_51 rfl rfl (by decide) rfl ?_
        refine z_goto (tgt := 19) fx dX4_countOf_54 (by decide) ?_
        exact z_lv2 (ih a1 a2 (a3 + 0) a4 (a5 + 1) h) rfl
      · rw [if_pos q4] at h
        refine z_iconst (v := 1) fx dX4_countOf_44 rfl ?_
        refine z_goto (tgt := 49) fx dX4_countOf_45 (by decide) ?_
        refine z_iadd fx dX4_countOf_49 ?_
        refine z_istore_n fx dX4_countOf_50 (by decide) rfl ?_
        refine z_iinc (v := (a5 + 1)) fx dX4_countOf_51 rfl rfl (by decide) rfl ?_
        refine z_goto (tgt := 19) fx dX4_countOf_54 (by decide) ?_
        exact z_lv2 (ih a1 a2 (a3 + 1) a4 (a5 + 1) h) rfl
set_option maxRecDepth 100000 in
set_option maxHeartbeats 4000000 in
theorem w_X4_countOf_5 {E : zE} {D : va_G} {ad : Nat → Nat} {g : Nat → ClassId} (fx : zFX E (mw D ad g) cX4_countOf RX4 6 (some .int)) (hR : zR E = rmX4_countOf) {r : Int32} {I : zMi} {J : zMl} (hr : zRX E (mw D ad g) (some (.int r)) I J) : ∀ (fuel : Nat) (a1 : Int32) (a2 : Int32) (a3 : Int32) (a4 : Int32), f_X4_countOf_5 I fuel a1 a2 a3 a4 = some r → zAt E (mw D ad g) 5 [(0, .ref (ad (0))), (1, .int a1), (2, .int a2), (3, .int a3), (4, .int a4)] [] I J := by
  intro fuel
  induction fuel with
  | zero => intro a1 a2 a3 a4 h; rw [f_X4_countOf_5] at h; cases h
  | succ f ih =>
    intro a1 a2 a3 a4 h
    rw [f_X4_countOf_5] at h
    refine z_iload fx dX4_countOf_5 rfl ?_
    refine z_aload_n fx dX4_countOf_7 rfl ?_
    refine gM_wide fx wf_X4_26 dX4_countOf_8 ?_
    refine z_iload_n fx dX4_countOf_11 rfl ?_
    obtain ⟨q1, h⟩ := oi h
    refine m_ild fx (Nat.le_of_ble_eq_true rfl) (cfM_5 g ad) q1 dX4_countOf_12 ?_
    refine z_icmp_ge (tgt := 63) fx dX4_countOf_13 (by decide) (fun q2 => ?_) (fun q2 => ?_)
    · rw [if_pos q2] at h
      refine z_iload_n fx dX4_countOf_63 rfl ?_
      cases h
      exact z_iret fx hr dX4_countOf_64
    · rw [if_neg q2] at h
      refine z_iconst (v := 0) fx dX4_countOf_16 rfl ?_
      refine z_istore fx dX4_countOf_17 (by decide) rfl ?_
      exact z_lv2 (w_X4_countOf_19 fx hR hr ih fu a1 a2 a3 a4 0 h) rfl
set_option maxRecDepth 100000 in
set_option maxHeartbeats 4000000 in
theorem c_X4_countOf (l : Launch) (D : va_G) (ad : Nat → Nat) (g : Nat → ClassId) (a1 : Int32) (a2 : Int32) (I : zMi) (J : zMl) {r : Int32} (h : f_X4_countOf a1 a2 I = some r) : zCM (mw D ad g) l yX4_countOf cX4_countOf 6 (some .int) rmX4_countOf [.ref (ad (0)), .int a1, .int a2] I J (some (.int r)) I J := by
  refine zCM.of (by decide) (Nat.le_of_ble_eq_true rfl) (fun E hl hR fx hr => ?_)
  subst hl
  rw [f_X4_countOf] at h
  refine z_iconst (v := 0) fx dX4_countOf_0 rfl ?_
  refine z_istore_n fx dX4_countOf_1 (by decide) rfl ?_
  refine z_iconst (v := 0) fx dX4_countOf_2 rfl ?_
  refine z_istore fx dX4_countOf_3 (by decide) rfl ?_
  exact z_lv2 (w_X4_countOf_5 fx hR hr fu a1 a2 0 0 h) rfl
set_option maxRecDepth 100000 in
set_option maxHeartbeats 4000000 in
theorem w_X4_isNormal_16 {E : zE} {D : va_G} {ad : Nat → Nat} {g : Nat → ClassId} (fx : zFX E (mw D ad g) cX4_isNormal RX4 4 (some .boolean)) (hR : zR E = rmX4_isNormal) {r : Int32} {I : zMi} {J : zMl} (hr : zRX E (mw D ad g) (some (.int r)) I J) : ∀ (fuel : Nat) (a1 : Int32) (a2 : Int32) (a3 : Int32), f_X4_isNormal_16 I fuel a1 a2 a3 = some r → narrow .boolean (.int a2) = .int a2 → zAt E (mw D ad g) 16 [(0, .ref (ad (0))), (1, .int a1), (2, .int a2), (3, .int a3)] [] I J := by
  intro fuel
  induction fuel with
  | zero => intro a1 a2 a3 h z2; rw [f_X4_isNormal_16] at h; cases h
  | succ f ih =>
    intro a1 a2 a3 h z2
    rw [f_X4_isNormal_16] at h
    refine z_iload_n fx dX4_isNormal_16 rfl ?_
    refine z_aload_n fx dX4_isNormal_17 rfl ?_
    refine gM_wide fx wf_X4_26 dX4_isNormal_18 ?_
    refine z_iload_n fx dX4_isNormal_21 rfl ?_
    obtain ⟨q1, h⟩ := oi h
    refine m_ild fx (Nat.le_of_ble_eq_true rfl) (cfM_5 g ad) q1 dX4_isNormal_22 ?_
    refine z_icmp_ge (tgt := 64) fx dX4_isNormal_23 (by decide) (fun q2 => ?_) (fun q2 => ?_)
    · rw [if_pos q2] at h
      refine z_iload_n fx dX4_isNormal_64 rfl ?_
      cases h
      exact z_zret fx z2 hr dX4_isNormal_65
    · rw [if_neg q2] at h
      refine z_iload_n fx dX4_isNormal_26 rfl ?_
      refine z_if_eq (tgt := 56) fx dX4_isNormal_27 (by decide) (fun q3 => ?_) (fun q3 => ?_)
      · rw [if_pos q3] at h
        refine z_iconst (v := 0) fx dX4_isNormal_56 rfl ?_
        refine z_istore_n fx dX4_isNormal_57 (by decide) rfl ?_
        refine z_iinc (v := (a3 + 1)) fx dX4_isNormal_58 rfl rfl (by decide) rfl ?_
        refine z_goto (tgt := 16) fx dX4_isNormal_61 (by decide) ?_
        exact z_lv2 (ih a1 0 (a3 + 1) h rfl) rfl
      · rw [if_neg q3] at h
        refine z_aload_n fx dX4_isNormal_30 rfl ?_
        refine z_iload_n fx dX4_isNormal_31 rfl ?_
        refine z_iload_n fx dX4_isNormal_32 rfl ?_
        refine z_iconst (v := 0) fx dX4_isNormal_33 rfl ?_
        obtain ⟨x4, ex4, h⟩ := ob h
        refine zVi (k := 0) (rest := []) fx hR (c_X4_get (zl E) D ad g a1 a3 0 I J ex4) rcM mvX4_get wm_X4_102 dX4_isNormal_34 rfl ⟨rfl, rfl⟩ rfl rfl rfl ?_
        refine z_iconst (v := 1) fx dX4_isNormal_37 rfl ?_
        refine z_icmp_ne (tgt := 56) fx dX4_isNormal_38 (by decide) (fun q5 => ?_) (fun q5 => ?_)
        · rw [if_neg q5] at h
          refine z_iconst (v := 0) fx dX4_isNormal_56 rfl ?_
          refine z_istore_n fx dX4_isNormal_57 (by decide) rfl ?_
          refine z_iinc (v := (a3 + 1)) fx dX4_isNormal_58 rfl rfl (by decide) rfl ?_
          refine z_goto (tgt := 16) fx dX4_isNormal_61 (by decide) ?_
          exact z_lv2 (ih a1 0 (a3 + 1) h rfl) rfl
        · rw [if_pos q5] at h
          refine z_aload_n fx dX4_isNormal_41 rfl ?_
          refine z_iload_n fx dX4_isNormal_42 rfl ?_
          refine z_iconst (v := 0) fx dX4_isNormal_43 rfl ?_
          refine z_iload_n fx dX4_isNormal_44 rfl ?_
          obtain ⟨x6, ex6, h⟩ := ob h
          refine zVi (k := 0) (rest := []) fx hR (c_X4_get (zl E) D ad g a1 0 a3 I J ex6) rcM mvX4_get wm_X4_102 dX4_isNormal_45 rfl ⟨rfl, rfl⟩ rfl rfl rfl ?_
          refine z_iconst (v := 1) fx dX4_isNormal_48 rfl ?_
          refine z_icmp_ne (tgt := 56) fx dX4_isNormal_49 (by decide) (fun q7 => ?_) (fun q7 => ?_)
          · rw [if_neg q7] at h
            refine z_iconst (v := 0) fx dX4_isNormal_56 rfl ?_
            refine z_istore_n fx dX4_isNormal_57 (by decide) rfl ?_
            refine z_iinc (v := (a3 + 1)) fx dX4_isNormal_58 rfl rfl (by decide) rfl ?_
            refine z_goto (tgt := 16) fx dX4_isNormal_61 (by decide) ?_
            exact z_lv2 (ih a1 0 (a3 + 1) h rfl) rfl
          · rw [if_pos q7] at h
            refine z_iconst (v := 1) fx dX4_isNormal_52 rfl ?_
            refine z_goto (tgt := 57) fx dX4_isNormal_53 (by decide) ?_
            refine z_istore_n fx dX4_isNormal_57 (by decide) rfl ?_
            refine z_iinc (v := (a3 + 1)) fx dX4_isNormal_58 rfl rfl (by decide) rfl ?_
            refine z_goto (tgt := 16) fx dX4_isNormal_61 (by decide) ?_
            exact z_lv2 (ih a1 1 (a3 + 1) h rfl) rfl
set_option maxRecDepth 100000 in
set_option maxHeartbeats 4000000 in
theorem c_X4_isNormal (l : Launch) (D : va_G) (ad : Nat → Nat) (g : Nat → ClassId) (a1 : Int32) (I : zMi) (J : zMl) {r : Int32} (h : f_X4_isNormal a1 I = some r) : zCM (mw D ad g) l yX4_isNormal cX4_isNormal 4 (some .boolean) rmX4_isNormal [.ref (ad (0)), .int a1] I J (some (.int r)) I J := by
  refine zCM.of (by decide) (Nat.le_of_ble_eq_true rfl) (fun E hl hR fx hr => ?_)
  subst hl
  rw [f_X4_isNormal] at h
  refine z_aload_n fx dX4_isNormal_0 rfl ?_
  refine z_iload_n fx dX4_isNormal_1 rfl ?_
  obtain ⟨x1, ex1, h⟩ := ob h
  refine zVi (k := 0) (rest := []) fx hR (c_X4_hasZero (zl E) D ad g a1 I J ex1) rcM mvX4_hasZero wm_X4_118 dX4_isNormal_2 rfl ⟨rfl, rfl⟩ rfl rfl rfl ?_
  refine z_if_ne (tgt := 12) fx dX4_isNormal_5 (by decide) (fun q2 => ?_) (fun q2 => ?_)
  · rw [if_neg q2] at h
    refine z_iconst (v := 0) fx dX4_isNormal_12 rfl ?_
    refine z_istore_n fx dX4_isNormal_13 (by decide) rfl ?_
    refine z_iconst (v := 0) fx dX4_isNormal_14 rfl ?_
    refine z_istore_n fx dX4_isNormal_15 (by decide) rfl ?_
    exact z_lv2 (w_X4_isNormal_16 fx hR hr fu a1 0 0 h rfl) rfl
  · rw [if_pos q2] at h
    refine z_iconst (v := 1) fx dX4_isNormal_8 rfl ?_
    refine z_goto (tgt := 13) fx dX4_isNormal_9 (by decide) ?_
    refine z_istore_n fx dX4_isNormal_13 (by decide) rfl ?_
    refine z_iconst (v := 0) fx dX4_isNormal_14 rfl ?_
    refine z_istore_n fx dX4_isNormal_15 (by decide) rfl ?_
    exact z_lv2 (w_X4_isNormal_16 fx hR hr fu a1 1 0 h rfl) rfl
set_option maxRecDepth 100000 in
set_option maxHeartbeats 4000000 in
theorem c_X4_told (l : Launch) (D : va_G) (ad : Nat → Nat) (g : Nat → ClassId) (a1 : Int32) (a2 : Int32) (I : zMi) (J : zMl) {r : Int32 × zMi} (h : f_X4_told a1 a2 I = some r) : zCM (mw D ad g) l yX4_told cX4_told 4 (some .int) rmX4_told [.ref (ad (0)), .int a1, .int a2] I J (some (.int r.1)) r.2 J := by
  refine zCM.of (by decide) (Nat.le_of_ble_eq_true rfl) (fun E hl hR fx hr => ?_)
  subst hl
  rw [f_X4_told] at h
  refine z_iload_n fx dX4_told_0 rfl ?_
  refine z_iconst (v := 0) fx dX4_told_1 rfl ?_
  refine z_iconst (v := 4) fx dX4_told_2 rfl ?_
  refine zSi (rest := []) fx hR (c_X4_in (zl E) D ad g a2 0 4 I J rfl) mvX4_in wm_X4_73 dX4_told_3 rfl ⟨rfl, rfl⟩ rfl rfl rfl ?_
  refine z_if_ne (tgt := 11) fx dX4_told_6 (by decide) (fun q1 => ?_) (fun q1 => ?_)
  · rw [if_neg q1] at h
    refine z_aload_n fx dX4_told_11 rfl ?_
    refine z_iload_n fx dX4_told_12 rfl ?_
    obtain ⟨x2, ex2, h⟩ := ob h
    refine zVi (k := 0) (rest := []) fx hR (c_X4_askedTable (zl E) D ad g a1 I J ex2) rcM mvX4_askedTable wm_X4_143 dX4_told_13 rfl ⟨rfl, rfl⟩ rfl rfl rfl ?_
    refine z_istore_n fx dX4_told_16 (by decide) rfl ?_
    refine z_iload_n fx dX4_told_17 rfl ?_
    refine z_if_ge (tgt := 23) fx dX4_told_18 (by decide) (fun q3 => ?_) (fun q3 => ?_)
    · rw [if_pos q3] at h
      refine z_iload_n fx dX4_told_23 rfl ?_
      by_cases q4 : a2 = 0
      · rw [if_pos q4] at h
        refine z_tin (off := 32) (tgt := 56) fx dX4_told_24 (by rw [q4]; decide) (by rw [q4]; decide) (by rw [q4]; rfl) (by decide) ?_
        refine z_aload_n fx dX4_told_56 rfl ?_
        refine z_aload_n fx dX4_told_57 rfl ?_
        refine gM_kinds fx wf_X4_32 dX4_told_58 ?_
        refine z_iload_n fx dX4_told_61 rfl ?_
        obtain ⟨q5, h⟩ := oi h
        refine m_ild fx (Nat.le_of_ble_eq_true rfl) (cfM_7 g ad) q5 dX4_told_62 ?_
        refine z_iconst (v := 1) fx dX4_told_63 rfl ?_
        refine zVi (k := 0) (rest := []) fx hR (c_X4_ask (zl E) D ad g (x2.2 (7) a1.toNatClampNeg) 1 x2.2 J rfl) rcM mvX4_ask wm_X4_92 dX4_told_64 rfl ⟨rfl, rfl⟩ rfl rfl rfl ?_
        cases h
        exact z_iret fx hr dX4_told_67
      · rw [if_neg q4] at h
        by_cases q6 : a2 = 1
        · rw [if_pos q6] at h
          refine z_tin (off := 44) (tgt := 68) fx dX4_told_24 (by rw [q6]; decide) (by rw [q6]; decide) (by rw [q6]; rfl) (by decide) ?_
          refine z_aload_n fx dX4_told_68 rfl ?_
          refine z_aload_n fx dX4_told_69 rfl ?_
          refine gM_wide fx wf_X4_26 dX4_told_70 ?_
          refine z_iload_n fx dX4_told_73 rfl ?_
          obtain ⟨q7, h⟩ := oi h
          refine m_ild fx (Nat.le_of_ble_eq_true rfl) (cfM_5 g ad) q7 dX4_told_74 ?_
          refine z_iconst (v := 1) fx dX4_told_75 rfl ?_
          refine zVi (k := 0) (rest := []) fx hR (c_X4_ask (zl E) D ad g (x2.2 (5) a1.toNatClampNeg) 1 x2.2 J rfl) rcM mvX4_ask wm_X4_92 dX4_told_76 rfl ⟨rfl, rfl⟩ rfl rfl rfl ?_
          cases h
          exact z_iret fx hr dX4_told_79
        · rw [if_neg q6] at h
          by_cases q8 : a2 = 2
          · rw [if_pos q8] at h
            refine z_tin (off := 56) (tgt := 80) fx dX4_told_24 (by rw [q8]; decide) (by rw [q8]; decide) (by rw [q8]; rfl) (by decide) ?_
            refine z_aload_n fx dX4_told_80 rfl ?_
            refine z_aload_n fx dX4_told_81 rfl ?_
            refine z_iload_n fx dX4_told_82 rfl ?_
            refine z_iconst (v := 1) fx dX4_told_83 rfl ?_
            obtain ⟨x9, ex9, h⟩ := ob h
            refine zVi (k := 0) (rest := [.ref (ad (0))]) fx hR (c_X4_countOf (zl E) D ad g a1 1 x2.2 J ex9) rcM mvX4_countOf wm_X4_149 dX4_told_84 rfl ⟨rfl, rfl⟩ rfl rfl rfl ?_
            refine z_iconst (v := 1) fx dX4_told_87 rfl ?_
            refine zVi (k := 0) (rest := []) fx hR (c_X4_ask (zl E) D ad g x9 1 x2.2 J rfl) rcM mvX4_ask wm_X4_92 dX4_told_88 rfl ⟨rfl, rfl⟩ rfl rfl rfl ?_
            cases h
            exact z_iret fx hr dX4_told_91
          · rw [if_neg q8] at h
            by_cases q10 : a2 = 3
            · rw [if_pos q10] at h
              refine z_tin (off := 68) (tgt := 92) fx dX4_told_24 (by rw [q10]; decide) (by rw [q10]; decide) (by rw [q10]; rfl) (by decide) ?_
              refine z_aload_n fx dX4_told_92 rfl ?_
              refine z_aload_n fx dX4_told_93 rfl ?_
              refine z_iload_n fx dX4_told_94 rfl ?_
              refine z_iconst (v := (-1)) fx dX4_told_95 rfl ?_
              obtain ⟨x11, ex11, h⟩ := ob h
              refine zVi (k := 0) (rest := [.ref (ad (0))]) fx hR (c_X4_countOf (zl E) D ad g a1 (-1) x2.2 J ex11) rcM mvX4_countOf wm_X4_149 dX4_told_96 rfl ⟨rfl, rfl⟩ rfl rfl rfl ?_
              refine z_iconst (v := 1) fx dX4_told_99 rfl ?_
              refine zVi (k := 0) (rest := []) fx hR (c_X4_ask (zl E) D ad g x11 1 x2.2 J rfl) rcM mvX4_ask wm_X4_92 dX4_told_100 rfl ⟨rfl, rfl⟩ rfl rfl rfl ?_
              cases h
              exact z_iret fx hr dX4_told_103
            · rw [if_neg q10] at h
              refine z_tout (tgt := 104) fx dX4_told_24 (by have := zne q4 (n := 0) (by decide); have := zne q6 (n := 1) (by decide); have := zne q8 (n := 2) (by decide); have := zne q10 (n := 3) (by decide); omega) (by decide) ?_
              refine z_aload_n fx dX4_told_104 rfl ?_
              refine z_aload_n fx dX4_told_105 rfl ?_
              refine z_iload_n fx dX4_told_106 rfl ?_
              obtain ⟨x12, ex12, h⟩ := ob h
              refine zVi (k := 0) (rest := [.ref (ad (0))]) fx hR (c_X4_isNormal (zl E) D ad g a1 x2.2 J ex12) rcM mvX4_isNormal wm_X4_152 dX4_told_107 rfl ⟨rfl, rfl⟩ rfl rfl rfl ?_
              refine z_if_eq (tgt := 117) fx dX4_told_110 (by decide) (fun q13 => ?_) (fun q13 => ?_)
              · rw [if_pos q13] at h
                refine z_iconst (v := 0) fx dX4_told_117 rfl ?_
                refine z_iconst (v := 1) fx dX4_told_118 rfl ?_
                refine zVi (k := 0) (rest := []) fx hR (c_X4_ask (zl E) D ad g 0 1 x2.2 J rfl) rcM mvX4_ask wm_X4_92 dX4_told_119 rfl ⟨rfl, rfl⟩ rfl rfl rfl ?_
                cases h
                exact z_iret fx hr dX4_told_122
              · rw [if_neg q13] at h
                refine z_iconst (v := 1) fx dX4_told_113 rfl ?_
                refine z_goto (tgt := 118) fx dX4_told_114 (by decide) ?_
                refine z_iconst (v := 1) fx dX4_told_118 rfl ?_
                refine zVi (k := 0) (rest := []) fx hR (c_X4_ask (zl E) D ad g 1 1 x2.2 J rfl) rcM mvX4_ask wm_X4_92 dX4_told_119 rfl ⟨rfl, rfl⟩ rfl rfl rfl ?_
                cases h
                exact z_iret fx hr dX4_told_122
    · rw [if_neg q3] at h
      refine z_iload_n fx dX4_told_21 rfl ?_
      cases h
      exact z_iret fx hr dX4_told_22
  · rw [if_pos q1] at h
    refine z_iconst (v := (-1)) fx dX4_told_9 rfl ?_
    cases h
    exact z_iret fx hr dX4_told_10
set_option maxRecDepth 100000 in
set_option maxHeartbeats 4000000 in
theorem w_X4_rowSum_5 {E : zE} {D : va_G} {ad : Nat → Nat} {g : Nat → ClassId} (fx : zFX E (mw D ad g) cX4_rowSum RX4 5 (some .int)) (hR : zR E = rmX4_rowSum) {r : Int32} {I : zMi} {J : zMl} (hr : zRX E (mw D ad g) (some (.int r)) I J) : ∀ (fuel : Nat) (a1 : Int32) (a2 : Int32) (a3 : Int32) (a4 : Int32), f_X4_rowSum_5 I fuel a1 a2 a3 a4 = some r → zAt E (mw D ad g) 5 [(0, .ref (ad (0))), (1, .int a1), (2, .int a2), (3, .int a3), (4, .int a4)] [] I J := by
  intro fuel
  induction fuel with
  | zero => intro a1 a2 a3 a4 h; rw [f_X4_rowSum_5] at h; cases h
  | succ f ih =>
    intro a1 a2 a3 a4 h
    rw [f_X4_rowSum_5] at h
    refine z_iload fx dX4_rowSum_5 rfl ?_
    refine z_aload_n fx dX4_rowSum_7 rfl ?_
    refine gM_wide fx wf_X4_26 dX4_rowSum_8 ?_
    refine z_iload_n fx dX4_rowSum_11 rfl ?_
    obtain ⟨q1, h⟩ := oi h
    refine m_ild fx (Nat.le_of_ble_eq_true rfl) (cfM_5 g ad) q1 dX4_rowSum_12 ?_
    refine z_icmp_ge (tgt := 33) fx dX4_rowSum_13 (by decide) (fun q2 => ?_) (fun q2 => ?_)
    · rw [if_pos q2] at h
      refine z_iload_n fx dX4_rowSum_33 rfl ?_
      cases h
      exact z_iret fx hr dX4_rowSum_34
    · rw [if_neg q2] at h
      refine z_iload_n fx dX4_rowSum_16 rfl ?_
      refine z_aload_n fx dX4_rowSum_17 rfl ?_
      refine z_iload_n fx dX4_rowSum_18 rfl ?_
      refine z_iload_n fx dX4_rowSum_19 rfl ?_
      refine z_iload fx dX4_rowSum_20 rfl ?_
      obtain ⟨x3, ex3, h⟩ := ob h
      refine zVi (k := 0) (rest := [.int a3]) fx hR (c_X4_get (zl E) D ad g a1 a2 a4 I J ex3) rcM mvX4_get wm_X4_102 dX4_rowSum_22 rfl ⟨rfl, rfl⟩ rfl rfl rfl ?_
      refine z_iadd fx dX4_rowSum_25 ?_
      refine z_istore_n fx dX4_rowSum_26 (by decide) rfl ?_
      refine z_iinc (v := (a4 + 1)) fx dX4_rowSum_27 rfl rfl (by decide) rfl ?_
      refine z_goto (tgt := 5) fx dX4_rowSum_30 (by decide) ?_
      exact z_lv2 (ih a1 a2 (a3 + x3) (a4 + 1) h) rfl
set_option maxRecDepth 100000 in
set_option maxHeartbeats 4000000 in
theorem c_X4_rowSum (l : Launch) (D : va_G) (ad : Nat → Nat) (g : Nat → ClassId) (a1 : Int32) (a2 : Int32) (I : zMi) (J : zMl) {r : Int32} (h : f_X4_rowSum a1 a2 I = some r) : zCM (mw D ad g) l yX4_rowSum cX4_rowSum 5 (some .int) rmX4_rowSum [.ref (ad (0)), .int a1, .int a2] I J (some (.int r)) I J := by
  refine zCM.of (by decide) (Nat.le_of_ble_eq_true rfl) (fun E hl hR fx hr => ?_)
  subst hl
  rw [f_X4_rowSum] at h
  refine z_iconst (v := 0) fx dX4_rowSum_0 rfl ?_
  refine z_istore_n fx dX4_rowSum_1 (by decide) rfl ?_
  refine z_iconst (v := 0) fx dX4_rowSum_2 rfl ?_
  refine z_istore fx dX4_rowSum_3 (by decide) rfl ?_
  exact z_lv2 (w_X4_rowSum_5 fx hR hr fu a1 a2 0 0 h) rfl
set_option maxRecDepth 100000 in
set_option maxHeartbeats 4000000 in
theorem c_X4_mark (l : Launch) (D : va_G) (ad : Nat → Nat) (g : Nat → ClassId) (a1 : Int32) (a2 : Int32) (I : zMi) (J : zMl) {r : Int32 × zMi} (h : f_X4_mark a1 a2 I = some r) : zCM (mw D ad g) l yX4_mark cX4_mark 4 (some .int) rmX4_mark [.ref (ad (0)), .int a1, .int a2] I J (some (.int r.1)) r.2 J := by
  refine zCM.of (by decide) (Nat.le_of_ble_eq_true rfl) (fun E hl hR fx hr => ?_)
  subst hl
  rw [f_X4_mark] at h
  refine z_iload_n fx dX4_mark_0 rfl ?_
  refine z_iconst (v := 1) fx dX4_mark_1 rfl ?_
  refine z_iconst (v := 4) fx dX4_mark_2 rfl ?_
  refine zSi (rest := []) fx hR (c_X4_in (zl E) D ad g a2 1 4 I J rfl) mvX4_in wm_X4_73 dX4_mark_3 rfl ⟨rfl, rfl⟩ rfl rfl rfl ?_
  refine z_if_ne (tgt := 11) fx dX4_mark_6 (by decide) (fun q1 => ?_) (fun q1 => ?_)
  · rw [if_neg q1] at h
    refine z_aload_n fx dX4_mark_11 rfl ?_
    refine z_iload_n fx dX4_mark_12 rfl ?_
    obtain ⟨x2, ex2, h⟩ := ob h
    refine zVi (k := 0) (rest := []) fx hR (c_X4_askedTable (zl E) D ad g a1 I J ex2) rcM mvX4_askedTable wm_X4_143 dX4_mark_13 rfl ⟨rfl, rfl⟩ rfl rfl rfl ?_
    refine z_istore_n fx dX4_mark_16 (by decide) rfl ?_
    refine z_iload_n fx dX4_mark_17 rfl ?_
    refine z_if_ge (tgt := 23) fx dX4_mark_18 (by decide) (fun q3 => ?_) (fun q3 => ?_)
    · rw [if_pos q3] at h
      refine z_aload_n fx dX4_mark_23 rfl ?_
      refine z_iload_n fx dX4_mark_24 rfl ?_
      refine z_iload_n fx dX4_mark_25 rfl ?_
      obtain ⟨x4, ex4, h⟩ := ob h
      refine zVi (k := 0) (rest := []) fx hR (c_X4_is (zl E) D ad g a1 a2 x2.2 J ex4) rcM mvX4_is wm_X4_155 dX4_mark_26 rfl ⟨rfl, rfl⟩ rfl rfl rfl ?_
      refine z_if_ne (tgt := 38) fx dX4_mark_29 (by decide) (fun q5 => ?_) (fun q5 => ?_)
      · rw [if_neg q5] at h
        refine z_iload_n fx dX4_mark_38 rfl ?_
        refine z_iconst (v := 1) fx dX4_mark_39 rfl ?_
        refine z_icmp_ne (tgt := 54) fx dX4_mark_40 (by decide) (fun q6 => ?_) (fun q6 => ?_)
        · rw [if_neg q6] at h
          refine z_iload_n fx dX4_mark_54 rfl ?_
          refine z_iconst (v := 2) fx dX4_mark_55 rfl ?_
          refine z_icmp_ne (tgt := 68) fx dX4_mark_56 (by decide) (fun q7 => ?_) (fun q7 => ?_)
          · rw [if_neg q7] at h
            refine z_iload_n fx dX4_mark_68 rfl ?_
            refine z_iconst (v := 3) fx dX4_mark_69 rfl ?_
            refine z_icmp_ne (tgt := 84) fx dX4_mark_70 (by decide) (fun q8 => ?_) (fun q8 => ?_)
            · rw [if_neg q8] at h
              refine z_aload_n fx dX4_mark_84 rfl ?_
              refine z_iload_n fx dX4_mark_85 rfl ?_
              refine z_iconst (v := 0) fx dX4_mark_86 rfl ?_
              obtain ⟨x9, ex9, h⟩ := ob h
              refine zVi (k := 0) (rest := []) fx hR (c_X4_neighbours (zl E) D ad g a1 0 x2.2 J ex9) rcM mvX4_neighbours wm_X4_115 dX4_mark_87 rfl ⟨rfl, rfl⟩ rfl rfl rfl ?_
              cases h
              exact z_iret fx hr dX4_mark_90
            · rw [if_pos q8] at h
              refine z_aload_n fx dX4_mark_73 rfl ?_
              refine z_iload_n fx dX4_mark_74 rfl ?_
              refine z_iconst (v := (-1)) fx dX4_mark_75 rfl ?_
              obtain ⟨x10, ex10, h⟩ := ob h
              refine zVi (k := 0) (rest := []) fx hR (c_X4_countOf (zl E) D ad g a1 (-1) x2.2 J ex10) rcM mvX4_countOf wm_X4_149 dX4_mark_76 rfl ⟨rfl, rfl⟩ rfl rfl rfl ?_
              refine z_iconst (v := 2) fx dX4_mark_79 rfl ?_
              refine z_idiv fx dX4_mark_80 (by decide) ?_
              refine z_goto (tgt := 90) fx dX4_mark_81 (by decide) ?_
              cases h
              exact z_iret fx hr dX4_mark_90
          · rw [if_pos q7] at h
            refine z_aload_n fx dX4_mark_59 rfl ?_
            refine z_iload_n fx dX4_mark_60 rfl ?_
            refine z_iconst (v := 0) fx dX4_mark_61 rfl ?_
            obtain ⟨x11, ex11, h⟩ := ob h
            refine zVi (k := 0) (rest := []) fx hR (c_X4_rowSum (zl E) D ad g a1 0 x2.2 J ex11) rcM mvX4_rowSum wm_X4_159 dX4_mark_62 rfl ⟨rfl, rfl⟩ rfl rfl rfl ?_
            refine z_goto (tgt := 90) fx dX4_mark_65 (by decide) ?_
            cases h
            exact z_iret fx hr dX4_mark_90
        · rw [if_pos q6] at h
          refine z_aload_n fx dX4_mark_43 rfl ?_
          refine gM_wide fx wf_X4_26 dX4_mark_44 ?_
          refine z_iload_n fx dX4_mark_47 rfl ?_
          obtain ⟨q12, h⟩ := oi h
          refine m_ild fx (Nat.le_of_ble_eq_true rfl) (cfM_5 g ad) q12 dX4_mark_48 ?_
          refine z_iconst (v := 2) fx dX4_mark_49 rfl ?_
          refine z_idiv fx dX4_mark_50 (by decide) ?_
          refine z_goto (tgt := 90) fx dX4_mark_51 (by decide) ?_
          cases h
          exact z_iret fx hr dX4_mark_90
      · rw [if_pos q5] at h
        refine z_aload_n fx dX4_mark_32 rfl ?_
        refine z_iconst (v := 3) fx dX4_mark_33 rfl ?_
        obtain ⟨x13, ex13, h⟩ := ob h
        refine zVi (k := 0) (rest := []) fx hR (c_X4_meets (zl E) D ad g 3 x2.2 J ex13) rcM mvX4_meets wm_X4_81 dX4_mark_34 rfl ⟨rfl, rfl⟩ rfl rfl rfl ?_
        cases h
        exact z_iret fx hr dX4_mark_37
    · rw [if_neg q3] at h
      refine z_iload_n fx dX4_mark_21 rfl ?_
      cases h
      exact z_iret fx hr dX4_mark_22
  · rw [if_pos q1] at h
    refine z_iconst (v := (-1)) fx dX4_mark_9 rfl ?_
    cases h
    exact z_iret fx hr dX4_mark_10
set_option maxRecDepth 100000 in
set_option maxHeartbeats 4000000 in
theorem w_X4_take_17 {E : zE} {D : va_G} {ad : Nat → Nat} {g : Nat → ClassId} (fx : zFX E (mw D ad g) cX4_take RX4 5 (some .int)) (hR : zR E = rmX4_take) {r : Int32 × zMi} {J : zMl} (hr : zRX E (mw D ad g) (some (.int r.1)) r.2 J) {k9 : Int32 → Int32 → Int32 → zMi → Option (Int32 × zMi)} (hk9 : ∀ (a1 : Int32) (a2 : Int32) (a3 : Int32) (I : zMi) , k9 a1 a2 a3 I = some r → zAt E (mw D ad g) 9 [(0, .ref (ad (0))), (1, .int a1), (2, .int a2), (3, .int a3)] [] I J) : ∀ (fuel : Nat) (a1 : Int32) (a2 : Int32) (a3 : Int32) (a4 : Int32) (I : zMi) , f_X4_take_17 k9 fuel a1 a2 a3 a4 I = some r → zAt E (mw D ad g) 17 [(0, .ref (ad (0))), (1, .int a1), (2, .int a2), (3, .int a3), (4, .int a4)] [] I J := by
  intro fuel
  induction fuel with
  | zero => intro a1 a2 a3 a4 I h; rw [f_X4_take_17] at h; cases h
  | succ f ih =>
    intro a1 a2 a3 a4 I h
    rw [f_X4_take_17] at h
    refine z_iload fx dX4_take_17 rfl ?_
    refine z_iload_n fx dX4_take_19 rfl ?_
    refine z_icmp_ge (tgt := 49) fx dX4_take_20 (by decide) (fun q1 => ?_) (fun q1 => ?_)
    · rw [if_pos q1] at h
      refine z_iinc (v := (a3 + 1)) fx dX4_take_49 rfl rfl (by decide) rfl ?_
      refine z_goto (tgt := 9) fx dX4_take_52 (by decide) ?_
      exact z_lv2 (hk9 a1 a2 (a3 + 1) I h) rfl
    · rw [if_neg q1] at h
      refine z_aload_n fx dX4_take_23 rfl ?_
      refine z_iload_n fx dX4_take_24 rfl ?_
      refine z_iload_n fx dX4_take_25 rfl ?_
      refine z_iload fx dX4_take_26 rfl ?_
      refine z_aload_n fx dX4_take_28 rfl ?_
      refine gM_built fx wf_X4_35 dX4_take_29 ?_
      refine z_bipush (v := 12) fx dX4_take_32 rfl ?_
      refine z_iload_n fx dX4_take_34 rfl ?_
      refine z_imul fx dX4_take_35 ?_
      refine z_iload fx dX4_take_36 rfl ?_
      refine z_iadd fx dX4_take_38 ?_
      obtain ⟨q2, h⟩ := oi h
      refine m_ild fx (Nat.le_of_ble_eq_true rfl) (cfM_8 g ad) q2 dX4_take_39 ?_
      obtain ⟨x3, ex3, h⟩ := ob h
      refine zVv (k := 0) (rest := []) fx hR (c_X4_let (zl E) D ad g a1 a3 a4 (I (8) ((12 * a3) + a4).toNatClampNeg) I J ex3) rcM mvX4_let wm_X4_133 dX4_take_40 rfl ⟨rfl, rfl⟩ rfl rfl rfl ?_
      refine z_iinc (v := (a4 + 1)) fx dX4_take_43 rfl rfl (by decide) rfl ?_
      refine z_goto (tgt := 17) fx dX4_take_46 (by decide) ?_
      exact z_lv2 (ih a1 a2 a3 (a4 + 1) x3 h) rfl
set_option maxRecDepth 100000 in
set_option maxHeartbeats 4000000 in
theorem w_X4_take_9 {E : zE} {D : va_G} {ad : Nat → Nat} {g : Nat → ClassId} (fx : zFX E (mw D ad g) cX4_take RX4 5 (some .int)) (hR : zR E = rmX4_take) {r : Int32 × zMi} {J : zMl} (hr : zRX E (mw D ad g) (some (.int r.1)) r.2 J) : ∀ (fuel : Nat) (a1 : Int32) (a2 : Int32) (a3 : Int32) (I : zMi) , f_X4_take_9 fuel a1 a2 a3 I = some r → zAt E (mw D ad g) 9 [(0, .ref (ad (0))), (1, .int a1), (2, .int a2), (3, .int a3)] [] I J := by
  intro fuel
  induction fuel with
  | zero => intro a1 a2 a3 I h; rw [f_X4_take_9] at h; cases h
  | succ f ih =>
    intro a1 a2 a3 I h
    rw [f_X4_take_9] at h
    refine z_iload_n fx dX4_take_9 rfl ?_
    refine z_iload_n fx dX4_take_10 rfl ?_
    refine z_icmp_ge (tgt := 55) fx dX4_take_11 (by decide) (fun q1 => ?_) (fun q1 => ?_)
    · rw [if_pos q1] at h
      refine z_aload_n fx dX4_take_55 rfl ?_
      refine z_iload_n fx dX4_take_56 rfl ?_
      obtain ⟨x2, ex2, h⟩ := ob h
      refine zVi (k := 0) (rest := []) fx hR (c_X4_setKind (zl E) D ad g a1 I J ex2) rcM mvX4_setKind wm_X4_137 dX4_take_57 rfl ⟨rfl, rfl⟩ rfl rfl rfl ?_
      cases h
      exact z_iret fx hr dX4_take_60
    · rw [if_neg q1] at h
      refine z_iconst (v := 0) fx dX4_take_14 rfl ?_
      refine z_istore fx dX4_take_15 (by decide) rfl ?_
      exact z_lv2 (w_X4_take_17 fx hR hr ih fu a1 a2 a3 0 I h) rfl
set_option maxRecDepth 100000 in
set_option maxHeartbeats 4000000 in
theorem c_X4_take (l : Launch) (D : va_G) (ad : Nat → Nat) (g : Nat → ClassId) (a1 : Int32) (a2 : Int32) (I : zMi) (J : zMl) {r : Int32 × zMi} (h : f_X4_take a1 a2 I = some r) : zCM (mw D ad g) l yX4_take cX4_take 5 (some .int) rmX4_take [.ref (ad (0)), .int a1, .int a2] I J (some (.int r.1)) r.2 J := by
  refine zCM.of (by decide) (Nat.le_of_ble_eq_true rfl) (fun E hl hR fx hr => ?_)
  subst hl
  rw [f_X4_take] at h
  refine z_aload_n fx dX4_take_0 rfl ?_
  refine gM_wide fx wf_X4_26 dX4_take_1 ?_
  refine z_iload_n fx dX4_take_4 rfl ?_
  refine z_iload_n fx dX4_take_5 rfl ?_
  obtain ⟨q1, h⟩ := oi h
  refine m_ist fx (Nat.le_of_ble_eq_true rfl) (cfM_5 g ad) q1 dX4_take_6 ?_
  refine z_iconst (v := 0) fx dX4_take_7 rfl ?_
  refine z_istore_n fx dX4_take_8 (by decide) rfl ?_
  exact z_lv2 (w_X4_take_9 fx hR hr fu a1 a2 0 (wI I (5) a1.toNatClampNeg a2) h) rfl
set_option maxRecDepth 100000 in
set_option maxHeartbeats 4000000 in
theorem w_X4_times_92 {E : zE} {D : va_G} {ad : Nat → Nat} {g : Nat → ClassId} (fx : zFX E (mw D ad g) cX4_times RX4 8 (some .int)) (hR : zR E = rmX4_times) {r : Int32 × zMi} {J : zMl} (hr : zRX E (mw D ad g) (some (.int r.1)) r.2 J) {k82 : Int32 → Int32 → Int32 → Int32 → Int32 → Int32 → zMi → Option (Int32 × zMi)} (hk82 : ∀ (a1 : Int32) (a2 : Int32) (a3 : Int32) (a4 : Int32) (a5 : Int32) (a6 : Int32) (I : zMi) , k82 a1 a2 a3 a4 a5 a6 I = some r → zAt E (mw D ad g) 82 [(0, .ref (ad (0))), (1, .int a1), (2, .int a2), (3, .int a3), (4, .int a4), (5, .int a5), (6, .int a6)] [] I J) : ∀ (fuel : Nat) (a1 : Int32) (a2 : Int32) (a3 : Int32) (a4 : Int32) (a5 : Int32) (a6 : Int32) (a7 : Int32) (I : zMi) , f_X4_times_92 k82 fuel a1 a2 a3 a4 a5 a6 a7 I = some r → zAt E (mw D ad g) 92 [(0, .ref (ad (0))), (1, .int a1), (2, .int a2), (3, .int a3), (4, .int a4), (5, .int a5), (6, .int a6), (7, .int a7)] [] I J := by
  intro fuel
  induction fuel with
  | zero => intro a1 a2 a3 a4 a5 a6 a7 I h; rw [f_X4_times_92] at h; cases h
  | succ f ih =>
    intro a1 a2 a3 a4 a5 a6 a7 I h
    rw [f_X4_times_92] at h
    refine z_iload fx dX4_times_92 rfl ?_
    refine z_iload fx dX4_times_94 rfl ?_
    refine z_icmp_ge (tgt := 149) fx dX4_times_96 (by decide) (fun q1 => ?_) (fun q1 => ?_)
    · rw [if_pos q1] at h
      refine z_iinc (v := (a6 + 1)) fx dX4_times_149 rfl rfl (by decide) rfl ?_
      refine z_goto (tgt := 82) fx dX4_times_152 (by decide) ?_
      exact z_lv2 (hk82 a1 a2 a3 a4 a5 (a6 + 1) I h) rfl
    · rw [if_neg q1] at h
      refine z_aload_n fx dX4_times_99 rfl ?_
      refine gM_built fx wf_X4_35 dX4_times_100 ?_
      refine z_bipush (v := 12) fx dX4_times_103 rfl ?_
      refine z_iload fx dX4_times_105 rfl ?_
      refine z_imul fx dX4_times_107 ?_
      refine z_iload fx dX4_times_108 rfl ?_
      refine z_iadd fx dX4_times_110 ?_
      refine z_aload_n fx dX4_times_111 rfl ?_
      refine z_iload_n fx dX4_times_112 rfl ?_
      refine z_iload fx dX4_times_113 rfl ?_
      refine z_iload fx dX4_times_115 rfl ?_
      obtain ⟨q2, h⟩ := on h
      refine z_idiv fx dX4_times_117 q2 ?_
      refine z_iload fx dX4_times_118 rfl ?_
      refine z_iload fx dX4_times_120 rfl ?_
      refine z_idiv fx dX4_times_122 q2 ?_
      obtain ⟨x3, ex3, h⟩ := ob h
      refine zVi (k := 0) (rest := [.int ((12 * a6) + a7), .ref (ad (8))]) fx hR (c_X4_get (zl E) D ad g a1 (a6 / a4) (a7 / a4) I J ex3) rcM mvX4_get wm_X4_102 dX4_times_123 rfl ⟨rfl, rfl⟩ rfl rfl rfl ?_
      refine z_aload_n fx dX4_times_126 rfl ?_
      refine z_iload_n fx dX4_times_127 rfl ?_
      refine z_iload fx dX4_times_128 rfl ?_
      refine z_iload fx dX4_times_130 rfl ?_
      refine z_irem fx dX4_times_132 q2 ?_
      refine z_iload fx dX4_times_133 rfl ?_
      refine z_iload fx dX4_times_135 rfl ?_
      refine z_irem fx dX4_times_137 q2 ?_
      obtain ⟨x4, ex4, h⟩ := ob h
      refine zVi (k := 0) (rest := [.int x3, .int ((12 * a6) + a7), .ref (ad (8))]) fx hR (c_X4_get (zl E) D ad g a2 (a6 - a6 / a4 * a4) (a7 - a7 / a4 * a4) I J ex4) rcM mvX4_get wm_X4_102 dX4_times_138 rfl ⟨rfl, rfl⟩ rfl rfl rfl ?_
      refine z_imul fx dX4_times_141 ?_
      obtain ⟨q5, h⟩ := oi h
      refine m_ist fx (Nat.le_of_ble_eq_true rfl) (cfM_8 g ad) q5 dX4_times_142 ?_
      refine z_iinc (v := (a7 + 1)) fx dX4_times_143 rfl rfl (by decide) rfl ?_
      refine z_goto (tgt := 92) fx dX4_times_146 (by decide) ?_
      exact z_lv2 (ih a1 a2 a3 a4 a5 a6 (a7 + 1) (wI I (8) ((12 * a6) + a7).toNatClampNeg (x3 * x4)) h) rfl
set_option maxRecDepth 100000 in
set_option maxHeartbeats 4000000 in
theorem w_X4_times_82 {E : zE} {D : va_G} {ad : Nat → Nat} {g : Nat → ClassId} (fx : zFX E (mw D ad g) cX4_times RX4 8 (some .int)) (hR : zR E = rmX4_times) {r : Int32 × zMi} {J : zMl} (hr : zRX E (mw D ad g) (some (.int r.1)) r.2 J) : ∀ (fuel : Nat) (a1 : Int32) (a2 : Int32) (a3 : Int32) (a4 : Int32) (a5 : Int32) (a6 : Int32) (I : zMi) , f_X4_times_82 fuel a1 a2 a3 a4 a5 a6 I = some r → zAt E (mw D ad g) 82 [(0, .ref (ad (0))), (1, .int a1), (2, .int a2), (3, .int a3), (4, .int a4), (5, .int a5), (6, .int a6)] [] I J := by
  intro fuel
  induction fuel with
  | zero => intro a1 a2 a3 a4 a5 a6 I h; rw [f_X4_times_82] at h; cases h
  | succ f ih =>
    intro a1 a2 a3 a4 a5 a6 I h
    rw [f_X4_times_82] at h
    refine z_iload fx dX4_times_82 rfl ?_
    refine z_iload fx dX4_times_84 rfl ?_
    refine z_icmp_ge (tgt := 155) fx dX4_times_86 (by decide) (fun q1 => ?_) (fun q1 => ?_)
    · rw [if_pos q1] at h
      refine z_aload_n fx dX4_times_155 rfl ?_
      refine z_iload_n fx dX4_times_156 rfl ?_
      refine z_iload fx dX4_times_157 rfl ?_
      obtain ⟨x2, ex2, h⟩ := ob h
      refine zVi (k := 0) (rest := []) fx hR (c_X4_take (zl E) D ad g a3 a5 I J ex2) rcM mvX4_take wm_X4_162 dX4_times_159 rfl ⟨rfl, rfl⟩ rfl rfl rfl ?_
      cases h
      exact z_iret fx hr dX4_times_162
    · rw [if_neg q1] at h
      refine z_iconst (v := 0) fx dX4_times_89 rfl ?_
      refine z_istore fx dX4_times_90 (by decide) rfl ?_
      exact z_lv2 (w_X4_times_92 fx hR hr ih fu a1 a2 a3 a4 a5 a6 0 I h) rfl
set_option maxRecDepth 100000 in
set_option maxHeartbeats 4000000 in
theorem c_X4_times (l : Launch) (D : va_G) (ad : Nat → Nat) (g : Nat → ClassId) (a1 : Int32) (a2 : Int32) (a3 : Int32) (I : zMi) (J : zMl) {r : Int32 × zMi} (h : f_X4_times a1 a2 a3 I = some r) : zCM (mw D ad g) l yX4_times cX4_times 8 (some .int) rmX4_times [.ref (ad (0)), .int a1, .int a2, .int a3] I J (some (.int r.1)) r.2 J := by
  refine zCM.of (by decide) (Nat.le_of_ble_eq_true rfl) (fun E hl hR fx hr => ?_)
  subst hl
  rw [f_X4_times] at h
  refine z_iload_n fx dX4_times_0 rfl ?_
  refine zSi (rest := []) fx hR (c_X4_isTable (zl E) D ad g a1 I J rfl) mvX4_isTable wm_X4_99 dX4_times_1 rfl ⟨rfl, rfl⟩ rfl rfl rfl ?_
  refine z_if_eq (tgt := 21) fx dX4_times_4 (by decide) (fun q1 => ?_) (fun q1 => ?_)
  · rw [if_pos q1] at h
    refine z_iconst (v := (-1)) fx dX4_times_21 rfl ?_
    cases h
    exact z_iret fx hr dX4_times_22
  · rw [if_neg q1] at h
    refine z_iload_n fx dX4_times_7 rfl ?_
    refine zSi (rest := []) fx hR (c_X4_isTable (zl E) D ad g a2 I J rfl) mvX4_isTable wm_X4_99 dX4_times_8 rfl ⟨rfl, rfl⟩ rfl rfl rfl ?_
    refine z_if_eq (tgt := 21) fx dX4_times_11 (by decide) (fun q2 => ?_) (fun q2 => ?_)
    · rw [if_pos q2] at h
      refine z_iconst (v := (-1)) fx dX4_times_21 rfl ?_
      cases h
      exact z_iret fx hr dX4_times_22
    · rw [if_neg q2] at h
      refine z_iload_n fx dX4_times_14 rfl ?_
      refine zSi (rest := []) fx hR (c_X4_isTable (zl E) D ad g a3 I J rfl) mvX4_isTable wm_X4_99 dX4_times_15 rfl ⟨rfl, rfl⟩ rfl rfl rfl ?_
      refine z_if_ne (tgt := 23) fx dX4_times_18 (by decide) (fun q3 => ?_) (fun q3 => ?_)
      · rw [if_neg q3] at h
        refine z_aload_n fx dX4_times_23 rfl ?_
        refine gM_wide fx wf_X4_26 dX4_times_24 ?_
        refine z_iload_n fx dX4_times_27 rfl ?_
        obtain ⟨q4, h⟩ := oi h
        refine m_ild fx (Nat.le_of_ble_eq_true rfl) (cfM_5 g ad) q4 dX4_times_28 ?_
        refine z_if_eq (tgt := 41) fx dX4_times_29 (by decide) (fun q5 => ?_) (fun q5 => ?_)
        · rw [if_pos q5] at h
          refine z_aload_n fx dX4_times_41 rfl ?_
          refine z_iconst (v := 1) fx dX4_times_42 rfl ?_
          obtain ⟨x6, ex6, h⟩ := ob h
          refine zVi (k := 0) (rest := []) fx hR (c_X4_meets (zl E) D ad g 1 I J ex6) rcM mvX4_meets wm_X4_81 dX4_times_43 rfl ⟨rfl, rfl⟩ rfl rfl rfl ?_
          cases h
          exact z_iret fx hr dX4_times_46
        · rw [if_neg q5] at h
          refine z_aload_n fx dX4_times_32 rfl ?_
          refine gM_wide fx wf_X4_26 dX4_times_33 ?_
          refine z_iload_n fx dX4_times_36 rfl ?_
          obtain ⟨q7, h⟩ := oi h
          refine m_ild fx (Nat.le_of_ble_eq_true rfl) (cfM_5 g ad) q7 dX4_times_37 ?_
          refine z_if_ne (tgt := 47) fx dX4_times_38 (by decide) (fun q8 => ?_) (fun q8 => ?_)
          · rw [if_neg q8] at h
            refine z_aload_n fx dX4_times_47 rfl ?_
            refine gM_wide fx wf_X4_26 dX4_times_48 ?_
            refine z_iload_n fx dX4_times_51 rfl ?_
            refine m_ild fx (Nat.le_of_ble_eq_true rfl) (cfM_5 g ad) q7 dX4_times_52 ?_
            refine z_istore fx dX4_times_53 (by decide) rfl ?_
            refine z_aload_n fx dX4_times_55 rfl ?_
            refine gM_wide fx wf_X4_26 dX4_times_56 ?_
            refine z_iload_n fx dX4_times_59 rfl ?_
            refine m_ild fx (Nat.le_of_ble_eq_true rfl) (cfM_5 g ad) q4 dX4_times_60 ?_
            refine z_iload fx dX4_times_61 rfl ?_
            refine z_imul fx dX4_times_63 ?_
            refine z_istore fx dX4_times_64 (by decide) rfl ?_
            refine z_iload fx dX4_times_66 rfl ?_
            refine z_bipush (v := 12) fx dX4_times_68 rfl ?_
            refine z_icmp_le (tgt := 79) fx dX4_times_70 (by decide) (fun q9 => ?_) (fun q9 => ?_)
            · rw [if_pos q9] at h
              refine z_iconst (v := 0) fx dX4_times_79 rfl ?_
              refine z_istore fx dX4_times_80 (by decide) rfl ?_
              exact z_lv2 (w_X4_times_82 fx hR hr fu a1 a2 a3 (I (5) a2.toNatClampNeg) ((I (5) a1.toNatClampNeg) * (I (5) a2.toNatClampNeg)) 0 I h) rfl
            · rw [if_neg q9] at h
              refine z_aload_n fx dX4_times_73 rfl ?_
              refine z_iconst (v := 5) fx dX4_times_74 rfl ?_
              obtain ⟨x10, ex10, h⟩ := ob h
              refine zVi (k := 0) (rest := []) fx hR (c_X4_meets (zl E) D ad g 5 I J ex10) rcM mvX4_meets wm_X4_81 dX4_times_75 rfl ⟨rfl, rfl⟩ rfl rfl rfl ?_
              cases h
              exact z_iret fx hr dX4_times_78
          · rw [if_pos q8] at h
            refine z_aload_n fx dX4_times_41 rfl ?_
            refine z_iconst (v := 1) fx dX4_times_42 rfl ?_
            obtain ⟨x11, ex11, h⟩ := ob h
            refine zVi (k := 0) (rest := []) fx hR (c_X4_meets (zl E) D ad g 1 I J ex11) rcM mvX4_meets wm_X4_81 dX4_times_43 rfl ⟨rfl, rfl⟩ rfl rfl rfl ?_
            cases h
            exact z_iret fx hr dX4_times_46
      · rw [if_pos q3] at h
        refine z_iconst (v := (-1)) fx dX4_times_21 rfl ?_
        cases h
        exact z_iret fx hr dX4_times_22
