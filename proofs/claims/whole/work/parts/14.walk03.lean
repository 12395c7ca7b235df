set_option maxRecDepth 100000 in
set_option maxHeartbeats 4000000 in
theorem w_X3_squaresModulo_4 {E : zE} {D : va_G} {ad : Nat → Nat} {g : Nat → ClassId} (fx : zFX E (xw D ad g) cX3_squaresModulo RX3 3 (some .int)) (hR : zR E = rmX3_squaresModulo) {r : Int32} {I : zMi} {J : zMl} (hr : zRX E (xw D ad g) (some (.int r)) I J) : ∀ (fuel : Nat) (a0 : Int32) (a1 : Int32) (a2 : Int32), f_X3_squaresModulo_4 fuel a0 a1 a2 = some r → zAt E (xw D ad g) 4 [(0, .int a0), (1, .int a1), (2, .int a2)] [] I J := by
  intro fuel
  induction fuel with
  | zero => intro a0 a1 a2 h; rw [f_X3_squaresModulo_4] at h; cases h
  | succ f ih =>
    intro a0 a1 a2 h
    rw [f_X3_squaresModulo_4] at h
    refine z_iload_n fx dX3_squaresModulo_4 rfl ?_
    refine z_iload_n fx dX3_squaresModulo_5 rfl ?_
    refine z_icmp_ge (tgt := 25) fx dX3_squaresModulo_6 (by decide) (fun q1 => ?_) (fun q1 => ?_)
    · rw [if_pos q1] at h
      refine z_iload_n fx dX3_squaresModulo_25 rfl ?_
      cases h
      exact z_iret fx hr dX3_squaresModulo_26
    · rw [if_neg q1] at h
      refine z_iload_n fx dX3_squaresModulo_9 rfl ?_
      refine z_iconst (v := 1) fx dX3_squaresModulo_10 rfl ?_
      refine z_iload_n fx dX3_squaresModulo_11 rfl ?_
      refine z_iload_n fx dX3_squaresModulo_12 rfl ?_
      refine z_imul fx dX3_squaresModulo_13 ?_
      refine z_iload_n fx dX3_squaresModulo_14 rfl ?_
      obtain ⟨q2, h⟩ := on h
      refine z_irem fx dX3_squaresModulo_15 q2 ?_
      refine z_ishl fx dX3_squaresModulo_16 ?_
      refine z_ior fx dX3_squaresModulo_17 ?_
      refine z_istore_n fx dX3_squaresModulo_18 (by decide) rfl ?_
      refine z_iinc (v := (a2 + 1)) fx dX3_squaresModulo_19 rfl rfl (by decide) rfl ?_
      refine z_goto (tgt := 4) fx dX3_squaresModulo_22 (by decide) ?_
      exact z_lv2 (ih a0 (a1 ||| ((1 : Int32) <<< (((a2 * a2) - (a2 * a2) / a0 * a0) &&& 31))) (a2 + 1) h) rfl
set_option maxRecDepth 100000 in
set_option maxHeartbeats 4000000 in
theorem c_X3_squaresModulo (l : Launch) (D : va_G) (ad : Nat → Nat) (g : Nat → ClassId) (a0 : Int32) (I : zMi) (J : zMl) {r : Int32} (h : f_X3_squaresModulo a0 = some r) : zCM (xw D ad g) l yX3_squaresModulo cX3_squaresModulo 3 (some .int) rmX3_squaresModulo [.int a0] I J (some (.int r)) I J := by
  refine zCM.of (by decide) (Nat.le_of_ble_eq_true rfl) (fun E hl hR fx hr => ?_)
  subst hl
  rw [f_X3_squaresModulo] at h
  refine z_iconst (v := 0) fx dX3_squaresModulo_0 rfl ?_
  refine z_istore_n fx dX3_squaresModulo_1 (by decide) rfl ?_
  refine z_iconst (v := 1) fx dX3_squaresModulo_2 rfl ?_
  refine z_istore_n fx dX3_squaresModulo_3 (by decide) rfl ?_
  exact z_lv2 (w_X3_squaresModulo_4 fx hR hr fu a0 0 1 h) rfl
set_option maxRecDepth 100000 in
set_option maxHeartbeats 4000000 in
theorem w_X3_writeResidues_71 {E : zE} {D : va_G} {ad : Nat → Nat} {g : Nat → ClassId} (fx : zFX E (xw D ad g) cX3_writeResidues RX3 8 none) (hR : zR E = rmX3_writeResidues) {r : zMi} {J : zMl} (hr : zRX E (xw D ad g) none r J) {k8 : Nat → Int32 → Int32 → Int32 → Int32 → zMi → Option zMi} (hk8 : ∀ (n0 : Nat) (a1 : Int32) (a2 : Int32) (a3 : Int32) (a4 : Int32) (I : zMi) , k8 n0 a1 a2 a3 a4 I = some r → n0 < 12 → zAt E (xw D ad g) 8 [(0, .ref (ad (22 + 3 * n0))), (1, .int a1), (2, .int a2), (3, .int a3), (4, .int a4)] [] I J) {k17 : Nat → Int32 → Int32 → Int32 → Int32 → Int32 → zMi → Option zMi} (hk17 : ∀ (n0 : Nat) (a1 : Int32) (a2 : Int32) (a3 : Int32) (a4 : Int32) (a5 : Int32) (I : zMi) , k17 n0 a1 a2 a3 a4 a5 I = some r → n0 < 12 → zAt E (xw D ad g) 17 [(0, .ref (ad (22 + 3 * n0))), (1, .int a1), (2, .int a2), (3, .int a3), (4, .int a4), (5, .int a5)] [] I J) : ∀ (n0 : Nat) (a1 : Int32) (a2 : Int32) (a3 : Int32) (a4 : Int32) (a5 : Int32) (s0 : Int32) (I : zMi) , f_X3_writeResidues_71 k8 k17 n0 a1 a2 a3 a4 a5 s0 I = some r → n0 < 12 → zAt E (xw D ad g) 71 [(0, .ref (ad (22 + 3 * n0))), (1, .int a1), (2, .int a2), (3, .int a3), (4, .int a4), (5, .int a5)] [.int s0] I J := by
  intro n0 a1 a2 a3 a4 a5 s0 I h b0
  rw [f_X3_writeResidues_71] at h
  refine z_istore fx dX3_writeResidues_71 (by decide) rfl ?_
  refine z_aload_n fx dX3_writeResidues_73 rfl ?_
  refine z_iload_n fx dX3_writeResidues_74 rfl ?_
  refine z_iload fx dX3_writeResidues_75 rfl ?_
  refine z_iadd fx dX3_writeResidues_77 ?_
  refine z_iload_n fx dX3_writeResidues_78 rfl ?_
  refine z_iload fx dX3_writeResidues_79 rfl ?_
  refine z_iadd fx dX3_writeResidues_81 ?_
  refine z_iload fx dX3_writeResidues_82 rfl ?_
  obtain ⟨x1, ex1, h⟩ := ob h
  refine zVv (k := 22 + 3 * n0) (rest := []) fx hR (c_X2_write (zl E) D ad g n0 (a1 + a4) (a1 + a5) s0 I J b0 ex1) (rcT b0) mvX2_write wm_X3_125 dX3_writeResidues_84 rfl ⟨rfl, rfl⟩ rfl rfl rfl ?_
  refine z_iinc (v := (a5 + 1)) fx dX3_writeResidues_87 rfl rfl (by decide) rfl ?_
  refine z_goto (tgt := 17) fx dX3_writeResidues_90 (by decide) ?_
  exact z_lv2 (hk17 n0 a1 a2 a3 a4 (a5 + 1) x1 h b0) rfl
set_option maxRecDepth 100000 in
set_option maxHeartbeats 4000000 in
theorem w_X3_writeResidues_17 {E : zE} {D : va_G} {ad : Nat → Nat} {g : Nat → ClassId} (fx : zFX E (xw D ad g) cX3_writeResidues RX3 8 none) (hR : zR E = rmX3_writeResidues) {r : zMi} {J : zMl} (hr : zRX E (xw D ad g) none r J) {k8 : Nat → Int32 → Int32 → Int32 → Int32 → zMi → Option zMi} (hk8 : ∀ (n0 : Nat) (a1 : Int32) (a2 : Int32) (a3 : Int32) (a4 : Int32) (I : zMi) , k8 n0 a1 a2 a3 a4 I = some r → n0 < 12 → zAt E (xw D ad g) 8 [(0, .ref (ad (22 + 3 * n0))), (1, .int a1), (2, .int a2), (3, .int a3), (4, .int a4)] [] I J) : ∀ (fuel : Nat) (n0 : Nat) (a1 : Int32) (a2 : Int32) (a3 : Int32) (a4 : Int32) (a5 : Int32) (I : zMi) , f_X3_writeResidues_17 k8 fuel n0 a1 a2 a3 a4 a5 I = some r → n0 < 12 → zAt E (xw D ad g) 17 [(0, .ref (ad (22 + 3 * n0))), (1, .int a1), (2, .int a2), (3, .int a3), (4, .int a4), (5, .int a5)] [] I J := by
  intro fuel
  induction fuel with
  | zero => intro n0 a1 a2 a3 a4 a5 I h b0; rw [f_X3_writeResidues_17] at h; cases h
  | succ f ih =>
    intro n0 a1 a2 a3 a4 a5 I h b0
    rw [f_X3_writeResidues_17] at h
    refine z_iload fx dX3_writeResidues_17 rfl ?_
    refine z_iload_n fx dX3_writeResidues_19 rfl ?_
    refine z_icmp_ge (tgt := 93) fx dX3_writeResidues_20 (by decide) (fun q1 => ?_) (fun q1 => ?_)
    · rw [if_pos q1] at h
      refine z_iinc (v := (a4 + 1)) fx dX3_writeResidues_93 rfl rfl (by decide) rfl ?_
      refine z_goto (tgt := 8) fx dX3_writeResidues_96 (by decide) ?_
      exact z_lv2 (hk8 n0 a1 a2 a3 (a4 + 1) I h b0) rfl
    · rw [if_neg q1] at h
      refine z_iload fx dX3_writeResidues_23 rfl ?_
      refine z_iload fx dX3_writeResidues_25 rfl ?_
      refine z_icmp_lt (tgt := 38) fx dX3_writeResidues_27 (by decide) (fun q2 => ?_) (fun q2 => ?_)
      · rw [if_pos q2] at h
        refine z_iload fx dX3_writeResidues_38 rfl ?_
        refine z_iload fx dX3_writeResidues_40 rfl ?_
        refine z_isub fx dX3_writeResidues_42 ?_
        refine z_iload_n fx dX3_writeResidues_43 rfl ?_
        refine z_iadd fx dX3_writeResidues_44 ?_
        refine z_istore fx dX3_writeResidues_45 (by decide) rfl ?_
        refine z_iload fx dX3_writeResidues_47 rfl ?_
        refine z_if_ne (tgt := 56) fx dX3_writeResidues_49 (by decide) (fun q3 => ?_) (fun q3 => ?_)
        · rw [if_neg q3] at h
          refine z_iload_n fx dX3_writeResidues_56 rfl ?_
          refine z_iload fx dX3_writeResidues_57 rfl ?_
          refine z_ishr fx dX3_writeResidues_59 ?_
          refine z_iconst (v := 1) fx dX3_writeResidues_60 rfl ?_
          refine z_iand fx dX3_writeResidues_61 ?_
          refine z_iconst (v := 1) fx dX3_writeResidues_62 rfl ?_
          refine z_icmp_ne (tgt := 70) fx dX3_writeResidues_63 (by decide) (fun q4 => ?_) (fun q4 => ?_)
          · rw [if_neg q4] at h
            refine z_iconst (v := (-1)) fx dX3_writeResidues_70 rfl ?_
            exact z_lv2 (w_X3_writeResidues_71 fx hR hr hk8 ih n0 a1 a2 a3 a4 a5 (-1) I h b0) rfl
          · rw [if_pos q4] at h
            refine z_iconst (v := 1) fx dX3_writeResidues_66 rfl ?_
            refine z_goto (tgt := 71) fx dX3_writeResidues_67 (by decide) ?_
            exact z_lv2 (w_X3_writeResidues_71 fx hR hr hk8 ih n0 a1 a2 a3 a4 a5 1 I h b0) rfl
        · rw [if_pos q3] at h
          refine z_iconst (v := 0) fx dX3_writeResidues_52 rfl ?_
          refine z_goto (tgt := 71) fx dX3_writeResidues_53 (by decide) ?_
          exact z_lv2 (w_X3_writeResidues_71 fx hR hr hk8 ih n0 a1 a2 a3 a4 a5 0 I h b0) rfl
      · rw [if_neg q2] at h
        refine z_iload fx dX3_writeResidues_30 rfl ?_
        refine z_iload fx dX3_writeResidues_32 rfl ?_
        refine z_isub fx dX3_writeResidues_34 ?_
        refine z_goto (tgt := 45) fx dX3_writeResidues_35 (by decide) ?_
        refine z_istore fx dX3_writeResidues_45 (by decide) rfl ?_
        refine z_iload fx dX3_writeResidues_47 rfl ?_
        refine z_if_ne (tgt := 56) fx dX3_writeResidues_49 (by decide) (fun q5 => ?_) (fun q5 => ?_)
        · rw [if_neg q5] at h
          refine z_iload_n fx dX3_writeResidues_56 rfl ?_
          refine z_iload fx dX3_writeResidues_57 rfl ?_
          refine z_ishr fx dX3_writeResidues_59 ?_
          refine z_iconst (v := 1) fx dX3_writeResidues_60 rfl ?_
          refine z_iand fx dX3_writeResidues_61 ?_
          refine z_iconst (v := 1) fx dX3_writeResidues_62 rfl ?_
          refine z_icmp_ne (tgt := 70) fx dX3_writeResidues_63 (by decide) (fun q6 => ?_) (fun q6 => ?_)
          · rw [if_neg q6] at h
            refine z_iconst (v := (-1)) fx dX3_writeResidues_70 rfl ?_
            exact z_lv2 (w_X3_writeResidues_71 fx hR hr hk8 ih n0 a1 a2 a3 a4 a5 (-1) I h b0) rfl
          · rw [if_pos q6] at h
            refine z_iconst (v := 1) fx dX3_writeResidues_66 rfl ?_
            refine z_goto (tgt := 71) fx dX3_writeResidues_67 (by decide) ?_
            exact z_lv2 (w_X3_writeResidues_71 fx hR hr hk8 ih n0 a1 a2 a3 a4 a5 1 I h b0) rfl
        · rw [if_pos q5] at h
          refine z_iconst (v := 0) fx dX3_writeResidues_52 rfl ?_
          refine z_goto (tgt := 71) fx dX3_writeResidues_53 (by decide) ?_
          exact z_lv2 (w_X3_writeResidues_71 fx hR hr hk8 ih n0 a1 a2 a3 a4 a5 0 I h b0) rfl
set_option maxRecDepth 100000 in
set_option maxHeartbeats 4000000 in
theorem w_X3_writeResidues_8 {E : zE} {D : va_G} {ad : Nat → Nat} {g : Nat → ClassId} (fx : zFX E (xw D ad g) cX3_writeResidues RX3 8 none) (hR : zR E = rmX3_writeResidues) {r : zMi} {J : zMl} (hr : zRX E (xw D ad g) none r J) : ∀ (fuel : Nat) (n0 : Nat) (a1 : Int32) (a2 : Int32) (a3 : Int32) (a4 : Int32) (I : zMi) , f_X3_writeResidues_8 fuel n0 a1 a2 a3 a4 I = some r → n0 < 12 → zAt E (xw D ad g) 8 [(0, .ref (ad (22 + 3 * n0))), (1, .int a1), (2, .int a2), (3, .int a3), (4, .int a4)] [] I J := by
  intro fuel
  induction fuel with
  | zero => intro n0 a1 a2 a3 a4 I h b0; rw [f_X3_writeResidues_8] at h; cases h
  | succ f ih =>
    intro n0 a1 a2 a3 a4 I h b0
    rw [f_X3_writeResidues_8] at h
    refine z_iload fx dX3_writeResidues_8 rfl ?_
    refine z_iload_n fx dX3_writeResidues_10 rfl ?_
    refine z_icmp_ge (tgt := 99) fx dX3_writeResidues_11 (by decide) (fun q1 => ?_) (fun q1 => ?_)
    · rw [if_pos q1] at h
      cases h
      exact z_vret fx hr dX3_writeResidues_99
    · rw [if_neg q1] at h
      refine z_iconst (v := 0) fx dX3_writeResidues_14 rfl ?_
      refine z_istore fx dX3_writeResidues_15 (by decide) rfl ?_
      exact z_lv2 (w_X3_writeResidues_17 fx hR hr ih fu n0 a1 a2 a3 a4 0 I h b0) rfl
set_option maxRecDepth 100000 in
set_option maxHeartbeats 4000000 in
theorem c_X3_writeResidues (l : Launch) (D : va_G) (ad : Nat → Nat) (g : Nat → ClassId) (n0 : Nat) (a1 : Int32) (a2 : Int32) (I : zMi) (J : zMl) (b0 : n0 < 12) {r : zMi} (h : f_X3_writeResidues n0 a1 a2 I = some r) : zCM (xw D ad g) l yX3_writeResidues cX3_writeResidues 8 none rmX3_writeResidues [.ref (ad (22 + 3 * n0)), .int a1, .int a2] I J none r J := by
  refine zCM.of (by decide) (Nat.le_of_ble_eq_true rfl) (fun E hl hR fx hr => ?_)
  subst hl
  rw [f_X3_writeResidues] at h
  refine z_iload_n fx dX3_writeResidues_0 rfl ?_
  obtain ⟨x1, ex1, h⟩ := ob h
  refine zSi (rest := []) fx hR (c_X3_squaresModulo (zl E) D ad g a2 I J ex1) mvX3_squaresModulo wm_X3_330 dX3_writeResidues_1 rfl ⟨rfl, rfl⟩ rfl rfl rfl ?_
  refine z_istore_n fx dX3_writeResidues_4 (by decide) rfl ?_
  refine z_iconst (v := 0) fx dX3_writeResidues_5 rfl ?_
  refine z_istore fx dX3_writeResidues_6 (by decide) rfl ?_
  exact z_lv2 (w_X3_writeResidues_8 fx hR hr fu n0 a1 a2 x1 0 I h b0) rfl
set_option maxRecDepth 100000 in
set_option maxHeartbeats 4000000 in
theorem w_X3_residues_31 {E : zE} {D : va_G} {ad : Nat → Nat} {g : Nat → ClassId} (fx : zFX E (xw D ad g) cX3_residues RX3 4 (some .int)) (hR : zR E = rmX3_residues) {r : Int32 × zMi} {J : zMl} (hr : zRX E (xw D ad g) (some (.int r.1)) r.2 J) : ∀ (a1 : Int32) (a2 : Int32) (I : zMi) , f_X3_residues_31 a1 a2 I = some r → zAt E (xw D ad g) 31 [(0, .ref (ad (0))), (1, .int a1), (2, .int a2)] [] I J := by
  intro a1 a2 I h
  rw [f_X3_residues_31] at h
  refine z_aload_n fx dX3_residues_31 rfl ?_
  refine gS_tables fx wf_X3_17 dX3_residues_32 ?_
  refine z_iload_n fx dX3_residues_35 rfl ?_
  obtain ⟨q1, h⟩ := oi h
  refine x_tld fx q1 dX3_residues_36 ?_
  refine z_astore_n fx dX3_residues_37 (by decide) rfl ?_
  refine z_aload_n fx dX3_residues_38 rfl ?_
  refine z_iload_n fx dX3_residues_39 rfl ?_
  obtain ⟨x2, ex2, h⟩ := ob h
  refine zVv (k := 22 + 3 * a1.toNatClampNeg) (rest := []) fx hR (c_X2_begin (zl E) D ad g a1.toNatClampNeg a2 I J (ix_12 q1) ex2) (rcT (ix_12 q1)) mvX2_begin wm_X3_107 dX3_residues_40 rfl ⟨rfl, rfl⟩ rfl rfl rfl ?_
  refine z_aload_n fx dX3_residues_43 rfl ?_
  refine z_iconst (v := 0) fx dX3_residues_44 rfl ?_
  refine z_iload_n fx dX3_residues_45 rfl ?_
  obtain ⟨x3, ex3, h⟩ := ob h
  refine zSv (rest := []) fx hR (c_X3_writeResidues (zl E) D ad g a1.toNatClampNeg 0 a2 x2 J (ix_12 q1) ex3) mvX3_writeResidues wm_X3_170 dX3_residues_46 rfl ⟨rfl, rfl⟩ rfl rfl rfl ?_
  refine z_aload_n fx dX3_residues_49 rfl ?_
  obtain ⟨x4, ex4, h⟩ := ob h
  refine zVi (k := 22 + 3 * a1.toNatClampNeg) (rest := []) fx hR (c_X2_judged (zl E) D ad g a1.toNatClampNeg x3 J (ix_12 q1) ex4) (rcT (ix_12 q1)) mvX2_judged wm_X3_111 dX3_residues_50 rfl ⟨rfl, rfl⟩ rfl rfl rfl ?_
  cases h
  exact z_iret fx hr dX3_residues_53
set_option maxRecDepth 100000 in
set_option maxHeartbeats 4000000 in
theorem c_X3_residues (l : Launch) (D : va_G) (ad : Nat → Nat) (g : Nat → ClassId) (a1 : Int32) (a2 : Int32) (I : zMi) (J : zMl) {r : Int32 × zMi} (h : f_X3_residues a1 a2 I = some r) : zCM (xw D ad g) l yX3_residues cX3_residues 4 (some .int) rmX3_residues [.ref (ad (0)), .int a1, .int a2] I J (some (.int r.1)) r.2 J := by
  refine zCM.of (by decide) (Nat.le_of_ble_eq_true rfl) (fun E hl hR fx hr => ?_)
  subst hl
  rw [f_X3_residues] at h
  refine z_iload_n fx dX3_residues_0 rfl ?_
  refine zSi (rest := []) fx hR (c_X3_isTableNumber (zl E) D ad g a1 I J rfl) mvX3_isTableNumber wm_X3_104 dX3_residues_1 rfl ⟨rfl, rfl⟩ rfl rfl rfl ?_
  refine z_if_eq (tgt := 29) fx dX3_residues_4 (by decide) (fun q1 => ?_) (fun q1 => ?_)
  · rw [if_pos q1] at h
    refine z_iconst (v := (-1)) fx dX3_residues_29 rfl ?_
    cases h
    exact z_iret fx hr dX3_residues_30
  · rw [if_neg q1] at h
    refine z_iload_n fx dX3_residues_7 rfl ?_
    refine z_iconst (v := 3) fx dX3_residues_8 rfl ?_
    refine z_icmp_eq (tgt := 31) fx dX3_residues_9 (by decide) (fun q2 => ?_) (fun q2 => ?_)
    · rw [if_pos q2] at h
      exact z_lv2 (w_X3_residues_31 fx hR hr a1 a2 I h) rfl
    · rw [if_neg q2] at h
      refine z_iload_n fx dX3_residues_12 rfl ?_
      refine z_iconst (v := 5) fx dX3_residues_13 rfl ?_
      refine z_icmp_eq (tgt := 31) fx dX3_residues_14 (by decide) (fun q3 => ?_) (fun q3 => ?_)
      · rw [if_pos q3] at h
        exact z_lv2 (w_X3_residues_31 fx hR hr a1 a2 I h) rfl
      · rw [if_neg q3] at h
        refine z_iload_n fx dX3_residues_17 rfl ?_
        refine z_bipush (v := 7) fx dX3_residues_18 rfl ?_
        refine z_icmp_eq (tgt := 31) fx dX3_residues_20 (by decide) (fun q4 => ?_) (fun q4 => ?_)
        · rw [if_pos q4] at h
          exact z_lv2 (w_X3_residues_31 fx hR hr a1 a2 I h) rfl
        · rw [if_neg q4] at h
          refine z_iload_n fx dX3_residues_23 rfl ?_
          refine z_bipush (v := 11) fx dX3_residues_24 rfl ?_
          refine z_icmp_eq (tgt := 31) fx dX3_residues_26 (by decide) (fun q5 => ?_) (fun q5 => ?_)
          · rw [if_pos q5] at h
            exact z_lv2 (w_X3_residues_31 fx hR hr a1 a2 I h) rfl
          · rw [if_neg q5] at h
            refine z_iconst (v := (-1)) fx dX3_residues_29 rfl ?_
            cases h
            exact z_iret fx hr dX3_residues_30
set_option maxRecDepth 100000 in
set_option maxHeartbeats 4000000 in
theorem w_X3_bordered_49 {E : zE} {D : va_G} {ad : Nat → Nat} {g : Nat → ClassId} (fx : zFX E (xw D ad g) cX3_bordered RX3 5 (some .int)) (hR : zR E = rmX3_bordered) {r : Int32 × zMi} {J : zMl} (hr : zRX E (xw D ad g) (some (.int r.1)) r.2 J) : ∀ (fuel : Nat) (a2 : Int32) (n3 : Nat) (a4 : Int32) (I : zMi) , f_X3_bordered_49 fuel a2 n3 a4 I = some r → n3 < 12 → zAt E (xw D ad g) 49 [(0, .ref (ad (0))), (2, .int a2), (3, .ref (ad (22 + 3 * n3))), (4, .int a4)] [] I J := by
  intro fuel
  induction fuel with
  | zero => intro a2 n3 a4 I h b3; rw [f_X3_bordered_49] at h; cases h
  | succ f ih =>
    intro a2 n3 a4 I h b3
    rw [f_X3_bordered_49] at h
    refine z_iload fx dX3_bordered_49 rfl ?_
    refine z_iload_n fx dX3_bordered_51 rfl ?_
    refine z_icmp_gt (tgt := 78) fx dX3_bordered_52 (by decide) (fun q1 => ?_) (fun q1 => ?_)
    · rw [if_pos q1] at h
      refine z_aload_n fx dX3_bordered_78 rfl ?_
      obtain ⟨x2, ex2, h⟩ := ob h
      refine zVi (k := 22 + 3 * n3) (rest := []) fx hR (c_X2_judged (zl E) D ad g n3 I J b3 ex2) (rcT b3) mvX2_judged wm_X3_111 dX3_bordered_79 rfl ⟨rfl, rfl⟩ rfl rfl rfl ?_
      cases h
      exact z_iret fx hr dX3_bordered_82
    · rw [if_neg q1] at h
      refine z_aload_n fx dX3_bordered_55 rfl ?_
      refine z_iload fx dX3_bordered_56 rfl ?_
      refine z_iconst (v := 0) fx dX3_bordered_58 rfl ?_
      refine z_iconst (v := (-1)) fx dX3_bordered_59 rfl ?_
      obtain ⟨x3, ex3, h⟩ := ob h
      refine zVv (k := 22 + 3 * n3) (rest := []) fx hR (c_X2_write (zl E) D ad g n3 a4 0 (-1) I J b3 ex3) (rcT b3) mvX2_write wm_X3_125 dX3_bordered_60 rfl ⟨rfl, rfl⟩ rfl rfl rfl ?_
      refine z_aload_n fx dX3_bordered_63 rfl ?_
      refine z_iload fx dX3_bordered_64 rfl ?_
      refine z_iload fx dX3_bordered_66 rfl ?_
      refine z_iconst (v := 1) fx dX3_bordered_68 rfl ?_
      obtain ⟨x4, ex4, h⟩ := ob h
      refine zVv (k := 22 + 3 * n3) (rest := []) fx hR (c_X2_write (zl E) D ad g n3 a4 a4 1 x3 J b3 ex4) (rcT b3) mvX2_write wm_X3_125 dX3_bordered_69 rfl ⟨rfl, rfl⟩ rfl rfl rfl ?_
      refine z_iinc (v := (a4 + 1)) fx dX3_bordered_72 rfl rfl (by decide) rfl ?_
      refine z_goto (tgt := 49) fx dX3_bordered_75 (by decide) ?_
      exact z_lv2 (ih a2 n3 (a4 + 1) x4 h b3) rfl
set_option maxRecDepth 100000 in
set_option maxHeartbeats 4000000 in
theorem w_X3_bordered_26 {E : zE} {D : va_G} {ad : Nat → Nat} {g : Nat → ClassId} (fx : zFX E (xw D ad g) cX3_bordered RX3 5 (some .int)) (hR : zR E = rmX3_bordered) {r : Int32 × zMi} {J : zMl} (hr : zRX E (xw D ad g) (some (.int r.1)) r.2 J) : ∀ (a1 : Int32) (a2 : Int32) (I : zMi) , f_X3_bordered_26 a1 a2 I = some r → zAt E (xw D ad g) 26 [(0, .ref (ad (0))), (1, .int a1), (2, .int a2)] [] I J := by
  intro a1 a2 I h
  rw [f_X3_bordered_26] at h
  refine z_aload_n fx dX3_bordered_26 rfl ?_
  refine gS_tables fx wf_X3_17 dX3_bordered_27 ?_
  refine z_iload_n fx dX3_bordered_30 rfl ?_
  obtain ⟨q1, h⟩ := oi h
  refine x_tld fx q1 dX3_bordered_31 ?_
  refine z_astore_n fx dX3_bordered_32 (by decide) rfl ?_
  refine z_aload_n fx dX3_bordered_33 rfl ?_
  refine z_iload_n fx dX3_bordered_34 rfl ?_
  refine z_iconst (v := 1) fx dX3_bordered_35 rfl ?_
  refine z_iadd fx dX3_bordered_36 ?_
  obtain ⟨x2, ex2, h⟩ := ob h
  refine zVv (k := 22 + 3 * a1.toNatClampNeg) (rest := []) fx hR (c_X2_begin (zl E) D ad g a1.toNatClampNeg (a2 + 1) I J (ix_12 q1) ex2) (rcT (ix_12 q1)) mvX2_begin wm_X3_107 dX3_bordered_37 rfl ⟨rfl, rfl⟩ rfl rfl rfl ?_
  refine z_aload_n fx dX3_bordered_40 rfl ?_
  refine z_iconst (v := 1) fx dX3_bordered_41 rfl ?_
  refine z_iload_n fx dX3_bordered_42 rfl ?_
  obtain ⟨x3, ex3, h⟩ := ob h
  refine zSv (rest := []) fx hR (c_X3_writeResidues (zl E) D ad g a1.toNatClampNeg 1 a2 x2 J (ix_12 q1) ex3) mvX3_writeResidues wm_X3_170 dX3_bordered_43 rfl ⟨rfl, rfl⟩ rfl rfl rfl ?_
  refine z_iconst (v := 1) fx dX3_bordered_46 rfl ?_
  refine z_istore fx dX3_bordered_47 (by decide) rfl ?_
  exact z_lv2 (w_X3_bordered_49 fx hR hr fu a2 a1.toNatClampNeg 1 x3 h (ix_12 q1)) rfl
set_option maxRecDepth 100000 in
set_option maxHeartbeats 4000000 in
theorem c_X3_bordered (l : Launch) (D : va_G) (ad : Nat → Nat) (g : Nat → ClassId) (a1 : Int32) (a2 : Int32) (I : zMi) (J : zMl) {r : Int32 × zMi} (h : f_X3_bordered a1 a2 I = some r) : zCM (xw D ad g) l yX3_bordered cX3_bordered 5 (some .int) rmX3_bordered [.ref (ad (0)), .int a1, .int a2] I J (some (.int r.1)) r.2 J := by
  refine zCM.of (by decide) (Nat.le_of_ble_eq_true rfl) (fun E hl hR fx hr => ?_)
  subst hl
  rw [f_X3_bordered] at h
  refine z_iload_n fx dX3_bordered_0 rfl ?_
  refine zSi (rest := []) fx hR (c_X3_isTableNumber (zl E) D ad g a1 I J rfl) mvX3_isTableNumber wm_X3_104 dX3_bordered_1 rfl ⟨rfl, rfl⟩ rfl rfl rfl ?_
  refine z_if_eq (tgt := 24) fx dX3_bordered_4 (by decide) (fun q1 => ?_) (fun q1 => ?_)
  · rw [if_pos q1] at h
    refine z_iconst (v := (-1)) fx dX3_bordered_24 rfl ?_
    cases h
    exact z_iret fx hr dX3_bordered_25
  · rw [if_neg q1] at h
    refine z_iload_n fx dX3_bordered_7 rfl ?_
    refine z_iconst (v := 3) fx dX3_bordered_8 rfl ?_
    refine z_icmp_eq (tgt := 26) fx dX3_bordered_9 (by decide) (fun q2 => ?_) (fun q2 => ?_)
    · rw [if_pos q2] at h
      exact z_lv2 (w_X3_bordered_26 fx hR hr a1 a2 I h) rfl
    · rw [if_neg q2] at h
      refine z_iload_n fx dX3_bordered_12 rfl ?_
      refine z_bipush (v := 7) fx dX3_bordered_13 rfl ?_
      refine z_icmp_eq (tgt := 26) fx dX3_bordered_15 (by decide) (fun q3 => ?_) (fun q3 => ?_)
      · rw [if_pos q3] at h
        exact z_lv2 (w_X3_bordered_26 fx hR hr a1 a2 I h) rfl
      · rw [if_neg q3] at h
        refine z_iload_n fx dX3_bordered_18 rfl ?_
        refine z_bipush (v := 11) fx dX3_bordered_19 rfl ?_
        refine z_icmp_eq (tgt := 26) fx dX3_bordered_21 (by decide) (fun q4 => ?_) (fun q4 => ?_)
        · rw [if_pos q4] at h
          exact z_lv2 (w_X3_bordered_26 fx hR hr a1 a2 I h) rfl
        · rw [if_neg q4] at h
          refine z_iconst (v := (-1)) fx dX3_bordered_24 rfl ?_
          cases h
          exact z_iret fx hr dX3_bordered_25
set_option maxRecDepth 100000 in
set_option maxHeartbeats 4000000 in
theorem w_X3_findingOfRounds_109 {E : zE} {D : va_G} {ad : Nat → Nat} {g : Nat → ClassId} (fx : zFX E (xw D ad g) cX3_findingOfRounds RX3 6 (some .int)) (hR : zR E = rmX3_findingOfRounds) {r : Int32} {I : zMi} {J : zMl} (hr : zRX E (xw D ad g) (some (.int r)) I J) : f_X3_findingOfRounds_109 I = some r → zAt E (xw D ad g) 109 [] [] I J := by
  intro h
  rw [f_X3_findingOfRounds_109] at h
  refine z_iconst (v := 0) fx dX3_findingOfRounds_109 rfl ?_
  refine z_istore fx dX3_findingOfRounds_110 (by decide) rfl ?_
  refine z_iload fx dX3_findingOfRounds_112 rfl ?_
  refine z_if_eq (tgt := 121) fx dX3_findingOfRounds_114 (by decide) (fun q1 => ?_) (fun q1 => ?_)
  · rw [if_pos q1] at h
    refine z_iconst (v := 3) fx dX3_findingOfRounds_121 rfl ?_
    cases h
    exact z_iret fx hr dX3_findingOfRounds_122
  · rw [if_neg q1] at h
    refine z_iconst (v := 0) fx dX3_findingOfRounds_117 rfl ?_
    refine z_goto (tgt := 122) fx dX3_findingOfRounds_118 (by decide) ?_
    cases h
    exact z_iret fx hr dX3_findingOfRounds_122
set_option maxRecDepth 100000 in
set_option maxHeartbeats 4000000 in
theorem c_X3_findingOfRounds (l : Launch) (D : va_G) (ad : Nat → Nat) (g : Nat → ClassId) (n0 : Nat) (n1 : Nat) (n2 : Nat) (n3 : Nat) (I : zMi) (J : zMl) (b0 : n0 < 6) (b1 : n1 < 6) (b2 : n2 < 6) (b3 : n3 < 6) {r : Int32} (h : f_X3_findingOfRounds n0 n1 n2 n3 I = some r) : zCM (xw D ad g) l yX3_findingOfRounds cX3_findingOfRounds 6 (some .int) rmX3_findingOfRounds [.ref (ad (10 + 2 * n0)), .ref (ad (10 + 2 * n1)), .ref (ad (10 + 2 * n2)), .ref (ad (10 + 2 * n3))] I J (some (.int r)) I J := by
  refine zCM.of (by decide) (Nat.le_of_ble_eq_true rfl) (fun E hl hR fx hr => ?_)
  subst hl
  rw [f_X3_findingOfRounds] at h
  refine z_aload_n fx dX3_findingOfRounds_0 rfl ?_
  refine zVi (k := 10 + 2 * n0) (rest := []) fx hR (c_X1_isMissing (zl E) D ad g n0 I J b0 rfl) (rcR b0) mvX1_isMissing wm_X3_77 dX3_findingOfRounds_1 rfl ⟨rfl, rfl⟩ rfl rfl rfl ?_
  refine z_if_ne (tgt := 28) fx dX3_findingOfRounds_4 (by decide) (fun q1 => ?_) (fun q1 => ?_)
  · rw [if_neg q1] at h
    refine z_iconst (v := 1) fx dX3_findingOfRounds_28 rfl ?_
    cases h
    exact z_iret fx hr dX3_findingOfRounds_29
  · rw [if_pos q1] at h
    refine z_aload_n fx dX3_findingOfRounds_7 rfl ?_
    refine zVi (k := 10 + 2 * n1) (rest := []) fx hR (c_X1_isMissing (zl E) D ad g n1 I J b1 rfl) (rcR b1) mvX1_isMissing wm_X3_77 dX3_findingOfRounds_8 rfl ⟨rfl, rfl⟩ rfl rfl rfl ?_
    refine z_if_ne (tgt := 28) fx dX3_findingOfRounds_11 (by decide) (fun q2 => ?_) (fun q2 => ?_)
    · rw [if_neg q2] at h
      refine z_iconst (v := 1) fx dX3_findingOfRounds_28 rfl ?_
      cases h
      exact z_iret fx hr dX3_findingOfRounds_29
    · rw [if_pos q2] at h
      refine z_aload_n fx dX3_findingOfRounds_14 rfl ?_
      refine zVi (k := 10 + 2 * n2) (rest := []) fx hR (c_X1_isMissing (zl E) D ad g n2 I J b2 rfl) (rcR b2) mvX1_isMissing wm_X3_77 dX3_findingOfRounds_15 rfl ⟨rfl, rfl⟩ rfl rfl rfl ?_
      refine z_if_ne (tgt := 28) fx dX3_findingOfRounds_18 (by decide) (fun q3 => ?_) (fun q3 => ?_)
      · rw [if_neg q3] at h
        refine z_iconst (v := 1) fx dX3_findingOfRounds_28 rfl ?_
        cases h
        exact z_iret fx hr dX3_findingOfRounds_29
      · rw [if_pos q3] at h
        refine z_aload_n fx dX3_findingOfRounds_21 rfl ?_
        refine zVi (k := 10 + 2 * n3) (rest := []) fx hR (c_X1_isMissing (zl E) D ad g n3 I J b3 rfl) (rcR b3) mvX1_isMissing wm_X3_77 dX3_findingOfRounds_22 rfl ⟨rfl, rfl⟩ rfl rfl rfl ?_
        refine z_if_eq (tgt := 30) fx dX3_findingOfRounds_25 (by decide) (fun q4 => ?_) (fun q4 => ?_)
        · rw [if_pos q4] at h
          refine z_aload_n fx dX3_findingOfRounds_30 rfl ?_
          refine gR_size fx b0 wf_X3_97 dX3_findingOfRounds_31 ?_
          refine z_istore fx dX3_findingOfRounds_34 (by decide) rfl ?_
          refine z_iload fx dX3_findingOfRounds_36 rfl ?_
          refine z_iconst (v := 1) fx dX3_findingOfRounds_38 rfl ?_
          refine z_icmp_lt (tgt := 75) fx dX3_findingOfRounds_39 (by decide) (fun q5 => ?_) (fun q5 => ?_)
          · rw [if_pos q5] at h
            refine z_iconst (v := 5) fx dX3_findingOfRounds_75 rfl ?_
            cases h
            exact z_iret fx hr dX3_findingOfRounds_76
          · rw [if_neg q5] at h
            refine z_iload fx dX3_findingOfRounds_42 rfl ?_
            refine z_iconst (v := 3) fx dX3_findingOfRounds_44 rfl ?_
            refine z_icmp_gt (tgt := 75) fx dX3_findingOfRounds_45 (by decide) (fun q6 => ?_) (fun q6 => ?_)
            · rw [if_pos q6] at h
              refine z_iconst (v := 5) fx dX3_findingOfRounds_75 rfl ?_
              cases h
              exact z_iret fx hr dX3_findingOfRounds_76
            · rw [if_neg q6] at h
              refine z_aload_n fx dX3_findingOfRounds_48 rfl ?_
              refine gR_size fx b1 wf_X3_97 dX3_findingOfRounds_49 ?_
              refine z_iload fx dX3_findingOfRounds_52 rfl ?_
              refine z_icmp_ne (tgt := 75) fx dX3_findingOfRounds_54 (by decide) (fun q7 => ?_) (fun q7 => ?_)
              · rw [if_neg q7] at h
                refine z_iconst (v := 5) fx dX3_findingOfRounds_75 rfl ?_
                cases h
                exact z_iret fx hr dX3_findingOfRounds_76
              · rw [if_pos q7] at h
                refine z_aload_n fx dX3_findingOfRounds_57 rfl ?_
                refine gR_size fx b2 wf_X3_97 dX3_findingOfRounds_58 ?_
                refine z_iload fx dX3_findingOfRounds_61 rfl ?_
                refine z_icmp_ne (tgt := 75) fx dX3_findingOfRounds_63 (by decide) (fun q8 => ?_) (fun q8 => ?_)
                · rw [if_neg q8] at h
                  refine z_iconst (v := 5) fx dX3_findingOfRounds_75 rfl ?_
                  cases h
                  exact z_iret fx hr dX3_findingOfRounds_76
                · rw [if_pos q8] at h
                  refine z_aload_n fx dX3_findingOfRounds_66 rfl ?_
                  refine gR_size fx b3 wf_X3_97 dX3_findingOfRounds_67 ?_
                  refine z_iload fx dX3_findingOfRounds_70 rfl ?_
                  refine z_icmp_eq (tgt := 77) fx dX3_findingOfRounds_72 (by decide) (fun q9 => ?_) (fun q9 => ?_)
                  · rw [if_pos q9] at h
                    refine z_aload_n fx dX3_findingOfRounds_77 rfl ?_
                    obtain ⟨x10, ex10, h⟩ := ob h
                    refine zVi (k := 10 + 2 * n0) (rest := []) fx hR (c_X1_isSignsBothWays (zl E) D ad g n0 I J b0 ex10) (rcR b0) mvX1_isSignsBothWays wm_X3_313 dX3_findingOfRounds_78 rfl ⟨rfl, rfl⟩ rfl rfl rfl ?_
                    refine z_if_eq (tgt := 109) fx dX3_findingOfRounds_81 (by decide) (fun q11 => ?_) (fun q11 => ?_)
                    · rw [if_pos q11] at h
                      exact z_lv2 (w_X3_findingOfRounds_109 fx hR hr h) rfl
                    · rw [if_neg q11] at h
                      refine z_aload_n fx dX3_findingOfRounds_84 rfl ?_
                      obtain ⟨x12, ex12, h⟩ := ob h
                      refine zVi (k := 10 + 2 * n1) (rest := []) fx hR (c_X1_isSignsBothWays (zl E) D ad g n1 I J b1 ex12) (rcR b1) mvX1_isSignsBothWays wm_X3_313 dX3_findingOfRounds_85 rfl ⟨rfl, rfl⟩ rfl rfl rfl ?_
                      refine z_if_eq (tgt := 109) fx dX3_findingOfRounds_88 (by decide) (fun q13 => ?_) (fun q13 => ?_)
                      · rw [if_pos q13] at h
                        exact z_lv2 (w_X3_findingOfRounds_109 fx hR hr h) rfl
                      · rw [if_neg q13] at h
                        refine z_aload_n fx dX3_findingOfRounds_91 rfl ?_
                        obtain ⟨x14, ex14, h⟩ := ob h
                        refine zVi (k := 10 + 2 * n2) (rest := []) fx hR (c_X1_isSignsBothWays (zl E) D ad g n2 I J b2 ex14) (rcR b2) mvX1_isSignsBothWays wm_X3_313 dX3_findingOfRounds_92 rfl ⟨rfl, rfl⟩ rfl rfl rfl ?_
                        refine z_if_eq (tgt := 109) fx dX3_findingOfRounds_95 (by decide) (fun q15 => ?_) (fun q15 => ?_)
                        · rw [if_pos q15] at h
                          exact z_lv2 (w_X3_findingOfRounds_109 fx hR hr h) rfl
                        · rw [if_neg q15] at h
                          refine z_aload_n fx dX3_findingOfRounds_98 rfl ?_
                          obtain ⟨x16, ex16, h⟩ := ob h
                          refine zVi (k := 10 + 2 * n3) (rest := []) fx hR (c_X1_isSignsBothWays (zl E) D ad g n3 I J b3 ex16) (rcR b3) mvX1_isSignsBothWays wm_X3_313 dX3_findingOfRounds_99 rfl ⟨rfl, rfl⟩ rfl rfl rfl ?_
                          refine z_if_eq (tgt := 109) fx dX3_findingOfRounds_102 (by decide) (fun q17 => ?_) (fun q17 => ?_)
                          · rw [if_pos q17] at h
                            exact z_lv2 (w_X3_findingOfRounds_109 fx hR hr h) rfl
                          · rw [if_neg q17] at h
                            refine z_iconst (v := 1) fx dX3_findingOfRounds_105 rfl ?_
                            refine z_goto (tgt := 110) fx dX3_findingOfRounds_106 (by decide) ?_
                            refine z_istore fx dX3_findingOfRounds_110 (by decide) rfl ?_
                            refine z_iload fx dX3_findingOfRounds_112 rfl ?_
                            refine z_if_eq (tgt := 121) fx dX3_findingOfRounds_114 (by decide) (fun q18 => ?_) (fun q18 => ?_)
                            · rw [if_pos q18] at h
                              refine z_iconst (v := 3) fx dX3_findingOfRounds_121 rfl ?_
                              cases h
                              exact z_iret fx hr dX3_findingOfRounds_122
                            · rw [if_neg q18] at h
                              refine z_iconst (v := 0) fx dX3_findingOfRounds_117 rfl ?_
                              refine z_goto (tgt := 122) fx dX3_findingOfRounds_118 (by decide) ?_
                              cases h
                              exact z_iret fx hr dX3_findingOfRounds_122
                  · rw [if_neg q9] at h
                    refine z_iconst (v := 5) fx dX3_findingOfRounds_75 rfl ?_
                    cases h
                    exact z_iret fx hr dX3_findingOfRounds_76
        · rw [if_neg q4] at h
          refine z_iconst (v := 1) fx dX3_findingOfRounds_28 rfl ?_
          cases h
          exact z_iret fx hr dX3_findingOfRounds_29
set_option maxRecDepth 100000 in
set_option maxHeartbeats 4000000 in
theorem c_X3_echoOf (l : Launch) (D : va_G) (ad : Nat → Nat) (g : Nat → ClassId) (a0 : Int32) (a1 : Int32) (a2 : Int32) (a3 : Int32) (I : zMi) (J : zMl) {r : Int32} (h : f_X3_echoOf a0 a1 a2 a3 = r) : zCM (xw D ad g) l yX3_echoOf cX3_echoOf 6 (some .int) rmX3_echoOf [.int a0, .int a1, .int a2, .int a3] I J (some (.int r)) I J := by
  refine zCM.of (by decide) (Nat.le_of_ble_eq_true rfl) (fun E hl hR fx hr => ?_)
  subst hl
  rw [f_X3_echoOf] at h
  refine z_iload_n fx dX3_echoOf_0 rfl ?_
  refine z_iload_n fx dX3_echoOf_1 rfl ?_
  refine z_ishr fx dX3_echoOf_2 ?_
  refine z_istore fx dX3_echoOf_3 (by decide) rfl ?_
  refine z_iload_n fx dX3_echoOf_5 rfl ?_
  refine z_iload_n fx dX3_echoOf_6 rfl ?_
  refine z_isub fx dX3_echoOf_7 ?_
  refine z_istore fx dX3_echoOf_8 (by decide) rfl ?_
  refine z_iload_n fx dX3_echoOf_10 rfl ?_
  refine z_if_eq (tgt := 26) fx dX3_echoOf_11 (by decide) (fun q1 => ?_) (fun q1 => ?_)
  · rw [if_pos q1] at h
    refine z_iload fx dX3_echoOf_26 rfl ?_
    refine z_iconst (v := 2) fx dX3_echoOf_28 rfl ?_
    refine z_iload_n fx dX3_echoOf_29 rfl ?_
    refine z_iload fx dX3_echoOf_30 rfl ?_
    refine z_ixor fx dX3_echoOf_32 ?_
    refine z_iload fx dX3_echoOf_33 rfl ?_
    refine zSi (rest := [.int (a0 ^^^ (a0 >>> (a2 &&& 31))), .int 2, .int (a1 - a2)]) fx hR (c_X3_allBits (zl E) D ad g (a1 - a2) I J rfl) mvX3_allBits wm_X3_270 dX3_echoOf_35 rfl ⟨rfl, rfl⟩ rfl rfl rfl ?_
    refine z_iand fx dX3_echoOf_38 ?_
    refine zSi (rest := [.int 2, .int (a1 - a2)]) fx hR (c_J6_bitCount (zl E) D ad g ((a0 ^^^ (a0 >>> (a2 &&& 31))) &&& (f_X3_allBits (a1 - a2))) I J rfl) mvJ6_bitCount wm_X3_202 dX3_echoOf_39 rfl ⟨rfl, rfl⟩ rfl rfl rfl ?_
    refine z_imul fx dX3_echoOf_42 ?_
    refine z_isub fx dX3_echoOf_43 ?_
    subst h
    exact z_iret fx hr dX3_echoOf_44
  · rw [if_neg q1] at h
    refine z_iload fx dX3_echoOf_14 rfl ?_
    refine z_iload_n fx dX3_echoOf_16 rfl ?_
    refine z_iload fx dX3_echoOf_17 rfl ?_
    refine z_ishl fx dX3_echoOf_19 ?_
    refine z_ior fx dX3_echoOf_20 ?_
    refine z_istore fx dX3_echoOf_21 (by decide) rfl ?_
    refine z_iload_n fx dX3_echoOf_23 rfl ?_
    refine z_istore fx dX3_echoOf_24 (by decide) rfl ?_
    refine z_iload fx dX3_echoOf_26 rfl ?_
    refine z_iconst (v := 2) fx dX3_echoOf_28 rfl ?_
    refine z_iload_n fx dX3_echoOf_29 rfl ?_
    refine z_iload fx dX3_echoOf_30 rfl ?_
    refine z_ixor fx dX3_echoOf_32 ?_
    refine z_iload fx dX3_echoOf_33 rfl ?_
    refine zSi (rest := [.int (a0 ^^^ ((a0 >>> (a2 &&& 31)) ||| (a0 <<< ((a1 - a2) &&& 31)))), .int 2, .int a1]) fx hR (c_X3_allBits (zl E) D ad g a1 I J rfl) mvX3_allBits wm_X3_270 dX3_echoOf_35 rfl ⟨rfl, rfl⟩ rfl rfl rfl ?_
    refine z_iand fx dX3_echoOf_38 ?_
    refine zSi (rest := [.int 2, .int a1]) fx hR (c_J6_bitCount (zl E) D ad g ((a0 ^^^ ((a0 >>> (a2 &&& 31)) ||| (a0 <<< ((a1 - a2) &&& 31)))) &&& (f_X3_allBits a1)) I J rfl) mvJ6_bitCount wm_X3_202 dX3_echoOf_39 rfl ⟨rfl, rfl⟩ rfl rfl rfl ?_
    refine z_imul fx dX3_echoOf_42 ?_
    refine z_isub fx dX3_echoOf_43 ?_
    subst h
    exact z_iret fx hr dX3_echoOf_44
set_option maxRecDepth 100000 in
set_option maxHeartbeats 4000000 in
theorem w_X3_writeRound_31 {E : zE} {D : va_G} {ad : Nat → Nat} {g : Nat → ClassId} (fx : zFX E (xw D ad g) cX3_writeRound RX3 9 none) (hR : zR E = rmX3_writeRound) {r : zMi} {J : zMl} (hr : zRX E (xw D ad g) none r J) {k22 : Nat → Int32 → Nat → Int32 → Int32 → Int32 → Int32 → zMi → Option zMi} (hk22 : ∀ (n0 : Nat) (a1 : Int32) (n2 : Nat) (a3 : Int32) (a4 : Int32) (a5 : Int32) (a6 : Int32) (I : zMi) , k22 n0 a1 n2 a3 a4 a5 a6 I = some r → n0 < 12 → n2 < 6 → zAt E (xw D ad g) 22 [(0, .ref (ad (22 + 3 * n0))), (1, .int a1), (2, .ref (ad (10 + 2 * n2))), (3, .int a3), (4, .int a4), (5, .int a5), (6, .int a6)] [] I J) : ∀ (fuel : Nat) (n0 : Nat) (a1 : Int32) (n2 : Nat) (a3 : Int32) (a4 : Int32) (a5 : Int32) (a6 : Int32) (a7 : Int32) (I : zMi) , f_X3_writeRound_31 k22 fuel n0 a1 n2 a3 a4 a5 a6 a7 I = some r → n0 < 12 → n2 < 6 → zAt E (xw D ad g) 31 [(0, .ref (ad (22 + 3 * n0))), (1, .int a1), (2, .ref (ad (10 + 2 * n2))), (3, .int a3), (4, .int a4), (5, .int a5), (6, .int a6), (7, .int a7)] [] I J := by
  intro fuel
  induction fuel with
  | zero => intro n0 a1 n2 a3 a4 a5 a6 a7 I h b0 b2; rw [f_X3_writeRound_31] at h; cases h
  | succ f ih =>
    intro n0 a1 n2 a3 a4 a5 a6 a7 I h b0 b2
    rw [f_X3_writeRound_31] at h
    refine z_iload fx dX3_writeRound_31 rfl ?_
    refine z_iload_n fx dX3_writeRound_33 rfl ?_
    refine z_icmp_ge (tgt := 94) fx dX3_writeRound_34 (by decide) (fun q1 => ?_) (fun q1 => ?_)
    · rw [if_pos q1] at h
      refine z_iinc (v := (a6 + 1)) fx dX3_writeRound_94 rfl rfl (by decide) rfl ?_
      refine z_goto (tgt := 22) fx dX3_writeRound_97 (by decide) ?_
      exact z_lv2 (hk22 n0 a1 n2 a3 a4 a5 (a6 + 1) I h b0 b2) rfl
    · rw [if_neg q1] at h
      refine z_iload fx dX3_writeRound_37 rfl ?_
      refine z_iload fx dX3_writeRound_39 rfl ?_
      refine z_icmp_lt (tgt := 52) fx dX3_writeRound_41 (by decide) (fun q2 => ?_) (fun q2 => ?_)
      · rw [if_pos q2] at h
        refine z_iload fx dX3_writeRound_52 rfl ?_
        refine z_iload fx dX3_writeRound_54 rfl ?_
        refine z_isub fx dX3_writeRound_56 ?_
        refine z_iload_n fx dX3_writeRound_57 rfl ?_
        refine z_iadd fx dX3_writeRound_58 ?_
        refine z_istore fx dX3_writeRound_59 (by decide) rfl ?_
        refine z_aload_n fx dX3_writeRound_61 rfl ?_
        refine z_iload fx dX3_writeRound_62 rfl ?_
        refine z_iload fx dX3_writeRound_64 rfl ?_
        refine z_iadd fx dX3_writeRound_66 ?_
        refine z_iload fx dX3_writeRound_67 rfl ?_
        refine z_iload fx dX3_writeRound_69 rfl ?_
        refine z_iadd fx dX3_writeRound_71 ?_
        refine gs_FS fx wf_X3_327 dX3_writeRound_72 (fun t3 ht3 => ?_)
        refine z_iload_n fx dX3_writeRound_75 rfl ?_
        obtain ⟨q4, h⟩ := oi h
        refine s_ld (v := (zFSi a1.toNatClampNeg)) fx ht3 q4 rfl dX3_writeRound_76 ?_
        refine z_aload_n fx dX3_writeRound_77 rfl ?_
        refine gR_ints fx b2 wf_X3_85 dX3_writeRound_78 ?_
        refine z_iload fx dX3_writeRound_81 rfl ?_
        obtain ⟨q5, h⟩ := oi h
        refine x_ild fx (bR1 b2) (cfX_Ri g ad b2) q5 dX3_writeRound_83 ?_
        refine z_imul fx dX3_writeRound_84 ?_
        obtain ⟨x6, ex6, h⟩ := ob h
        refine zVv (k := 22 + 3 * n0) (rest := []) fx hR (c_X2_write (zl E) D ad g n0 (a4 + a6) (a5 + a7) ((zFSi a1.toNatClampNeg) * (I (11 + 2 * n2) ((a7 - a6) + a3).toNatClampNeg)) I J b0 ex6) (rcT b0) mvX2_write wm_X3_125 dX3_writeRound_85 rfl ⟨rfl, rfl⟩ rfl rfl rfl ?_
        refine z_iinc (v := (a7 + 1)) fx dX3_writeRound_88 rfl rfl (by decide) rfl ?_
        refine z_goto (tgt := 31) fx dX3_writeRound_91 (by decide) ?_
        exact z_lv2 (ih n0 a1 n2 a3 a4 a5 a6 (a7 + 1) x6 h b0 b2) rfl
      · rw [if_neg q2] at h
        refine z_iload fx dX3_writeRound_44 rfl ?_
        refine z_iload fx dX3_writeRound_46 rfl ?_
        refine z_isub fx dX3_writeRound_48 ?_
        refine z_goto (tgt := 59) fx dX3_writeRound_49 (by decide) ?_
        refine z_istore fx dX3_writeRound_59 (by decide) rfl ?_
        refine z_aload_n fx dX3_writeRound_61 rfl ?_
        refine z_iload fx dX3_writeRound_62 rfl ?_
        refine z_iload fx dX3_writeRound_64 rfl ?_
        refine z_iadd fx dX3_writeRound_66 ?_
        refine z_iload fx dX3_writeRound_67 rfl ?_
        refine z_iload fx dX3_writeRound_69 rfl ?_
        refine z_iadd fx dX3_writeRound_71 ?_
        refine gs_FS fx wf_X3_327 dX3_writeRound_72 (fun t7 ht7 => ?_)
        refine z_iload_n fx dX3_writeRound_75 rfl ?_
        obtain ⟨q8, h⟩ := oi h
        refine s_ld (v := (zFSi a1.toNatClampNeg)) fx ht7 q8 rfl dX3_writeRound_76 ?_
        refine z_aload_n fx dX3_writeRound_77 rfl ?_
        refine gR_ints fx b2 wf_X3_85 dX3_writeRound_78 ?_
        refine z_iload fx dX3_writeRound_81 rfl ?_
        obtain ⟨q9, h⟩ := oi h
        refine x_ild fx (bR1 b2) (cfX_Ri g ad b2) q9 dX3_writeRound_83 ?_
        refine z_imul fx dX3_writeRound_84 ?_
        obtain ⟨x10, ex10, h⟩ := ob h
        refine zVv (k := 22 + 3 * n0) (rest := []) fx hR (c_X2_write (zl E) D ad g n0 (a4 + a6) (a5 + a7) ((zFSi a1.toNatClampNeg) * (I (11 + 2 * n2) (a7 - a6).toNatClampNeg)) I J b0 ex10) (rcT b0) mvX2_write wm_X3_125 dX3_writeRound_85 rfl ⟨rfl, rfl⟩ rfl rfl rfl ?_
        refine z_iinc (v := (a7 + 1)) fx dX3_writeRound_88 rfl rfl (by decide) rfl ?_
        refine z_goto (tgt := 31) fx dX3_writeRound_91 (by decide) ?_
        exact z_lv2 (ih n0 a1 n2 a3 a4 a5 a6 (a7 + 1) x10 h b0 b2) rfl
set_option maxRecDepth 100000 in
set_option maxHeartbeats 4000000 in
theorem w_X3_writeRound_22 {E : zE} {D : va_G} {ad : Nat → Nat} {g : Nat → ClassId} (fx : zFX E (xw D ad g) cX3_writeRound RX3 9 none) (hR : zR E = rmX3_writeRound) {r : zMi} {J : zMl} (hr : zRX E (xw D ad g) none r J) : ∀ (fuel : Nat) (n0 : Nat) (a1 : Int32) (n2 : Nat) (a3 : Int32) (a4 : Int32) (a5 : Int32) (a6 : Int32) (I : zMi) , f_X3_writeRound_22 fuel n0 a1 n2 a3 a4 a5 a6 I = some r → n0 < 12 → n2 < 6 → zAt E (xw D ad g) 22 [(0, .ref (ad (22 + 3 * n0))), (1, .int a1), (2, .ref (ad (10 + 2 * n2))), (3, .int a3), (4, .int a4), (5, .int a5), (6, .int a6)] [] I J := by
  intro fuel
  induction fuel with
  | zero => intro n0 a1 n2 a3 a4 a5 a6 I h b0 b2; rw [f_X3_writeRound_22] at h; cases h
  | succ f ih =>
    intro n0 a1 n2 a3 a4 a5 a6 I h b0 b2
    rw [f_X3_writeRound_22] at h
    refine z_iload fx dX3_writeRound_22 rfl ?_
    refine z_iload_n fx dX3_writeRound_24 rfl ?_
    refine z_icmp_ge (tgt := 100) fx dX3_writeRound_25 (by decide) (fun q1 => ?_) (fun q1 => ?_)
    · rw [if_pos q1] at h
      cases h
      exact z_vret fx hr dX3_writeRound_100
    · rw [if_neg q1] at h
      refine z_iconst (v := 0) fx dX3_writeRound_28 rfl ?_
      refine z_istore fx dX3_writeRound_29 (by decide) rfl ?_
      exact z_lv2 (w_X3_writeRound_31 fx hR hr ih fu n0 a1 n2 a3 a4 a5 a6 0 I h b0 b2) rfl
set_option maxRecDepth 100000 in
set_option maxHeartbeats 4000000 in
theorem c_X3_writeRound (l : Launch) (D : va_G) (ad : Nat → Nat) (g : Nat → ClassId) (n0 : Nat) (a1 : Int32) (n2 : Nat) (I : zMi) (J : zMl) (b0 : n0 < 12) (b2 : n2 < 6) {r : zMi} (h : f_X3_writeRound n0 a1 n2 I = some r) : zCM (xw D ad g) l yX3_writeRound cX3_writeRound 9 none rmX3_writeRound [.ref (ad (22 + 3 * n0)), .int a1, .ref (ad (10 + 2 * n2))] I J none r J := by
  refine zCM.of (by decide) (Nat.le_of_ble_eq_true rfl) (fun E hl hR fx hr => ?_)
  subst hl
  rw [f_X3_writeRound] at h
  refine z_aload_n fx dX3_writeRound_0 rfl ?_
  refine gR_size fx b2 wf_X3_97 dX3_writeRound_1 ?_
  refine z_istore_n fx dX3_writeRound_4 (by decide) rfl ?_
  refine z_iload_n fx dX3_writeRound_5 rfl ?_
  refine z_iconst (v := 4) fx dX3_writeRound_6 rfl ?_
  refine z_idiv fx dX3_writeRound_7 (by decide) ?_
  refine z_iload_n fx dX3_writeRound_8 rfl ?_
  refine z_imul fx dX3_writeRound_9 ?_
  refine z_istore fx dX3_writeRound_10 (by decide) rfl ?_
  refine z_iload_n fx dX3_writeRound_12 rfl ?_
  refine z_iconst (v := 4) fx dX3_writeRound_13 rfl ?_
  refine z_irem fx dX3_writeRound_14 (by decide) ?_
  refine z_iload_n fx dX3_writeRound_15 rfl ?_
  refine z_imul fx dX3_writeRound_16 ?_
  refine z_istore fx dX3_writeRound_17 (by decide) rfl ?_
  refine z_iconst (v := 0) fx dX3_writeRound_19 rfl ?_
  refine z_istore fx dX3_writeRound_20 (by decide) rfl ?_
  exact z_lv2 (w_X3_writeRound_22 fx hR hr fu n0 a1 n2 (I (10 + 2 * n2) 1) ((a1 / 4) * (I (10 + 2 * n2) 1)) ((a1 - a1 / 4 * 4) * (I (10 + 2 * n2) 1)) 0 I h b0 b2) rfl
set_option maxRecDepth 100000 in
set_option maxHeartbeats 4000000 in
theorem w_X3_fourRounds_119 {E : zE} {D : va_G} {ad : Nat → Nat} {g : Nat → ClassId} (fx : zFX E (xw D ad g) cX3_fourRounds RX3 11 (some .int)) (hR : zR E = rmX3_fourRounds) {r : Int32 × zMi} {J : zMl} (hr : zRX E (xw D ad g) (some (.int r.1)) r.2 J) : ∀ (fuel : Nat) (n1 : Nat) (n2 : Nat) (n3 : Nat) (n4 : Nat) (n5 : Nat) (a8 : Int32) (I : zMi) , f_X3_fourRounds_119 fuel n1 n2 n3 n4 n5 a8 I = some r → n1 < 12 → n2 < 6 → n3 < 6 → n4 < 6 → n5 < 6 → zAt E (xw D ad g) 119 [(0, .ref (ad (0))), (1, .ref (ad (22 + 3 * n1))), (2, .ref (ad (10 + 2 * n2))), (3, .ref (ad (10 + 2 * n3))), (4, .ref (ad (10 + 2 * n4))), (5, .ref (ad (10 + 2 * n5))), (8, .int a8)] [] I J := by
  intro fuel
  induction fuel with
  | zero => intro n1 n2 n3 n4 n5 a8 I h b1 b2 b3 b4 b5; rw [f_X3_fourRounds_119] at h; cases h
  | succ f ih =>
    intro n1 n2 n3 n4 n5 a8 I h b1 b2 b3 b4 b5
    rw [f_X3_fourRounds_119] at h
    refine z_iload fx dX3_fourRounds_119 rfl ?_
    refine gs_FP fx wf_X3_320 dX3_fourRounds_121 (fun t1 ht1 => ?_)
    refine s_len fx ht1 dX3_fourRounds_124 ?_
    refine z_icmp_ge (tgt := 184) fx dX3_fourRounds_125 (by decide) (fun q2 => ?_) (fun q2 => ?_)
    · rw [if_pos q2] at h
      refine z_aload_n fx dX3_fourRounds_184 rfl ?_
      obtain ⟨x3, ex3, h⟩ := ob h
      refine zVi (k := 22 + 3 * n1) (rest := []) fx hR (c_X2_judged (zl E) D ad g n1 I J b1 ex3) (rcT b1) mvX2_judged wm_X3_111 dX3_fourRounds_185 rfl ⟨rfl, rfl⟩ rfl rfl rfl ?_
      cases h
      exact z_iret fx hr dX3_fourRounds_188
    · rw [if_neg q2] at h
      refine gs_FP fx wf_X3_320 dX3_fourRounds_128 (fun t4 ht4 => ?_)
      refine z_iload fx dX3_fourRounds_131 rfl ?_
      obtain ⟨q5, h⟩ := oi h
      refine s_ld (v := (zFPi a8.toNatClampNeg)) fx ht4 q5 rfl dX3_fourRounds_133 ?_
      refine z_istore fx dX3_fourRounds_134 (by decide) rfl ?_
      refine z_iload fx dX3_fourRounds_136 rfl ?_
      refine z_if_ne (tgt := 145) fx dX3_fourRounds_138 (by decide) (fun q6 => ?_) (fun q6 => ?_)
      · rw [if_neg q6] at h
        refine z_iload fx dX3_fourRounds_145 rfl ?_
        refine z_iconst (v := 1) fx dX3_fourRounds_147 rfl ?_
        refine z_icmp_ne (tgt := 155) fx dX3_fourRounds_148 (by decide) (fun q7 => ?_) (fun q7 => ?_)
        · rw [if_neg q7] at h
          refine z_iload fx dX3_fourRounds_155 rfl ?_
          refine z_iconst (v := 2) fx dX3_fourRounds_157 rfl ?_
          refine z_icmp_ne (tgt := 166) fx dX3_fourRounds_158 (by decide) (fun q8 => ?_) (fun q8 => ?_)
          · rw [if_neg q8] at h
            refine z_aload fx dX3_fourRounds_166 rfl ?_
            refine z_astore fx dX3_fourRounds_168 (by decide) rfl ?_
            refine z_aload_n fx dX3_fourRounds_170 rfl ?_
            refine z_iload fx dX3_fourRounds_171 rfl ?_
            refine z_aload fx dX3_fourRounds_173 rfl ?_
            obtain ⟨x9, ex9, h⟩ := ob h
            refine zSv (rest := []) fx hR (c_X3_writeRound (zl E) D ad g n1 a8 n5 I J b1 b5 ex9) mvX3_writeRound wm_X3_323 dX3_fourRounds_175 rfl ⟨rfl, rfl⟩ rfl rfl rfl ?_
            refine z_iinc (v := (a8 + 1)) fx dX3_fourRounds_178 rfl rfl (by decide) rfl ?_
            refine z_goto (tgt := 119) fx dX3_fourRounds_181 (by decide) ?_
            exact z_lv2 (ih n1 n2 n3 n4 n5 (a8 + 1) x9 h b1 b2 b3 b4 b5) rfl
          · rw [if_pos q8] at h
            refine z_aload fx dX3_fourRounds_161 rfl ?_
            refine z_goto (tgt := 168) fx dX3_fourRounds_163 (by decide) ?_
            refine z_astore fx dX3_fourRounds_168 (by decide) rfl ?_
            refine z_aload_n fx dX3_fourRounds_170 rfl ?_
            refine z_iload fx dX3_fourRounds_171 rfl ?_
            refine z_aload fx dX3_fourRounds_173 rfl ?_
            obtain ⟨x10, ex10, h⟩ := ob h
            refine zSv (rest := []) fx hR (c_X3_writeRound (zl E) D ad g n1 a8 n4 I J b1 b4 ex10) mvX3_writeRound wm_X3_323 dX3_fourRounds_175 rfl ⟨rfl, rfl⟩ rfl rfl rfl ?_
            refine z_iinc (v := (a8 + 1)) fx dX3_fourRounds_178 rfl rfl (by decide) rfl ?_
            refine z_goto (tgt := 119) fx dX3_fourRounds_181 (by decide) ?_
            exact z_lv2 (ih n1 n2 n3 n4 n5 (a8 + 1) x10 h b1 b2 b3 b4 b5) rfl
        · rw [if_pos q7] at h
          refine z_aload_n fx dX3_fourRounds_151 rfl ?_
          refine z_goto (tgt := 168) fx dX3_fourRounds_152 (by decide) ?_
          refine z_astore fx dX3_fourRounds_168 (by decide) rfl ?_
          refine z_aload_n fx dX3_fourRounds_170 rfl ?_
          refine z_iload fx dX3_fourRounds_171 rfl ?_
          refine z_aload fx dX3_fourRounds_173 rfl ?_
          obtain ⟨x11, ex11, h⟩ := ob h
          refine zSv (rest := []) fx hR (c_X3_writeRound (zl E) D ad g n1 a8 n3 I J b1 b3 ex11) mvX3_writeRound wm_X3_323 dX3_fourRounds_175 rfl ⟨rfl, rfl⟩ rfl rfl rfl ?_
          refine z_iinc (v := (a8 + 1)) fx dX3_fourRounds_178 rfl rfl (by decide) rfl ?_
          refine z_goto (tgt := 119) fx dX3_fourRounds_181 (by decide) ?_
          exact z_lv2 (ih n1 n2 n3 n4 n5 (a8 + 1) x11 h b1 b2 b3 b4 b5) rfl
      · rw [if_pos q6] at h
        refine z_aload_n fx dX3_fourRounds_141 rfl ?_
        refine z_goto (tgt := 168) fx dX3_fourRounds_142 (by decide) ?_
        refine z_astore fx dX3_fourRounds_168 (by decide) rfl ?_
        refine z_aload_n fx dX3_fourRounds_170 rfl ?_
        refine z_iload fx dX3_fourRounds_171 rfl ?_
        refine z_aload fx dX3_fourRounds_173 rfl ?_
        obtain ⟨x12, ex12, h⟩ := ob h
        refine zSv (rest := []) fx hR (c_X3_writeRound (zl E) D ad g n1 a8 n2 I J b1 b2 ex12) mvX3_writeRound wm_X3_323 dX3_fourRounds_175 rfl ⟨rfl, rfl⟩ rfl rfl rfl ?_
        refine z_iinc (v := (a8 + 1)) fx dX3_fourRounds_178 rfl rfl (by decide) rfl ?_
        refine z_goto (tgt := 119) fx dX3_fourRounds_181 (by decide) ?_
        exact z_lv2 (ih n1 n2 n3 n4 n5 (a8 + 1) x12 h b1 b2 b3 b4 b5) rfl
set_option maxRecDepth 100000 in
set_option maxHeartbeats 4000000 in
theorem w_X3_fourRounds_32 {E : zE} {D : va_G} {ad : Nat → Nat} {g : Nat → ClassId} (fx : zFX E (xw D ad g) cX3_fourRounds RX3 11 (some .int)) (hR : zR E = rmX3_fourRounds) {r : Int32 × zMi} {J : zMl} (hr : zRX E (xw D ad g) (some (.int r.1)) r.2 J) : ∀ (fuel : Nat) (n1 : Nat) (n2 : Nat) (n3 : Nat) (n4 : Nat) (n5 : Nat) (a7 : Int32) (a8 : Int32) (I : zMi) , f_X3_fourRounds_32 fuel n1 n2 n3 n4 n5 a7 a8 I = some r → n1 < 12 → n2 < 6 → n3 < 6 → n4 < 6 → n5 < 6 → zAt E (xw D ad g) 32 [(0, .ref (ad (0))), (1, .ref (ad (22 + 3 * n1))), (2, .ref (ad (10 + 2 * n2))), (3, .ref (ad (10 + 2 * n3))), (4, .ref (ad (10 + 2 * n4))), (5, .ref (ad (10 + 2 * n5))), (7, .int a7), (8, .int a8)] [] I J := by
  intro fuel
  induction fuel with
  | zero => intro n1 n2 n3 n4 n5 a7 a8 I h b1 b2 b3 b4 b5; rw [f_X3_fourRounds_32] at h; cases h
  | succ f ih =>
    intro n1 n2 n3 n4 n5 a7 a8 I h b1 b2 b3 b4 b5
    rw [f_X3_fourRounds_32] at h
    refine z_iload fx dX3_fourRounds_32 rfl ?_
    refine z_iload fx dX3_fourRounds_34 rfl ?_
    refine z_icmp_ge (tgt := 108) fx dX3_fourRounds_36 (by decide) (fun q1 => ?_) (fun q1 => ?_)
    · rw [if_pos q1] at h
      refine z_aload_n fx dX3_fourRounds_108 rfl ?_
      refine z_iconst (v := 4) fx dX3_fourRounds_109 rfl ?_
      refine z_iload fx dX3_fourRounds_110 rfl ?_
      refine z_imul fx dX3_fourRounds_112 ?_
      obtain ⟨x2, ex2, h⟩ := ob h
      refine zVv (k := 22 + 3 * n1) (rest := []) fx hR (c_X2_begin (zl E) D ad g n1 (4 * a7) I J b1 ex2) (rcT b1) mvX2_begin wm_X3_107 dX3_fourRounds_113 rfl ⟨rfl, rfl⟩ rfl rfl rfl ?_
      refine z_iconst (v := 0) fx dX3_fourRounds_116 rfl ?_
      refine z_istore fx dX3_fourRounds_117 (by decide) rfl ?_
      exact z_lv2 (w_X3_fourRounds_119 fx hR hr fu n1 n2 n3 n4 n5 0 x2 h b1 b2 b3 b4 b5) rfl
    · rw [if_neg q1] at h
      refine z_aload_n fx dX3_fourRounds_39 rfl ?_
      obtain ⟨x3, ex3, h⟩ := ob h
      refine zVi (k := 10 + 2 * n2) (rest := []) fx hR (c_X1_minusBits (zl E) D ad g n2 I J b2 ex3) (rcR b2) mvX1_minusBits wm_X3_247 dX3_fourRounds_40 rfl ⟨rfl, rfl⟩ rfl rfl rfl ?_
      refine z_iload fx dX3_fourRounds_43 rfl ?_
      refine z_iload fx dX3_fourRounds_45 rfl ?_
      refine z_iconst (v := 1) fx dX3_fourRounds_47 rfl ?_
      refine zSi (rest := []) fx hR (c_X3_echoOf (zl E) D ad g x3 a7 a8 1 I J rfl) mvX3_echoOf wm_X3_250 dX3_fourRounds_48 rfl ⟨rfl, rfl⟩ rfl rfl rfl ?_
      refine z_aload_n fx dX3_fourRounds_51 rfl ?_
      obtain ⟨x4, ex4, h⟩ := ob h
      refine zVi (k := 10 + 2 * n3) (rest := [.int (f_X3_echoOf x3 a7 a8 1)]) fx hR (c_X1_minusBits (zl E) D ad g n3 I J b3 ex4) (rcR b3) mvX1_minusBits wm_X3_247 dX3_fourRounds_52 rfl ⟨rfl, rfl⟩ rfl rfl rfl ?_
      refine z_iload fx dX3_fourRounds_55 rfl ?_
      refine z_iload fx dX3_fourRounds_57 rfl ?_
      refine z_iconst (v := 1) fx dX3_fourRounds_59 rfl ?_
      refine zSi (rest := [.int (f_X3_echoOf x3 a7 a8 1)]) fx hR (c_X3_echoOf (zl E) D ad g x4 a7 a8 1 I J rfl) mvX3_echoOf wm_X3_250 dX3_fourRounds_60 rfl ⟨rfl, rfl⟩ rfl rfl rfl ?_
      refine z_iadd fx dX3_fourRounds_63 ?_
      refine z_aload fx dX3_fourRounds_64 rfl ?_
      obtain ⟨x5, ex5, h⟩ := ob h
      refine zVi (k := 10 + 2 * n4) (rest := [.int ((f_X3_echoOf x3 a7 a8 1) + (f_X3_echoOf x4 a7 a8 1))]) fx hR (c_X1_minusBits (zl E) D ad g n4 I J b4 ex5) (rcR b4) mvX1_minusBits wm_X3_247 dX3_fourRounds_66 rfl ⟨rfl, rfl⟩ rfl rfl rfl ?_
      refine z_iload fx dX3_fourRounds_69 rfl ?_
      refine z_iload fx dX3_fourRounds_71 rfl ?_
      refine z_iconst (v := 1) fx dX3_fourRounds_73 rfl ?_
      refine zSi (rest := [.int ((f_X3_echoOf x3 a7 a8 1) + (f_X3_echoOf x4 a7 a8 1))]) fx hR (c_X3_echoOf (zl E) D ad g x5 a7 a8 1 I J rfl) mvX3_echoOf wm_X3_250 dX3_fourRounds_74 rfl ⟨rfl, rfl⟩ rfl rfl rfl ?_
      refine z_iadd fx dX3_fourRounds_77 ?_
      refine z_aload fx dX3_fourRounds_78 rfl ?_
      obtain ⟨x6, ex6, h⟩ := ob h
      refine zVi (k := 10 + 2 * n5) (rest := [.int (((f_X3_echoOf x3 a7 a8 1) + (f_X3_echoOf x4 a7 a8 1)) + (f_X3_echoOf x5 a7 a8 1))]) fx hR (c_X1_minusBits (zl E) D ad g n5 I J b5 ex6) (rcR b5) mvX1_minusBits wm_X3_247 dX3_fourRounds_80 rfl ⟨rfl, rfl⟩ rfl rfl rfl ?_
      refine z_iload fx dX3_fourRounds_83 rfl ?_
      refine z_iload fx dX3_fourRounds_85 rfl ?_
      refine z_iconst (v := 1) fx dX3_fourRounds_87 rfl ?_
      refine zSi (rest := [.int (((f_X3_echoOf x3 a7 a8 1) + (f_X3_echoOf x4 a7 a8 1)) + (f_X3_echoOf x5 a7 a8 1))]) fx hR (c_X3_echoOf (zl E) D ad g x6 a7 a8 1 I J rfl) mvX3_echoOf wm_X3_250 dX3_fourRounds_88 rfl ⟨rfl, rfl⟩ rfl rfl rfl ?_
      refine z_iadd fx dX3_fourRounds_91 ?_
      refine z_istore fx dX3_fourRounds_92 (by decide) rfl ?_
      refine z_iload fx dX3_fourRounds_94 rfl ?_
      refine z_if_eq (tgt := 102) fx dX3_fourRounds_96 (by decide) (fun q7 => ?_) (fun q7 => ?_)
      · rw [if_pos q7] at h
        refine z_iinc (v := (a8 + 1)) fx dX3_fourRounds_102 rfl rfl (by decide) rfl ?_
        refine z_goto (tgt := 32) fx dX3_fourRounds_105 (by decide) ?_
        exact z_lv2 (ih n1 n2 n3 n4 n5 a7 (a8 + 1) I h b1 b2 b3 b4 b5) rfl
      · rw [if_neg q7] at h
        refine z_bipush (v := (-4)) fx dX3_fourRounds_99 rfl ?_
        cases h
        exact z_iret fx hr dX3_fourRounds_101
set_option maxRecDepth 100000 in
set_option maxHeartbeats 4000000 in
theorem c_X3_fourRounds (l : Launch) (D : va_G) (ad : Nat → Nat) (g : Nat → ClassId) (n1 : Nat) (n2 : Nat) (n3 : Nat) (n4 : Nat) (n5 : Nat) (I : zMi) (J : zMl) (b1 : n1 < 12) (b2 : n2 < 6) (b3 : n3 < 6) (b4 : n4 < 6) (b5 : n5 < 6) {r : Int32 × zMi} (h : f_X3_fourRounds n1 n2 n3 n4 n5 I = some r) : zCM (xw D ad g) l yX3_fourRounds cX3_fourRounds 11 (some .int) rmX3_fourRounds [.ref (ad (0)), .ref (ad (22 + 3 * n1)), .ref (ad (10 + 2 * n2)), .ref (ad (10 + 2 * n3)), .ref (ad (10 + 2 * n4)), .ref (ad (10 + 2 * n5))] I J (some (.int r.1)) r.2 J := by
  refine zCM.of (by decide) (Nat.le_of_ble_eq_true rfl) (fun E hl hR fx hr => ?_)
  subst hl
  rw [f_X3_fourRounds] at h
  refine z_aload_n fx dX3_fourRounds_0 rfl ?_
  refine z_aload_n fx dX3_fourRounds_1 rfl ?_
  refine z_aload fx dX3_fourRounds_2 rfl ?_
  refine z_aload fx dX3_fourRounds_4 rfl ?_
  obtain ⟨x1, ex1, h⟩ := ob h
  refine zSi (rest := []) fx hR (c_X3_findingOfRounds (zl E) D ad g n2 n3 n4 n5 I J b2 b3 b4 b5 ex1) mvX3_findingOfRounds wm_X3_316 dX3_fourRounds_6 rfl ⟨rfl, rfl⟩ rfl rfl rfl ?_
  refine z_istore fx dX3_fourRounds_9 (by decide) rfl ?_
  refine z_iload fx dX3_fourRounds_11 rfl ?_
  refine z_if_eq (tgt := 23) fx dX3_fourRounds_13 (by decide) (fun q2 => ?_) (fun q2 => ?_)
  · rw [if_pos q2] at h
    refine z_aload_n fx dX3_fourRounds_23 rfl ?_
    refine gR_size fx b2 wf_X3_97 dX3_fourRounds_24 ?_
    refine z_istore fx dX3_fourRounds_27 (by decide) rfl ?_
    refine z_iconst (v := 1) fx dX3_fourRounds_29 rfl ?_
    refine z_istore fx dX3_fourRounds_30 (by decide) rfl ?_
    exact z_lv2 (w_X3_fourRounds_32 fx hR hr fu n1 n2 n3 n4 n5 (I (10 + 2 * n2) 1) 1 I h b1 b2 b3 b4 b5) rfl
  · rw [if_neg q2] at h
    refine z_aload_n fx dX3_fourRounds_16 rfl ?_
    refine z_iload fx dX3_fourRounds_17 rfl ?_
    obtain ⟨x3, ex3, h⟩ := ob h
    refine zVi (k := 0) (rest := []) fx hR (c_X3_found (zl E) D ad g x1 I J ex3) rcS mvX3_found wm_X3_69 dX3_fourRounds_19 rfl ⟨rfl, rfl⟩ rfl rfl rfl ?_
    cases h
    exact z_iret fx hr dX3_fourRounds_22
set_option maxRecDepth 100000 in
set_option maxHeartbeats 4000000 in
theorem c_X3_four (l : Launch) (D : va_G) (ad : Nat → Nat) (g : Nat → ClassId) (a1 : Int32) (a2 : Int32) (a3 : Int32) (a4 : Int32) (a5 : Int32) (I : zMi) (J : zMl) {r : Int32 × zMi} (h : f_X3_four a1 a2 a3 a4 a5 I = some r) : zCM (xw D ad g) l yX3_four cX3_four 6 (some .int) rmX3_four [.ref (ad (0)), .int a1, .int a2, .int a3, .int a4, .int a5] I J (some (.int r.1)) r.2 J := by
  refine zCM.of (by decide) (Nat.le_of_ble_eq_true rfl) (fun E hl hR fx hr => ?_)
  subst hl
  rw [f_X3_four] at h
  refine z_iload_n fx dX3_four_0 rfl ?_
  refine zSi (rest := []) fx hR (c_X3_isTableNumber (zl E) D ad g a1 I J rfl) mvX3_isTableNumber wm_X3_104 dX3_four_1 rfl ⟨rfl, rfl⟩ rfl rfl rfl ?_
  refine z_if_eq (tgt := 37) fx dX3_four_4 (by decide) (fun q1 => ?_) (fun q1 => ?_)
  · rw [if_pos q1] at h
    refine z_iconst (v := (-1)) fx dX3_four_37 rfl ?_
    cases h
    exact z_iret fx hr dX3_four_38
  · rw [if_neg q1] at h
    refine z_iload_n fx dX3_four_7 rfl ?_
    refine zSi (rest := []) fx hR (c_X3_isRowNumber (zl E) D ad g a2 I J rfl) mvX3_isRowNumber wm_X3_65 dX3_four_8 rfl ⟨rfl, rfl⟩ rfl rfl rfl ?_
    refine z_if_eq (tgt := 37) fx dX3_four_11 (by decide) (fun q2 => ?_) (fun q2 => ?_)
    · rw [if_pos q2] at h
      refine z_iconst (v := (-1)) fx dX3_four_37 rfl ?_
      cases h
      exact z_iret fx hr dX3_four_38
    · rw [if_neg q2] at h
      refine z_iload_n fx dX3_four_14 rfl ?_
      refine zSi (rest := []) fx hR (c_X3_isRowNumber (zl E) D ad g a3 I J rfl) mvX3_isRowNumber wm_X3_65 dX3_four_15 rfl ⟨rfl, rfl⟩ rfl rfl rfl ?_
      refine z_if_eq (tgt := 37) fx dX3_four_18 (by decide) (fun q3 => ?_) (fun q3 => ?_)
      · rw [if_pos q3] at h
        refine z_iconst (v := (-1)) fx dX3_four_37 rfl ?_
        cases h
        exact z_iret fx hr dX3_four_38
      · rw [if_neg q3] at h
        refine z_iload fx dX3_four_21 rfl ?_
        refine zSi (rest := []) fx hR (c_X3_isRowNumber (zl E) D ad g a4 I J rfl) mvX3_isRowNumber wm_X3_65 dX3_four_23 rfl ⟨rfl, rfl⟩ rfl rfl rfl ?_
        refine z_if_eq (tgt := 37) fx dX3_four_26 (by decide) (fun q4 => ?_) (fun q4 => ?_)
        · rw [if_pos q4] at h
          refine z_iconst (v := (-1)) fx dX3_four_37 rfl ?_
          cases h
          exact z_iret fx hr dX3_four_38
        · rw [if_neg q4] at h
          refine z_iload fx dX3_four_29 rfl ?_
          refine zSi (rest := []) fx hR (c_X3_isRowNumber (zl E) D ad g a5 I J rfl) mvX3_isRowNumber wm_X3_65 dX3_four_31 rfl ⟨rfl, rfl⟩ rfl rfl rfl ?_
          refine z_if_ne (tgt := 39) fx dX3_four_34 (by decide) (fun q5 => ?_) (fun q5 => ?_)
          · rw [if_neg q5] at h
            refine z_aload_n fx dX3_four_39 rfl ?_
            refine z_aload_n fx dX3_four_40 rfl ?_
            refine gS_tables fx wf_X3_17 dX3_four_41 ?_
            refine z_iload_n fx dX3_four_44 rfl ?_
            obtain ⟨q6, h⟩ := oi h
            refine x_tld fx q6 dX3_four_45 ?_
            refine z_aload_n fx dX3_four_46 rfl ?_
            refine gS_rows fx wf_X3_11 dX3_four_47 ?_
            refine z_iload_n fx dX3_four_50 rfl ?_
            obtain ⟨q7, h⟩ := oi h
            refine x_rld fx q7 dX3_four_51 ?_
            refine z_aload_n fx dX3_four_52 rfl ?_
            refine gS_rows fx wf_X3_11 dX3_four_53 ?_
            refine z_iload_n fx dX3_four_56 rfl ?_
            obtain ⟨q8, h⟩ := oi h
            refine x_rld fx q8 dX3_four_57 ?_
            refine z_aload_n fx dX3_four_58 rfl ?_
            refine gS_rows fx wf_X3_11 dX3_four_59 ?_
            refine z_iload fx dX3_four_62 rfl ?_
            obtain ⟨q9, h⟩ := oi h
            refine x_rld fx q9 dX3_four_64 ?_
            refine z_aload_n fx dX3_four_65 rfl ?_
            refine gS_rows fx wf_X3_11 dX3_four_66 ?_
            refine z_iload fx dX3_four_69 rfl ?_
            obtain ⟨q10, h⟩ := oi h
            refine x_rld fx q10 dX3_four_71 ?_
            obtain ⟨x11, ex11, h⟩ := ob h
            refine zVi (k := 0) (rest := []) fx hR (c_X3_fourRounds (zl E) D ad g a1.toNatClampNeg a2.toNatClampNeg a3.toNatClampNeg a4.toNatClampNeg a5.toNatClampNeg I J (ix_12 q6) (ix_lt q7) (ix_lt q8) (ix_lt q9) (ix_lt q10) ex11) rcS mvX3_fourRounds wm_X3_174 dX3_four_72 rfl ⟨rfl, rfl⟩ rfl rfl rfl ?_
            cases h
            exact z_iret fx hr dX3_four_75
          · rw [if_pos q5] at h
            refine z_iconst (v := (-1)) fx dX3_four_37 rfl ?_
            cases h
            exact z_iret fx hr dX3_four_38
set_option maxRecDepth 100000 in
set_option maxHeartbeats 4000000 in
theorem c_X3_turn (l : Launch) (D : va_G) (ad : Nat → Nat) (g : Nat → ClassId) (a1 : Int32) (a2 : Int32) (a3 : Int32) (I : zMi) (J : zMl) {r : Int32 × zMi} (h : f_X3_turn a1 a2 a3 I = some r) : zCM (xw D ad g) l yX3_turn cX3_turn 5 (some .int) rmX3_turn [.ref (ad (0)), .int a1, .int a2, .int a3] I J (some (.int r.1)) r.2 J := by
  refine zCM.of (by decide) (Nat.le_of_ble_eq_true rfl) (fun E hl hR fx hr => ?_)
  subst hl
  rw [f_X3_turn] at h
  refine z_iload_n fx dX3_turn_0 rfl ?_
  refine zSi (rest := []) fx hR (c_X3_isTableNumber (zl E) D ad g a1 I J rfl) mvX3_isTableNumber wm_X3_104 dX3_turn_1 rfl ⟨rfl, rfl⟩ rfl rfl rfl ?_
  refine z_if_ne (tgt := 9) fx dX3_turn_4 (by decide) (fun q1 => ?_) (fun q1 => ?_)
  · rw [if_neg q1] at h
    refine z_aload_n fx dX3_turn_9 rfl ?_
    refine gS_tables fx wf_X3_17 dX3_turn_10 ?_
    refine z_iload_n fx dX3_turn_13 rfl ?_
    obtain ⟨q2, h⟩ := oi h
    refine x_tld fx q2 dX3_turn_14 ?_
    refine z_astore fx dX3_turn_15 (by decide) rfl ?_
    refine z_aload fx dX3_turn_17 rfl ?_
    refine zVi (k := 22 + 3 * a1.toNatClampNeg) (rest := []) fx hR (c_X2_isMissing (zl E) D ad g a1.toNatClampNeg I J (ix_12 q2) rfl) (rcT (ix_12 q2)) mvX2_isMissing wm_X3_115 dX3_turn_19 rfl ⟨rfl, rfl⟩ rfl rfl rfl ?_
    refine z_if_eq (tgt := 31) fx dX3_turn_22 (by decide) (fun q3 => ?_) (fun q3 => ?_)
    · rw [if_pos q3] at h
      refine z_aload fx dX3_turn_31 rfl ?_
      refine z_iload_n fx dX3_turn_33 rfl ?_
      refine zVi (k := 22 + 3 * a1.toNatClampNeg) (rest := []) fx hR (c_X2_isBeyond (zl E) D ad g a1.toNatClampNeg a2 I J (ix_12 q2) rfl) (rcT (ix_12 q2)) mvX2_isBeyond wm_X3_178 dX3_turn_34 rfl ⟨rfl, rfl⟩ rfl rfl rfl ?_
      refine z_if_ne (tgt := 49) fx dX3_turn_37 (by decide) (fun q4 => ?_) (fun q4 => ?_)
      · rw [if_neg q4] at h
        refine z_iconst (v := (-1)) fx dX3_turn_49 rfl ?_
        cases h
        exact z_iret fx hr dX3_turn_50
      · rw [if_pos q4] at h
        refine z_aload fx dX3_turn_40 rfl ?_
        refine z_iload_n fx dX3_turn_42 rfl ?_
        refine zVi (k := 22 + 3 * a1.toNatClampNeg) (rest := []) fx hR (c_X2_isBeyond (zl E) D ad g a1.toNatClampNeg a3 I J (ix_12 q2) rfl) (rcT (ix_12 q2)) mvX2_isBeyond wm_X3_178 dX3_turn_43 rfl ⟨rfl, rfl⟩ rfl rfl rfl ?_
        refine z_if_eq (tgt := 51) fx dX3_turn_46 (by decide) (fun q5 => ?_) (fun q5 => ?_)
        · rw [if_pos q5] at h
          refine z_aload fx dX3_turn_51 rfl ?_
          refine z_iload_n fx dX3_turn_53 rfl ?_
          obtain ⟨x6, ex6, h⟩ := ob h
          refine zVv (k := 22 + 3 * a1.toNatClampNeg) (rest := []) fx hR (c_X2_turnColumns (zl E) D ad g a1.toNatClampNeg a3 I J (ix_12 q2) ex6) (rcT (ix_12 q2)) mvX2_turnColumns wm_X3_181 dX3_turn_54 rfl ⟨rfl, rfl⟩ rfl rfl rfl ?_
          refine z_aload fx dX3_turn_57 rfl ?_
          refine z_iload_n fx dX3_turn_59 rfl ?_
          obtain ⟨x7, ex7, h⟩ := ob h
          refine zVv (k := 22 + 3 * a1.toNatClampNeg) (rest := []) fx hR (c_X2_turnRows (zl E) D ad g a1.toNatClampNeg a2 x6 J (ix_12 q2) ex7) (rcT (ix_12 q2)) mvX2_turnRows wm_X3_184 dX3_turn_60 rfl ⟨rfl, rfl⟩ rfl rfl rfl ?_
          refine z_aload fx dX3_turn_63 rfl ?_
          obtain ⟨x8, ex8, h⟩ := ob h
          refine zVi (k := 22 + 3 * a1.toNatClampNeg) (rest := []) fx hR (c_X2_judged (zl E) D ad g a1.toNatClampNeg x7 J (ix_12 q2) ex8) (rcT (ix_12 q2)) mvX2_judged wm_X3_111 dX3_turn_65 rfl ⟨rfl, rfl⟩ rfl rfl rfl ?_
          cases h
          exact z_iret fx hr dX3_turn_68
        · rw [if_neg q5] at h
          refine z_iconst (v := (-1)) fx dX3_turn_49 rfl ?_
          cases h
          exact z_iret fx hr dX3_turn_50
    · rw [if_neg q3] at h
      refine z_aload_n fx dX3_turn_25 rfl ?_
      refine z_iconst (v := 1) fx dX3_turn_26 rfl ?_
      obtain ⟨x9, ex9, h⟩ := ob h
      refine zVi (k := 0) (rest := []) fx hR (c_X3_found (zl E) D ad g 1 I J ex9) rcS mvX3_found wm_X3_69 dX3_turn_27 rfl ⟨rfl, rfl⟩ rfl rfl rfl ?_
      cases h
      exact z_iret fx hr dX3_turn_30
  · rw [if_pos q1] at h
    refine z_iconst (v := (-1)) fx dX3_turn_7 rfl ?_
    cases h
    exact z_iret fx hr dX3_turn_8
set_option maxRecDepth 100000 in
set_option maxHeartbeats 4000000 in
theorem c_X3_swap (l : Launch) (D : va_G) (ad : Nat → Nat) (g : Nat → ClassId) (a1 : Int32) (a2 : Int32) (a3 : Int32) (a4 : Int32) (I : zMi) (J : zMl) {r : Int32 × zMi} (h : f_X3_swap a1 a2 a3 a4 I = some r) : zCM (xw D ad g) l yX3_swap cX3_swap 6 (some .int) rmX3_swap [.ref (ad (0)), .int a1, .int a2, .int a3, .int a4] I J (some (.int r.1)) r.2 J := by
  refine zCM.of (by decide) (Nat.le_of_ble_eq_true rfl) (fun E hl hR fx hr => ?_)
  subst hl
  rw [f_X3_swap] at h
  refine z_iload_n fx dX3_swap_0 rfl ?_
  refine zSi (rest := []) fx hR (c_X3_isTableNumber (zl E) D ad g a1 I J rfl) mvX3_isTableNumber wm_X3_104 dX3_swap_1 rfl ⟨rfl, rfl⟩ rfl rfl rfl ?_
  refine z_if_ne (tgt := 9) fx dX3_swap_4 (by decide) (fun q1 => ?_) (fun q1 => ?_)
  · rw [if_neg q1] at h
    refine z_aload_n fx dX3_swap_9 rfl ?_
    refine gS_tables fx wf_X3_17 dX3_swap_10 ?_
    refine z_iload_n fx dX3_swap_13 rfl ?_
    obtain ⟨q2, h⟩ := oi h
    refine x_tld fx q2 dX3_swap_14 ?_
    refine z_astore fx dX3_swap_15 (by decide) rfl ?_
    refine z_aload fx dX3_swap_17 rfl ?_
    refine zVi (k := 22 + 3 * a1.toNatClampNeg) (rest := []) fx hR (c_X2_isMissing (zl E) D ad g a1.toNatClampNeg I J (ix_12 q2) rfl) (rcT (ix_12 q2)) mvX2_isMissing wm_X3_115 dX3_swap_19 rfl ⟨rfl, rfl⟩ rfl rfl rfl ?_
    refine z_if_eq (tgt := 31) fx dX3_swap_22 (by decide) (fun q3 => ?_) (fun q3 => ?_)
    · rw [if_pos q3] at h
      refine z_aload fx dX3_swap_31 rfl ?_
      refine z_iload_n fx dX3_swap_33 rfl ?_
      refine zVi (k := 22 + 3 * a1.toNatClampNeg) (rest := []) fx hR (c_X2_hasLine (zl E) D ad g a1.toNatClampNeg a3 I J (ix_12 q2) rfl) (rcT (ix_12 q2)) mvX2_hasLine wm_X3_116 dX3_swap_34 rfl ⟨rfl, rfl⟩ rfl rfl rfl ?_
      refine z_if_eq (tgt := 50) fx dX3_swap_37 (by decide) (fun q4 => ?_) (fun q4 => ?_)
      · rw [if_pos q4] at h
        refine z_aload_n fx dX3_swap_50 rfl ?_
        refine z_iconst (v := 2) fx dX3_swap_51 rfl ?_
        obtain ⟨x5, ex5, h⟩ := ob h
        refine zVi (k := 0) (rest := []) fx hR (c_X3_found (zl E) D ad g 2 I J ex5) rcS mvX3_found wm_X3_69 dX3_swap_52 rfl ⟨rfl, rfl⟩ rfl rfl rfl ?_
        cases h
        exact z_iret fx hr dX3_swap_55
      · rw [if_neg q4] at h
        refine z_aload fx dX3_swap_40 rfl ?_
        refine z_iload fx dX3_swap_42 rfl ?_
        refine zVi (k := 22 + 3 * a1.toNatClampNeg) (rest := []) fx hR (c_X2_hasLine (zl E) D ad g a1.toNatClampNeg a4 I J (ix_12 q2) rfl) (rcT (ix_12 q2)) mvX2_hasLine wm_X3_116 dX3_swap_44 rfl ⟨rfl, rfl⟩ rfl rfl rfl ?_
        refine z_if_ne (tgt := 56) fx dX3_swap_47 (by decide) (fun q6 => ?_) (fun q6 => ?_)
        · rw [if_neg q6] at h
          refine z_iload_n fx dX3_swap_56 rfl ?_
          refine z_if_eq (tgt := 71) fx dX3_swap_57 (by decide) (fun q7 => ?_) (fun q7 => ?_)
          · rw [if_pos q7] at h
            refine z_aload fx dX3_swap_71 rfl ?_
            refine z_iload_n fx dX3_swap_73 rfl ?_
            refine z_iload fx dX3_swap_74 rfl ?_
            obtain ⟨x8, ex8, h⟩ := ob h
            refine zVv (k := 22 + 3 * a1.toNatClampNeg) (rest := []) fx hR (c_X2_exchangeRows (zl E) D ad g a1.toNatClampNeg a3 a4 I J (ix_12 q2) ex8) (rcT (ix_12 q2)) mvX2_exchangeRows wm_X3_190 dX3_swap_76 rfl ⟨rfl, rfl⟩ rfl rfl rfl ?_
            refine z_aload fx dX3_swap_79 rfl ?_
            obtain ⟨x9, ex9, h⟩ := ob h
            refine zVi (k := 22 + 3 * a1.toNatClampNeg) (rest := []) fx hR (c_X2_judged (zl E) D ad g a1.toNatClampNeg x8 J (ix_12 q2) ex9) (rcT (ix_12 q2)) mvX2_judged wm_X3_111 dX3_swap_81 rfl ⟨rfl, rfl⟩ rfl rfl rfl ?_
            cases h
            exact z_iret fx hr dX3_swap_84
          · rw [if_neg q7] at h
            refine z_aload fx dX3_swap_60 rfl ?_
            refine z_iload_n fx dX3_swap_62 rfl ?_
            refine z_iload fx dX3_swap_63 rfl ?_
            obtain ⟨x10, ex10, h⟩ := ob h
            refine zVv (k := 22 + 3 * a1.toNatClampNeg) (rest := []) fx hR (c_X2_exchangeColumns (zl E) D ad g a1.toNatClampNeg a3 a4 I J (ix_12 q2) ex10) (rcT (ix_12 q2)) mvX2_exchangeColumns wm_X3_187 dX3_swap_65 rfl ⟨rfl, rfl⟩ rfl rfl rfl ?_
            refine z_goto (tgt := 79) fx dX3_swap_68 (by decide) ?_
            refine z_aload fx dX3_swap_79 rfl ?_
            obtain ⟨x11, ex11, h⟩ := ob h
            refine zVi (k := 22 + 3 * a1.toNatClampNeg) (rest := []) fx hR (c_X2_judged (zl E) D ad g a1.toNatClampNeg x10 J (ix_12 q2) ex11) (rcT (ix_12 q2)) mvX2_judged wm_X3_111 dX3_swap_81 rfl ⟨rfl, rfl⟩ rfl rfl rfl ?_
            cases h
            exact z_iret fx hr dX3_swap_84
        · rw [if_pos q6] at h
          refine z_aload_n fx dX3_swap_50 rfl ?_
          refine z_iconst (v := 2) fx dX3_swap_51 rfl ?_
          obtain ⟨x12, ex12, h⟩ := ob h
          refine zVi (k := 0) (rest := []) fx hR (c_X3_found (zl E) D ad g 2 I J ex12) rcS mvX3_found wm_X3_69 dX3_swap_52 rfl ⟨rfl, rfl⟩ rfl rfl rfl ?_
          cases h
          exact z_iret fx hr dX3_swap_55
    · rw [if_neg q3] at h
      refine z_aload_n fx dX3_swap_25 rfl ?_
      refine z_iconst (v := 1) fx dX3_swap_26 rfl ?_
      obtain ⟨x13, ex13, h⟩ := ob h
      refine zVi (k := 0) (rest := []) fx hR (c_X3_found (zl E) D ad g 1 I J ex13) rcS mvX3_found wm_X3_69 dX3_swap_27 rfl ⟨rfl, rfl⟩ rfl rfl rfl ?_
      cases h
      exact z_iret fx hr dX3_swap_30
  · rw [if_pos q1] at h
    refine z_iconst (v := (-1)) fx dX3_swap_7 rfl ?_
    cases h
    exact z_iret fx hr dX3_swap_8
set_option maxRecDepth 100000 in
set_option maxHeartbeats 4000000 in
theorem c_X3_flip (l : Launch) (D : va_G) (ad : Nat → Nat) (g : Nat → ClassId) (a1 : Int32) (I : zMi) (J : zMl) {r : Int32 × zMi} (h : f_X3_flip a1 I = some r) : zCM (xw D ad g) l yX3_flip cX3_flip 3 (some .int) rmX3_flip [.ref (ad (0)), .int a1] I J (some (.int r.1)) r.2 J := by
  refine zCM.of (by decide) (Nat.le_of_ble_eq_true rfl) (fun E hl hR fx hr => ?_)
  subst hl
  rw [f_X3_flip] at h
  refine z_iload_n fx dX3_flip_0 rfl ?_
  refine zSi (rest := []) fx hR (c_X3_isTableNumber (zl E) D ad g a1 I J rfl) mvX3_isTableNumber wm_X3_104 dX3_flip_1 rfl ⟨rfl, rfl⟩ rfl rfl rfl ?_
  refine z_if_ne (tgt := 9) fx dX3_flip_4 (by decide) (fun q1 => ?_) (fun q1 => ?_)
  · rw [if_neg q1] at h
    refine z_aload_n fx dX3_flip_9 rfl ?_
    refine gS_tables fx wf_X3_17 dX3_flip_10 ?_
    refine z_iload_n fx dX3_flip_13 rfl ?_
    obtain ⟨q2, h⟩ := oi h
    refine x_tld fx q2 dX3_flip_14 ?_
    refine z_astore_n fx dX3_flip_15 (by decide) rfl ?_
    refine z_aload_n fx dX3_flip_16 rfl ?_
    refine zVi (k := 22 + 3 * a1.toNatClampNeg) (rest := []) fx hR (c_X2_isMissing (zl E) D ad g a1.toNatClampNeg I J (ix_12 q2) rfl) (rcT (ix_12 q2)) mvX2_isMissing wm_X3_115 dX3_flip_17 rfl ⟨rfl, rfl⟩ rfl rfl rfl ?_
    refine z_if_eq (tgt := 29) fx dX3_flip_20 (by decide) (fun q3 => ?_) (fun q3 => ?_)
    · rw [if_pos q3] at h
      refine z_aload_n fx dX3_flip_29 rfl ?_
      refine gS_work fx wf_X3_22 dX3_flip_30 ?_
      refine z_aload_n fx dX3_flip_33 rfl ?_
      obtain ⟨x4, ex4, h⟩ := ob h
      refine zVv (k := 22 + 3 * 10) (rest := []) fx hR (c_X2_beginFlipped (zl E) D ad g 10 a1.toNatClampNeg I J (by decide) (ix_12 q2) ex4) (rcT (by decide)) mvX2_beginFlipped wm_X3_193 dX3_flip_34 rfl ⟨rfl, rfl⟩ rfl rfl rfl ?_
      refine z_aload_n fx dX3_flip_37 rfl ?_
      refine z_aload_n fx dX3_flip_38 rfl ?_
      refine gS_work fx wf_X3_22 dX3_flip_39 ?_
      obtain ⟨x5, ex5, h⟩ := ob h
      refine zVv (k := 22 + 3 * a1.toNatClampNeg) (rest := []) fx hR (c_X2_take (zl E) D ad g a1.toNatClampNeg 10 x4 J (ix_12 q2) (by decide) ex5) (rcT (ix_12 q2)) mvX2_take wm_X3_166 dX3_flip_42 rfl ⟨rfl, rfl⟩ rfl rfl rfl ?_
      refine z_aload_n fx dX3_flip_45 rfl ?_
      obtain ⟨x6, ex6, h⟩ := ob h
      refine zVi (k := 22 + 3 * a1.toNatClampNeg) (rest := []) fx hR (c_X2_judged (zl E) D ad g a1.toNatClampNeg x5 J (ix_12 q2) ex6) (rcT (ix_12 q2)) mvX2_judged wm_X3_111 dX3_flip_46 rfl ⟨rfl, rfl⟩ rfl rfl rfl ?_
      cases h
      exact z_iret fx hr dX3_flip_49
    · rw [if_neg q3] at h
      refine z_aload_n fx dX3_flip_23 rfl ?_
      refine z_iconst (v := 1) fx dX3_flip_24 rfl ?_
      obtain ⟨x7, ex7, h⟩ := ob h
      refine zVi (k := 0) (rest := []) fx hR (c_X3_found (zl E) D ad g 1 I J ex7) rcS mvX3_found wm_X3_69 dX3_flip_25 rfl ⟨rfl, rfl⟩ rfl rfl rfl ?_
      cases h
      exact z_iret fx hr dX3_flip_28
  · rw [if_pos q1] at h
    refine z_iconst (v := (-1)) fx dX3_flip_7 rfl ?_
    cases h
    exact z_iret fx hr dX3_flip_8
set_option maxRecDepth 100000 in
set_option maxHeartbeats 4000000 in
theorem c_X3_normal (l : Launch) (D : va_G) (ad : Nat → Nat) (g : Nat → ClassId) (a1 : Int32) (I : zMi) (J : zMl) {r : Int32 × zMi} (h : f_X3_normal a1 I = some r) : zCM (xw D ad g) l yX3_normal cX3_normal 5 (some .int) rmX3_normal [.ref (ad (0)), .int a1] I J (some (.int r.1)) r.2 J := by
  refine zCM.of (by decide) (Nat.le_of_ble_eq_true rfl) (fun E hl hR fx hr => ?_)
  subst hl
  rw [f_X3_normal] at h
  refine z_iload_n fx dX3_normal_0 rfl ?_
  refine zSi (rest := []) fx hR (c_X3_isTableNumber (zl E) D ad g a1 I J rfl) mvX3_isTableNumber wm_X3_104 dX3_normal_1 rfl ⟨rfl, rfl⟩ rfl rfl rfl ?_
  refine z_if_ne (tgt := 9) fx dX3_normal_4 (by decide) (fun q1 => ?_) (fun q1 => ?_)
  · rw [if_neg q1] at h
    refine z_aload_n fx dX3_normal_9 rfl ?_
    refine gS_tables fx wf_X3_17 dX3_normal_10 ?_
    refine z_iload_n fx dX3_normal_13 rfl ?_
    obtain ⟨q2, h⟩ := oi h
    refine x_tld fx q2 dX3_normal_14 ?_
    refine z_astore_n fx dX3_normal_15 (by decide) rfl ?_
    refine z_aload_n fx dX3_normal_16 rfl ?_
    refine zVi (k := 22 + 3 * a1.toNatClampNeg) (rest := []) fx hR (c_X2_isMissing (zl E) D ad g a1.toNatClampNeg I J (ix_12 q2) rfl) (rcT (ix_12 q2)) mvX2_isMissing wm_X3_115 dX3_normal_17 rfl ⟨rfl, rfl⟩ rfl rfl rfl ?_
    refine z_if_eq (tgt := 29) fx dX3_normal_20 (by decide) (fun q3 => ?_) (fun q3 => ?_)
    · rw [if_pos q3] at h
      refine z_aload_n fx dX3_normal_29 rfl ?_
      obtain ⟨x4, ex4, h⟩ := ob h
      refine zVi (k := 22 + 3 * a1.toNatClampNeg) (rest := []) fx hR (c_X2_isSigns (zl E) D ad g a1.toNatClampNeg I J (ix_12 q2) ex4) (rcT (ix_12 q2)) mvX2_isSigns wm_X3_196 dX3_normal_30 rfl ⟨rfl, rfl⟩ rfl rfl rfl ?_
      refine z_if_ne (tgt := 42) fx dX3_normal_33 (by decide) (fun q5 => ?_) (fun q5 => ?_)
      · rw [if_neg q5] at h
        refine z_aload_n fx dX3_normal_42 rfl ?_
        refine gT_minus fx (ix_12 q2) wf_X3_144 dX3_normal_43 ?_
        refine z_iconst (v := 0) fx dX3_normal_46 rfl ?_
        refine x_ild fx (bT2 (ix_12 q2)) (cfX_Tm g ad (ix_12 q2)) (by decide) dX3_normal_47 ?_
        refine z_istore_n fx dX3_normal_48 (by decide) rfl ?_
        refine z_aload_n fx dX3_normal_49 rfl ?_
        refine z_iload_n fx dX3_normal_50 rfl ?_
        obtain ⟨x6, ex6, h⟩ := ob h
        refine zVv (k := 22 + 3 * a1.toNatClampNeg) (rest := []) fx hR (c_X2_turnColumns (zl E) D ad g a1.toNatClampNeg (I (24 + 3 * a1.toNatClampNeg) (0 : Int32).toNatClampNeg) I J (ix_12 q2) ex6) (rcT (ix_12 q2)) mvX2_turnColumns wm_X3_181 dX3_normal_51 rfl ⟨rfl, rfl⟩ rfl rfl rfl ?_
        refine z_aload_n fx dX3_normal_54 rfl ?_
        refine z_iconst (v := 0) fx dX3_normal_55 rfl ?_
        obtain ⟨x7, ex7, h⟩ := ob h
        refine zVi (k := 22 + 3 * a1.toNatClampNeg) (rest := []) fx hR (c_X2_minusOfColumn (zl E) D ad g a1.toNatClampNeg 0 x6 J (ix_12 q2) ex7) (rcT (ix_12 q2)) mvX2_minusOfColumn wm_X3_199 dX3_normal_56 rfl ⟨rfl, rfl⟩ rfl rfl rfl ?_
        refine z_istore fx dX3_normal_59 (by decide) rfl ?_
        refine z_aload_n fx dX3_normal_61 rfl ?_
        refine z_iload fx dX3_normal_62 rfl ?_
        obtain ⟨x8, ex8, h⟩ := ob h
        refine zVv (k := 22 + 3 * a1.toNatClampNeg) (rest := []) fx hR (c_X2_turnRows (zl E) D ad g a1.toNatClampNeg x7 x6 J (ix_12 q2) ex8) (rcT (ix_12 q2)) mvX2_turnRows wm_X3_184 dX3_normal_64 rfl ⟨rfl, rfl⟩ rfl rfl rfl ?_
        refine z_aload_n fx dX3_normal_67 rfl ?_
        obtain ⟨x9, ex9, h⟩ := ob h
        refine zVi (k := 22 + 3 * a1.toNatClampNeg) (rest := []) fx hR (c_X2_judged (zl E) D ad g a1.toNatClampNeg x8 J (ix_12 q2) ex9) (rcT (ix_12 q2)) mvX2_judged wm_X3_111 dX3_normal_68 rfl ⟨rfl, rfl⟩ rfl rfl rfl ?_
        refine z_pop fx dX3_normal_71 rfl ?_
        refine z_iload_n fx dX3_normal_72 rfl ?_
        refine zSi (rest := []) fx hR (c_J6_bitCount (zl E) D ad g (I (24 + 3 * a1.toNatClampNeg) (0 : Int32).toNatClampNeg) x9.2 J rfl) mvJ6_bitCount wm_X3_202 dX3_normal_73 rfl ⟨rfl, rfl⟩ rfl rfl rfl ?_
        refine z_iload fx dX3_normal_76 rfl ?_
        refine zSi (rest := [.int (f_J6_bitCount (I (24 + 3 * a1.toNatClampNeg) (0 : Int32).toNatClampNeg))]) fx hR (c_J6_bitCount (zl E) D ad g x7 x9.2 J rfl) mvJ6_bitCount wm_X3_202 dX3_normal_78 rfl ⟨rfl, rfl⟩ rfl rfl rfl ?_
        refine z_iadd fx dX3_normal_81 ?_
        cases h
        exact z_iret fx hr dX3_normal_82
      · rw [if_pos q5] at h
        refine z_aload_n fx dX3_normal_36 rfl ?_
        refine z_iconst (v := 3) fx dX3_normal_37 rfl ?_
        obtain ⟨x10, ex10, h⟩ := ob h
        refine zVi (k := 0) (rest := []) fx hR (c_X3_found (zl E) D ad g 3 I J ex10) rcS mvX3_found wm_X3_69 dX3_normal_38 rfl ⟨rfl, rfl⟩ rfl rfl rfl ?_
        cases h
        exact z_iret fx hr dX3_normal_41
    · rw [if_neg q3] at h
      refine z_aload_n fx dX3_normal_23 rfl ?_
      refine z_iconst (v := 1) fx dX3_normal_24 rfl ?_
      obtain ⟨x11, ex11, h⟩ := ob h
      refine zVi (k := 0) (rest := []) fx hR (c_X3_found (zl E) D ad g 1 I J ex11) rcS mvX3_found wm_X3_69 dX3_normal_25 rfl ⟨rfl, rfl⟩ rfl rfl rfl ?_
      cases h
      exact z_iret fx hr dX3_normal_28
  · rw [if_pos q1] at h
    refine z_iconst (v := (-1)) fx dX3_normal_7 rfl ?_
    cases h
    exact z_iret fx hr dX3_normal_8
set_option maxRecDepth 100000 in
set_option maxHeartbeats 4000000 in
theorem c_X3_worth (l : Launch) (D : va_G) (ad : Nat → Nat) (g : Nat → ClassId) (a1 : Int32) (I : zMi) (J : zMl) {r : Int32 × zMi × zMl} (h : f_X3_worth a1 I J = some r) : zCM (xw D ad g) l yX3_worth cX3_worth 2 (some .int) rmX3_worth [.ref (ad (0)), .int a1] I J (some (.int r.1)) r.2.1 r.2.2 := by
  refine zCM.of (by decide) (Nat.le_of_ble_eq_true rfl) (fun E hl hR fx hr => ?_)
  subst hl
  rw [f_X3_worth] at h
  refine z_iload_n fx dX3_worth_0 rfl ?_
  refine zSi (rest := []) fx hR (c_X3_isTableNumber (zl E) D ad g a1 I J rfl) mvX3_isTableNumber wm_X3_104 dX3_worth_1 rfl ⟨rfl, rfl⟩ rfl rfl rfl ?_
  refine z_if_ne (tgt := 9) fx dX3_worth_4 (by decide) (fun q1 => ?_) (fun q1 => ?_)
  · rw [if_neg q1] at h
    refine z_aload_n fx dX3_worth_9 rfl ?_
    refine gS_tables fx wf_X3_17 dX3_worth_10 ?_
    refine z_iload_n fx dX3_worth_13 rfl ?_
    obtain ⟨q2, h⟩ := oi h
    refine x_tld fx q2 dX3_worth_14 ?_
    refine zVi (k := 22 + 3 * a1.toNatClampNeg) (rest := []) fx hR (c_X2_isMissing (zl E) D ad g a1.toNatClampNeg I J (ix_12 q2) rfl) (rcT (ix_12 q2)) mvX2_isMissing wm_X3_115 dX3_worth_15 rfl ⟨rfl, rfl⟩ rfl rfl rfl ?_
    refine z_if_eq (tgt := 27) fx dX3_worth_18 (by decide) (fun q3 => ?_) (fun q3 => ?_)
    · rw [if_pos q3] at h
      refine z_aload_n fx dX3_worth_27 rfl ?_
      refine gS_polynomial fx wf_X3_32 dX3_worth_28 ?_
      refine z_aload_n fx dX3_worth_31 rfl ?_
      refine gS_tables fx wf_X3_17 dX3_worth_32 ?_
      refine z_iload_n fx dX3_worth_35 rfl ?_
      refine x_tld fx q2 dX3_worth_36 ?_
      obtain ⟨x4, ex4, h⟩ := ob h
      refine zVv (k := 3) (rest := []) fx hR (c_X0_tellOf (zl E) D ad g a1.toNatClampNeg I J (ix_12 q2) ex4) rcP mvX0_tellOf wm_X3_207 dX3_worth_37 rfl ⟨rfl, rfl⟩ rfl rfl rfl ?_
      refine z_aload_n fx dX3_worth_40 rfl ?_
      refine z_aload_n fx dX3_worth_41 rfl ?_
      refine gS_polynomial fx wf_X3_32 dX3_worth_42 ?_
      refine gP_coefficients fx wf_X3_210 dX3_worth_45 ?_
      refine z_iconst (v := 0) fx dX3_worth_48 rfl ?_
      refine x_lld fx (Nat.le_of_ble_eq_true rfl) (cfX_4 g ad) (by decide) dX3_worth_49 ?_
      refine pS_latestWorth fx wf_X3_54 dX3_worth_50 ?_
      refine z_iconst (v := 1) fx dX3_worth_53 rfl ?_
      cases h
      exact z_iret fx hr dX3_worth_54
    · rw [if_neg q3] at h
      refine z_aload_n fx dX3_worth_21 rfl ?_
      refine z_iconst (v := 1) fx dX3_worth_22 rfl ?_
      obtain ⟨x5, ex5, h⟩ := ob h
      refine zVi (k := 0) (rest := []) fx hR (c_X3_found (zl E) D ad g 1 I J ex5) rcS mvX3_found wm_X3_69 dX3_worth_23 rfl ⟨rfl, rfl⟩ rfl rfl rfl ?_
      cases h
      exact z_iret fx hr dX3_worth_26
  · rw [if_pos q1] at h
    refine z_iconst (v := (-1)) fx dX3_worth_7 rfl ?_
    cases h
    exact z_iret fx hr dX3_worth_8
set_option maxRecDepth 100000 in
set_option maxHeartbeats 4000000 in
theorem c_X3_balanced (l : Launch) (D : va_G) (ad : Nat → Nat) (g : Nat → ClassId) (a1 : Int32) (I : zMi) (J : zMl) {r : Int32 × zMi} (h : f_X3_balanced a1 I = some r) : zCM (xw D ad g) l yX3_balanced cX3_balanced 2 (some .int) rmX3_balanced [.ref (ad (0)), .int a1] I J (some (.int r.1)) r.2 J := by
  refine zCM.of (by decide) (Nat.le_of_ble_eq_true rfl) (fun E hl hR fx hr => ?_)
  subst hl
  rw [f_X3_balanced] at h
  refine z_iload_n fx dX3_balanced_0 rfl ?_
  refine zSi (rest := []) fx hR (c_X3_isTableNumber (zl E) D ad g a1 I J rfl) mvX3_isTableNumber wm_X3_104 dX3_balanced_1 rfl ⟨rfl, rfl⟩ rfl rfl rfl ?_
  refine z_if_ne (tgt := 9) fx dX3_balanced_4 (by decide) (fun q1 => ?_) (fun q1 => ?_)
  · rw [if_neg q1] at h
    refine z_aload_n fx dX3_balanced_9 rfl ?_
    refine gS_tables fx wf_X3_17 dX3_balanced_10 ?_
    refine z_iload_n fx dX3_balanced_13 rfl ?_
    obtain ⟨q2, h⟩ := oi h
    refine x_tld fx q2 dX3_balanced_14 ?_
    refine zVi (k := 22 + 3 * a1.toNatClampNeg) (rest := []) fx hR (c_X2_isMissing (zl E) D ad g a1.toNatClampNeg I J (ix_12 q2) rfl) (rcT (ix_12 q2)) mvX2_isMissing wm_X3_115 dX3_balanced_15 rfl ⟨rfl, rfl⟩ rfl rfl rfl ?_
    refine z_if_eq (tgt := 27) fx dX3_balanced_18 (by decide) (fun q3 => ?_) (fun q3 => ?_)
    · rw [if_pos q3] at h
      refine z_aload_n fx dX3_balanced_27 rfl ?_
      refine gS_tables fx wf_X3_17 dX3_balanced_28 ?_
      refine z_iload_n fx dX3_balanced_31 rfl ?_
      refine x_tld fx q2 dX3_balanced_32 ?_
      obtain ⟨x4, ex4, h⟩ := ob h
      refine zVi (k := 22 + 3 * a1.toNatClampNeg) (rest := []) fx hR (c_X2_balancedPairs (zl E) D ad g a1.toNatClampNeg I J (ix_12 q2) ex4) (rcT (ix_12 q2)) mvX2_balancedPairs wm_X3_213 dX3_balanced_33 rfl ⟨rfl, rfl⟩ rfl rfl rfl ?_
      cases h
      exact z_iret fx hr dX3_balanced_36
    · rw [if_neg q3] at h
      refine z_aload_n fx dX3_balanced_21 rfl ?_
      refine z_iconst (v := 1) fx dX3_balanced_22 rfl ?_
      obtain ⟨x5, ex5, h⟩ := ob h
      refine zVi (k := 0) (rest := []) fx hR (c_X3_found (zl E) D ad g 1 I J ex5) rcS mvX3_found wm_X3_69 dX3_balanced_23 rfl ⟨rfl, rfl⟩ rfl rfl rfl ?_
      cases h
      exact z_iret fx hr dX3_balanced_26
  · rw [if_pos q1] at h
    refine z_iconst (v := (-1)) fx dX3_balanced_7 rfl ?_
    cases h
    exact z_iret fx hr dX3_balanced_8
set_option maxRecDepth 100000 in
set_option maxHeartbeats 4000000 in
theorem c_X3_common (l : Launch) (D : va_G) (ad : Nat → Nat) (g : Nat → ClassId) (a1 : Int32) (a2 : Int32) (I : zMi) (J : zMl) {r : Int32 × zMi} (h : f_X3_common a1 a2 I = some r) : zCM (xw D ad g) l yX3_common cX3_common 4 (some .int) rmX3_common [.ref (ad (0)), .int a1, .int a2] I J (some (.int r.1)) r.2 J := by
  refine zCM.of (by decide) (Nat.le_of_ble_eq_true rfl) (fun E hl hR fx hr => ?_)
  subst hl
  rw [f_X3_common] at h
  refine z_iload_n fx dX3_common_0 rfl ?_
  refine zSi (rest := []) fx hR (c_X3_isTableNumber (zl E) D ad g a1 I J rfl) mvX3_isTableNumber wm_X3_104 dX3_common_1 rfl ⟨rfl, rfl⟩ rfl rfl rfl ?_
  refine z_if_ne (tgt := 9) fx dX3_common_4 (by decide) (fun q1 => ?_) (fun q1 => ?_)
  · rw [if_neg q1] at h
    refine z_aload_n fx dX3_common_9 rfl ?_
    refine gS_tables fx wf_X3_17 dX3_common_10 ?_
    refine z_iload_n fx dX3_common_13 rfl ?_
    obtain ⟨q2, h⟩ := oi h
    refine x_tld fx q2 dX3_common_14 ?_
    refine z_astore_n fx dX3_common_15 (by decide) rfl ?_
    refine z_aload_n fx dX3_common_16 rfl ?_
    refine zVi (k := 22 + 3 * a1.toNatClampNeg) (rest := []) fx hR (c_X2_isMissing (zl E) D ad g a1.toNatClampNeg I J (ix_12 q2) rfl) (rcT (ix_12 q2)) mvX2_isMissing wm_X3_115 dX3_common_17 rfl ⟨rfl, rfl⟩ rfl rfl rfl ?_
    refine z_if_eq (tgt := 29) fx dX3_common_20 (by decide) (fun q3 => ?_) (fun q3 => ?_)
    · rw [if_pos q3] at h
      refine z_aload_n fx dX3_common_29 rfl ?_
      obtain ⟨x4, ex4, h⟩ := ob h
      refine zVi (k := 22 + 3 * a1.toNatClampNeg) (rest := []) fx hR (c_X2_isSigns (zl E) D ad g a1.toNatClampNeg I J (ix_12 q2) ex4) (rcT (ix_12 q2)) mvX2_isSigns wm_X3_196 dX3_common_30 rfl ⟨rfl, rfl⟩ rfl rfl rfl ?_
      refine z_if_ne (tgt := 42) fx dX3_common_33 (by decide) (fun q5 => ?_) (fun q5 => ?_)
      · rw [if_neg q5] at h
        refine z_iload_n fx dX3_common_42 rfl ?_
        refine z_if_eq (tgt := 54) fx dX3_common_43 (by decide) (fun q6 => ?_) (fun q6 => ?_)
        · rw [if_pos q6] at h
          refine z_aload_n fx dX3_common_54 rfl ?_
          refine z_iconst (v := 2) fx dX3_common_55 rfl ?_
          obtain ⟨x7, ex7, h⟩ := ob h
          refine zVi (k := 0) (rest := []) fx hR (c_X3_found (zl E) D ad g 2 I J ex7) rcS mvX3_found wm_X3_69 dX3_common_56 rfl ⟨rfl, rfl⟩ rfl rfl rfl ?_
          cases h
          exact z_iret fx hr dX3_common_59
        · rw [if_neg q6] at h
          refine z_aload_n fx dX3_common_46 rfl ?_
          refine z_iload_n fx dX3_common_47 rfl ?_
          refine zVi (k := 22 + 3 * a1.toNatClampNeg) (rest := []) fx hR (c_X2_isBeyond (zl E) D ad g a1.toNatClampNeg a2 I J (ix_12 q2) rfl) (rcT (ix_12 q2)) mvX2_isBeyond wm_X3_178 dX3_common_48 rfl ⟨rfl, rfl⟩ rfl rfl rfl ?_
          refine z_if_eq (tgt := 60) fx dX3_common_51 (by decide) (fun q8 => ?_) (fun q8 => ?_)
          · rw [if_pos q8] at h
            refine z_aload_n fx dX3_common_60 rfl ?_
            refine z_iload_n fx dX3_common_61 rfl ?_
            obtain ⟨x9, ex9, h⟩ := ob h
            refine zVi (k := 22 + 3 * a1.toNatClampNeg) (rest := []) fx hR (c_X2_commonOf (zl E) D ad g a1.toNatClampNeg a2 I J (ix_12 q2) ex9) (rcT (ix_12 q2)) mvX2_commonOf wm_X3_216 dX3_common_62 rfl ⟨rfl, rfl⟩ rfl rfl rfl ?_
            cases h
            exact z_iret fx hr dX3_common_65
          · rw [if_neg q8] at h
            refine z_aload_n fx dX3_common_54 rfl ?_
            refine z_iconst (v := 2) fx dX3_common_55 rfl ?_
            obtain ⟨x10, ex10, h⟩ := ob h
            refine zVi (k := 0) (rest := []) fx hR (c_X3_found (zl E) D ad g 2 I J ex10) rcS mvX3_found wm_X3_69 dX3_common_56 rfl ⟨rfl, rfl⟩ rfl rfl rfl ?_
            cases h
            exact z_iret fx hr dX3_common_59
      · rw [if_pos q5] at h
        refine z_aload_n fx dX3_common_36 rfl ?_
        refine z_iconst (v := 3) fx dX3_common_37 rfl ?_
        obtain ⟨x11, ex11, h⟩ := ob h
        refine zVi (k := 0) (rest := []) fx hR (c_X3_found (zl E) D ad g 3 I J ex11) rcS mvX3_found wm_X3_69 dX3_common_38 rfl ⟨rfl, rfl⟩ rfl rfl rfl ?_
        cases h
        exact z_iret fx hr dX3_common_41
    · rw [if_neg q3] at h
      refine z_aload_n fx dX3_common_23 rfl ?_
      refine z_iconst (v := 1) fx dX3_common_24 rfl ?_
      obtain ⟨x12, ex12, h⟩ := ob h
      refine zVi (k := 0) (rest := []) fx hR (c_X3_found (zl E) D ad g 1 I J ex12) rcS mvX3_found wm_X3_69 dX3_common_25 rfl ⟨rfl, rfl⟩ rfl rfl rfl ?_
      cases h
      exact z_iret fx hr dX3_common_28
  · rw [if_pos q1] at h
    refine z_iconst (v := (-1)) fx dX3_common_7 rfl ?_
    cases h
    exact z_iret fx hr dX3_common_8
set_option maxRecDepth 100000 in
set_option maxHeartbeats 4000000 in
theorem w_X3_clearTally_2 {E : zE} {D : va_G} {ad : Nat → Nat} {g : Nat → ClassId} (fx : zFX E (xw D ad g) cX3_clearTally RX3 2 none) (hR : zR E = rmX3_clearTally) {r : zMi} {J : zMl} (hr : zRX E (xw D ad g) none r J) : ∀ (fuel : Nat) (a1 : Int32) (I : zMi) , f_X3_clearTally_2 fuel a1 I = some r → zAt E (xw D ad g) 2 [(0, .ref (ad (0))), (1, .int a1)] [] I J := by
  intro fuel
  induction fuel with
  | zero => intro a1 I h; rw [f_X3_clearTally_2] at h; cases h
  | succ f ih =>
    intro a1 I h
    rw [f_X3_clearTally_2] at h
    refine z_iload_n fx dX3_clearTally_2 rfl ?_
    refine z_aload_n fx dX3_clearTally_3 rfl ?_
    refine gS_tally fx wf_X3_36 dX3_clearTally_4 ?_
    refine x_ilen (v := 13) fx (Nat.le_of_ble_eq_true rfl) (cfX_7 g ad) rfl dX3_clearTally_7 ?_
    refine z_icmp_ge (tgt := 24) fx dX3_clearTally_8 (by decide) (fun q1 => ?_) (fun q1 => ?_)
    · rw [if_pos q1] at h
      cases h
      exact z_vret fx hr dX3_clearTally_24
    · rw [if_neg q1] at h
      refine z_aload_n fx dX3_clearTally_11 rfl ?_
      refine gS_tally fx wf_X3_36 dX3_clearTally_12 ?_
      refine z_iload_n fx dX3_clearTally_15 rfl ?_
      refine z_iconst (v := 0) fx dX3_clearTally_16 rfl ?_
      obtain ⟨q2, h⟩ := oi h
      refine x_ist fx (Nat.le_of_ble_eq_true rfl) (cfX_7 g ad) q2 dX3_clearTally_17 ?_
      refine z_iinc (v := (a1 + 1)) fx dX3_clearTally_18 rfl rfl (by decide) rfl ?_
      refine z_goto (tgt := 2) fx dX3_clearTally_21 (by decide) ?_
      exact z_lv2 (ih (a1 + 1) (wI I (7) a1.toNatClampNeg 0) h) rfl
set_option maxRecDepth 100000 in
set_option maxHeartbeats 4000000 in
theorem c_X3_clearTally (l : Launch) (D : va_G) (ad : Nat → Nat) (g : Nat → ClassId) (I : zMi) (J : zMl) {r : zMi} (h : f_X3_clearTally I = some r) : zCM (xw D ad g) l yX3_clearTally cX3_clearTally 2 none rmX3_clearTally [.ref (ad (0))] I J none r J := by
  refine zCM.of (by decide) (Nat.le_of_ble_eq_true rfl) (fun E hl hR fx hr => ?_)
  subst hl
  rw [f_X3_clearTally] at h
  refine z_iconst (v := 0) fx dX3_clearTally_0 rfl ?_
  refine z_istore_n fx dX3_clearTally_1 (by decide) rfl ?_
  exact z_lv2 (w_X3_clearTally_2 fx hR hr fu 0 I h) rfl
set_option maxRecDepth 100000 in
set_option maxHeartbeats 4000000 in
theorem c_X3_profile (l : Launch) (D : va_G) (ad : Nat → Nat) (g : Nat → ClassId) (a1 : Int32) (a2 : Int32) (a3 : Int32) (I : zMi) (J : zMl) {r : Int32 × zMi} (h : f_X3_profile a1 a2 a3 I = some r) : zCM (xw D ad g) l yX3_profile cX3_profile 5 (some .int) rmX3_profile [.ref (ad (0)), .int a1, .int a2, .int a3] I J (some (.int r.1)) r.2 J := by
  refine zCM.of (by decide) (Nat.le_of_ble_eq_true rfl) (fun E hl hR fx hr => ?_)
  subst hl
  rw [f_X3_profile] at h
  refine z_iload_n fx dX3_profile_0 rfl ?_
  refine zSi (rest := []) fx hR (c_X3_isTableNumber (zl E) D ad g a1 I J rfl) mvX3_isTableNumber wm_X3_104 dX3_profile_1 rfl ⟨rfl, rfl⟩ rfl rfl rfl ?_
  refine z_if_eq (tgt := 27) fx dX3_profile_4 (by decide) (fun q1 => ?_) (fun q1 => ?_)
  · rw [if_pos q1] at h
    refine z_iconst (v := (-1)) fx dX3_profile_27 rfl ?_
    cases h
    exact z_iret fx hr dX3_profile_28
  · rw [if_neg q1] at h
    refine z_iload_n fx dX3_profile_7 rfl ?_
    refine z_iconst (v := 2) fx dX3_profile_8 rfl ?_
    refine z_icmp_lt (tgt := 27) fx dX3_profile_9 (by decide) (fun q2 => ?_) (fun q2 => ?_)
    · rw [if_pos q2] at h
      refine z_iconst (v := (-1)) fx dX3_profile_27 rfl ?_
      cases h
      exact z_iret fx hr dX3_profile_28
    · rw [if_neg q2] at h
      refine z_iload_n fx dX3_profile_12 rfl ?_
      refine z_iconst (v := 4) fx dX3_profile_13 rfl ?_
      refine z_icmp_gt (tgt := 27) fx dX3_profile_14 (by decide) (fun q3 => ?_) (fun q3 => ?_)
      · rw [if_pos q3] at h
        refine z_iconst (v := (-1)) fx dX3_profile_27 rfl ?_
        cases h
        exact z_iret fx hr dX3_profile_28
      · rw [if_neg q3] at h
        refine z_iload_n fx dX3_profile_17 rfl ?_
        refine z_if_lt (tgt := 27) fx dX3_profile_18 (by decide) (fun q4 => ?_) (fun q4 => ?_)
        · rw [if_pos q4] at h
          refine z_iconst (v := (-1)) fx dX3_profile_27 rfl ?_
          cases h
          exact z_iret fx hr dX3_profile_28
        · rw [if_neg q4] at h
          refine z_iload_n fx dX3_profile_21 rfl ?_
          refine z_bipush (v := 12) fx dX3_profile_22 rfl ?_
          refine z_icmp_le (tgt := 29) fx dX3_profile_24 (by decide) (fun q5 => ?_) (fun q5 => ?_)
          · rw [if_pos q5] at h
            refine z_aload_n fx dX3_profile_29 rfl ?_
            refine gS_tables fx wf_X3_17 dX3_profile_30 ?_
            refine z_iload_n fx dX3_profile_33 rfl ?_
            obtain ⟨q6, h⟩ := oi h
            refine x_tld fx q6 dX3_profile_34 ?_
            refine z_astore fx dX3_profile_35 (by decide) rfl ?_
            refine z_aload fx dX3_profile_37 rfl ?_
            refine zVi (k := 22 + 3 * a1.toNatClampNeg) (rest := []) fx hR (c_X2_isMissing (zl E) D ad g a1.toNatClampNeg I J (ix_12 q6) rfl) (rcT (ix_12 q6)) mvX2_isMissing wm_X3_115 dX3_profile_39 rfl ⟨rfl, rfl⟩ rfl rfl rfl ?_
            refine z_if_eq (tgt := 51) fx dX3_profile_42 (by decide) (fun q7 => ?_) (fun q7 => ?_)
            · rw [if_pos q7] at h
              refine z_aload fx dX3_profile_51 rfl ?_
              obtain ⟨x8, ex8, h⟩ := ob h
              refine zVi (k := 22 + 3 * a1.toNatClampNeg) (rest := []) fx hR (c_X2_isSigns (zl E) D ad g a1.toNatClampNeg I J (ix_12 q6) ex8) (rcT (ix_12 q6)) mvX2_isSigns wm_X3_196 dX3_profile_53 rfl ⟨rfl, rfl⟩ rfl rfl rfl ?_
              refine z_if_ne (tgt := 65) fx dX3_profile_56 (by decide) (fun q9 => ?_) (fun q9 => ?_)
              · rw [if_neg q9] at h
                refine z_aload_n fx dX3_profile_65 rfl ?_
                obtain ⟨x10, ex10, h⟩ := ob h
                refine zVv (k := 0) (rest := []) fx hR (c_X3_clearTally (zl E) D ad g I J ex10) rcS mvX3_clearTally wm_X3_219 dX3_profile_66 rfl ⟨rfl, rfl⟩ rfl rfl rfl ?_
                refine z_aload fx dX3_profile_69 rfl ?_
                refine z_iload_n fx dX3_profile_71 rfl ?_
                refine z_aload_n fx dX3_profile_72 rfl ?_
                refine gS_tally fx wf_X3_36 dX3_profile_73 ?_
                refine z_iconst (v := 1) fx dX3_profile_76 rfl ?_
                obtain ⟨x11, ex11, h⟩ := ob h
                refine zVv (k := 22 + 3 * a1.toNatClampNeg) (rest := []) fx hR (c_X2_addProfile (zl E) D ad g a1.toNatClampNeg a2 1 x10 J (ix_12 q6) ex11) (rcT (ix_12 q6)) mvX2_addProfile wm_X3_222 dX3_profile_77 rfl ⟨rfl, rfl⟩ rfl rfl rfl ?_
                refine z_aload_n fx dX3_profile_80 rfl ?_
                refine gS_tally fx wf_X3_36 dX3_profile_81 ?_
                refine z_iload_n fx dX3_profile_84 rfl ?_
                obtain ⟨q12, h⟩ := oi h
                refine x_ild fx (Nat.le_of_ble_eq_true rfl) (cfX_7 g ad) q12 dX3_profile_85 ?_
                cases h
                exact z_iret fx hr dX3_profile_86
              · rw [if_pos q9] at h
                refine z_aload_n fx dX3_profile_59 rfl ?_
                refine z_iconst (v := 3) fx dX3_profile_60 rfl ?_
                obtain ⟨x13, ex13, h⟩ := ob h
                refine zVi (k := 0) (rest := []) fx hR (c_X3_found (zl E) D ad g 3 I J ex13) rcS mvX3_found wm_X3_69 dX3_profile_61 rfl ⟨rfl, rfl⟩ rfl rfl rfl ?_
                cases h
                exact z_iret fx hr dX3_profile_64
            · rw [if_neg q7] at h
              refine z_aload_n fx dX3_profile_45 rfl ?_
              refine z_iconst (v := 1) fx dX3_profile_46 rfl ?_
              obtain ⟨x14, ex14, h⟩ := ob h
              refine zVi (k := 0) (rest := []) fx hR (c_X3_found (zl E) D ad g 1 I J ex14) rcS mvX3_found wm_X3_69 dX3_profile_47 rfl ⟨rfl, rfl⟩ rfl rfl rfl ?_
              cases h
              exact z_iret fx hr dX3_profile_50
          · rw [if_neg q5] at h
            refine z_iconst (v := (-1)) fx dX3_profile_27 rfl ?_
            cases h
            exact z_iret fx hr dX3_profile_28
set_option maxRecDepth 100000 in
set_option maxHeartbeats 4000000 in
theorem w_X3_haveOneProfile_27 {E : zE} {D : va_G} {ad : Nat → Nat} {g : Nat → ClassId} (fx : zFX E (xw D ad g) cX3_haveOneProfile RX3 5 (some .boolean)) (hR : zR E = rmX3_haveOneProfile) {r : Int32 × zMi} {J : zMl} (hr : zRX E (xw D ad g) (some (.int r.1)) r.2 J) : ∀ (fuel : Nat) (a4 : Int32) (I : zMi) , f_X3_haveOneProfile_27 fuel a4 I = some r → zAt E (xw D ad g) 27 [(0, .ref (ad (0))), (4, .int a4)] [] I J := by
  intro fuel
  induction fuel with
  | zero => intro a4 I h; rw [f_X3_haveOneProfile_27] at h; cases h
  | succ f ih =>
    intro a4 I h
    rw [f_X3_haveOneProfile_27] at h
    refine z_iload fx dX3_haveOneProfile_27 rfl ?_
    refine z_aload_n fx dX3_haveOneProfile_29 rfl ?_
    refine gS_tally fx wf_X3_36 dX3_haveOneProfile_30 ?_
    refine x_ilen (v := 13) fx (Nat.le_of_ble_eq_true rfl) (cfX_7 g ad) rfl dX3_haveOneProfile_33 ?_
    refine z_icmp_ge (tgt := 55) fx dX3_haveOneProfile_34 (by decide) (fun q1 => ?_) (fun q1 => ?_)
    · rw [if_pos q1] at h
      refine z_iconst (v := 1) fx dX3_haveOneProfile_55 rfl ?_
      cases h
      exact z_zret fx rfl hr dX3_haveOneProfile_56
    · rw [if_neg q1] at h
      refine z_aload_n fx dX3_haveOneProfile_37 rfl ?_
      refine gS_tally fx wf_X3_36 dX3_haveOneProfile_38 ?_
      refine z_iload fx dX3_haveOneProfile_41 rfl ?_
      obtain ⟨q2, h⟩ := oi h
      refine x_ild fx (Nat.le_of_ble_eq_true rfl) (cfX_7 g ad) q2 dX3_haveOneProfile_43 ?_
      refine z_if_eq (tgt := 49) fx dX3_haveOneProfile_44 (by decide) (fun q3 => ?_) (fun q3 => ?_)
      · rw [if_pos q3] at h
        refine z_iinc (v := (a4 + 1)) fx dX3_haveOneProfile_49 rfl rfl (by decide) rfl ?_
        refine z_goto (tgt := 27) fx dX3_haveOneProfile_52 (by decide) ?_
        exact z_lv2 (ih (a4 + 1) I h) rfl
      · rw [if_neg q3] at h
        refine z_iconst (v := 0) fx dX3_haveOneProfile_47 rfl ?_
        cases h
        exact z_zret fx rfl hr dX3_haveOneProfile_48
set_option maxRecDepth 100000 in
set_option maxHeartbeats 4000000 in
theorem c_X3_haveOneProfile (l : Launch) (D : va_G) (ad : Nat → Nat) (g : Nat → ClassId) (n1 : Nat) (n2 : Nat) (a3 : Int32) (I : zMi) (J : zMl) (b1 : n1 < 12) (b2 : n2 < 12) {r : Int32 × zMi} (h : f_X3_haveOneProfile n1 n2 a3 I = some r) : zCM (xw D ad g) l yX3_haveOneProfile cX3_haveOneProfile 5 (some .boolean) rmX3_haveOneProfile [.ref (ad (0)), .ref (ad (22 + 3 * n1)), .ref (ad (22 + 3 * n2)), .int a3] I J (some (.int r.1)) r.2 J := by
  refine zCM.of (by decide) (Nat.le_of_ble_eq_true rfl) (fun E hl hR fx hr => ?_)
  subst hl
  rw [f_X3_haveOneProfile] at h
  refine z_aload_n fx dX3_haveOneProfile_0 rfl ?_
  obtain ⟨x1, ex1, h⟩ := ob h
  refine zVv (k := 0) (rest := []) fx hR (c_X3_clearTally (zl E) D ad g I J ex1) rcS mvX3_clearTally wm_X3_219 dX3_haveOneProfile_1 rfl ⟨rfl, rfl⟩ rfl rfl rfl ?_
  refine z_aload_n fx dX3_haveOneProfile_4 rfl ?_
  refine z_iload_n fx dX3_haveOneProfile_5 rfl ?_
  refine z_aload_n fx dX3_haveOneProfile_6 rfl ?_
  refine gS_tally fx wf_X3_36 dX3_haveOneProfile_7 ?_
  refine z_iconst (v := 1) fx dX3_haveOneProfile_10 rfl ?_
  obtain ⟨x2, ex2, h⟩ := ob h
  refine zVv (k := 22 + 3 * n1) (rest := []) fx hR (c_X2_addProfile (zl E) D ad g n1 a3 1 x1 J b1 ex2) (rcT b1) mvX2_addProfile wm_X3_222 dX3_haveOneProfile_11 rfl ⟨rfl, rfl⟩ rfl rfl rfl ?_
  refine z_aload_n fx dX3_haveOneProfile_14 rfl ?_
  refine z_iload_n fx dX3_haveOneProfile_15 rfl ?_
  refine z_aload_n fx dX3_haveOneProfile_16 rfl ?_
  refine gS_tally fx wf_X3_36 dX3_haveOneProfile_17 ?_
  refine z_iconst (v := (-1)) fx dX3_haveOneProfile_20 rfl ?_
  obtain ⟨x3, ex3, h⟩ := ob h
  refine zVv (k := 22 + 3 * n2) (rest := []) fx hR (c_X2_addProfile (zl E) D ad g n2 a3 (-1) x2 J b2 ex3) (rcT b2) mvX2_addProfile wm_X3_222 dX3_haveOneProfile_21 rfl ⟨rfl, rfl⟩ rfl rfl rfl ?_
  refine z_iconst (v := 0) fx dX3_haveOneProfile_24 rfl ?_
  refine z_istore fx dX3_haveOneProfile_25 (by decide) rfl ?_
  exact z_lv2 (w_X3_haveOneProfile_27 fx hR hr fu 0 x3 h) rfl
set_option maxRecDepth 100000 in
set_option maxHeartbeats 4000000 in
theorem w_X3_mayBeLike_160 {E : zE} {D : va_G} {ad : Nat → Nat} {g : Nat → ClassId} (fx : zFX E (xw D ad g) cX3_mayBeLike RX3 6 (some .int)) (hR : zR E = rmX3_mayBeLike) {r : Int32 × zMi} {J : zMl} (hr : zRX E (xw D ad g) (some (.int r.1)) r.2 J) : ∀  (I : zMi) , f_X3_mayBeLike_160 I = some r → zAt E (xw D ad g) 160 [(0, .ref (ad (0)))] [] I J := by
  intro I h
  rw [f_X3_mayBeLike_160] at h
  refine z_iconst (v := 0) fx dX3_mayBeLike_160 rfl ?_
  refine z_istore fx dX3_mayBeLike_161 (by decide) rfl ?_
  refine z_iload fx dX3_mayBeLike_163 rfl ?_
  refine z_if_eq (tgt := 172) fx dX3_mayBeLike_165 (by decide) (fun q1 => ?_) (fun q1 => ?_)
  · rw [if_pos q1] at h
    refine z_iconst (v := 0) fx dX3_mayBeLike_172 rfl ?_
    cases h
    exact z_iret fx hr dX3_mayBeLike_173
  · rw [if_neg q1] at h
    refine z_iconst (v := 1) fx dX3_mayBeLike_168 rfl ?_
    refine z_goto (tgt := 173) fx dX3_mayBeLike_169 (by decide) ?_
    cases h
    exact z_iret fx hr dX3_mayBeLike_173
set_option maxRecDepth 100000 in
set_option maxHeartbeats 4000000 in
theorem c_X3_mayBeLike (l : Launch) (D : va_G) (ad : Nat → Nat) (g : Nat → ClassId) (a1 : Int32) (a2 : Int32) (I : zMi) (J : zMl) {r : Int32 × zMi} (h : f_X3_mayBeLike a1 a2 I = some r) : zCM (xw D ad g) l yX3_mayBeLike cX3_mayBeLike 6 (some .int) rmX3_mayBeLike [.ref (ad (0)), .int a1, .int a2] I J (some (.int r.1)) r.2 J := by
  refine zCM.of (by decide) (Nat.le_of_ble_eq_true rfl) (fun E hl hR fx hr => ?_)
  subst hl
  rw [f_X3_mayBeLike] at h
  refine z_iload_n fx dX3_mayBeLike_0 rfl ?_
  refine zSi (rest := []) fx hR (c_X3_isTableNumber (zl E) D ad g a1 I J rfl) mvX3_isTableNumber wm_X3_104 dX3_mayBeLike_1 rfl ⟨rfl, rfl⟩ rfl rfl rfl ?_
  refine z_if_eq (tgt := 14) fx dX3_mayBeLike_4 (by decide) (fun q1 => ?_) (fun q1 => ?_)
  · rw [if_pos q1] at h
    refine z_iconst (v := (-1)) fx dX3_mayBeLike_14 rfl ?_
    cases h
    exact z_iret fx hr dX3_mayBeLike_15
  · rw [if_neg q1] at h
    refine z_iload_n fx dX3_mayBeLike_7 rfl ?_
    refine zSi (rest := []) fx hR (c_X3_isTableNumber (zl E) D ad g a2 I J rfl) mvX3_isTableNumber wm_X3_104 dX3_mayBeLike_8 rfl ⟨rfl, rfl⟩ rfl rfl rfl ?_
    refine z_if_ne (tgt := 16) fx dX3_mayBeLike_11 (by decide) (fun q2 => ?_) (fun q2 => ?_)
    · rw [if_neg q2] at h
      refine z_aload_n fx dX3_mayBeLike_16 rfl ?_
      refine gS_tables fx wf_X3_17 dX3_mayBeLike_17 ?_
      refine z_iload_n fx dX3_mayBeLike_20 rfl ?_
      obtain ⟨q3, h⟩ := oi h
      refine x_tld fx q3 dX3_mayBeLike_21 ?_
      refine z_astore_n fx dX3_mayBeLike_22 (by decide) rfl ?_
      refine z_aload_n fx dX3_mayBeLike_23 rfl ?_
      refine gS_tables fx wf_X3_17 dX3_mayBeLike_24 ?_
      refine z_iload_n fx dX3_mayBeLike_27 rfl ?_
      obtain ⟨q4, h⟩ := oi h
      refine x_tld fx q4 dX3_mayBeLike_28 ?_
      refine z_astore fx dX3_mayBeLike_29 (by decide) rfl ?_
      refine z_aload_n fx dX3_mayBeLike_31 rfl ?_
      refine zVi (k := 22 + 3 * a1.toNatClampNeg) (rest := []) fx hR (c_X2_isMissing (zl E) D ad g a1.toNatClampNeg I J (ix_12 q3) rfl) (rcT (ix_12 q3)) mvX2_isMissing wm_X3_115 dX3_mayBeLike_32 rfl ⟨rfl, rfl⟩ rfl rfl rfl ?_
      refine z_if_ne (tgt := 46) fx dX3_mayBeLike_35 (by decide) (fun q5 => ?_) (fun q5 => ?_)
      · rw [if_neg q5] at h
        refine z_aload_n fx dX3_mayBeLike_46 rfl ?_
        refine z_iconst (v := 1) fx dX3_mayBeLike_47 rfl ?_
        obtain ⟨x6, ex6, h⟩ := ob h
        refine zVi (k := 0) (rest := []) fx hR (c_X3_found (zl E) D ad g 1 I J ex6) rcS mvX3_found wm_X3_69 dX3_mayBeLike_48 rfl ⟨rfl, rfl⟩ rfl rfl rfl ?_
        cases h
        exact z_iret fx hr dX3_mayBeLike_51
      · rw [if_pos q5] at h
        refine z_aload fx dX3_mayBeLike_38 rfl ?_
        refine zVi (k := 22 + 3 * a2.toNatClampNeg) (rest := []) fx hR (c_X2_isMissing (zl E) D ad g a2.toNatClampNeg I J (ix_12 q4) rfl) (rcT (ix_12 q4)) mvX2_isMissing wm_X3_115 dX3_mayBeLike_40 rfl ⟨rfl, rfl⟩ rfl rfl rfl ?_
        refine z_if_eq (tgt := 52) fx dX3_mayBeLike_43 (by decide) (fun q7 => ?_) (fun q7 => ?_)
        · rw [if_pos q7] at h
          refine z_aload_n fx dX3_mayBeLike_52 rfl ?_
          obtain ⟨x8, ex8, h⟩ := ob h
          refine zVi (k := 22 + 3 * a1.toNatClampNeg) (rest := []) fx hR (c_X2_isSigns (zl E) D ad g a1.toNatClampNeg I J (ix_12 q3) ex8) (rcT (ix_12 q3)) mvX2_isSigns wm_X3_196 dX3_mayBeLike_53 rfl ⟨rfl, rfl⟩ rfl rfl rfl ?_
          refine z_if_eq (tgt := 79) fx dX3_mayBeLike_56 (by decide) (fun q9 => ?_) (fun q9 => ?_)
          · rw [if_pos q9] at h
            refine z_aload_n fx dX3_mayBeLike_79 rfl ?_
            refine z_iconst (v := 3) fx dX3_mayBeLike_80 rfl ?_
            obtain ⟨x10, ex10, h⟩ := ob h
            refine zVi (k := 0) (rest := []) fx hR (c_X3_found (zl E) D ad g 3 I J ex10) rcS mvX3_found wm_X3_69 dX3_mayBeLike_81 rfl ⟨rfl, rfl⟩ rfl rfl rfl ?_
            cases h
            exact z_iret fx hr dX3_mayBeLike_84
          · rw [if_neg q9] at h
            refine z_aload fx dX3_mayBeLike_59 rfl ?_
            obtain ⟨x11, ex11, h⟩ := ob h
            refine zVi (k := 22 + 3 * a2.toNatClampNeg) (rest := []) fx hR (c_X2_isSigns (zl E) D ad g a2.toNatClampNeg I J (ix_12 q4) ex11) (rcT (ix_12 q4)) mvX2_isSigns wm_X3_196 dX3_mayBeLike_61 rfl ⟨rfl, rfl⟩ rfl rfl rfl ?_
            refine z_if_eq (tgt := 79) fx dX3_mayBeLike_64 (by decide) (fun q12 => ?_) (fun q12 => ?_)
            · rw [if_pos q12] at h
              refine z_aload_n fx dX3_mayBeLike_79 rfl ?_
              refine z_iconst (v := 3) fx dX3_mayBeLike_80 rfl ?_
              obtain ⟨x13, ex13, h⟩ := ob h
              refine zVi (k := 0) (rest := []) fx hR (c_X3_found (zl E) D ad g 3 I J ex13) rcS mvX3_found wm_X3_69 dX3_mayBeLike_81 rfl ⟨rfl, rfl⟩ rfl rfl rfl ?_
              cases h
              exact z_iret fx hr dX3_mayBeLike_84
            · rw [if_neg q12] at h
              refine z_aload_n fx dX3_mayBeLike_67 rfl ?_
              refine gT_n fx (ix_12 q3) wf_X3_119 dX3_mayBeLike_68 ?_
              refine z_aload fx dX3_mayBeLike_71 rfl ?_
              refine gT_n fx (ix_12 q4) wf_X3_119 dX3_mayBeLike_73 ?_
              refine z_icmp_eq (tgt := 85) fx dX3_mayBeLike_76 (by decide) (fun q14 => ?_) (fun q14 => ?_)
              · rw [if_pos q14] at h
                refine z_aload_n fx dX3_mayBeLike_85 rfl ?_
                refine gS_work fx wf_X3_22 dX3_mayBeLike_86 ?_
                refine z_aload_n fx dX3_mayBeLike_89 rfl ?_
                obtain ⟨x15, ex15, h⟩ := ob h
                refine zVv (k := 22 + 3 * 10) (rest := []) fx hR (c_X2_beginFlipped (zl E) D ad g 10 a1.toNatClampNeg I J (by decide) (ix_12 q3) ex15) (rcT (by decide)) mvX2_beginFlipped wm_X3_193 dX3_mayBeLike_90 rfl ⟨rfl, rfl⟩ rfl rfl rfl ?_
                refine z_aload_n fx dX3_mayBeLike_93 rfl ?_
                refine gS_otherWork fx wf_X3_26 dX3_mayBeLike_94 ?_
                refine z_aload fx dX3_mayBeLike_97 rfl ?_
                obtain ⟨x16, ex16, h⟩ := ob h
                refine zVv (k := 22 + 3 * 11) (rest := []) fx hR (c_X2_beginFlipped (zl E) D ad g 11 a2.toNatClampNeg x15 J (by decide) (ix_12 q4) ex16) (rcT (by decide)) mvX2_beginFlipped wm_X3_193 dX3_mayBeLike_99 rfl ⟨rfl, rfl⟩ rfl rfl rfl ?_
                refine z_aload_n fx dX3_mayBeLike_102 rfl ?_
                refine z_aload_n fx dX3_mayBeLike_103 rfl ?_
                refine z_aload fx dX3_mayBeLike_104 rfl ?_
                refine z_iconst (v := 2) fx dX3_mayBeLike_106 rfl ?_
                obtain ⟨x17, ex17, h⟩ := ob h
                refine zVi (k := 0) (rest := []) fx hR (c_X3_haveOneProfile (zl E) D ad g a1.toNatClampNeg a2.toNatClampNeg 2 x16 J (ix_12 q3) (ix_12 q4) ex17) rcS mvX3_haveOneProfile wm_X3_226 dX3_mayBeLike_107 rfl ⟨rfl, rfl⟩ rfl rfl rfl ?_
                refine z_if_eq (tgt := 160) fx dX3_mayBeLike_110 (by decide) (fun q18 => ?_) (fun q18 => ?_)
                · rw [if_pos q18] at h
                  exact z_lv2 (w_X3_mayBeLike_160 fx hR hr x17.2 h) rfl
                · rw [if_neg q18] at h
                  refine z_aload_n fx dX3_mayBeLike_113 rfl ?_
                  refine z_aload_n fx dX3_mayBeLike_114 rfl ?_
                  refine z_aload fx dX3_mayBeLike_115 rfl ?_
                  refine z_iconst (v := 4) fx dX3_mayBeLike_117 rfl ?_
                  obtain ⟨x19, ex19, h⟩ := ob h
                  refine zVi (k := 0) (rest := []) fx hR (c_X3_haveOneProfile (zl E) D ad g a1.toNatClampNeg a2.toNatClampNeg 4 x17.2 J (ix_12 q3) (ix_12 q4) ex19) rcS mvX3_haveOneProfile wm_X3_226 dX3_mayBeLike_118 rfl ⟨rfl, rfl⟩ rfl rfl rfl ?_
                  refine z_if_eq (tgt := 160) fx dX3_mayBeLike_121 (by decide) (fun q20 => ?_) (fun q20 => ?_)
                  · rw [if_pos q20] at h
                    exact z_lv2 (w_X3_mayBeLike_160 fx hR hr x19.2 h) rfl
                  · rw [if_neg q20] at h
                    refine z_aload_n fx dX3_mayBeLike_124 rfl ?_
                    refine z_aload_n fx dX3_mayBeLike_125 rfl ?_
                    refine gS_work fx wf_X3_22 dX3_mayBeLike_126 ?_
                    refine z_aload_n fx dX3_mayBeLike_129 rfl ?_
                    refine gS_otherWork fx wf_X3_26 dX3_mayBeLike_130 ?_
                    refine z_iconst (v := 2) fx dX3_mayBeLike_133 rfl ?_
                    obtain ⟨x21, ex21, h⟩ := ob h
                    refine zVi (k := 0) (rest := []) fx hR (c_X3_haveOneProfile (zl E) D ad g 10 11 2 x19.2 J (by decide) (by decide) ex21) rcS mvX3_haveOneProfile wm_X3_226 dX3_mayBeLike_134 rfl ⟨rfl, rfl⟩ rfl rfl rfl ?_
                    refine z_if_eq (tgt := 160) fx dX3_mayBeLike_137 (by decide) (fun q22 => ?_) (fun q22 => ?_)
                    · rw [if_pos q22] at h
                      exact z_lv2 (w_X3_mayBeLike_160 fx hR hr x21.2 h) rfl
                    · rw [if_neg q22] at h
                      refine z_aload_n fx dX3_mayBeLike_140 rfl ?_
                      refine z_aload_n fx dX3_mayBeLike_141 rfl ?_
                      refine gS_work fx wf_X3_22 dX3_mayBeLike_142 ?_
                      refine z_aload_n fx dX3_mayBeLike_145 rfl ?_
                      refine gS_otherWork fx wf_X3_26 dX3_mayBeLike_146 ?_
                      refine z_iconst (v := 4) fx dX3_mayBeLike_149 rfl ?_
                      obtain ⟨x23, ex23, h⟩ := ob h
                      refine zVi (k := 0) (rest := []) fx hR (c_X3_haveOneProfile (zl E) D ad g 10 11 4 x21.2 J (by decide) (by decide) ex23) rcS mvX3_haveOneProfile wm_X3_226 dX3_mayBeLike_150 rfl ⟨rfl, rfl⟩ rfl rfl rfl ?_
                      refine z_if_eq (tgt := 160) fx dX3_mayBeLike_153 (by decide) (fun q24 => ?_) (fun q24 => ?_)
                      · rw [if_pos q24] at h
                        exact z_lv2 (w_X3_mayBeLike_160 fx hR hr x23.2 h) rfl
                      · rw [if_neg q24] at h
                        refine z_iconst (v := 1) fx dX3_mayBeLike_156 rfl ?_
                        refine z_goto (tgt := 161) fx dX3_mayBeLike_157 (by decide) ?_
                        refine z_istore fx dX3_mayBeLike_161 (by decide) rfl ?_
                        refine z_iload fx dX3_mayBeLike_163 rfl ?_
                        refine z_if_eq (tgt := 172) fx dX3_mayBeLike_165 (by decide) (fun q25 => ?_) (fun q25 => ?_)
                        · rw [if_pos q25] at h
                          refine z_iconst (v := 0) fx dX3_mayBeLike_172 rfl ?_
                          cases h
                          exact z_iret fx hr dX3_mayBeLike_173
                        · rw [if_neg q25] at h
                          refine z_iconst (v := 1) fx dX3_mayBeLike_168 rfl ?_
                          refine z_goto (tgt := 173) fx dX3_mayBeLike_169 (by decide) ?_
                          cases h
                          exact z_iret fx hr dX3_mayBeLike_173
              · rw [if_neg q14] at h
                refine z_aload_n fx dX3_mayBeLike_79 rfl ?_
                refine z_iconst (v := 3) fx dX3_mayBeLike_80 rfl ?_
                obtain ⟨x26, ex26, h⟩ := ob h
                refine zVi (k := 0) (rest := []) fx hR (c_X3_found (zl E) D ad g 3 I J ex26) rcS mvX3_found wm_X3_69 dX3_mayBeLike_81 rfl ⟨rfl, rfl⟩ rfl rfl rfl ?_
                cases h
                exact z_iret fx hr dX3_mayBeLike_84
        · rw [if_neg q7] at h
          refine z_aload_n fx dX3_mayBeLike_46 rfl ?_
          refine z_iconst (v := 1) fx dX3_mayBeLike_47 rfl ?_
          obtain ⟨x27, ex27, h⟩ := ob h
          refine zVi (k := 0) (rest := []) fx hR (c_X3_found (zl E) D ad g 1 I J ex27) rcS mvX3_found wm_X3_69 dX3_mayBeLike_48 rfl ⟨rfl, rfl⟩ rfl rfl rfl ?_
          cases h
          exact z_iret fx hr dX3_mayBeLike_51
    · rw [if_pos q2] at h
      refine z_iconst (v := (-1)) fx dX3_mayBeLike_14 rfl ?_
      cases h
      exact z_iret fx hr dX3_mayBeLike_15
set_option maxRecDepth 100000 in
set_option maxHeartbeats 4000000 in
theorem c_X3_like (l : Launch) (D : va_G) (ad : Nat → Nat) (g : Nat → ClassId) (a1 : Int32) (a2 : Int32) (I : zMi) (J : zMl) {r : Int32 × zMi} (h : f_X3_like a1 a2 I = some r) : zCM (xw D ad g) l yX3_like cX3_like 5 (some .int) rmX3_like [.ref (ad (0)), .int a1, .int a2] I J (some (.int r.1)) r.2 J := by
  refine zCM.of (by decide) (Nat.le_of_ble_eq_true rfl) (fun E hl hR fx hr => ?_)
  subst hl
  rw [f_X3_like] at h
  refine z_iload_n fx dX3_like_0 rfl ?_
  refine zSi (rest := []) fx hR (c_X3_isTableNumber (zl E) D ad g a1 I J rfl) mvX3_isTableNumber wm_X3_104 dX3_like_1 rfl ⟨rfl, rfl⟩ rfl rfl rfl ?_
  refine z_if_eq (tgt := 14) fx dX3_like_4 (by decide) (fun q1 => ?_) (fun q1 => ?_)
  · rw [if_pos q1] at h
    refine z_iconst (v := (-1)) fx dX3_like_14 rfl ?_
    cases h
    exact z_iret fx hr dX3_like_15
  · rw [if_neg q1] at h
    refine z_iload_n fx dX3_like_7 rfl ?_
    refine zSi (rest := []) fx hR (c_X3_isTableNumber (zl E) D ad g a2 I J rfl) mvX3_isTableNumber wm_X3_104 dX3_like_8 rfl ⟨rfl, rfl⟩ rfl rfl rfl ?_
    refine z_if_ne (tgt := 16) fx dX3_like_11 (by decide) (fun q2 => ?_) (fun q2 => ?_)
    · rw [if_neg q2] at h
      refine z_aload_n fx dX3_like_16 rfl ?_
      refine gS_tables fx wf_X3_17 dX3_like_17 ?_
      refine z_iload_n fx dX3_like_20 rfl ?_
      obtain ⟨q3, h⟩ := oi h
      refine x_tld fx q3 dX3_like_21 ?_
      refine z_astore_n fx dX3_like_22 (by decide) rfl ?_
      refine z_aload_n fx dX3_like_23 rfl ?_
      refine gS_tables fx wf_X3_17 dX3_like_24 ?_
      refine z_iload_n fx dX3_like_27 rfl ?_
      obtain ⟨q4, h⟩ := oi h
      refine x_tld fx q4 dX3_like_28 ?_
      refine z_astore fx dX3_like_29 (by decide) rfl ?_
      refine z_aload_n fx dX3_like_31 rfl ?_
      refine zVi (k := 22 + 3 * a1.toNatClampNeg) (rest := []) fx hR (c_X2_isMissing (zl E) D ad g a1.toNatClampNeg I J (ix_12 q3) rfl) (rcT (ix_12 q3)) mvX2_isMissing wm_X3_115 dX3_like_32 rfl ⟨rfl, rfl⟩ rfl rfl rfl ?_
      refine z_if_ne (tgt := 46) fx dX3_like_35 (by decide) (fun q5 => ?_) (fun q5 => ?_)
      · rw [if_neg q5] at h
        refine z_aload_n fx dX3_like_46 rfl ?_
        refine z_iconst (v := 1) fx dX3_like_47 rfl ?_
        obtain ⟨x6, ex6, h⟩ := ob h
        refine zVi (k := 0) (rest := []) fx hR (c_X3_found (zl E) D ad g 1 I J ex6) rcS mvX3_found wm_X3_69 dX3_like_48 rfl ⟨rfl, rfl⟩ rfl rfl rfl ?_
        cases h
        exact z_iret fx hr dX3_like_51
      · rw [if_pos q5] at h
        refine z_aload fx dX3_like_38 rfl ?_
        refine zVi (k := 22 + 3 * a2.toNatClampNeg) (rest := []) fx hR (c_X2_isMissing (zl E) D ad g a2.toNatClampNeg I J (ix_12 q4) rfl) (rcT (ix_12 q4)) mvX2_isMissing wm_X3_115 dX3_like_40 rfl ⟨rfl, rfl⟩ rfl rfl rfl ?_
        refine z_if_eq (tgt := 52) fx dX3_like_43 (by decide) (fun q7 => ?_) (fun q7 => ?_)
        · rw [if_pos q7] at h
          refine z_aload_n fx dX3_like_52 rfl ?_
          obtain ⟨x8, ex8, h⟩ := ob h
          refine zVi (k := 22 + 3 * a1.toNatClampNeg) (rest := []) fx hR (c_X2_isSigns (zl E) D ad g a1.toNatClampNeg I J (ix_12 q3) ex8) (rcT (ix_12 q3)) mvX2_isSigns wm_X3_196 dX3_like_53 rfl ⟨rfl, rfl⟩ rfl rfl rfl ?_
          refine z_if_eq (tgt := 79) fx dX3_like_56 (by decide) (fun q9 => ?_) (fun q9 => ?_)
          · rw [if_pos q9] at h
            refine z_aload_n fx dX3_like_79 rfl ?_
            refine z_iconst (v := 3) fx dX3_like_80 rfl ?_
            obtain ⟨x10, ex10, h⟩ := ob h
            refine zVi (k := 0) (rest := []) fx hR (c_X3_found (zl E) D ad g 3 I J ex10) rcS mvX3_found wm_X3_69 dX3_like_81 rfl ⟨rfl, rfl⟩ rfl rfl rfl ?_
            cases h
            exact z_iret fx hr dX3_like_84
          · rw [if_neg q9] at h
            refine z_aload fx dX3_like_59 rfl ?_
            obtain ⟨x11, ex11, h⟩ := ob h
            refine zVi (k := 22 + 3 * a2.toNatClampNeg) (rest := []) fx hR (c_X2_isSigns (zl E) D ad g a2.toNatClampNeg I J (ix_12 q4) ex11) (rcT (ix_12 q4)) mvX2_isSigns wm_X3_196 dX3_like_61 rfl ⟨rfl, rfl⟩ rfl rfl rfl ?_
            refine z_if_eq (tgt := 79) fx dX3_like_64 (by decide) (fun q12 => ?_) (fun q12 => ?_)
            · rw [if_pos q12] at h
              refine z_aload_n fx dX3_like_79 rfl ?_
              refine z_iconst (v := 3) fx dX3_like_80 rfl ?_
              obtain ⟨x13, ex13, h⟩ := ob h
              refine zVi (k := 0) (rest := []) fx hR (c_X3_found (zl E) D ad g 3 I J ex13) rcS mvX3_found wm_X3_69 dX3_like_81 rfl ⟨rfl, rfl⟩ rfl rfl rfl ?_
              cases h
              exact z_iret fx hr dX3_like_84
            · rw [if_neg q12] at h
              refine z_aload_n fx dX3_like_67 rfl ?_
              refine gT_n fx (ix_12 q3) wf_X3_119 dX3_like_68 ?_
              refine z_aload fx dX3_like_71 rfl ?_
              refine gT_n fx (ix_12 q4) wf_X3_119 dX3_like_73 ?_
              refine z_icmp_eq (tgt := 85) fx dX3_like_76 (by decide) (fun q14 => ?_) (fun q14 => ?_)
              · rw [if_pos q14] at h
                refine z_aload_n fx dX3_like_85 rfl ?_
                refine gT_n fx (ix_12 q3) wf_X3_119 dX3_like_86 ?_
                refine z_iconst (v := 4) fx dX3_like_89 rfl ?_
                refine z_icmp_le (tgt := 99) fx dX3_like_90 (by decide) (fun q15 => ?_) (fun q15 => ?_)
                · rw [if_pos q15] at h
                  refine z_aload_n fx dX3_like_99 rfl ?_
                  refine z_aload fx dX3_like_100 rfl ?_
                  obtain ⟨x16, ex16, h⟩ := ob h
                  refine zVi (k := 22 + 3 * a1.toNatClampNeg) (rest := []) fx hR (c_X2_comesFrom (zl E) D ad g a1.toNatClampNeg a2.toNatClampNeg I J (ix_12 q3) (ix_12 q4) ex16) (rcT (ix_12 q3)) mvX2_comesFrom wm_X3_230 dX3_like_102 rfl ⟨rfl, rfl⟩ rfl rfl rfl ?_
                  refine z_if_eq (tgt := 112) fx dX3_like_105 (by decide) (fun q17 => ?_) (fun q17 => ?_)
                  · rw [if_pos q17] at h
                    refine z_iconst (v := 0) fx dX3_like_112 rfl ?_
                    cases h
                    exact z_iret fx hr dX3_like_113
                  · rw [if_neg q17] at h
                    refine z_iconst (v := 1) fx dX3_like_108 rfl ?_
                    refine z_goto (tgt := 113) fx dX3_like_109 (by decide) ?_
                    cases h
                    exact z_iret fx hr dX3_like_113
                · rw [if_neg q15] at h
                  refine z_aload_n fx dX3_like_93 rfl ?_
                  refine z_iconst (v := 5) fx dX3_like_94 rfl ?_
                  obtain ⟨x18, ex18, h⟩ := ob h
                  refine zVi (k := 0) (rest := []) fx hR (c_X3_found (zl E) D ad g 5 I J ex18) rcS mvX3_found wm_X3_69 dX3_like_95 rfl ⟨rfl, rfl⟩ rfl rfl rfl ?_
                  cases h
                  exact z_iret fx hr dX3_like_98
              · rw [if_neg q14] at h
                refine z_aload_n fx dX3_like_79 rfl ?_
                refine z_iconst (v := 3) fx dX3_like_80 rfl ?_
                obtain ⟨x19, ex19, h⟩ := ob h
                refine zVi (k := 0) (rest := []) fx hR (c_X3_found (zl E) D ad g 3 I J ex19) rcS mvX3_found wm_X3_69 dX3_like_81 rfl ⟨rfl, rfl⟩ rfl rfl rfl ?_
                cases h
                exact z_iret fx hr dX3_like_84
        · rw [if_neg q7] at h
          refine z_aload_n fx dX3_like_46 rfl ?_
          refine z_iconst (v := 1) fx dX3_like_47 rfl ?_
          obtain ⟨x20, ex20, h⟩ := ob h
          refine zVi (k := 0) (rest := []) fx hR (c_X3_found (zl E) D ad g 1 I J ex20) rcS mvX3_found wm_X3_69 dX3_like_48 rfl ⟨rfl, rfl⟩ rfl rfl rfl ?_
          cases h
          exact z_iret fx hr dX3_like_51
    · rw [if_pos q2] at h
      refine z_iconst (v := (-1)) fx dX3_like_14 rfl ?_
      cases h
      exact z_iret fx hr dX3_like_15
set_option maxRecDepth 100000 in
set_option maxHeartbeats 4000000 in
theorem w_X3_excess_34 {E : zE} {D : va_G} {ad : Nat → Nat} {g : Nat → ClassId} (fx : zFX E (xw D ad g) cX3_excess RX3 6 (some .int)) (hR : zR E = rmX3_excess) {r : Int32 × zMi} {J : zMl} (hr : zRX E (xw D ad g) (some (.int r.1)) r.2 J) : ∀ (fuel : Nat) (n2 : Nat) (a3 : Int32) (a4 : Int32) (I : zMi) , f_X3_excess_34 fuel n2 a3 a4 I = some r → n2 < 12 → zAt E (xw D ad g) 34 [(0, .ref (ad (0))), (2, .ref (ad (22 + 3 * n2))), (3, .int a3), (4, .int a4)] [] I J := by
  intro fuel
  induction fuel with
  | zero => intro n2 a3 a4 I h b2; rw [f_X3_excess_34] at h; cases h
  | succ f ih =>
    intro n2 a3 a4 I h b2
    rw [f_X3_excess_34] at h
    refine z_iload fx dX3_excess_34 rfl ?_
    refine z_iconst (v := 1) fx dX3_excess_36 rfl ?_
    refine z_aload_n fx dX3_excess_37 rfl ?_
    refine gT_n fx b2 wf_X3_119 dX3_excess_38 ?_
    refine z_iconst (v := 1) fx dX3_excess_41 rfl ?_
    refine z_isub fx dX3_excess_42 ?_
    refine z_ishl fx dX3_excess_43 ?_
    refine z_icmp_ge (tgt := 76) fx dX3_excess_44 (by decide) (fun q1 => ?_) (fun q1 => ?_)
    · rw [if_pos q1] at h
      refine z_iload_n fx dX3_excess_76 rfl ?_
      cases h
      exact z_iret fx hr dX3_excess_77
    · rw [if_neg q1] at h
      refine z_aload_n fx dX3_excess_47 rfl ?_
      refine z_iload fx dX3_excess_48 rfl ?_
      obtain ⟨x2, ex2, h⟩ := ob h
      refine zVi (k := 22 + 3 * n2) (rest := []) fx hR (c_X2_sumOfSizes (zl E) D ad g n2 a4 I J b2 ex2) (rcT b2) mvX2_sumOfSizes wm_X3_234 dX3_excess_50 rfl ⟨rfl, rfl⟩ rfl rfl rfl ?_
      refine z_istore fx dX3_excess_53 (by decide) rfl ?_
      refine z_iload fx dX3_excess_55 rfl ?_
      refine z_iload_n fx dX3_excess_57 rfl ?_
      refine z_icmp_le (tgt := 70) fx dX3_excess_58 (by decide) (fun q3 => ?_) (fun q3 => ?_)
      · rw [if_pos q3] at h
        refine z_iinc (v := (a4 + 1)) fx dX3_excess_70 rfl rfl (by decide) rfl ?_
        refine z_goto (tgt := 34) fx dX3_excess_73 (by decide) ?_
        exact z_lv2 (ih n2 a3 (a4 + 1) I h b2) rfl
      · rw [if_neg q3] at h
        refine z_iload fx dX3_excess_61 rfl ?_
        refine z_istore_n fx dX3_excess_63 (by decide) rfl ?_
        refine z_aload_n fx dX3_excess_64 rfl ?_
        refine z_iload fx dX3_excess_65 rfl ?_
        refine pS_latestAsked fx wf_X3_51 dX3_excess_67 ?_
        refine z_iinc (v := (a4 + 1)) fx dX3_excess_70 rfl rfl (by decide) rfl ?_
        refine z_goto (tgt := 34) fx dX3_excess_73 (by decide) ?_
        exact z_lv2 (ih n2 x2 (a4 + 1) (wI I (0) 9 a4) h b2) rfl
set_option maxRecDepth 100000 in
set_option maxHeartbeats 4000000 in
theorem c_X3_excess (l : Launch) (D : va_G) (ad : Nat → Nat) (g : Nat → ClassId) (a1 : Int32) (I : zMi) (J : zMl) {r : Int32 × zMi} (h : f_X3_excess a1 I = some r) : zCM (xw D ad g) l yX3_excess cX3_excess 6 (some .int) rmX3_excess [.ref (ad (0)), .int a1] I J (some (.int r.1)) r.2 J := by
  refine zCM.of (by decide) (Nat.le_of_ble_eq_true rfl) (fun E hl hR fx hr => ?_)
  subst hl
  rw [f_X3_excess] at h
  refine z_iload_n fx dX3_excess_0 rfl ?_
  refine zSi (rest := []) fx hR (c_X3_isTableNumber (zl E) D ad g a1 I J rfl) mvX3_isTableNumber wm_X3_104 dX3_excess_1 rfl ⟨rfl, rfl⟩ rfl rfl rfl ?_
  refine z_if_ne (tgt := 9) fx dX3_excess_4 (by decide) (fun q1 => ?_) (fun q1 => ?_)
  · rw [if_neg q1] at h
    refine z_aload_n fx dX3_excess_9 rfl ?_
    refine gS_tables fx wf_X3_17 dX3_excess_10 ?_
    refine z_iload_n fx dX3_excess_13 rfl ?_
    obtain ⟨q2, h⟩ := oi h
    refine x_tld fx q2 dX3_excess_14 ?_
    refine z_astore_n fx dX3_excess_15 (by decide) rfl ?_
    refine z_aload_n fx dX3_excess_16 rfl ?_
    refine zVi (k := 22 + 3 * a1.toNatClampNeg) (rest := []) fx hR (c_X2_isMissing (zl E) D ad g a1.toNatClampNeg I J (ix_12 q2) rfl) (rcT (ix_12 q2)) mvX2_isMissing wm_X3_115 dX3_excess_17 rfl ⟨rfl, rfl⟩ rfl rfl rfl ?_
    refine z_if_eq (tgt := 29) fx dX3_excess_20 (by decide) (fun q3 => ?_) (fun q3 => ?_)
    · rw [if_pos q3] at h
      refine z_iconst (v := (-1)) fx dX3_excess_29 rfl ?_
      refine z_istore_n fx dX3_excess_30 (by decide) rfl ?_
      refine z_iconst (v := 0) fx dX3_excess_31 rfl ?_
      refine z_istore fx dX3_excess_32 (by decide) rfl ?_
      exact z_lv2 (w_X3_excess_34 fx hR hr fu a1.toNatClampNeg (-1) 0 I h (ix_12 q2)) rfl
    · rw [if_neg q3] at h
      refine z_aload_n fx dX3_excess_23 rfl ?_
      refine z_iconst (v := 1) fx dX3_excess_24 rfl ?_
      obtain ⟨x4, ex4, h⟩ := ob h
      refine zVi (k := 0) (rest := []) fx hR (c_X3_found (zl E) D ad g 1 I J ex4) rcS mvX3_found wm_X3_69 dX3_excess_25 rfl ⟨rfl, rfl⟩ rfl rfl rfl ?_
      cases h
      exact z_iret fx hr dX3_excess_28
  · rw [if_pos q1] at h
    refine z_iconst (v := (-1)) fx dX3_excess_7 rfl ?_
    cases h
    exact z_iret fx hr dX3_excess_8
set_option maxRecDepth 100000 in
set_option maxHeartbeats 4000000 in
theorem w_X3_peak_39 {E : zE} {D : va_G} {ad : Nat → Nat} {g : Nat → ClassId} (fx : zFX E (xw D ad g) cX3_peak RX3 6 (some .int)) (hR : zR E = rmX3_peak) {r : Int32 × zMi} {J : zMl} (hr : zRX E (xw D ad g) (some (.int r.1)) r.2 J) : ∀ (fuel : Nat) (n2 : Nat) (a3 : Int32) (a4 : Int32) (I : zMi) , f_X3_peak_39 fuel n2 a3 a4 I = some r → n2 < 12 → zAt E (xw D ad g) 39 [(0, .ref (ad (0))), (2, .ref (ad (22 + 3 * n2))), (3, .int a3), (4, .int a4)] [] I J := by
  intro fuel
  induction fuel with
  | zero => intro n2 a3 a4 I h b2; rw [f_X3_peak_39] at h; cases h
  | succ f ih =>
    intro n2 a3 a4 I h b2
    rw [f_X3_peak_39] at h
    refine z_iload fx dX3_peak_39 rfl ?_
    refine z_iconst (v := 1) fx dX3_peak_41 rfl ?_
    refine z_aload_n fx dX3_peak_42 rfl ?_
    refine gT_n fx b2 wf_X3_119 dX3_peak_43 ?_
    refine z_iconst (v := 1) fx dX3_peak_46 rfl ?_
    refine z_isub fx dX3_peak_47 ?_
    refine z_ishl fx dX3_peak_48 ?_
    refine z_icmp_ge (tgt := 82) fx dX3_peak_49 (by decide) (fun q1 => ?_) (fun q1 => ?_)
    · rw [if_pos q1] at h
      refine z_iload_n fx dX3_peak_82 rfl ?_
      cases h
      exact z_iret fx hr dX3_peak_83
    · rw [if_neg q1] at h
      refine z_aload_n fx dX3_peak_52 rfl ?_
      refine z_iload fx dX3_peak_53 rfl ?_
      refine z_iload_n fx dX3_peak_55 rfl ?_
      obtain ⟨x2, ex2, h⟩ := ob h
      refine zVi (k := 22 + 3 * n2) (rest := []) fx hR (c_X2_greatestSize (zl E) D ad g n2 a4 a3 I J b2 ex2) (rcT b2) mvX2_greatestSize wm_X3_237 dX3_peak_56 rfl ⟨rfl, rfl⟩ rfl rfl rfl ?_
      refine z_istore fx dX3_peak_59 (by decide) rfl ?_
      refine z_iload fx dX3_peak_61 rfl ?_
      refine z_iload_n fx dX3_peak_63 rfl ?_
      refine z_icmp_ge (tgt := 76) fx dX3_peak_64 (by decide) (fun q3 => ?_) (fun q3 => ?_)
      · rw [if_pos q3] at h
        refine z_iinc (v := (a4 + 1)) fx dX3_peak_76 rfl rfl (by decide) rfl ?_
        refine z_goto (tgt := 39) fx dX3_peak_79 (by decide) ?_
        exact z_lv2 (ih n2 a3 (a4 + 1) I h b2) rfl
      · rw [if_neg q3] at h
        refine z_iload fx dX3_peak_67 rfl ?_
        refine z_istore_n fx dX3_peak_69 (by decide) rfl ?_
        refine z_aload_n fx dX3_peak_70 rfl ?_
        refine z_iload fx dX3_peak_71 rfl ?_
        refine pS_latestAsked fx wf_X3_51 dX3_peak_73 ?_
        refine z_iinc (v := (a4 + 1)) fx dX3_peak_76 rfl rfl (by decide) rfl ?_
        refine z_goto (tgt := 39) fx dX3_peak_79 (by decide) ?_
        exact z_lv2 (ih n2 x2 (a4 + 1) (wI I (0) 9 a4) h b2) rfl
set_option maxRecDepth 100000 in
set_option maxHeartbeats 4000000 in
theorem c_X3_peak (l : Launch) (D : va_G) (ad : Nat → Nat) (g : Nat → ClassId) (a1 : Int32) (I : zMi) (J : zMl) {r : Int32 × zMi} (h : f_X3_peak a1 I = some r) : zCM (xw D ad g) l yX3_peak cX3_peak 6 (some .int) rmX3_peak [.ref (ad (0)), .int a1] I J (some (.int r.1)) r.2 J := by
  refine zCM.of (by decide) (Nat.le_of_ble_eq_true rfl) (fun E hl hR fx hr => ?_)
  subst hl
  rw [f_X3_peak] at h
  refine z_iload_n fx dX3_peak_0 rfl ?_
  refine zSi (rest := []) fx hR (c_X3_isTableNumber (zl E) D ad g a1 I J rfl) mvX3_isTableNumber wm_X3_104 dX3_peak_1 rfl ⟨rfl, rfl⟩ rfl rfl rfl ?_
  refine z_if_ne (tgt := 9) fx dX3_peak_4 (by decide) (fun q1 => ?_) (fun q1 => ?_)
  · rw [if_neg q1] at h
    refine z_aload_n fx dX3_peak_9 rfl ?_
    refine gS_tables fx wf_X3_17 dX3_peak_10 ?_
    refine z_iload_n fx dX3_peak_13 rfl ?_
    obtain ⟨q2, h⟩ := oi h
    refine x_tld fx q2 dX3_peak_14 ?_
    refine z_astore_n fx dX3_peak_15 (by decide) rfl ?_
    refine z_aload_n fx dX3_peak_16 rfl ?_
    refine zVi (k := 22 + 3 * a1.toNatClampNeg) (rest := []) fx hR (c_X2_isMissing (zl E) D ad g a1.toNatClampNeg I J (ix_12 q2) rfl) (rcT (ix_12 q2)) mvX2_isMissing wm_X3_115 dX3_peak_17 rfl ⟨rfl, rfl⟩ rfl rfl rfl ?_
    refine z_if_eq (tgt := 29) fx dX3_peak_20 (by decide) (fun q3 => ?_) (fun q3 => ?_)
    · rw [if_pos q3] at h
      refine z_aload_n fx dX3_peak_29 rfl ?_
      refine gT_n fx (ix_12 q2) wf_X3_119 dX3_peak_30 ?_
      refine z_iconst (v := 1) fx dX3_peak_33 rfl ?_
      refine z_iadd fx dX3_peak_34 ?_
      refine z_istore_n fx dX3_peak_35 (by decide) rfl ?_
      refine z_iconst (v := 0) fx dX3_peak_36 rfl ?_
      refine z_istore fx dX3_peak_37 (by decide) rfl ?_
      exact z_lv2 (w_X3_peak_39 fx hR hr fu a1.toNatClampNeg ((I (22 + 3 * a1.toNatClampNeg) 2) + 1) 0 I h (ix_12 q2)) rfl
    · rw [if_neg q3] at h
      refine z_aload_n fx dX3_peak_23 rfl ?_
      refine z_iconst (v := 1) fx dX3_peak_24 rfl ?_
      obtain ⟨x4, ex4, h⟩ := ob h
      refine zVi (k := 0) (rest := []) fx hR (c_X3_found (zl E) D ad g 1 I J ex4) rcS mvX3_found wm_X3_69 dX3_peak_25 rfl ⟨rfl, rfl⟩ rfl rfl rfl ?_
      cases h
      exact z_iret fx hr dX3_peak_28
  · rw [if_pos q1] at h
    refine z_iconst (v := (-1)) fx dX3_peak_7 rfl ?_
    cases h
    exact z_iret fx hr dX3_peak_8
set_option maxRecDepth 100000 in
set_option maxHeartbeats 4000000 in
theorem c_X3_block (l : Launch) (D : va_G) (ad : Nat → Nat) (g : Nat → ClassId) (a1 : Int32) (a2 : Int32) (I : zMi) (J : zMl) {r : Int32 × zMi} (h : f_X3_block a1 a2 I = some r) : zCM (xw D ad g) l yX3_block cX3_block 4 (some .int) rmX3_block [.ref (ad (0)), .int a1, .int a2] I J (some (.int r.1)) r.2 J := by
  refine zCM.of (by decide) (Nat.le_of_ble_eq_true rfl) (fun E hl hR fx hr => ?_)
  subst hl
  rw [f_X3_block] at h
  refine z_iload_n fx dX3_block_0 rfl ?_
  refine zSi (rest := []) fx hR (c_X3_isTableNumber (zl E) D ad g a1 I J rfl) mvX3_isTableNumber wm_X3_104 dX3_block_1 rfl ⟨rfl, rfl⟩ rfl rfl rfl ?_
  refine z_if_ne (tgt := 9) fx dX3_block_4 (by decide) (fun q1 => ?_) (fun q1 => ?_)
  · rw [if_neg q1] at h
    refine z_aload_n fx dX3_block_9 rfl ?_
    refine gS_tables fx wf_X3_17 dX3_block_10 ?_
    refine z_iload_n fx dX3_block_13 rfl ?_
    obtain ⟨q2, h⟩ := oi h
    refine x_tld fx q2 dX3_block_14 ?_
    refine z_astore_n fx dX3_block_15 (by decide) rfl ?_
    refine z_aload_n fx dX3_block_16 rfl ?_
    refine zVi (k := 22 + 3 * a1.toNatClampNeg) (rest := []) fx hR (c_X2_isMissing (zl E) D ad g a1.toNatClampNeg I J (ix_12 q2) rfl) (rcT (ix_12 q2)) mvX2_isMissing wm_X3_115 dX3_block_17 rfl ⟨rfl, rfl⟩ rfl rfl rfl ?_
    refine z_if_eq (tgt := 29) fx dX3_block_20 (by decide) (fun q3 => ?_) (fun q3 => ?_)
    · rw [if_pos q3] at h
      refine z_aload_n fx dX3_block_29 rfl ?_
      refine z_iconst (v := 1) fx dX3_block_30 rfl ?_
      refine zVi (k := 22 + 3 * a1.toNatClampNeg) (rest := []) fx hR (c_X2_isOfKind (zl E) D ad g a1.toNatClampNeg 1 I J (ix_12 q2) rfl) (rcT (ix_12 q2)) mvX2_isOfKind wm_X3_150 dX3_block_31 rfl ⟨rfl, rfl⟩ rfl rfl rfl ?_
      refine z_if_ne (tgt := 43) fx dX3_block_34 (by decide) (fun q4 => ?_) (fun q4 => ?_)
      · rw [if_neg q4] at h
        refine z_aload_n fx dX3_block_43 rfl ?_
        refine gT_n fx (ix_12 q2) wf_X3_119 dX3_block_44 ?_
        refine z_iconst (v := 4) fx dX3_block_47 rfl ?_
        refine z_icmp_ge (tgt := 57) fx dX3_block_48 (by decide) (fun q5 => ?_) (fun q5 => ?_)
        · rw [if_pos q5] at h
          refine z_iload_n fx dX3_block_57 rfl ?_
          refine z_if_lt (tgt := 71) fx dX3_block_58 (by decide) (fun q6 => ?_) (fun q6 => ?_)
          · rw [if_pos q6] at h
            refine z_aload_n fx dX3_block_71 rfl ?_
            refine z_iconst (v := 2) fx dX3_block_72 rfl ?_
            obtain ⟨x7, ex7, h⟩ := ob h
            refine zVi (k := 0) (rest := []) fx hR (c_X3_found (zl E) D ad g 2 I J ex7) rcS mvX3_found wm_X3_69 dX3_block_73 rfl ⟨rfl, rfl⟩ rfl rfl rfl ?_
            cases h
            exact z_iret fx hr dX3_block_76
          · rw [if_neg q6] at h
            refine z_iload_n fx dX3_block_61 rfl ?_
            refine z_aload_n fx dX3_block_62 rfl ?_
            refine gT_n fx (ix_12 q2) wf_X3_119 dX3_block_63 ?_
            refine z_iconst (v := 2) fx dX3_block_66 rfl ?_
            refine z_isub fx dX3_block_67 ?_
            refine z_icmp_le (tgt := 77) fx dX3_block_68 (by decide) (fun q8 => ?_) (fun q8 => ?_)
            · rw [if_pos q8] at h
              refine z_aload_n fx dX3_block_77 rfl ?_
              refine z_iload_n fx dX3_block_78 rfl ?_
              refine z_iconst (v := 1) fx dX3_block_79 rfl ?_
              refine z_iadd fx dX3_block_80 ?_
              obtain ⟨x9, ex9, h⟩ := ob h
              refine zVi (k := 22 + 3 * a1.toNatClampNeg) (rest := []) fx hR (c_X2_normalPlus (zl E) D ad g a1.toNatClampNeg (a2 + 1) I J (ix_12 q2) ex9) (rcT (ix_12 q2)) mvX2_normalPlus wm_X3_240 dX3_block_81 rfl ⟨rfl, rfl⟩ rfl rfl rfl ?_
              refine z_iconst (v := 1) fx dX3_block_84 rfl ?_
              refine z_ishr fx dX3_block_85 ?_
              cases h
              exact z_iret fx hr dX3_block_86
            · rw [if_neg q8] at h
              refine z_aload_n fx dX3_block_71 rfl ?_
              refine z_iconst (v := 2) fx dX3_block_72 rfl ?_
              obtain ⟨x10, ex10, h⟩ := ob h
              refine zVi (k := 0) (rest := []) fx hR (c_X3_found (zl E) D ad g 2 I J ex10) rcS mvX3_found wm_X3_69 dX3_block_73 rfl ⟨rfl, rfl⟩ rfl rfl rfl ?_
              cases h
              exact z_iret fx hr dX3_block_76
        · rw [if_neg q5] at h
          refine z_aload_n fx dX3_block_51 rfl ?_
          refine z_iconst (v := 5) fx dX3_block_52 rfl ?_
          obtain ⟨x11, ex11, h⟩ := ob h
          refine zVi (k := 0) (rest := []) fx hR (c_X3_found (zl E) D ad g 5 I J ex11) rcS mvX3_found wm_X3_69 dX3_block_53 rfl ⟨rfl, rfl⟩ rfl rfl rfl ?_
          cases h
          exact z_iret fx hr dX3_block_56
      · rw [if_pos q4] at h
        refine z_aload_n fx dX3_block_37 rfl ?_
        refine z_iconst (v := 3) fx dX3_block_38 rfl ?_
        obtain ⟨x12, ex12, h⟩ := ob h
        refine zVi (k := 0) (rest := []) fx hR (c_X3_found (zl E) D ad g 3 I J ex12) rcS mvX3_found wm_X3_69 dX3_block_39 rfl ⟨rfl, rfl⟩ rfl rfl rfl ?_
        cases h
        exact z_iret fx hr dX3_block_42
    · rw [if_neg q3] at h
      refine z_aload_n fx dX3_block_23 rfl ?_
      refine z_iconst (v := 1) fx dX3_block_24 rfl ?_
      obtain ⟨x13, ex13, h⟩ := ob h
      refine zVi (k := 0) (rest := []) fx hR (c_X3_found (zl E) D ad g 1 I J ex13) rcS mvX3_found wm_X3_69 dX3_block_25 rfl ⟨rfl, rfl⟩ rfl rfl rfl ?_
      cases h
      exact z_iret fx hr dX3_block_28
  · rw [if_pos q1] at h
    refine z_iconst (v := (-1)) fx dX3_block_7 rfl ?_
    cases h
    exact z_iret fx hr dX3_block_8
set_option maxRecDepth 100000 in
set_option maxHeartbeats 4000000 in
theorem c_X3_findingOfSigns (l : Launch) (D : va_G) (ad : Nat → Nat) (g : Nat → ClassId) (n0 : Nat) (I : zMi) (J : zMl) (b0 : n0 < 6) {r : Int32} (h : f_X3_findingOfSigns n0 I = some r) : zCM (xw D ad g) l yX3_findingOfSigns cX3_findingOfSigns 1 (some .int) rmX3_findingOfSigns [.ref (ad (10 + 2 * n0))] I J (some (.int r)) I J := by
  refine zCM.of (by decide) (Nat.le_of_ble_eq_true rfl) (fun E hl hR fx hr => ?_)
  subst hl
  rw [f_X3_findingOfSigns] at h
  refine z_aload_n fx dX3_findingOfSigns_0 rfl ?_
  refine zVi (k := 10 + 2 * n0) (rest := []) fx hR (c_X1_isMissing (zl E) D ad g n0 I J b0 rfl) (rcR b0) mvX1_isMissing wm_X3_77 dX3_findingOfSigns_1 rfl ⟨rfl, rfl⟩ rfl rfl rfl ?_
  refine z_if_eq (tgt := 9) fx dX3_findingOfSigns_4 (by decide) (fun q1 => ?_) (fun q1 => ?_)
  · rw [if_pos q1] at h
    refine z_aload_n fx dX3_findingOfSigns_9 rfl ?_
    refine gR_size fx b0 wf_X3_97 dX3_findingOfSigns_10 ?_
    refine z_if_ne (tgt := 18) fx dX3_findingOfSigns_13 (by decide) (fun q2 => ?_) (fun q2 => ?_)
    · rw [if_neg q2] at h
      refine z_aload_n fx dX3_findingOfSigns_18 rfl ?_
      obtain ⟨x3, ex3, h⟩ := ob h
      refine zVi (k := 10 + 2 * n0) (rest := []) fx hR (c_X1_isSigns (zl E) D ad g n0 I J b0 ex3) (rcR b0) mvX1_isSigns wm_X3_312 dX3_findingOfSigns_19 rfl ⟨rfl, rfl⟩ rfl rfl rfl ?_
      refine z_if_eq (tgt := 29) fx dX3_findingOfSigns_22 (by decide) (fun q4 => ?_) (fun q4 => ?_)
      · rw [if_pos q4] at h
        refine z_iconst (v := 3) fx dX3_findingOfSigns_29 rfl ?_
        cases h
        exact z_iret fx hr dX3_findingOfSigns_30
      · rw [if_neg q4] at h
        refine z_iconst (v := 0) fx dX3_findingOfSigns_25 rfl ?_
        refine z_goto (tgt := 30) fx dX3_findingOfSigns_26 (by decide) ?_
        cases h
        exact z_iret fx hr dX3_findingOfSigns_30
    · rw [if_pos q2] at h
      refine z_iconst (v := 5) fx dX3_findingOfSigns_16 rfl ?_
      cases h
      exact z_iret fx hr dX3_findingOfSigns_17
  · rw [if_neg q1] at h
    refine z_iconst (v := 1) fx dX3_findingOfSigns_7 rfl ?_
    cases h
    exact z_iret fx hr dX3_findingOfSigns_8
