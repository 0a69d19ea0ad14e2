set_option maxHeartbeats 4000000 in
set_option maxRecDepth 100000 in
theorem c_M_lay {l : Launch} {D : va_G} {K : Nat → ClassId} {ad : Nat → Nat} (hj : inj ad)   {x1 : Int32} {x2 : Int32} {x3 : Int32} {σ : GS} {z0 : Int32 × GS} (hf : F_M_lay x1 x2 x3 σ = some z0) : CT l D K ad y_M_lay b_M_lay 5 (some .int) 2 [.ref (ad 63), .int x1, .int x2, .int x3] σ (QI D K ad z0.1 z0.2) := by
  refine CT.intro hj (by decide) (Nat.le_of_ble_eq_true rfl) ?_
  intro p e s m args below meth c ls hC hP hS hl
  obtain ⟨hx, hb, -, hown, hts, -⟩ := id hC
  have hl : lv_has ls 5 [(0, .ref (ad 63)), (1, .int x1), (2, .int x2), (3, .int x3)] := hl
  rw [F_M_lay] at hf
  refine lv_iload_n hx hb d_M_lay_0 rfl (lv_at hl 1 rfl) ?_
  obtain ⟨r2, hk1, hf⟩ := bp_some hf
  refine g_calli hS (g_runS (As := [.int x1]) (rest := []) hC hP (c_M_isRow hj  hk1) (rk (by decide) (by decide)) nm_M_isRow cd_M_isRow it_WideTownModel ml_M_106 sc_M_isRow rfl hl.1 rfl (Nat.le_of_ble_eq_true rfl) d_M_lay_1 zz) (fun H locs hP hS => ?_)
  refine lv_if_ne (tgt := 9) hx hb d_M_lay_4 (by decide) (fun hc21 => ?_) (fun hc21 => ?_)
  · rw [if_neg hc21] at hf
    refine lv_aload_n hx hb d_M_lay_9 rfl (lv_at hl 0 rfl) ?_
    refine g_get (v := .ref (ad 64)) hC hP o_63 co_M 0 (by decide) rfl fl_M_7 rfl d_M_lay_10 ?_
    refine lv_iload_n hx hb d_M_lay_13 rfl (lv_at hl 1 rfl) ?_
    obtain ⟨hg3, hf⟩ := gd_some hf
    refine g_iald2 (j := x1.toNatClampNeg) hC hP a_64 hg3 rfl d_M_lay_14 ?_
    refine lv_if_ge (tgt := 24) hx hb d_M_lay_15 (by decide) (fun hc20 => ?_) (fun hc20 => ?_)
    · rw [if_pos hc20] at hf
      refine lv_iload_n hx hb d_M_lay_24 rfl (lv_at hl 2 rfl) ?_
      refine lv_i2l hx hb d_M_lay_25 rfl ?_
      refine lv_lconst (v := (0 : Int64)) hx hb d_M_lay_26 (by decide) ?_
      refine lv_aload_n hx hb d_M_lay_27 rfl (lv_at hl 0 rfl) ?_
      refine g_get (v := .ref (ad 64)) hC hP o_63 co_M 0 (by decide) rfl fl_M_7 rfl d_M_lay_28 ?_
      refine lv_iload_n hx hb d_M_lay_31 rfl (lv_at hl 1 rfl) ?_
      obtain ⟨hg4, hf⟩ := gd_some hf
      refine g_iald2 (j := x1.toNatClampNeg) hC hP a_64 hg4 rfl d_M_lay_32 ?_
      refine lv_iconst (v := (1 : Int32)) hx hb d_M_lay_33 (by decide) ?_
      refine lv_isub hx hb d_M_lay_34 ?_
      refine lv_i2l hx hb d_M_lay_35 rfl ?_
      obtain ⟨r6, hk5, hf⟩ := bp_some hf
      refine g_calli hS (g_runS (As := [.long x2.toInt64, .long (0 : Int64), .long (((σ.1 64 x1.toNatClampNeg) - (1 : Int32)).toInt64)]) (rest := []) hC hP (c_M_in hj  hk5) (rk (by decide) (by decide)) nm_M_in cd_M_in it_WideTownModel ml_M_100 sc_M_in rfl hl.1 rfl (Nat.le_of_ble_eq_true rfl) d_M_lay_36 zz) (fun H locs hP hS => ?_)
      refine lv_if_ne (tgt := 48) hx hb d_M_lay_39 (by decide) (fun hc16 => ?_) (fun hc16 => ?_)
      · rw [if_neg hc16] at hf
        refine lv_aload_n hx hb d_M_lay_48 rfl (lv_at hl 0 rfl) ?_
        refine g_get (v := .ref (ad 65)) hC hP o_63 co_M 1 (by decide) rfl fl_M_13 rfl d_M_lay_49 ?_
        refine lv_bipush (v := (40 : Int32)) hx hb d_M_lay_52 (by decide) ?_
        refine lv_iload_n hx hb d_M_lay_54 rfl (lv_at hl 1 rfl) ?_
        refine lv_imul hx hb d_M_lay_55 ?_
        refine lv_iload_n hx hb d_M_lay_56 rfl (lv_at hl 2 rfl) ?_
        refine lv_iadd hx hb d_M_lay_57 ?_
        obtain ⟨hg7, hf⟩ := gd_some hf
        refine g_iald2 (j := (((40 : Int32) * x1) + x2).toNatClampNeg) hC hP a_65 hg7 rfl d_M_lay_58 ?_
        refine lv_istore (lv' := [(4, .int (σ.1 65 (((40 : Int32) * x1) + x2).toNatClampNeg)), (0, .ref (ad 63)), (1, .int x1), (2, .int x2), (3, .int x3)]) hx hb d_M_lay_59 hl (by decide) rfl (fun ls hl => ?_)
        refine lv_aload_n hx hb d_M_lay_61 rfl (lv_at hl 1 rfl) ?_
        refine g_get (v := .ref (ad 65)) hC hP o_63 co_M 1 (by decide) rfl fl_M_13 rfl d_M_lay_62 ?_
        refine lv_bipush (v := (40 : Int32)) hx hb d_M_lay_65 (by decide) ?_
        refine lv_iload_n hx hb d_M_lay_67 rfl (lv_at hl 2 rfl) ?_
        refine lv_imul hx hb d_M_lay_68 ?_
        refine lv_iload_n hx hb d_M_lay_69 rfl (lv_at hl 3 rfl) ?_
        refine lv_iadd hx hb d_M_lay_70 ?_
        refine lv_iload_n hx hb d_M_lay_71 rfl (lv_at hl 4 rfl) ?_
        obtain ⟨hg8, hf⟩ := gd_some hf
        obtain ⟨σ9, eσ9, hf⟩ := jn_some hf
        refine g_iast2 (j := (((40 : Int32) * x1) + x2).toNatClampNeg) hC hP hS a_65 hg8 rfl d_M_lay_72 (fun H locs hP hS => ?_)
        rw [← eσ9] at hP
        refine lv_aload_n hx hb d_M_lay_73 rfl (lv_at hl 1 rfl) ?_
        refine lv_iload hx hb d_M_lay_74 (lv_at hl 0 rfl) ?_
        obtain ⟨r11, σ12, hk10, hf⟩ := bc_some hf
        refine g_calli hS (g_runV (As := [.int (σ.1 65 (((40 : Int32) * x1) + x2).toNatClampNeg)]) (rest := []) hC hP (c_M_tell hj  hk10) (rk (by decide) (by decide)) nm_M_tell cd_M_tell it_WideTownModel ml_M_114 im_M_tell sl_M_tell o_63 co_M rfl hl.1 rfl (Nat.le_of_ble_eq_true rfl) d_M_lay_76 zz) (fun H locs hP hS => ?_)
        cases hf
        exact g_iret hC rfl hP hS d_M_lay_79
      · rw [if_pos hc16] at hf
        refine lv_aload_n hx hb d_M_lay_42 rfl (lv_at hl 0 rfl) ?_
        refine lv_iconst (v := (2 : Int32)) hx hb d_M_lay_43 (by decide) ?_
        obtain ⟨r14, σ15, hk13, hf⟩ := bc_some hf
        refine g_calli hS (g_runV (As := [.int (2 : Int32)]) (rest := []) hC hP (c_M_found hj  hk13) (rk (by decide) (by decide)) nm_M_found cd_M_found it_WideTownModel ml_M_110 im_M_found sl_M_found o_63 co_M rfl hl.1 rfl (Nat.le_of_ble_eq_true rfl) d_M_lay_44 zz) (fun H locs hP hS => ?_)
        cases hf
        exact g_iret hC rfl hP hS d_M_lay_47
    · rw [if_neg hc20] at hf
      refine lv_aload_n hx hb d_M_lay_18 rfl (lv_at hl 0 rfl) ?_
      refine lv_iconst (v := (1 : Int32)) hx hb d_M_lay_19 (by decide) ?_
      obtain ⟨r18, σ19, hk17, hf⟩ := bc_some hf
      refine g_calli hS (g_runV (As := [.int (1 : Int32)]) (rest := []) hC hP (c_M_found hj  hk17) (rk (by decide) (by decide)) nm_M_found cd_M_found it_WideTownModel ml_M_110 im_M_found sl_M_found o_63 co_M rfl hl.1 rfl (Nat.le_of_ble_eq_true rfl) d_M_lay_20 zz) (fun H locs hP hS => ?_)
      cases hf
      exact g_iret hC rfl hP hS d_M_lay_23
  · rw [if_pos hc21] at hf
    refine lv_iconst (v := (-1 : Int32)) hx hb d_M_lay_7 (by decide) ?_
    cases hf
    exact g_iret hC rfl hP hS d_M_lay_8
set_option maxHeartbeats 4000000 in
set_option maxRecDepth 100000 in
theorem c_M_at {l : Launch} {D : va_G} {K : Nat → ClassId} {ad : Nat → Nat} (hj : inj ad)   {x1 : Int32} {x2 : Int32} {σ : GS} {z0 : Int32 × GS} (hf : F_M_at x1 x2 σ = some z0) : CT l D K ad y_M_at b_M_at 3 (some .int) 2 [.ref (ad 63), .int x1, .int x2] σ (QI D K ad z0.1 z0.2) := by
  refine CT.intro hj (by decide) (Nat.le_of_ble_eq_true rfl) ?_
  intro p e s m args below meth c ls hC hP hS hl
  obtain ⟨hx, hb, -, hown, hts, -⟩ := id hC
  have hl : lv_has ls 3 [(0, .ref (ad 63)), (1, .int x1), (2, .int x2)] := hl
  rw [F_M_at] at hf
  refine lv_iload_n hx hb d_M_at_0 rfl (lv_at hl 1 rfl) ?_
  obtain ⟨r2, hk1, hf⟩ := bp_some hf
  refine g_calli hS (g_runS (As := [.int x1]) (rest := []) hC hP (c_M_isRow hj  hk1) (rk (by decide) (by decide)) nm_M_isRow cd_M_isRow it_WideTownModel ml_M_106 sc_M_isRow rfl hl.1 rfl (Nat.le_of_ble_eq_true rfl) d_M_at_1 zz) (fun H locs hP hS => ?_)
  refine lv_if_ne (tgt := 9) hx hb d_M_at_4 (by decide) (fun hc19 => ?_) (fun hc19 => ?_)
  · rw [if_neg hc19] at hf
    refine lv_aload_n hx hb d_M_at_9 rfl (lv_at hl 0 rfl) ?_
    refine g_get (v := .ref (ad 64)) hC hP o_63 co_M 0 (by decide) rfl fl_M_7 rfl d_M_at_10 ?_
    refine lv_iload_n hx hb d_M_at_13 rfl (lv_at hl 1 rfl) ?_
    obtain ⟨hg3, hf⟩ := gd_some hf
    refine g_iald2 (j := x1.toNatClampNeg) hC hP a_64 hg3 rfl d_M_at_14 ?_
    refine lv_if_ge (tgt := 24) hx hb d_M_at_15 (by decide) (fun hc18 => ?_) (fun hc18 => ?_)
    · rw [if_pos hc18] at hf
      refine lv_iload_n hx hb d_M_at_24 rfl (lv_at hl 2 rfl) ?_
      refine lv_i2l hx hb d_M_at_25 rfl ?_
      refine lv_lconst (v := (0 : Int64)) hx hb d_M_at_26 (by decide) ?_
      refine lv_aload_n hx hb d_M_at_27 rfl (lv_at hl 0 rfl) ?_
      refine g_get (v := .ref (ad 64)) hC hP o_63 co_M 0 (by decide) rfl fl_M_7 rfl d_M_at_28 ?_
      refine lv_iload_n hx hb d_M_at_31 rfl (lv_at hl 1 rfl) ?_
      obtain ⟨hg4, hf⟩ := gd_some hf
      refine g_iald2 (j := x1.toNatClampNeg) hC hP a_64 hg4 rfl d_M_at_32 ?_
      refine lv_iconst (v := (1 : Int32)) hx hb d_M_at_33 (by decide) ?_
      refine lv_isub hx hb d_M_at_34 ?_
      refine lv_i2l hx hb d_M_at_35 rfl ?_
      obtain ⟨r6, hk5, hf⟩ := bp_some hf
      refine g_calli hS (g_runS (As := [.long x2.toInt64, .long (0 : Int64), .long (((σ.1 64 x1.toNatClampNeg) - (1 : Int32)).toInt64)]) (rest := []) hC hP (c_M_in hj  hk5) (rk (by decide) (by decide)) nm_M_in cd_M_in it_WideTownModel ml_M_100 sc_M_in rfl hl.1 rfl (Nat.le_of_ble_eq_true rfl) d_M_at_36 zz) (fun H locs hP hS => ?_)
      refine lv_if_eq (tgt := 60) hx hb d_M_at_39 (by decide) (fun hc14 => ?_) (fun hc14 => ?_)
      · rw [if_pos hc14] at hf
        refine lv_aload_n hx hb d_M_at_60 rfl (lv_at hl 0 rfl) ?_
        refine lv_iconst (v := (2 : Int32)) hx hb d_M_at_61 (by decide) ?_
        obtain ⟨r8, σ9, hk7, hf⟩ := bc_some hf
        refine g_calli hS (g_runV (As := [.int (2 : Int32)]) (rest := []) hC hP (c_M_found hj  hk7) (rk (by decide) (by decide)) nm_M_found cd_M_found it_WideTownModel ml_M_110 im_M_found sl_M_found o_63 co_M rfl hl.1 rfl (Nat.le_of_ble_eq_true rfl) d_M_at_62 zz) (fun H locs hP hS => ?_)
        cases hf
        exact g_iret hC rfl hP hS d_M_at_65
      · rw [if_neg hc14] at hf
        refine lv_aload_n hx hb d_M_at_42 rfl (lv_at hl 0 rfl) ?_
        refine lv_aload_n hx hb d_M_at_43 rfl (lv_at hl 0 rfl) ?_
        refine g_get (v := .ref (ad 65)) hC hP o_63 co_M 1 (by decide) rfl fl_M_13 rfl d_M_at_44 ?_
        refine lv_bipush (v := (40 : Int32)) hx hb d_M_at_47 (by decide) ?_
        refine lv_iload_n hx hb d_M_at_49 rfl (lv_at hl 1 rfl) ?_
        refine lv_imul hx hb d_M_at_50 ?_
        refine lv_iload_n hx hb d_M_at_51 rfl (lv_at hl 2 rfl) ?_
        refine lv_iadd hx hb d_M_at_52 ?_
        obtain ⟨hg10, hf⟩ := gd_some hf
        refine g_iald2 (j := (((40 : Int32) * x1) + x2).toNatClampNeg) hC hP a_65 hg10 rfl d_M_at_53 ?_
        obtain ⟨r12, σ13, hk11, hf⟩ := bc_some hf
        refine g_calli hS (g_runV (As := [.int (σ.1 65 (((40 : Int32) * x1) + x2).toNatClampNeg)]) (rest := []) hC hP (c_M_tell hj  hk11) (rk (by decide) (by decide)) nm_M_tell cd_M_tell it_WideTownModel ml_M_114 im_M_tell sl_M_tell o_63 co_M rfl hl.1 rfl (Nat.le_of_ble_eq_true rfl) d_M_at_54 zz) (fun H locs hP hS => ?_)
        refine lv_goto (tgt := 65) hx hb d_M_at_57 (by decide) ?_
        cases hf
        exact g_iret hC rfl hP hS d_M_at_65
    · rw [if_neg hc18] at hf
      refine lv_aload_n hx hb d_M_at_18 rfl (lv_at hl 0 rfl) ?_
      refine lv_iconst (v := (1 : Int32)) hx hb d_M_at_19 (by decide) ?_
      obtain ⟨r16, σ17, hk15, hf⟩ := bc_some hf
      refine g_calli hS (g_runV (As := [.int (1 : Int32)]) (rest := []) hC hP (c_M_found hj  hk15) (rk (by decide) (by decide)) nm_M_found cd_M_found it_WideTownModel ml_M_110 im_M_found sl_M_found o_63 co_M rfl hl.1 rfl (Nat.le_of_ble_eq_true rfl) d_M_at_20 zz) (fun H locs hP hS => ?_)
      cases hf
      exact g_iret hC rfl hP hS d_M_at_23
  · rw [if_pos hc19] at hf
    refine lv_iconst (v := (-1 : Int32)) hx hb d_M_at_7 (by decide) ?_
    cases hf
    exact g_iret hC rfl hP hS d_M_at_8
set_option maxHeartbeats 4000000 in
set_option maxRecDepth 100000 in
theorem c_M_tear {l : Launch} {D : va_G} {K : Nat → ClassId} {ad : Nat → Nat} (hj : inj ad)   {x1 : Int32} {σ : GS} {z0 : Int32 × GS} (hf : F_M_tear x1 σ = some z0) : CT l D K ad y_M_tear b_M_tear 2 (some .int) 2 [.ref (ad 63), .int x1] σ (QI D K ad z0.1 z0.2) := by
  refine CT.intro hj (by decide) (Nat.le_of_ble_eq_true rfl) ?_
  intro p e s m args below meth c ls hC hP hS hl
  obtain ⟨hx, hb, -, hown, hts, -⟩ := id hC
  have hl : lv_has ls 2 [(0, .ref (ad 63)), (1, .int x1)] := hl
  rw [F_M_tear] at hf
  refine lv_iload_n hx hb d_M_tear_0 rfl (lv_at hl 1 rfl) ?_
  obtain ⟨r2, hk1, hf⟩ := bp_some hf
  refine g_calli hS (g_runS (As := [.int x1]) (rest := []) hC hP (c_M_isRow hj  hk1) (rk (by decide) (by decide)) nm_M_isRow cd_M_isRow it_WideTownModel ml_M_106 sc_M_isRow rfl hl.1 rfl (Nat.le_of_ble_eq_true rfl) d_M_tear_1 zz) (fun H locs hP hS => ?_)
  refine lv_if_ne (tgt := 9) hx hb d_M_tear_4 (by decide) (fun hc10 => ?_) (fun hc10 => ?_)
  · rw [if_neg hc10] at hf
    refine lv_aload_n hx hb d_M_tear_9 rfl (lv_at hl 0 rfl) ?_
    refine g_get (v := .ref (ad 64)) hC hP o_63 co_M 0 (by decide) rfl fl_M_7 rfl d_M_tear_10 ?_
    refine lv_iload_n hx hb d_M_tear_13 rfl (lv_at hl 1 rfl) ?_
    obtain ⟨hg3, hf⟩ := gd_some hf
    refine g_iald2 (j := x1.toNatClampNeg) hC hP a_64 hg3 rfl d_M_tear_14 ?_
    refine lv_if_ge (tgt := 24) hx hb d_M_tear_15 (by decide) (fun hc9 => ?_) (fun hc9 => ?_)
    · rw [if_pos hc9] at hf
      refine lv_aload_n hx hb d_M_tear_24 rfl (lv_at hl 0 rfl) ?_
      refine g_get (v := .ref (ad 64)) hC hP o_63 co_M 0 (by decide) rfl fl_M_7 rfl d_M_tear_25 ?_
      refine lv_iload_n hx hb d_M_tear_28 rfl (lv_at hl 1 rfl) ?_
      refine lv_iconst (v := (-1 : Int32)) hx hb d_M_tear_29 (by decide) ?_
      obtain ⟨hg4, hf⟩ := gd_some hf
      obtain ⟨σ5, eσ5, hf⟩ := jn_some hf
      refine g_iast2 (j := x1.toNatClampNeg) hC hP hS a_64 hg4 rfl d_M_tear_30 (fun H locs hP hS => ?_)
      rw [← eσ5] at hP
      refine lv_iconst (v := (1 : Int32)) hx hb d_M_tear_31 (by decide) ?_
      cases hf
      exact g_iret hC rfl hP hS d_M_tear_32
    · rw [if_neg hc9] at hf
      refine lv_aload_n hx hb d_M_tear_18 rfl (lv_at hl 0 rfl) ?_
      refine lv_iconst (v := (1 : Int32)) hx hb d_M_tear_19 (by decide) ?_
      obtain ⟨r7, σ8, hk6, hf⟩ := bc_some hf
      refine g_calli hS (g_runV (As := [.int (1 : Int32)]) (rest := []) hC hP (c_M_found hj  hk6) (rk (by decide) (by decide)) nm_M_found cd_M_found it_WideTownModel ml_M_110 im_M_found sl_M_found o_63 co_M rfl hl.1 rfl (Nat.le_of_ble_eq_true rfl) d_M_tear_20 zz) (fun H locs hP hS => ?_)
      cases hf
      exact g_iret hC rfl hP hS d_M_tear_23
  · rw [if_pos hc10] at hf
    refine lv_iconst (v := (-1 : Int32)) hx hb d_M_tear_7 (by decide) ?_
    cases hf
    exact g_iret hC rfl hP hS d_M_tear_8
set_option maxHeartbeats 4000000 in
set_option maxRecDepth 100000 in
theorem c_M_copy {l : Launch} {D : va_G} {K : Nat → ClassId} {ad : Nat → Nat} (hj : inj ad)   {x1 : Int32} {x2 : Int32} {x3 : Int32} {x4 : Int32} {x5 : Int32} {σ : GS} {z0 : Int32 × GS} (hf : F_M_copy x1 x2 x3 x4 x5 σ = some z0) : CT l D K ad y_M_copy b_M_copy 8 (some .int) 2 [.ref (ad 63), .int x1, .int x2, .int x3, .int x4, .int x5] σ (QI D K ad z0.1 z0.2) := by
  refine CT.intro hj (by decide) (Nat.le_of_ble_eq_true rfl) ?_
  intro p e s m args below meth c ls hC hP hS hl
  obtain ⟨hx, hb, -, hown, hts, -⟩ := id hC
  have hl : lv_has ls 8 [(0, .ref (ad 63)), (1, .int x1), (2, .int x2), (3, .int x3), (4, .int x4), (5, .int x5)] := hl
  rw [F_M_copy] at hf
  refine lv_iload_n hx hb d_M_copy_0 rfl (lv_at hl 1 rfl) ?_
  obtain ⟨r2, hk1, hf⟩ := bp_some hf
  refine g_calli hS (g_runS (As := [.int x1]) (rest := []) hC hP (c_M_isRow hj  hk1) (rk (by decide) (by decide)) nm_M_isRow cd_M_isRow it_WideTownModel ml_M_106 sc_M_isRow rfl hl.1 rfl (Nat.le_of_ble_eq_true rfl) d_M_copy_1 zz) (fun H locs hP hS => ?_)
  refine lv_if_eq (tgt := 14) hx hb d_M_copy_4 (by decide) (fun hc45 => ?_) (fun hc45 => ?_)
  · rw [if_pos hc45] at hf
    refine lv_iconst (v := (-1 : Int32)) hx hb d_M_copy_14 (by decide) ?_
    cases hf
    exact g_iret hC rfl hP hS d_M_copy_15
  · rw [if_neg hc45] at hf
    refine lv_iload_n hx hb d_M_copy_7 rfl (lv_at hl 3 rfl) ?_
    obtain ⟨r4, hk3, hf⟩ := bp_some hf
    refine g_calli hS (g_runS (As := [.int x3]) (rest := []) hC hP (c_M_isRow hj  hk3) (rk (by decide) (by decide)) nm_M_isRow cd_M_isRow it_WideTownModel ml_M_106 sc_M_isRow rfl hl.1 rfl (Nat.le_of_ble_eq_true rfl) d_M_copy_8 zz) (fun H locs hP hS => ?_)
    refine lv_if_ne (tgt := 16) hx hb d_M_copy_11 (by decide) (fun hc44 => ?_) (fun hc44 => ?_)
    · rw [if_neg hc44] at hf
      refine lv_iload hx hb d_M_copy_16 (lv_at hl 5 rfl) ?_
      refine lv_if_ge (tgt := 27) hx hb d_M_copy_18 (by decide) (fun hc43 => ?_) (fun hc43 => ?_)
      · rw [if_pos hc43] at hf
        refine lv_aload_n hx hb d_M_copy_27 rfl (lv_at hl 0 rfl) ?_
        refine g_get (v := .ref (ad 64)) hC hP o_63 co_M 0 (by decide) rfl fl_M_7 rfl d_M_copy_28 ?_
        refine lv_iload_n hx hb d_M_copy_31 rfl (lv_at hl 1 rfl) ?_
        obtain ⟨hg5, hf⟩ := gd_some hf
        refine g_iald2 (j := x1.toNatClampNeg) hC hP a_64 hg5 rfl d_M_copy_32 ?_
        refine lv_if_lt (tgt := 45) hx hb d_M_copy_33 (by decide) (fun hc39 => ?_) (fun hc39 => ?_)
        · rw [if_pos hc39] at hf
          refine lv_aload_n hx hb d_M_copy_45 rfl (lv_at hl 0 rfl) ?_
          refine lv_iconst (v := (1 : Int32)) hx hb d_M_copy_46 (by decide) ?_
          obtain ⟨r7, σ8, hk6, hf⟩ := bc_some hf
          refine g_calli hS (g_runV (As := [.int (1 : Int32)]) (rest := []) hC hP (c_M_found hj  hk6) (rk (by decide) (by decide)) nm_M_found cd_M_found it_WideTownModel ml_M_110 im_M_found sl_M_found o_63 co_M rfl hl.1 rfl (Nat.le_of_ble_eq_true rfl) d_M_copy_47 zz) (fun H locs hP hS => ?_)
          cases hf
          exact g_iret hC rfl hP hS d_M_copy_50
        · rw [if_neg hc39] at hf
          refine lv_aload_n hx hb d_M_copy_36 rfl (lv_at hl 0 rfl) ?_
          refine g_get (v := .ref (ad 64)) hC hP o_63 co_M 0 (by decide) rfl fl_M_7 rfl d_M_copy_37 ?_
          refine lv_iload_n hx hb d_M_copy_40 rfl (lv_at hl 3 rfl) ?_
          obtain ⟨hg9, hf⟩ := gd_some hf
          refine g_iald2 (j := x3.toNatClampNeg) hC hP a_64 hg9 rfl d_M_copy_41 ?_
          refine lv_if_ge (tgt := 51) hx hb d_M_copy_42 (by decide) (fun hc38 => ?_) (fun hc38 => ?_)
          · rw [if_pos hc38] at hf
            refine lv_iload_n hx hb d_M_copy_51 rfl (lv_at hl 2 rfl) ?_
            refine lv_if_lt (tgt := 95) hx hb d_M_copy_52 (by decide) (fun hc34 => ?_) (fun hc34 => ?_)
            · rw [if_pos hc34] at hf
              refine lv_aload_n hx hb d_M_copy_95 rfl (lv_at hl 0 rfl) ?_
              refine lv_iconst (v := (2 : Int32)) hx hb d_M_copy_96 (by decide) ?_
              obtain ⟨r11, σ12, hk10, hf⟩ := bc_some hf
              refine g_calli hS (g_runV (As := [.int (2 : Int32)]) (rest := []) hC hP (c_M_found hj  hk10) (rk (by decide) (by decide)) nm_M_found cd_M_found it_WideTownModel ml_M_110 im_M_found sl_M_found o_63 co_M rfl hl.1 rfl (Nat.le_of_ble_eq_true rfl) d_M_copy_97 zz) (fun H locs hP hS => ?_)
              cases hf
              exact g_iret hC rfl hP hS d_M_copy_100
            · rw [if_neg hc34] at hf
              refine lv_iload hx hb d_M_copy_55 (lv_at hl 4 rfl) ?_
              refine lv_if_lt (tgt := 95) hx hb d_M_copy_57 (by decide) (fun hc33 => ?_) (fun hc33 => ?_)
              · rw [if_pos hc33] at hf
                refine lv_aload_n hx hb d_M_copy_95 rfl (lv_at hl 0 rfl) ?_
                refine lv_iconst (v := (2 : Int32)) hx hb d_M_copy_96 (by decide) ?_
                obtain ⟨r14, σ15, hk13, hf⟩ := bc_some hf
                refine g_calli hS (g_runV (As := [.int (2 : Int32)]) (rest := []) hC hP (c_M_found hj  hk13) (rk (by decide) (by decide)) nm_M_found cd_M_found it_WideTownModel ml_M_110 im_M_found sl_M_found o_63 co_M rfl hl.1 rfl (Nat.le_of_ble_eq_true rfl) d_M_copy_97 zz) (fun H locs hP hS => ?_)
                cases hf
                exact g_iret hC rfl hP hS d_M_copy_100
              · rw [if_neg hc33] at hf
                refine lv_iload_n hx hb d_M_copy_60 rfl (lv_at hl 2 rfl) ?_
                refine lv_i2l hx hb d_M_copy_61 rfl ?_
                refine lv_iload hx hb d_M_copy_62 (lv_at hl 5 rfl) ?_
                refine lv_i2l hx hb d_M_copy_64 rfl ?_
                refine lv_ladd hx hb d_M_copy_65 ?_
                refine lv_aload_n hx hb d_M_copy_66 rfl (lv_at hl 0 rfl) ?_
                refine g_get (v := .ref (ad 64)) hC hP o_63 co_M 0 (by decide) rfl fl_M_7 rfl d_M_copy_67 ?_
                refine lv_iload_n hx hb d_M_copy_70 rfl (lv_at hl 1 rfl) ?_
                obtain ⟨hg16, hf⟩ := gd_some hf
                refine g_iald2 (j := x1.toNatClampNeg) hC hP a_64 hg16 rfl d_M_copy_71 ?_
                refine lv_i2l hx hb d_M_copy_72 rfl ?_
                refine W.lcmp hx hb d_M_copy_73 ?_
                refine lv_if_gt (tgt := 95) hx hb d_M_copy_74 (by decide) (fun hc32 => ?_) (fun hc32 => ?_)
                · rw [if_pos hc32] at hf
                  refine lv_aload_n hx hb d_M_copy_95 rfl (lv_at hl 0 rfl) ?_
                  refine lv_iconst (v := (2 : Int32)) hx hb d_M_copy_96 (by decide) ?_
                  obtain ⟨r18, σ19, hk17, hf⟩ := bc_some hf
                  refine g_calli hS (g_runV (As := [.int (2 : Int32)]) (rest := []) hC hP (c_M_found hj  hk17) (rk (by decide) (by decide)) nm_M_found cd_M_found it_WideTownModel ml_M_110 im_M_found sl_M_found o_63 co_M rfl hl.1 rfl (Nat.le_of_ble_eq_true rfl) d_M_copy_97 zz) (fun H locs hP hS => ?_)
                  cases hf
                  exact g_iret hC rfl hP hS d_M_copy_100
                · rw [if_neg hc32] at hf
                  refine lv_iload hx hb d_M_copy_77 (lv_at hl 4 rfl) ?_
                  refine lv_i2l hx hb d_M_copy_79 rfl ?_
                  refine lv_iload hx hb d_M_copy_80 (lv_at hl 5 rfl) ?_
                  refine lv_i2l hx hb d_M_copy_82 rfl ?_
                  refine lv_ladd hx hb d_M_copy_83 ?_
                  refine lv_aload_n hx hb d_M_copy_84 rfl (lv_at hl 0 rfl) ?_
                  refine g_get (v := .ref (ad 64)) hC hP o_63 co_M 0 (by decide) rfl fl_M_7 rfl d_M_copy_85 ?_
                  refine lv_iload_n hx hb d_M_copy_88 rfl (lv_at hl 3 rfl) ?_
                  obtain ⟨hg20, hf⟩ := gd_some hf
                  refine g_iald2 (j := x3.toNatClampNeg) hC hP a_64 hg20 rfl d_M_copy_89 ?_
                  refine lv_i2l hx hb d_M_copy_90 rfl ?_
                  refine W.lcmp hx hb d_M_copy_91 ?_
                  refine lv_if_le (tgt := 101) hx hb d_M_copy_92 (by decide) (fun hc31 => ?_) (fun hc31 => ?_)
                  · rw [if_pos hc31] at hf
                    refine lv_iconst (v := (0 : Int32)) hx hb d_M_copy_101 (by decide) ?_
                    refine lv_istore (lv' := [(6, .int (0 : Int32)), (0, .ref (ad 63)), (1, .int x1), (2, .int x2), (3, .int x3), (4, .int x4), (5, .int x5)]) hx hb d_M_copy_102 hl (by decide) rfl (fun ls hl => ?_)
                    obtain ⟨KL21_166, eKL21_166, hf⟩ := jn_some hf
                    have hKL21_166 : ∀ (v6_21 : Int32) (σL21 : GS) (H : Heap) (locs : List Loc) (ls : Array Slot), va_P D vwCl (wG K ad σL21) H → va_S (GA ad) s.heap H locs → lv_has ls 8 [] → KL21_166 v6_21 σL21 = some z0 → W p l e (rmd 2) s m args below meth c H locs 0 0 (MQ below (QI D K ad z0.1 z0.2) args s 0 0 (GA ad)) (F0 m 166 ls []) := by
                      clear hf
                      intro v6_21 σL21 H locs ls hP hS hl hf
                      rw [eKL21_166] at hf
                      try dsimp only at hf
                      refine lv_iconst (v := (1 : Int32)) hx hb d_M_copy_166 (by decide) ?_
                      cases hf
                      exact g_iret hC rfl hP hS d_M_copy_167
                    clear eKL21_166
                    have hL21 : ∀ (n : Nat) (v6_21 : Int32) (σL21 : GS) (H : Heap) (locs : List Loc) (ls : Array Slot), va_P D vwCl (wG K ad σL21) H → va_S (GA ad) s.heap H locs → lv_has ls 8 [(0, .ref (ad 63)), (1, .int x1), (2, .int x2), (3, .int x3), (4, .int x4), (5, .int x5), (6, .int v6_21)] → F_M_copy_104 x1 x2 x3 x4 x5 KL21_166 n v6_21 σL21 = some z0 → W p l e (rmd 2) s m args below meth c H locs 0 0 (MQ below (QI D K ad z0.1 z0.2) args s 0 0 (GA ad)) (F0 m 104 ls []) := by
                      clear hf
                      intro n
                      induction n with
                      | zero =>
                        intro v6_21 σL21 H locs ls hP hS hl hf
                        rw [F_M_copy_104.eq_1] at hf
                        cases hf
                      | succ n ih =>
                        intro v6_21 σL21 H locs ls hP hS hl hf
                        rw [F_M_copy_104.eq_2] at hf
                        refine lv_iload hx hb d_M_copy_104 (lv_at hl 6 rfl) ?_
                        refine lv_iload hx hb d_M_copy_106 (lv_at hl 5 rfl) ?_
                        refine lv_icmp_ge (tgt := 166) hx hb d_M_copy_108 (by decide) (fun hc27 => ?_) (fun hc27 => ?_)
                        · rw [if_pos hc27] at hf
                          exact hKL21_166 _ _ _ _ _ hP hS (lv_sub hl [] rfl) hf
                        · rw [if_neg hc27] at hf
                          refine lv_iload hx hb d_M_copy_111 (lv_at hl 4 rfl) ?_
                          refine lv_iload_n hx hb d_M_copy_113 rfl (lv_at hl 2 rfl) ?_
                          obtain ⟨J22, eJ22, hf⟩ := jn_some hf
                          have hJ22 : ∀ (tJ22 : Int32) (H : Heap) (locs : List Loc) (ls : Array Slot), va_P D vwCl (wG K ad σL21) H → va_S (GA ad) s.heap H locs → lv_has ls 8 [(0, .ref (ad 63)), (1, .int x1), (2, .int x2), (3, .int x3), (4, .int x4), (5, .int x5), (6, .int v6_21)] → J22 tJ22 = some z0 → W p l e (rmd 2) s m args below meth c H locs 0 0 (MQ below (QI D K ad z0.1 z0.2) args s 0 0 (GA ad)) (F0 m 129 ls [.int tJ22]) := by
                            clear hf
                            intro tJ22 H locs ls hP hS hl hf
                            rw [eJ22] at hf
                            try dsimp only at hf
                            refine lv_istore (lv' := [(7, .int tJ22), (0, .ref (ad 63)), (1, .int x1), (2, .int x2), (3, .int x3), (4, .int x4), (5, .int x5), (6, .int v6_21)]) hx hb d_M_copy_129 hl (by decide) rfl (fun ls hl => ?_)
                            refine lv_aload_n hx hb d_M_copy_131 rfl (lv_at hl 1 rfl) ?_
                            refine g_get (v := .ref (ad 65)) hC hP o_63 co_M 1 (by decide) rfl fl_M_13 rfl d_M_copy_132 ?_
                            refine lv_bipush (v := (40 : Int32)) hx hb d_M_copy_135 (by decide) ?_
                            refine lv_iload_n hx hb d_M_copy_137 rfl (lv_at hl 4 rfl) ?_
                            refine lv_imul hx hb d_M_copy_138 ?_
                            refine lv_iload hx hb d_M_copy_139 (lv_at hl 5 rfl) ?_
                            refine lv_iadd hx hb d_M_copy_141 ?_
                            refine lv_iload hx hb d_M_copy_142 (lv_at hl 0 rfl) ?_
                            refine lv_iadd hx hb d_M_copy_144 ?_
                            refine lv_aload_n hx hb d_M_copy_145 rfl (lv_at hl 1 rfl) ?_
                            refine g_get (v := .ref (ad 65)) hC hP o_63 co_M 1 (by decide) rfl fl_M_13 rfl d_M_copy_146 ?_
                            refine lv_bipush (v := (40 : Int32)) hx hb d_M_copy_149 (by decide) ?_
                            refine lv_iload_n hx hb d_M_copy_151 rfl (lv_at hl 2 rfl) ?_
                            refine lv_imul hx hb d_M_copy_152 ?_
                            refine lv_iload_n hx hb d_M_copy_153 rfl (lv_at hl 3 rfl) ?_
                            refine lv_iadd hx hb d_M_copy_154 ?_
                            refine lv_iload hx hb d_M_copy_155 (lv_at hl 0 rfl) ?_
                            refine lv_iadd hx hb d_M_copy_157 ?_
                            obtain ⟨hg23, hf⟩ := gd_some hf
                            refine g_iald2 (j := ((((40 : Int32) * x1) + x2) + tJ22).toNatClampNeg) hC hP a_65 hg23 rfl d_M_copy_158 ?_
                            obtain ⟨hg24, hf⟩ := gd_some hf
                            obtain ⟨σ25, eσ25, hf⟩ := jn_some hf
                            refine g_iast2 (j := ((((40 : Int32) * x3) + x4) + tJ22).toNatClampNeg) hC hP hS a_65 hg24 rfl d_M_copy_159 (fun H locs hP hS => ?_)
                            rw [← eσ25] at hP
                            refine lv_iinc (v := v6_21 + 1) (lv' := [(6, .int (v6_21 + 1)), (7, .int tJ22), (0, .ref (ad 63)), (1, .int x1), (2, .int x2), (3, .int x3), (4, .int x4), (5, .int x5)]) hx hb d_M_copy_160 hl (k := 7) rfl rfl (by decide) rfl (fun ls hl => ?_)
                            refine lv_goto (tgt := 104) hx hb d_M_copy_163 (by decide) ?_
                            exact ih _ _ _ _ _ hP hS (lv_sub hl [2, 3, 4, 5, 6, 7, 0] rfl) hf
                          clear eJ22
                          refine lv_icmp_le (tgt := 127) hx hb d_M_copy_114 (by decide) (fun hc26 => ?_) (fun hc26 => ?_)
                          · rw [if_pos hc26] at hf
                            refine lv_iload hx hb d_M_copy_127 (lv_at hl 6 rfl) ?_
                            exact hJ22 _ _ _ _ hP hS (lv_sub hl [0, 1, 2, 3, 4, 5, 6] rfl) hf
                          · rw [if_neg hc26] at hf
                            refine lv_iload hx hb d_M_copy_117 (lv_at hl 5 rfl) ?_
                            refine lv_iconst (v := (1 : Int32)) hx hb d_M_copy_119 (by decide) ?_
                            refine lv_isub hx hb d_M_copy_120 ?_
                            refine lv_iload hx hb d_M_copy_121 (lv_at hl 6 rfl) ?_
                            refine lv_isub hx hb d_M_copy_123 ?_
                            refine lv_goto (tgt := 129) hx hb d_M_copy_124 (by decide) ?_
                            exact hJ22 _ _ _ _ hP hS (lv_sub hl [0, 1, 2, 3, 4, 5, 6] rfl) hf
                    exact hL21 _ _ _ _ _ _ hP hS (lv_sub hl [1, 2, 3, 4, 5, 6, 0] rfl) hf
                  · rw [if_neg hc31] at hf
                    refine lv_aload_n hx hb d_M_copy_95 rfl (lv_at hl 0 rfl) ?_
                    refine lv_iconst (v := (2 : Int32)) hx hb d_M_copy_96 (by decide) ?_
                    obtain ⟨r29, σ30, hk28, hf⟩ := bc_some hf
                    refine g_calli hS (g_runV (As := [.int (2 : Int32)]) (rest := []) hC hP (c_M_found hj  hk28) (rk (by decide) (by decide)) nm_M_found cd_M_found it_WideTownModel ml_M_110 im_M_found sl_M_found o_63 co_M rfl hl.1 rfl (Nat.le_of_ble_eq_true rfl) d_M_copy_97 zz) (fun H locs hP hS => ?_)
                    cases hf
                    exact g_iret hC rfl hP hS d_M_copy_100
          · rw [if_neg hc38] at hf
            refine lv_aload_n hx hb d_M_copy_45 rfl (lv_at hl 0 rfl) ?_
            refine lv_iconst (v := (1 : Int32)) hx hb d_M_copy_46 (by decide) ?_
            obtain ⟨r36, σ37, hk35, hf⟩ := bc_some hf
            refine g_calli hS (g_runV (As := [.int (1 : Int32)]) (rest := []) hC hP (c_M_found hj  hk35) (rk (by decide) (by decide)) nm_M_found cd_M_found it_WideTownModel ml_M_110 im_M_found sl_M_found o_63 co_M rfl hl.1 rfl (Nat.le_of_ble_eq_true rfl) d_M_copy_47 zz) (fun H locs hP hS => ?_)
            cases hf
            exact g_iret hC rfl hP hS d_M_copy_50
      · rw [if_neg hc43] at hf
        refine lv_aload_n hx hb d_M_copy_21 rfl (lv_at hl 0 rfl) ?_
        refine lv_iconst (v := (5 : Int32)) hx hb d_M_copy_22 (by decide) ?_
        obtain ⟨r41, σ42, hk40, hf⟩ := bc_some hf
        refine g_calli hS (g_runV (As := [.int (5 : Int32)]) (rest := []) hC hP (c_M_found hj  hk40) (rk (by decide) (by decide)) nm_M_found cd_M_found it_WideTownModel ml_M_110 im_M_found sl_M_found o_63 co_M rfl hl.1 rfl (Nat.le_of_ble_eq_true rfl) d_M_copy_23 zz) (fun H locs hP hS => ?_)
        cases hf
        exact g_iret hC rfl hP hS d_M_copy_26
    · rw [if_pos hc44] at hf
      refine lv_iconst (v := (-1 : Int32)) hx hb d_M_copy_14 (by decide) ?_
      cases hf
      exact g_iret hC rfl hP hS d_M_copy_15
set_option maxHeartbeats 4000000 in
set_option maxRecDepth 100000 in
theorem c_M_mean {l : Launch} {D : va_G} {K : Nat → ClassId} {ad : Nat → Nat} (hj : inj ad)   {x1 : Int32} {σ : GS} {z0 : Int32 × GS} (hf : F_M_mean x1 σ = some z0) : CT l D K ad y_M_mean b_M_mean 5 (some .int) 2 [.ref (ad 63), .int x1] σ (QI D K ad z0.1 z0.2) := by
  refine CT.intro hj (by decide) (Nat.le_of_ble_eq_true rfl) ?_
  intro p e s m args below meth c ls hC hP hS hl
  obtain ⟨hx, hb, -, hown, hts, -⟩ := id hC
  have hl : lv_has ls 5 [(0, .ref (ad 63)), (1, .int x1)] := hl
  rw [F_M_mean] at hf
  refine lv_iload_n hx hb d_M_mean_0 rfl (lv_at hl 1 rfl) ?_
  obtain ⟨r2, hk1, hf⟩ := bp_some hf
  refine g_calli hS (g_runS (As := [.int x1]) (rest := []) hC hP (c_M_isRow hj  hk1) (rk (by decide) (by decide)) nm_M_isRow cd_M_isRow it_WideTownModel ml_M_106 sc_M_isRow rfl hl.1 rfl (Nat.le_of_ble_eq_true rfl) d_M_mean_1 zz) (fun H locs hP hS => ?_)
  refine lv_if_ne (tgt := 9) hx hb d_M_mean_4 (by decide) (fun hc21 => ?_) (fun hc21 => ?_)
  · rw [if_neg hc21] at hf
    refine lv_aload_n hx hb d_M_mean_9 rfl (lv_at hl 0 rfl) ?_
    refine g_get (v := .ref (ad 64)) hC hP o_63 co_M 0 (by decide) rfl fl_M_7 rfl d_M_mean_10 ?_
    refine lv_iload_n hx hb d_M_mean_13 rfl (lv_at hl 1 rfl) ?_
    obtain ⟨hg3, hf⟩ := gd_some hf
    refine g_iald2 (j := x1.toNatClampNeg) hC hP a_64 hg3 rfl d_M_mean_14 ?_
    refine lv_if_ge (tgt := 24) hx hb d_M_mean_15 (by decide) (fun hc20 => ?_) (fun hc20 => ?_)
    · rw [if_pos hc20] at hf
      refine lv_aload_n hx hb d_M_mean_24 rfl (lv_at hl 0 rfl) ?_
      refine g_get (v := .ref (ad 64)) hC hP o_63 co_M 0 (by decide) rfl fl_M_7 rfl d_M_mean_25 ?_
      refine lv_iload_n hx hb d_M_mean_28 rfl (lv_at hl 1 rfl) ?_
      obtain ⟨hg4, hf⟩ := gd_some hf
      refine g_iald2 (j := x1.toNatClampNeg) hC hP a_64 hg4 rfl d_M_mean_29 ?_
      refine lv_if_ne (tgt := 39) hx hb d_M_mean_30 (by decide) (fun hc16 => ?_) (fun hc16 => ?_)
      · rw [if_neg hc16] at hf
        refine lv_lconst (v := (0 : Int64)) hx hb d_M_mean_39 (by decide) ?_
        refine lv_lstore_n (lv' := [(2, .long (0 : Int64)), (0, .ref (ad 63)), (1, .int x1)]) hx hb d_M_mean_40 rfl hl (by decide) rfl (fun ls hl => ?_)
        refine lv_iconst (v := (0 : Int32)) hx hb d_M_mean_41 (by decide) ?_
        refine lv_istore (lv' := [(4, .int (0 : Int32)), (2, .long (0 : Int64)), (0, .ref (ad 63)), (1, .int x1)]) hx hb d_M_mean_42 hl (by decide) rfl (fun ls hl => ?_)
        obtain ⟨KL5_77, eKL5_77, hf⟩ := jn_some hf
        have hKL5_77 : ∀ (v2_5 : Int64) (v4_5 : Int32) (H : Heap) (locs : List Loc) (ls : Array Slot), va_P D vwCl (wG K ad σ) H → va_S (GA ad) s.heap H locs → lv_has ls 5 [(0, .ref (ad 63)), (1, .int x1), (2, .long v2_5)] → KL5_77 v2_5 v4_5 = some z0 → W p l e (rmd 2) s m args below meth c H locs 0 0 (MQ below (QI D K ad z0.1 z0.2) args s 0 0 (GA ad)) (F0 m 77 ls []) := by
          clear hf
          intro v2_5 v4_5 H locs ls hP hS hl hf
          rw [eKL5_77] at hf
          try dsimp only at hf
          refine lv_aload_n hx hb d_M_mean_77 rfl (lv_at hl 0 rfl) ?_
          refine lv_lload_n hx hb d_M_mean_78 rfl (lv_at hl 2 rfl) ?_
          refine lv_aload_n hx hb d_M_mean_79 rfl (lv_at hl 0 rfl) ?_
          refine g_get (v := .ref (ad 64)) hC hP o_63 co_M 0 (by decide) rfl fl_M_7 rfl d_M_mean_80 ?_
          refine lv_iload_n hx hb d_M_mean_83 rfl (lv_at hl 1 rfl) ?_
          obtain ⟨hg6, hf⟩ := gd_some hf
          refine g_iald2 (j := x1.toNatClampNeg) hC hP a_64 hg6 rfl d_M_mean_84 ?_
          refine lv_i2l hx hb d_M_mean_85 rfl ?_
          obtain ⟨hg, hf⟩ := gd_some hf
          refine lv_ldiv hx hb d_M_mean_86 (zL_in hg) ?_
          refine lv_l2i hx hb d_M_mean_87 rfl ?_
          obtain ⟨r8, σ9, hk7, hf⟩ := bc_some hf
          refine g_calli hS (g_runV (As := [.int ((v2_5 / ((σ.1 64 x1.toNatClampNeg).toInt64)).toInt32)]) (rest := []) hC hP (c_M_tell hj  hk7) (rk (by decide) (by decide)) nm_M_tell cd_M_tell it_WideTownModel ml_M_114 im_M_tell sl_M_tell o_63 co_M rfl hl.1 rfl (Nat.le_of_ble_eq_true rfl) d_M_mean_88 zz) (fun H locs hP hS => ?_)
          cases hf
          exact g_iret hC rfl hP hS d_M_mean_91
        clear eKL5_77
        have hL5 : ∀ (n : Nat) (v2_5 : Int64) (v4_5 : Int32) (H : Heap) (locs : List Loc) (ls : Array Slot), va_P D vwCl (wG K ad σ) H → va_S (GA ad) s.heap H locs → lv_has ls 5 [(0, .ref (ad 63)), (1, .int x1), (2, .long v2_5), (4, .int v4_5)] → F_M_mean_44 x1 σ KL5_77 n v2_5 v4_5 = some z0 → W p l e (rmd 2) s m args below meth c H locs 0 0 (MQ below (QI D K ad z0.1 z0.2) args s 0 0 (GA ad)) (F0 m 44 ls []) := by
          clear hf
          intro n
          induction n with
          | zero =>
            intro v2_5 v4_5 H locs ls hP hS hl hf
            rw [F_M_mean_44.eq_1] at hf
            cases hf
          | succ n ih =>
            intro v2_5 v4_5 H locs ls hP hS hl hf
            rw [F_M_mean_44.eq_2] at hf
            refine lv_iload hx hb d_M_mean_44 (lv_at hl 3 rfl) ?_
            refine lv_aload_n hx hb d_M_mean_46 rfl (lv_at hl 0 rfl) ?_
            refine g_get (v := .ref (ad 64)) hC hP o_63 co_M 0 (by decide) rfl fl_M_7 rfl d_M_mean_47 ?_
            refine lv_iload_n hx hb d_M_mean_50 rfl (lv_at hl 1 rfl) ?_
            obtain ⟨hg10, hf⟩ := gd_some hf
            refine g_iald2 (j := x1.toNatClampNeg) hC hP a_64 hg10 rfl d_M_mean_51 ?_
            refine lv_icmp_ge (tgt := 77) hx hb d_M_mean_52 (by decide) (fun hc12 => ?_) (fun hc12 => ?_)
            · rw [if_pos hc12] at hf
              exact hKL5_77 _ _ _ _ _ hP hS (lv_sub hl [0, 1, 2] rfl) hf
            · rw [if_neg hc12] at hf
              refine lv_lload_n hx hb d_M_mean_55 rfl (lv_at hl 2 rfl) ?_
              refine lv_aload_n hx hb d_M_mean_56 rfl (lv_at hl 0 rfl) ?_
              refine g_get (v := .ref (ad 65)) hC hP o_63 co_M 1 (by decide) rfl fl_M_13 rfl d_M_mean_57 ?_
              refine lv_bipush (v := (40 : Int32)) hx hb d_M_mean_60 (by decide) ?_
              refine lv_iload_n hx hb d_M_mean_62 rfl (lv_at hl 1 rfl) ?_
              refine lv_imul hx hb d_M_mean_63 ?_
              refine lv_iload hx hb d_M_mean_64 (lv_at hl 3 rfl) ?_
              refine lv_iadd hx hb d_M_mean_66 ?_
              obtain ⟨hg11, hf⟩ := gd_some hf
              refine g_iald2 (j := (((40 : Int32) * x1) + v4_5).toNatClampNeg) hC hP a_65 hg11 rfl d_M_mean_67 ?_
              refine lv_i2l hx hb d_M_mean_68 rfl ?_
              refine lv_ladd hx hb d_M_mean_69 ?_
              refine lv_lstore_n (lv' := [(2, .long (v2_5 + ((σ.1 65 (((40 : Int32) * x1) + v4_5).toNatClampNeg).toInt64))), (0, .ref (ad 63)), (1, .int x1), (4, .int v4_5)]) hx hb d_M_mean_70 rfl hl (by decide) rfl (fun ls hl => ?_)
              refine lv_iinc (v := v4_5 + 1) (lv' := [(4, .int (v4_5 + 1)), (2, .long (v2_5 + ((σ.1 65 (((40 : Int32) * x1) + v4_5).toNatClampNeg).toInt64))), (0, .ref (ad 63)), (1, .int x1)]) hx hb d_M_mean_71 hl (k := 3) rfl rfl (by decide) rfl (fun ls hl => ?_)
              refine lv_goto (tgt := 44) hx hb d_M_mean_74 (by decide) ?_
              exact ih _ _ _ _ _ hP hS (lv_sub hl [2, 3, 1, 0] rfl) hf
        exact hL5 _ _ _ _ _ _ hP hS (lv_sub hl [2, 3, 1, 0] rfl) hf
      · rw [if_pos hc16] at hf
        refine lv_aload_n hx hb d_M_mean_33 rfl (lv_at hl 0 rfl) ?_
        refine lv_iconst (v := (4 : Int32)) hx hb d_M_mean_34 (by decide) ?_
        obtain ⟨r14, σ15, hk13, hf⟩ := bc_some hf
        refine g_calli hS (g_runV (As := [.int (4 : Int32)]) (rest := []) hC hP (c_M_found hj  hk13) (rk (by decide) (by decide)) nm_M_found cd_M_found it_WideTownModel ml_M_110 im_M_found sl_M_found o_63 co_M rfl hl.1 rfl (Nat.le_of_ble_eq_true rfl) d_M_mean_35 zz) (fun H locs hP hS => ?_)
        cases hf
        exact g_iret hC rfl hP hS d_M_mean_38
    · rw [if_neg hc20] at hf
      refine lv_aload_n hx hb d_M_mean_18 rfl (lv_at hl 0 rfl) ?_
      refine lv_iconst (v := (1 : Int32)) hx hb d_M_mean_19 (by decide) ?_
      obtain ⟨r18, σ19, hk17, hf⟩ := bc_some hf
      refine g_calli hS (g_runV (As := [.int (1 : Int32)]) (rest := []) hC hP (c_M_found hj  hk17) (rk (by decide) (by decide)) nm_M_found cd_M_found it_WideTownModel ml_M_110 im_M_found sl_M_found o_63 co_M rfl hl.1 rfl (Nat.le_of_ble_eq_true rfl) d_M_mean_20 zz) (fun H locs hP hS => ?_)
      cases hf
      exact g_iret hC rfl hP hS d_M_mean_23
  · rw [if_pos hc21] at hf
    refine lv_iconst (v := (-1 : Int32)) hx hb d_M_mean_7 (by decide) ?_
    cases hf
    exact g_iret hC rfl hP hS d_M_mean_8
set_option maxHeartbeats 4000000 in
set_option maxRecDepth 100000 in
theorem c_M_text {l : Launch} {D : va_G} {K : Nat → ClassId} {ad : Nat → Nat} (hj : inj ad)   {x1 : Int32} {x2 : Int32} {σ : GS} {z0 : Int32 × GS} (hf : F_M_text x1 x2 σ = some z0) : CT l D K ad y_M_text b_M_text 4 (some .int) 2 [.ref (ad 63), .int x1, .int x2] σ (QI D K ad z0.1 z0.2) := by
  refine CT.intro hj (by decide) (Nat.le_of_ble_eq_true rfl) ?_
  intro p e s m args below meth c ls hC hP hS hl
  obtain ⟨hx, hb, -, hown, hts, -⟩ := id hC
  have hl : lv_has ls 4 [(0, .ref (ad 63)), (1, .int x1), (2, .int x2)] := hl
  rw [F_M_text] at hf
  refine lv_iload_n hx hb d_M_text_0 rfl (lv_at hl 1 rfl) ?_
  obtain ⟨r2, hk1, hf⟩ := bp_some hf
  refine g_calli hS (g_runS (As := [.int x1]) (rest := []) hC hP (c_M_isText hj  hk1) (rk (by decide) (by decide)) nm_M_isText cd_M_isText it_WideTownModel ml_M_117 sc_M_isText rfl hl.1 rfl (Nat.le_of_ble_eq_true rfl) d_M_text_1 zz) (fun H locs hP hS => ?_)
  refine lv_if_eq (tgt := 13) hx hb d_M_text_4 (by decide) (fun hc14 => ?_) (fun hc14 => ?_)
  · rw [if_pos hc14] at hf
    refine lv_iconst (v := (-1 : Int32)) hx hb d_M_text_13 (by decide) ?_
    cases hf
    exact g_iret hC rfl hP hS d_M_text_14
  · rw [if_neg hc14] at hf
    refine lv_iload_n hx hb d_M_text_7 rfl (lv_at hl 2 rfl) ?_
    refine lv_bipush (v := (80 : Int32)) hx hb d_M_text_8 (by decide) ?_
    refine lv_icmp_le (tgt := 15) hx hb d_M_text_10 (by decide) (fun hc13 => ?_) (fun hc13 => ?_)
    · rw [if_pos hc13] at hf
      refine lv_iload_n hx hb d_M_text_15 rfl (lv_at hl 2 rfl) ?_
      refine lv_if_ge (tgt := 25) hx hb d_M_text_16 (by decide) (fun hc12 => ?_) (fun hc12 => ?_)
      · rw [if_pos hc12] at hf
        refine lv_aload_n hx hb d_M_text_25 rfl (lv_at hl 0 rfl) ?_
        refine g_get (v := .ref (ad 66)) hC hP o_63 co_M 2 (by decide) rfl fl_M_16 rfl d_M_text_26 ?_
        refine lv_iload_n hx hb d_M_text_29 rfl (lv_at hl 1 rfl) ?_
        refine lv_iload_n hx hb d_M_text_30 rfl (lv_at hl 2 rfl) ?_
        obtain ⟨hg3, hf⟩ := gd_some hf
        obtain ⟨σ4, eσ4, hf⟩ := jn_some hf
        refine g_iast2 (j := x1.toNatClampNeg) hC hP hS a_66 hg3 rfl d_M_text_31 (fun H locs hP hS => ?_)
        rw [← eσ4] at hP
        refine lv_iconst (v := (0 : Int32)) hx hb d_M_text_32 (by decide) ?_
        refine lv_istore_n (lv' := [(3, .int (0 : Int32)), (0, .ref (ad 63)), (1, .int x1), (2, .int x2)]) hx hb d_M_text_33 rfl hl (by decide) rfl (fun ls hl => ?_)
        obtain ⟨KL5_59, eKL5_59, hf⟩ := jn_some hf
        have hKL5_59 : ∀ (v3_5 : Int32) (σL5 : GS) (H : Heap) (locs : List Loc) (ls : Array Slot), va_P D vwCl (wG K ad σL5) H → va_S (GA ad) s.heap H locs → lv_has ls 4 [(2, .int x2)] → KL5_59 v3_5 σL5 = some z0 → W p l e (rmd 2) s m args below meth c H locs 0 0 (MQ below (QI D K ad z0.1 z0.2) args s 0 0 (GA ad)) (F0 m 59 ls []) := by
          clear hf
          intro v3_5 σL5 H locs ls hP hS hl hf
          rw [eKL5_59] at hf
          try dsimp only at hf
          refine lv_iload_n hx hb d_M_text_59 rfl (lv_at hl 0 rfl) ?_
          cases hf
          exact g_iret hC rfl hP hS d_M_text_60
        clear eKL5_59
        have hL5 : ∀ (n : Nat) (v3_5 : Int32) (σL5 : GS) (H : Heap) (locs : List Loc) (ls : Array Slot), va_P D vwCl (wG K ad σL5) H → va_S (GA ad) s.heap H locs → lv_has ls 4 [(0, .ref (ad 63)), (1, .int x1), (2, .int x2), (3, .int v3_5)] → F_M_text_34 x1 x2 KL5_59 n v3_5 σL5 = some z0 → W p l e (rmd 2) s m args below meth c H locs 0 0 (MQ below (QI D K ad z0.1 z0.2) args s 0 0 (GA ad)) (F0 m 34 ls []) := by
          clear hf
          intro n
          induction n with
          | zero =>
            intro v3_5 σL5 H locs ls hP hS hl hf
            rw [F_M_text_34.eq_1] at hf
            cases hf
          | succ n ih =>
            intro v3_5 σL5 H locs ls hP hS hl hf
            rw [F_M_text_34.eq_2] at hf
            refine lv_iload_n hx hb d_M_text_34 rfl (lv_at hl 3 rfl) ?_
            refine lv_bipush (v := (80 : Int32)) hx hb d_M_text_35 (by decide) ?_
            refine lv_icmp_ge (tgt := 59) hx hb d_M_text_37 (by decide) (fun hc8 => ?_) (fun hc8 => ?_)
            · rw [if_pos hc8] at hf
              exact hKL5_59 _ _ _ _ _ hP hS (lv_sub hl [2] rfl) hf
            · rw [if_neg hc8] at hf
              refine lv_aload_n hx hb d_M_text_40 rfl (lv_at hl 0 rfl) ?_
              refine g_get (v := .ref (ad 67)) hC hP o_63 co_M 3 (by decide) rfl fl_M_19 rfl d_M_text_41 ?_
              refine lv_bipush (v := (80 : Int32)) hx hb d_M_text_44 (by decide) ?_
              refine lv_iload_n hx hb d_M_text_46 rfl (lv_at hl 1 rfl) ?_
              refine lv_imul hx hb d_M_text_47 ?_
              refine lv_iload_n hx hb d_M_text_48 rfl (lv_at hl 3 rfl) ?_
              refine lv_iadd hx hb d_M_text_49 ?_
              refine lv_bipush (v := (32 : Int32)) hx hb d_M_text_50 (by decide) ?_
              obtain ⟨hg6, hf⟩ := gd_some hf
              obtain ⟨σ7, eσ7, hf⟩ := jn_some hf
              refine g_iast2 (j := (((80 : Int32) * x1) + v3_5).toNatClampNeg) hC hP hS a_67 hg6 rfl d_M_text_52 (fun H locs hP hS => ?_)
              rw [← eσ7] at hP
              refine lv_iinc (v := v3_5 + 1) (lv' := [(3, .int (v3_5 + 1)), (0, .ref (ad 63)), (1, .int x1), (2, .int x2)]) hx hb d_M_text_53 hl (k := 3) rfl rfl (by decide) rfl (fun ls hl => ?_)
              refine lv_goto (tgt := 34) hx hb d_M_text_56 (by decide) ?_
              exact ih _ _ _ _ _ hP hS (lv_sub hl [1, 2, 3, 0] rfl) hf
        exact hL5 _ _ _ _ _ _ hP hS (lv_sub hl [1, 2, 3, 0] rfl) hf
      · rw [if_neg hc12] at hf
        refine lv_aload_n hx hb d_M_text_19 rfl (lv_at hl 0 rfl) ?_
        refine lv_iconst (v := (5 : Int32)) hx hb d_M_text_20 (by decide) ?_
        obtain ⟨r10, σ11, hk9, hf⟩ := bc_some hf
        refine g_calli hS (g_runV (As := [.int (5 : Int32)]) (rest := []) hC hP (c_M_found hj  hk9) (rk (by decide) (by decide)) nm_M_found cd_M_found it_WideTownModel ml_M_110 im_M_found sl_M_found o_63 co_M rfl hl.1 rfl (Nat.le_of_ble_eq_true rfl) d_M_text_21 zz) (fun H locs hP hS => ?_)
        cases hf
        exact g_iret hC rfl hP hS d_M_text_24
    · rw [if_neg hc13] at hf
      refine lv_iconst (v := (-1 : Int32)) hx hb d_M_text_13 (by decide) ?_
      cases hf
      exact g_iret hC rfl hP hS d_M_text_14
set_option maxHeartbeats 4000000 in
set_option maxRecDepth 100000 in
theorem c_M_put {l : Launch} {D : va_G} {K : Nat → ClassId} {ad : Nat → Nat} (hj : inj ad)   {x1 : Int32} {x2 : Int32} {x3 : Int32} {σ : GS} {z0 : Int32 × GS} (hf : F_M_put x1 x2 x3 σ = some z0) : CT l D K ad y_M_put b_M_put 5 (some .int) 2 [.ref (ad 63), .int x1, .int x2, .int x3] σ (QI D K ad z0.1 z0.2) := by
  refine CT.intro hj (by decide) (Nat.le_of_ble_eq_true rfl) ?_
  intro p e s m args below meth c ls hC hP hS hl
  obtain ⟨hx, hb, -, hown, hts, -⟩ := id hC
  have hl : lv_has ls 5 [(0, .ref (ad 63)), (1, .int x1), (2, .int x2), (3, .int x3)] := hl
  rw [F_M_put] at hf
  refine lv_iload_n hx hb d_M_put_0 rfl (lv_at hl 1 rfl) ?_
  obtain ⟨r2, hk1, hf⟩ := bp_some hf
  refine g_calli hS (g_runS (As := [.int x1]) (rest := []) hC hP (c_M_isText hj  hk1) (rk (by decide) (by decide)) nm_M_isText cd_M_isText it_WideTownModel ml_M_117 sc_M_isText rfl hl.1 rfl (Nat.le_of_ble_eq_true rfl) d_M_put_1 zz) (fun H locs hP hS => ?_)
  refine lv_if_ne (tgt := 9) hx hb d_M_put_4 (by decide) (fun hc18 => ?_) (fun hc18 => ?_)
  · rw [if_neg hc18] at hf
    refine lv_aload_n hx hb d_M_put_9 rfl (lv_at hl 0 rfl) ?_
    refine g_get (v := .ref (ad 66)) hC hP o_63 co_M 2 (by decide) rfl fl_M_16 rfl d_M_put_10 ?_
    refine lv_iload_n hx hb d_M_put_13 rfl (lv_at hl 1 rfl) ?_
    obtain ⟨hg3, hf⟩ := gd_some hf
    refine g_iald2 (j := x1.toNatClampNeg) hC hP a_66 hg3 rfl d_M_put_14 ?_
    refine lv_if_ge (tgt := 24) hx hb d_M_put_15 (by decide) (fun hc17 => ?_) (fun hc17 => ?_)
    · rw [if_pos hc17] at hf
      refine lv_iload_n hx hb d_M_put_24 rfl (lv_at hl 2 rfl) ?_
      refine lv_i2l hx hb d_M_put_25 rfl ?_
      refine lv_lconst (v := (0 : Int64)) hx hb d_M_put_26 (by decide) ?_
      refine lv_aload_n hx hb d_M_put_27 rfl (lv_at hl 0 rfl) ?_
      refine g_get (v := .ref (ad 66)) hC hP o_63 co_M 2 (by decide) rfl fl_M_16 rfl d_M_put_28 ?_
      refine lv_iload_n hx hb d_M_put_31 rfl (lv_at hl 1 rfl) ?_
      obtain ⟨hg4, hf⟩ := gd_some hf
      refine g_iald2 (j := x1.toNatClampNeg) hC hP a_66 hg4 rfl d_M_put_32 ?_
      refine lv_iconst (v := (1 : Int32)) hx hb d_M_put_33 (by decide) ?_
      refine lv_isub hx hb d_M_put_34 ?_
      refine lv_i2l hx hb d_M_put_35 rfl ?_
      obtain ⟨r6, hk5, hf⟩ := bp_some hf
      refine g_calli hS (g_runS (As := [.long x2.toInt64, .long (0 : Int64), .long (((σ.1 66 x1.toNatClampNeg) - (1 : Int32)).toInt64)]) (rest := []) hC hP (c_M_in hj  hk5) (rk (by decide) (by decide)) nm_M_in cd_M_in it_WideTownModel ml_M_100 sc_M_in rfl hl.1 rfl (Nat.le_of_ble_eq_true rfl) d_M_put_36 zz) (fun H locs hP hS => ?_)
      refine lv_if_ne (tgt := 48) hx hb d_M_put_39 (by decide) (fun hc13 => ?_) (fun hc13 => ?_)
      · rw [if_neg hc13] at hf
        refine lv_aload_n hx hb d_M_put_48 rfl (lv_at hl 0 rfl) ?_
        refine g_get (v := .ref (ad 67)) hC hP o_63 co_M 3 (by decide) rfl fl_M_19 rfl d_M_put_49 ?_
        refine lv_bipush (v := (80 : Int32)) hx hb d_M_put_52 (by decide) ?_
        refine lv_iload_n hx hb d_M_put_54 rfl (lv_at hl 1 rfl) ?_
        refine lv_imul hx hb d_M_put_55 ?_
        refine lv_iload_n hx hb d_M_put_56 rfl (lv_at hl 2 rfl) ?_
        refine lv_iadd hx hb d_M_put_57 ?_
        obtain ⟨hg7, hf⟩ := gd_some hf
        refine g_iald2 (j := (((80 : Int32) * x1) + x2).toNatClampNeg) hC hP a_67 hg7 rfl d_M_put_58 ?_
        refine lv_istore (lv' := [(4, .int (σ.1 67 (((80 : Int32) * x1) + x2).toNatClampNeg)), (0, .ref (ad 63)), (1, .int x1), (2, .int x2), (3, .int x3)]) hx hb d_M_put_59 hl (by decide) rfl (fun ls hl => ?_)
        refine lv_aload_n hx hb d_M_put_61 rfl (lv_at hl 1 rfl) ?_
        refine g_get (v := .ref (ad 67)) hC hP o_63 co_M 3 (by decide) rfl fl_M_19 rfl d_M_put_62 ?_
        refine lv_bipush (v := (80 : Int32)) hx hb d_M_put_65 (by decide) ?_
        refine lv_iload_n hx hb d_M_put_67 rfl (lv_at hl 2 rfl) ?_
        refine lv_imul hx hb d_M_put_68 ?_
        refine lv_iload_n hx hb d_M_put_69 rfl (lv_at hl 3 rfl) ?_
        refine lv_iadd hx hb d_M_put_70 ?_
        refine lv_iload_n hx hb d_M_put_71 rfl (lv_at hl 4 rfl) ?_
        refine lv_i2b hx hb d_M_put_72 rfl ?_
        obtain ⟨hg8, hf⟩ := gd_some hf
        obtain ⟨σ9, eσ9, hf⟩ := jn_some hf
        refine g_iast2 (j := (((80 : Int32) * x1) + x2).toNatClampNeg) hC hP hS a_67 hg8 rfl d_M_put_73 (fun H locs hP hS => ?_)
        rw [← eσ9] at hP
        refine lv_iload hx hb d_M_put_74 (lv_at hl 0 rfl) ?_
        refine lv_sipush (v := (1000 : Int32)) hx hb d_M_put_76 (by decide) ?_
        refine lv_iadd hx hb d_M_put_79 ?_
        cases hf
        exact g_iret hC rfl hP hS d_M_put_80
      · rw [if_pos hc13] at hf
        refine lv_aload_n hx hb d_M_put_42 rfl (lv_at hl 0 rfl) ?_
        refine lv_iconst (v := (2 : Int32)) hx hb d_M_put_43 (by decide) ?_
        obtain ⟨r11, σ12, hk10, hf⟩ := bc_some hf
        refine g_calli hS (g_runV (As := [.int (2 : Int32)]) (rest := []) hC hP (c_M_found hj  hk10) (rk (by decide) (by decide)) nm_M_found cd_M_found it_WideTownModel ml_M_110 im_M_found sl_M_found o_63 co_M rfl hl.1 rfl (Nat.le_of_ble_eq_true rfl) d_M_put_44 zz) (fun H locs hP hS => ?_)
        cases hf
        exact g_iret hC rfl hP hS d_M_put_47
    · rw [if_neg hc17] at hf
      refine lv_aload_n hx hb d_M_put_18 rfl (lv_at hl 0 rfl) ?_
      refine lv_iconst (v := (1 : Int32)) hx hb d_M_put_19 (by decide) ?_
      obtain ⟨r15, σ16, hk14, hf⟩ := bc_some hf
      refine g_calli hS (g_runV (As := [.int (1 : Int32)]) (rest := []) hC hP (c_M_found hj  hk14) (rk (by decide) (by decide)) nm_M_found cd_M_found it_WideTownModel ml_M_110 im_M_found sl_M_found o_63 co_M rfl hl.1 rfl (Nat.le_of_ble_eq_true rfl) d_M_put_20 zz) (fun H locs hP hS => ?_)
      cases hf
      exact g_iret hC rfl hP hS d_M_put_23
  · rw [if_pos hc18] at hf
    refine lv_iconst (v := (-1 : Int32)) hx hb d_M_put_7 (by decide) ?_
    cases hf
    exact g_iret hC rfl hP hS d_M_put_8
set_option maxHeartbeats 4000000 in
set_option maxRecDepth 100000 in
theorem c_M_kindOf {l : Launch} {D : va_G} {K : Nat → ClassId} {ad : Nat → Nat} (hj : inj ad)   {x0 : Int32} {σ : GS} {z0 : Int32} (hf : F_M_kindOf x0 = some z0) : CT l D K ad y_M_kindOf b_M_kindOf 1 (some .int) 0 [.int x0] σ (QI D K ad z0 σ) := by
  refine CT.intro hj (by decide) (Nat.le_of_ble_eq_true rfl) ?_
  intro p e s m args below meth c ls hC hP hS hl
  obtain ⟨hx, hb, -, hown, hts, -⟩ := id hC
  have hl : lv_has ls 1 [(0, .int x0)] := hl
  rw [F_M_kindOf] at hf
  refine lv_iload_n hx hb d_M_kindOf_0 rfl (lv_at hl 0 rfl) ?_
  refine lv_bipush (v := (119 : Int32)) hx hb d_M_kindOf_1 (by decide) ?_
  refine lv_icmp_ne (tgt := 10) hx hb d_M_kindOf_3 (by decide) (fun hc6 => ?_) (fun hc6 => ?_)
  · rw [if_neg hc6] at hf
    refine lv_iload_n hx hb d_M_kindOf_10 rfl (lv_at hl 0 rfl) ?_
    refine lv_bipush (v := (115 : Int32)) hx hb d_M_kindOf_11 (by decide) ?_
    refine lv_icmp_ne (tgt := 20) hx hb d_M_kindOf_13 (by decide) (fun hc5 => ?_) (fun hc5 => ?_)
    · rw [if_neg hc5] at hf
      refine lv_iload_n hx hb d_M_kindOf_20 rfl (lv_at hl 0 rfl) ?_
      refine lv_bipush (v := (99 : Int32)) hx hb d_M_kindOf_21 (by decide) ?_
      refine lv_icmp_ne (tgt := 30) hx hb d_M_kindOf_23 (by decide) (fun hc4 => ?_) (fun hc4 => ?_)
      · rw [if_neg hc4] at hf
        refine lv_iload_n hx hb d_M_kindOf_30 rfl (lv_at hl 0 rfl) ?_
        refine lv_bipush (v := (104 : Int32)) hx hb d_M_kindOf_31 (by decide) ?_
        refine lv_icmp_ne (tgt := 40) hx hb d_M_kindOf_33 (by decide) (fun hc3 => ?_) (fun hc3 => ?_)
        · rw [if_neg hc3] at hf
          refine lv_iload_n hx hb d_M_kindOf_40 rfl (lv_at hl 0 rfl) ?_
          refine lv_bipush (v := (114 : Int32)) hx hb d_M_kindOf_41 (by decide) ?_
          refine lv_icmp_ne (tgt := 50) hx hb d_M_kindOf_43 (by decide) (fun hc2 => ?_) (fun hc2 => ?_)
          · rw [if_neg hc2] at hf
            refine lv_iload_n hx hb d_M_kindOf_50 rfl (lv_at hl 0 rfl) ?_
            refine lv_bipush (v := (111 : Int32)) hx hb d_M_kindOf_51 (by decide) ?_
            refine lv_icmp_ne (tgt := 60) hx hb d_M_kindOf_53 (by decide) (fun hc1 => ?_) (fun hc1 => ?_)
            · rw [if_neg hc1] at hf
              refine lv_iconst (v := (-1 : Int32)) hx hb d_M_kindOf_60 (by decide) ?_
              cases hf
              exact g_iret hC rfl hP hS d_M_kindOf_61
            · rw [if_pos hc1] at hf
              refine lv_iconst (v := (5 : Int32)) hx hb d_M_kindOf_56 (by decide) ?_
              refine lv_goto (tgt := 61) hx hb d_M_kindOf_57 (by decide) ?_
              cases hf
              exact g_iret hC rfl hP hS d_M_kindOf_61
          · rw [if_pos hc2] at hf
            refine lv_iconst (v := (4 : Int32)) hx hb d_M_kindOf_46 (by decide) ?_
            refine lv_goto (tgt := 61) hx hb d_M_kindOf_47 (by decide) ?_
            cases hf
            exact g_iret hC rfl hP hS d_M_kindOf_61
        · rw [if_pos hc3] at hf
          refine lv_iconst (v := (3 : Int32)) hx hb d_M_kindOf_36 (by decide) ?_
          refine lv_goto (tgt := 61) hx hb d_M_kindOf_37 (by decide) ?_
          cases hf
          exact g_iret hC rfl hP hS d_M_kindOf_61
      · rw [if_pos hc4] at hf
        refine lv_iconst (v := (2 : Int32)) hx hb d_M_kindOf_26 (by decide) ?_
        refine lv_goto (tgt := 61) hx hb d_M_kindOf_27 (by decide) ?_
        cases hf
        exact g_iret hC rfl hP hS d_M_kindOf_61
    · rw [if_pos hc5] at hf
      refine lv_iconst (v := (1 : Int32)) hx hb d_M_kindOf_16 (by decide) ?_
      refine lv_goto (tgt := 61) hx hb d_M_kindOf_17 (by decide) ?_
      cases hf
      exact g_iret hC rfl hP hS d_M_kindOf_61
  · rw [if_pos hc6] at hf
    refine lv_iconst (v := (0 : Int32)) hx hb d_M_kindOf_6 (by decide) ?_
    refine lv_goto (tgt := 61) hx hb d_M_kindOf_7 (by decide) ?_
    cases hf
    exact g_iret hC rfl hP hS d_M_kindOf_61
set_option maxHeartbeats 4000000 in
set_option maxRecDepth 100000 in
theorem c_M_isStreet {l : Launch} {D : va_G} {K : Nat → ClassId} {ad : Nat → Nat} (hj : inj ad)   {x0 : Int32} {σ : GS} {z0 : Int32} (hf : F_M_isStreet x0 = some z0) : CT l D K ad y_M_isStreet b_M_isStreet 1 (some .boolean) 1 [.int x0] σ (QI D K ad z0 σ) := by
  refine CT.intro hj (by decide) (Nat.le_of_ble_eq_true rfl) ?_
  intro p e s m args below meth c ls hC hP hS hl
  obtain ⟨hx, hb, -, hown, hts, -⟩ := id hC
  have hl : lv_has ls 1 [(0, .int x0)] := hl
  rw [F_M_isStreet] at hf
  refine lv_iload_n hx hb d_M_isStreet_0 rfl (lv_at hl 0 rfl) ?_
  refine lv_i2l hx hb d_M_isStreet_1 rfl ?_
  refine lv_lconst (v := (0 : Int64)) hx hb d_M_isStreet_2 (by decide) ?_
  refine lv_ldc2 hx hb hown (hts _ cn_M_120) d_M_isStreet_3 ?_
  obtain ⟨r2, hk1, hf⟩ := bp_some hf
  refine g_calli hS (g_runS (As := [.long x0.toInt64, .long (0 : Int64), .long (4 : Int64)]) (rest := []) hC hP (c_M_in hj  hk1) (rk (by decide) (by decide)) nm_M_in cd_M_in it_WideTownModel ml_M_100 sc_M_in rfl hl.1 rfl (Nat.le_of_ble_eq_true rfl) d_M_isStreet_6 zz) (fun H locs hP hS => ?_)
  obtain ⟨hz, hf⟩ := gd_some hf
  cases hf
  exact g_zret hC rfl hz hP hS d_M_isStreet_9
set_option maxHeartbeats 4000000 in
set_option maxRecDepth 100000 in
theorem c_M_byteAt {l : Launch} {D : va_G} {K : Nat → ClassId} {ad : Nat → Nat} (hj : inj ad)   {x1 : Int32} {σ : GS} {z0 : Int32} (hf : F_M_byteAt x1 σ = some z0) : CT l D K ad y_M_byteAt b_M_byteAt 2 (some .int) 0 [.ref (ad 63), .int x1] σ (QI D K ad z0 σ) := by
  refine CT.intro hj (by decide) (Nat.le_of_ble_eq_true rfl) ?_
  intro p e s m args below meth c ls hC hP hS hl
  obtain ⟨hx, hb, -, hown, hts, -⟩ := id hC
  have hl : lv_has ls 2 [(0, .ref (ad 63)), (1, .int x1)] := hl
  rw [F_M_byteAt] at hf
  refine lv_aload_n hx hb d_M_byteAt_0 rfl (lv_at hl 0 rfl) ?_
  refine g_get (v := .int (σ.1 63 15)) hC hP o_63 co_M 15 (by decide) rfl fl_M_122 rfl d_M_byteAt_1 ?_
  refine lv_aload_n hx hb d_M_byteAt_4 rfl (lv_at hl 0 rfl) ?_
  refine g_get (v := .ref (ad 66)) hC hP o_63 co_M 2 (by decide) rfl fl_M_16 rfl d_M_byteAt_5 ?_
  refine lv_iload_n hx hb d_M_byteAt_8 rfl (lv_at hl 1 rfl) ?_
  obtain ⟨hg1, hf⟩ := gd_some hf
  refine g_iald2 (j := x1.toNatClampNeg) hC hP a_66 hg1 rfl d_M_byteAt_9 ?_
  refine lv_icmp_ge (tgt := 30) hx hb d_M_byteAt_10 (by decide) (fun hc3 => ?_) (fun hc3 => ?_)
  · rw [if_pos hc3] at hf
    refine lv_sipush (v := (-1000 : Int32)) hx hb d_M_byteAt_30 (by decide) ?_
    cases hf
    exact g_iret hC rfl hP hS d_M_byteAt_33
  · rw [if_neg hc3] at hf
    refine lv_aload_n hx hb d_M_byteAt_13 rfl (lv_at hl 0 rfl) ?_
    refine g_get (v := .ref (ad 67)) hC hP o_63 co_M 3 (by decide) rfl fl_M_19 rfl d_M_byteAt_14 ?_
    refine lv_bipush (v := (80 : Int32)) hx hb d_M_byteAt_17 (by decide) ?_
    refine lv_iload_n hx hb d_M_byteAt_19 rfl (lv_at hl 1 rfl) ?_
    refine lv_imul hx hb d_M_byteAt_20 ?_
    refine lv_aload_n hx hb d_M_byteAt_21 rfl (lv_at hl 0 rfl) ?_
    refine g_get (v := .int (σ.1 63 15)) hC hP o_63 co_M 15 (by decide) rfl fl_M_122 rfl d_M_byteAt_22 ?_
    refine lv_iadd hx hb d_M_byteAt_25 ?_
    obtain ⟨hg2, hf⟩ := gd_some hf
    refine g_iald2 (j := (((80 : Int32) * x1) + (σ.1 63 15)).toNatClampNeg) hC hP a_67 hg2 rfl d_M_byteAt_26 ?_
    refine lv_goto (tgt := 33) hx hb d_M_byteAt_27 (by decide) ?_
    cases hf
    exact g_iret hC rfl hP hS d_M_byteAt_33
set_option maxHeartbeats 4000000 in
set_option maxRecDepth 100000 in
theorem c_M_areNeighbours {l : Launch} {D : va_G} {K : Nat → ClassId} {ad : Nat → Nat} (hj : inj ad)   {x0 : Int32} {x1 : Int32} {σ : GS} {z0 : Int32} (hf : F_M_areNeighbours x0 x1 = some z0) : CT l D K ad y_M_areNeighbours b_M_areNeighbours 3 (some .boolean) 0 [.int x0, .int x1] σ (QI D K ad z0 σ) := by
  refine CT.intro hj (by decide) (Nat.le_of_ble_eq_true rfl) ?_
  intro p e s m args below meth c ls hC hP hS hl
  obtain ⟨hx, hb, -, hown, hts, -⟩ := id hC
  have hl : lv_has ls 3 [(0, .int x0), (1, .int x1)] := hl
  rw [F_M_areNeighbours] at hf
  refine lv_iload_n hx hb d_M_areNeighbours_0 rfl (lv_at hl 0 rfl) ?_
  refine lv_iload_n hx hb d_M_areNeighbours_1 rfl (lv_at hl 1 rfl) ?_
  refine lv_isub hx hb d_M_areNeighbours_2 ?_
  refine lv_iconst (v := (5 : Int32)) hx hb d_M_areNeighbours_3 (by decide) ?_
  refine lv_iadd hx hb d_M_areNeighbours_4 ?_
  refine lv_iconst (v := (5 : Int32)) hx hb d_M_areNeighbours_5 (by decide) ?_
  refine lv_irem hx hb d_M_areNeighbours_6 (by decide) ?_
  refine lv_istore_n (lv' := [(2, .int (((x0 - x1) + (5 : Int32)) - ((x0 - x1) + (5 : Int32)) / (5 : Int32) * (5 : Int32))), (0, .int x0), (1, .int x1)]) hx hb d_M_areNeighbours_7 rfl hl (by decide) rfl (fun ls hl => ?_)
  refine lv_iload_n hx hb d_M_areNeighbours_8 rfl (lv_at hl 0 rfl) ?_
  refine lv_iconst (v := (1 : Int32)) hx hb d_M_areNeighbours_9 (by decide) ?_
  refine lv_icmp_eq (tgt := 18) hx hb d_M_areNeighbours_10 (by decide) (fun hc2 => ?_) (fun hc2 => ?_)
  · rw [if_pos hc2] at hf
    refine lv_iconst (v := (1 : Int32)) hx hb d_M_areNeighbours_18 (by decide) ?_
    refine lv_goto (tgt := 23) hx hb d_M_areNeighbours_19 (by decide) ?_
    cases hf
    exact g_zret hC rfl (by decide) hP hS d_M_areNeighbours_23
  · rw [if_neg hc2] at hf
    refine lv_iload_n hx hb d_M_areNeighbours_13 rfl (lv_at hl 0 rfl) ?_
    refine lv_iconst (v := (4 : Int32)) hx hb d_M_areNeighbours_14 (by decide) ?_
    refine lv_icmp_ne (tgt := 22) hx hb d_M_areNeighbours_15 (by decide) (fun hc1 => ?_) (fun hc1 => ?_)
    · rw [if_neg hc1] at hf
      refine lv_iconst (v := (0 : Int32)) hx hb d_M_areNeighbours_22 (by decide) ?_
      cases hf
      exact g_zret hC rfl (by decide) hP hS d_M_areNeighbours_23
    · rw [if_pos hc1] at hf
      refine lv_iconst (v := (1 : Int32)) hx hb d_M_areNeighbours_18 (by decide) ?_
      refine lv_goto (tgt := 23) hx hb d_M_areNeighbours_19 (by decide) ?_
      cases hf
      exact g_zret hC rfl (by decide) hP hS d_M_areNeighbours_23
set_option maxHeartbeats 4000000 in
set_option maxRecDepth 100000 in
theorem c_M_times {l : Launch} {D : va_G} {K : Nat → ClassId} {ad : Nat → Nat} (hj : inj ad) {q0 : Nat} (h_q0 : isA K ad q0 0 64) {x1 : Int32} {x2 : Int32} {σ : GS} {z0 : Int32 × GS} (hf : F_M_times q0 x1 x2 σ = some z0) : CT l D K ad y_M_times b_M_times 5 (some .int) 1 [.ref (ad q0), .int x1, .int x2] σ (QI D K ad z0.1 z0.2) := by
  refine CT.intro hj (by decide) (Nat.le_of_ble_eq_true rfl) ?_
  intro p e s m args below meth c ls hC hP hS hl
  obtain ⟨hx, hb, -, hown, hts, -⟩ := id hC
  have hl : lv_has ls 5 [(0, .ref (ad q0)), (1, .int x1), (2, .int x2)] := hl
  rw [F_M_times] at hf
  refine lv_iload_n hx hb d_M_times_0 rfl (lv_at hl 1 rfl) ?_
  refine lv_iconst (v := (1 : Int32)) hx hb d_M_times_1 (by decide) ?_
  refine lv_isub hx hb d_M_times_2 ?_
  refine lv_istore_n (lv' := [(3, .int (x1 - (1 : Int32))), (0, .ref (ad q0)), (1, .int x1), (2, .int x2)]) hx hb d_M_times_3 rfl hl (by decide) rfl (fun ls hl => ?_)
  obtain ⟨KL1_24, eKL1_24, hf⟩ := jn_some hf
  have hKL1_24 : ∀ (v3_1 : Int32) (H : Heap) (locs : List Loc) (ls : Array Slot), va_P D vwCl (wG K ad σ) H → va_S (GA ad) s.heap H locs → lv_has ls 5 [(0, .ref (ad q0)), (1, .int x1), (2, .int x2), (3, .int v3_1)] → KL1_24 v3_1 = some z0 → W p l e (rmd 1) s m args below meth c H locs 0 0 (MQ below (QI D K ad z0.1 z0.2) args s 0 0 (GA ad)) (F0 m 24 ls []) := by
    clear hf
    intro v3_1 H locs ls hP hS hl hf
    rw [eKL1_24] at hf
    try dsimp only at hf
    refine lv_iload_n hx hb d_M_times_24 rfl (lv_at hl 3 rfl) ?_
    obtain ⟨J2, eJ2, hf⟩ := jn_some hf
    have hJ2 : ∀ (dJ2 : Unit) (H : Heap) (locs : List Loc) (ls : Array Slot), va_P D vwCl (wG K ad σ) H → va_S (GA ad) s.heap H locs → lv_has ls 5 [(0, .ref (ad q0)), (1, .int x1), (2, .int x2)] → J2 dJ2 = some z0 → W p l e (rmd 1) s m args below meth c H locs 0 0 (MQ below (QI D K ad z0.1 z0.2) args s 0 0 (GA ad)) (F0 m 35 ls []) := by
      clear hf
      intro dJ2 H locs ls hP hS hl hf
      rw [eJ2] at hf
      try dsimp only at hf
      refine lv_aload_n hx hb d_M_times_35 rfl (lv_at hl 0 rfl) ?_
      refine lv_iload_n hx hb d_M_times_36 rfl (lv_at hl 1 rfl) ?_
      refine lv_iload_n hx hb d_M_times_37 rfl (lv_at hl 2 rfl) ?_
      obtain ⟨hg3, hf⟩ := gd_some hf
      obtain ⟨σ4, eσ4, hf⟩ := jn_some hf
      refine g_iast2 (j := x1.toNatClampNeg) hC hP hS h_q0 hg3 rfl d_M_times_38 (fun H locs hP hS => ?_)
      rw [← eσ4] at hP
      refine lv_iload_n hx hb d_M_times_39 rfl (lv_at hl 1 rfl) ?_
      refine lv_iconst (v := (1 : Int32)) hx hb d_M_times_40 (by decide) ?_
      refine lv_iadd hx hb d_M_times_41 ?_
      cases hf
      exact g_iret hC rfl hP hS d_M_times_42
    clear eJ2
    refine lv_if_lt (tgt := 35) hx hb d_M_times_25 (by decide) (fun hc12 => ?_) (fun hc12 => ?_)
    · rw [if_pos hc12] at hf
      exact hJ2 _ _ _ _ hP hS (lv_sub hl [0, 1, 2] rfl) hf
    · rw [if_neg hc12] at hf
      refine lv_aload_n hx hb d_M_times_28 rfl (lv_at hl 0 rfl) ?_
      refine lv_iload_n hx hb d_M_times_29 rfl (lv_at hl 3 rfl) ?_
      obtain ⟨hg5, hf⟩ := gd_some hf
      refine g_iald2 (j := v3_1.toNatClampNeg) hC hP h_q0 hg5 rfl d_M_times_30 ?_
      refine lv_iload_n hx hb d_M_times_31 rfl (lv_at hl 2 rfl) ?_
      refine lv_icmp_eq (tgt := 43) hx hb d_M_times_32 (by decide) (fun hc11 => ?_) (fun hc11 => ?_)
      · rw [if_pos hc11] at hf
        refine lv_iload_n hx hb d_M_times_43 rfl (lv_at hl 3 rfl) ?_
        refine lv_istore (lv' := [(4, .int v3_1), (0, .ref (ad q0)), (1, .int x1), (2, .int x2), (3, .int v3_1)]) hx hb d_M_times_44 hl (by decide) rfl (fun ls hl => ?_)
        obtain ⟨KL6_70, eKL6_70, hf⟩ := jn_some hf
        have hKL6_70 : ∀ (v4_6 : Int32) (σL6 : GS) (H : Heap) (locs : List Loc) (ls : Array Slot), va_P D vwCl (wG K ad σL6) H → va_S (GA ad) s.heap H locs → lv_has ls 5 [(1, .int x1)] → KL6_70 v4_6 σL6 = some z0 → W p l e (rmd 1) s m args below meth c H locs 0 0 (MQ below (QI D K ad z0.1 z0.2) args s 0 0 (GA ad)) (F0 m 70 ls []) := by
          clear hf
          intro v4_6 σL6 H locs ls hP hS hl hf
          rw [eKL6_70] at hf
          try dsimp only at hf
          refine lv_iload_n hx hb d_M_times_70 rfl (lv_at hl 0 rfl) ?_
          refine lv_iconst (v := (1 : Int32)) hx hb d_M_times_71 (by decide) ?_
          refine lv_isub hx hb d_M_times_72 ?_
          cases hf
          exact g_iret hC rfl hP hS d_M_times_73
        clear eKL6_70
        have hL6 : ∀ (n : Nat) (v4_6 : Int32) (σL6 : GS) (H : Heap) (locs : List Loc) (ls : Array Slot), va_P D vwCl (wG K ad σL6) H → va_S (GA ad) s.heap H locs → lv_has ls 5 [(0, .ref (ad q0)), (1, .int x1), (4, .int v4_6)] → F_M_times_46 q0 x1 KL6_70 n v4_6 σL6 = some z0 → W p l e (rmd 1) s m args below meth c H locs 0 0 (MQ below (QI D K ad z0.1 z0.2) args s 0 0 (GA ad)) (F0 m 46 ls []) := by
          clear hf
          intro n
          induction n with
          | zero =>
            intro v4_6 σL6 H locs ls hP hS hl hf
            rw [F_M_times_46.eq_1] at hf
            cases hf
          | succ n ih =>
            intro v4_6 σL6 H locs ls hP hS hl hf
            rw [F_M_times_46.eq_2] at hf
            refine lv_iload hx hb d_M_times_46 (lv_at hl 2 rfl) ?_
            refine lv_iload_n hx hb d_M_times_48 rfl (lv_at hl 1 rfl) ?_
            refine lv_iconst (v := (1 : Int32)) hx hb d_M_times_49 (by decide) ?_
            refine lv_isub hx hb d_M_times_50 ?_
            refine lv_icmp_ge (tgt := 70) hx hb d_M_times_51 (by decide) (fun hc10 => ?_) (fun hc10 => ?_)
            · rw [if_pos hc10] at hf
              exact hKL6_70 _ _ _ _ _ hP hS (lv_sub hl [1] rfl) hf
            · rw [if_neg hc10] at hf
              refine lv_aload_n hx hb d_M_times_54 rfl (lv_at hl 0 rfl) ?_
              refine lv_iload hx hb d_M_times_55 (lv_at hl 2 rfl) ?_
              refine lv_aload_n hx hb d_M_times_57 rfl (lv_at hl 0 rfl) ?_
              refine lv_iload hx hb d_M_times_58 (lv_at hl 2 rfl) ?_
              refine lv_iconst (v := (1 : Int32)) hx hb d_M_times_60 (by decide) ?_
              refine lv_iadd hx hb d_M_times_61 ?_
              obtain ⟨hg7, hf⟩ := gd_some hf
              refine g_iald2 (j := (v4_6 + (1 : Int32)).toNatClampNeg) hC hP h_q0 hg7 rfl d_M_times_62 ?_
              obtain ⟨hg8, hf⟩ := gd_some hf
              obtain ⟨σ9, eσ9, hf⟩ := jn_some hf
              refine g_iast2 (j := v4_6.toNatClampNeg) hC hP hS h_q0 hg8 rfl d_M_times_63 (fun H locs hP hS => ?_)
              rw [← eσ9] at hP
              refine lv_iinc (v := v4_6 + 1) (lv' := [(4, .int (v4_6 + 1)), (0, .ref (ad q0)), (1, .int x1)]) hx hb d_M_times_64 hl (k := 2) rfl rfl (by decide) rfl (fun ls hl => ?_)
              refine lv_goto (tgt := 46) hx hb d_M_times_67 (by decide) ?_
              exact ih _ _ _ _ _ hP hS (lv_sub hl [1, 2, 0] rfl) hf
        exact hL6 _ _ _ _ _ _ hP hS (lv_sub hl [1, 2, 0] rfl) hf
      · rw [if_neg hc11] at hf
        exact hJ2 _ _ _ _ hP hS (lv_sub hl [0, 1, 2] rfl) hf
  clear eKL1_24
  have hL1 : ∀ (n : Nat) (v3_1 : Int32) (H : Heap) (locs : List Loc) (ls : Array Slot), va_P D vwCl (wG K ad σ) H → va_S (GA ad) s.heap H locs → lv_has ls 5 [(0, .ref (ad q0)), (1, .int x1), (2, .int x2), (3, .int v3_1)] → F_M_times_4 q0 x1 x2 σ KL1_24 n v3_1 = some z0 → W p l e (rmd 1) s m args below meth c H locs 0 0 (MQ below (QI D K ad z0.1 z0.2) args s 0 0 (GA ad)) (F0 m 4 ls []) := by
    clear hf
    intro n
    induction n with
    | zero =>
      intro v3_1 H locs ls hP hS hl hf
      rw [F_M_times_4.eq_1] at hf
      cases hf
    | succ n ih =>
      intro v3_1 H locs ls hP hS hl hf
      rw [F_M_times_4.eq_2] at hf
      refine lv_iload_n hx hb d_M_times_4 rfl (lv_at hl 3 rfl) ?_
      refine lv_if_lt (tgt := 24) hx hb d_M_times_5 (by decide) (fun hc17 => ?_) (fun hc17 => ?_)
      · rw [if_pos hc17] at hf
        exact hKL1_24 _ _ _ _ hP hS (lv_sub hl [0, 1, 2, 3] rfl) hf
      · rw [if_neg hc17] at hf
        refine lv_aload_n hx hb d_M_times_8 rfl (lv_at hl 0 rfl) ?_
        refine lv_iload_n hx hb d_M_times_9 rfl (lv_at hl 3 rfl) ?_
        obtain ⟨hg13, hf⟩ := gd_some hf
        refine g_iald2 (j := v3_1.toNatClampNeg) hC hP h_q0 hg13 rfl d_M_times_10 ?_
        refine lv_iload_n hx hb d_M_times_11 rfl (lv_at hl 2 rfl) ?_
        obtain ⟨r15, hk14, hf⟩ := bp_some hf
        refine g_calli hS (g_runS (As := [.int (σ.1 q0 v3_1.toNatClampNeg), .int x2]) (rest := []) hC hP (c_M_areNeighbours hj  hk14) (rk (by decide) (by decide)) nm_M_areNeighbours cd_M_areNeighbours it_WideTownModel ml_M_148 sc_M_areNeighbours rfl hl.1 rfl (Nat.le_of_ble_eq_true rfl) d_M_times_12 zz) (fun H locs hP hS => ?_)
        refine lv_if_eq (tgt := 24) hx hb d_M_times_15 (by decide) (fun hc16 => ?_) (fun hc16 => ?_)
        · rw [if_pos hc16] at hf
          exact hKL1_24 _ _ _ _ hP hS (lv_sub hl [0, 1, 2, 3] rfl) hf
        · rw [if_neg hc16] at hf
          refine lv_iinc (v := v3_1 + (-1)) (lv' := [(3, .int (v3_1 + (-1))), (0, .ref (ad q0)), (1, .int x1), (2, .int x2)]) hx hb d_M_times_18 hl (k := 3) rfl rfl (by decide) rfl (fun ls hl => ?_)
          refine lv_goto (tgt := 4) hx hb d_M_times_21 (by decide) ?_
          exact ih _ _ _ _ hP hS (lv_sub hl [1, 2, 3, 0] rfl) hf
  exact hL1 _ _ _ _ _ hP hS (lv_sub hl [1, 2, 3, 0] rfl) hf
set_option maxHeartbeats 4000000 in
set_option maxRecDepth 100000 in
theorem c_M_isFirst {l : Launch} {D : va_G} {K : Nat → ClassId} {ad : Nat → Nat} (hj : inj ad) {q0 : Nat} (h_q0 : isA K ad q0 0 64) {x1 : Int32} {σ : GS} {z0 : Int32} (hf : F_M_isFirst q0 x1 σ = some z0) : CT l D K ad y_M_isFirst b_M_isFirst 4 (some .boolean) 1 [.ref (ad q0), .int x1] σ (QI D K ad z0 σ) := by
  refine CT.intro hj (by decide) (Nat.le_of_ble_eq_true rfl) ?_
  intro p e s m args below meth c ls hC hP hS hl
  obtain ⟨hx, hb, -, hown, hts, -⟩ := id hC
  have hl : lv_has ls 4 [(0, .ref (ad q0)), (1, .int x1)] := hl
  rw [F_M_isFirst] at hf
  refine lv_iconst (v := (1 : Int32)) hx hb d_M_isFirst_0 (by decide) ?_
  refine lv_istore_n (lv' := [(2, .int (1 : Int32)), (0, .ref (ad q0)), (1, .int x1)]) hx hb d_M_isFirst_1 rfl hl (by decide) rfl (fun ls hl => ?_)
  refine lv_iconst (v := (0 : Int32)) hx hb d_M_isFirst_2 (by decide) ?_
  refine lv_istore_n (lv' := [(3, .int (0 : Int32)), (2, .int (1 : Int32)), (0, .ref (ad q0)), (1, .int x1)]) hx hb d_M_isFirst_3 rfl hl (by decide) rfl (fun ls hl => ?_)
  obtain ⟨KL1_37, eKL1_37, hf⟩ := jn_some hf
  have hKL1_37 : ∀ (v2_1 : Int32) (v3_1 : Int32) (H : Heap) (locs : List Loc) (ls : Array Slot), va_P D vwCl (wG K ad σ) H → va_S (GA ad) s.heap H locs → lv_has ls 4 [(2, .int v2_1)] → KL1_37 v2_1 v3_1 = some z0 → W p l e (rmd 1) s m args below meth c H locs 0 0 (MQ below (QI D K ad z0 σ) args s 0 0 (GA ad)) (F0 m 37 ls []) := by
    clear hf
    intro v2_1 v3_1 H locs ls hP hS hl hf
    rw [eKL1_37] at hf
    try dsimp only at hf
    refine lv_iload_n hx hb d_M_isFirst_37 rfl (lv_at hl 0 rfl) ?_
    obtain ⟨hz, hf⟩ := gd_some hf
    cases hf
    exact g_zret hC rfl hz hP hS d_M_isFirst_38
  clear eKL1_37
  have hL1 : ∀ (n : Nat) (v2_1 : Int32) (v3_1 : Int32) (H : Heap) (locs : List Loc) (ls : Array Slot), va_P D vwCl (wG K ad σ) H → va_S (GA ad) s.heap H locs → lv_has ls 4 [(0, .ref (ad q0)), (1, .int x1), (2, .int v2_1), (3, .int v3_1)] → F_M_isFirst_4 q0 x1 σ KL1_37 n v2_1 v3_1 = some z0 → W p l e (rmd 1) s m args below meth c H locs 0 0 (MQ below (QI D K ad z0 σ) args s 0 0 (GA ad)) (F0 m 4 ls []) := by
    clear hf
    intro n
    induction n with
    | zero =>
      intro v2_1 v3_1 H locs ls hP hS hl hf
      rw [F_M_isFirst_4.eq_1] at hf
      cases hf
    | succ n ih =>
      intro v2_1 v3_1 H locs ls hP hS hl hf
      rw [F_M_isFirst_4.eq_2] at hf
      refine lv_iload_n hx hb d_M_isFirst_4 rfl (lv_at hl 3 rfl) ?_
      refine lv_iload_n hx hb d_M_isFirst_5 rfl (lv_at hl 1 rfl) ?_
      refine lv_icmp_ge (tgt := 37) hx hb d_M_isFirst_6 (by decide) (fun hc8 => ?_) (fun hc8 => ?_)
      · rw [if_pos hc8] at hf
        exact hKL1_37 _ _ _ _ _ hP hS (lv_sub hl [2] rfl) hf
      · rw [if_neg hc8] at hf
        refine lv_iload_n hx hb d_M_isFirst_9 rfl (lv_at hl 2 rfl) ?_
        refine lv_if_eq (tgt := 29) hx hb d_M_isFirst_10 (by decide) (fun hc7 => ?_) (fun hc7 => ?_)
        · rw [if_pos hc7] at hf
          refine lv_iconst (v := (0 : Int32)) hx hb d_M_isFirst_29 (by decide) ?_
          refine lv_istore_n (lv' := [(2, .int (0 : Int32)), (0, .ref (ad q0)), (1, .int x1), (3, .int v3_1)]) hx hb d_M_isFirst_30 rfl hl (by decide) rfl (fun ls hl => ?_)
          refine lv_iinc (v := v3_1 + 1) (lv' := [(3, .int (v3_1 + 1)), (2, .int (0 : Int32)), (0, .ref (ad q0)), (1, .int x1)]) hx hb d_M_isFirst_31 hl (k := 3) rfl rfl (by decide) rfl (fun ls hl => ?_)
          refine lv_goto (tgt := 4) hx hb d_M_isFirst_34 (by decide) ?_
          exact ih _ _ _ _ _ hP hS (lv_sub hl [2, 3, 1, 0] rfl) hf
        · rw [if_neg hc7] at hf
          refine lv_aload_n hx hb d_M_isFirst_13 rfl (lv_at hl 0 rfl) ?_
          refine lv_iload_n hx hb d_M_isFirst_14 rfl (lv_at hl 3 rfl) ?_
          obtain ⟨hg2, hf⟩ := gd_some hf
          refine g_iald2 (j := v3_1.toNatClampNeg) hC hP h_q0 hg2 rfl d_M_isFirst_15 ?_
          refine lv_aload_n hx hb d_M_isFirst_16 rfl (lv_at hl 0 rfl) ?_
          refine lv_iload_n hx hb d_M_isFirst_17 rfl (lv_at hl 1 rfl) ?_
          obtain ⟨hg3, hf⟩ := gd_some hf
          refine g_iald2 (j := x1.toNatClampNeg) hC hP h_q0 hg3 rfl d_M_isFirst_18 ?_
          obtain ⟨r5, hk4, hf⟩ := bp_some hf
          refine g_calli hS (g_runS (As := [.int (σ.1 q0 v3_1.toNatClampNeg), .int (σ.1 q0 x1.toNatClampNeg)]) (rest := []) hC hP (c_M_areNeighbours hj  hk4) (rk (by decide) (by decide)) nm_M_areNeighbours cd_M_areNeighbours it_WideTownModel ml_M_148 sc_M_areNeighbours rfl hl.1 rfl (Nat.le_of_ble_eq_true rfl) d_M_isFirst_19 zz) (fun H locs hP hS => ?_)
          refine lv_if_eq (tgt := 29) hx hb d_M_isFirst_22 (by decide) (fun hc6 => ?_) (fun hc6 => ?_)
          · rw [if_pos hc6] at hf
            refine lv_iconst (v := (0 : Int32)) hx hb d_M_isFirst_29 (by decide) ?_
            refine lv_istore_n (lv' := [(2, .int (0 : Int32)), (0, .ref (ad q0)), (1, .int x1), (3, .int v3_1)]) hx hb d_M_isFirst_30 rfl hl (by decide) rfl (fun ls hl => ?_)
            refine lv_iinc (v := v3_1 + 1) (lv' := [(3, .int (v3_1 + 1)), (2, .int (0 : Int32)), (0, .ref (ad q0)), (1, .int x1)]) hx hb d_M_isFirst_31 hl (k := 3) rfl rfl (by decide) rfl (fun ls hl => ?_)
            refine lv_goto (tgt := 4) hx hb d_M_isFirst_34 (by decide) ?_
            exact ih _ _ _ _ _ hP hS (lv_sub hl [2, 3, 1, 0] rfl) hf
          · rw [if_neg hc6] at hf
            refine lv_iconst (v := (1 : Int32)) hx hb d_M_isFirst_25 (by decide) ?_
            refine lv_goto (tgt := 30) hx hb d_M_isFirst_26 (by decide) ?_
            refine lv_istore_n (lv' := [(2, .int (1 : Int32)), (0, .ref (ad q0)), (1, .int x1), (3, .int v3_1)]) hx hb d_M_isFirst_30 rfl hl (by decide) rfl (fun ls hl => ?_)
            refine lv_iinc (v := v3_1 + 1) (lv' := [(3, .int (v3_1 + 1)), (2, .int (1 : Int32)), (0, .ref (ad q0)), (1, .int x1)]) hx hb d_M_isFirst_31 hl (k := 3) rfl rfl (by decide) rfl (fun ls hl => ?_)
            refine lv_goto (tgt := 4) hx hb d_M_isFirst_34 (by decide) ?_
            exact ih _ _ _ _ _ hP hS (lv_sub hl [2, 3, 1, 0] rfl) hf
  exact hL1 _ _ _ _ _ _ hP hS (lv_sub hl [2, 3, 1, 0] rfl) hf
set_option maxHeartbeats 4000000 in
set_option maxRecDepth 100000 in
theorem c_M_layPlain {l : Launch} {D : va_G} {K : Nat → ClassId} {ad : Nat → Nat} (hj : inj ad) {q1 : Nat} {q3 : Nat} (h_q1 : isA K ad q1 0 64) (h_q3 : isA K ad q3 0 64) {x2 : Int32} {σ : GS} {z0 : GS} (hf : F_M_layPlain q1 q3 x2 σ = some z0) : CT l D K ad y_M_layPlain b_M_layPlain 7 none 2 [.ref (ad 63), .ref (ad q1), .int x2, .ref (ad q3)] σ (QV D K ad z0) := by
  refine CT.intro hj (by decide) (Nat.le_of_ble_eq_true rfl) ?_
  intro p e s m args below meth c ls hC hP hS hl
  obtain ⟨hx, hb, -, hown, hts, -⟩ := id hC
  have hl : lv_has ls 7 [(0, .ref (ad 63)), (1, .ref (ad q1)), (2, .int x2), (3, .ref (ad q3))] := hl
  rw [F_M_layPlain] at hf
  refine lv_iconst (v := (0 : Int32)) hx hb d_M_layPlain_0 (by decide) ?_
  refine lv_istore (lv' := [(4, .int (0 : Int32)), (0, .ref (ad 63)), (1, .ref (ad q1)), (2, .int x2), (3, .ref (ad q3))]) hx hb d_M_layPlain_1 hl (by decide) rfl (fun ls hl => ?_)
  obtain ⟨KL1_26, eKL1_26, hf⟩ := jn_some hf
  have hKL1_26 : ∀ (v4_1 : Int32) (σL1 : GS) (H : Heap) (locs : List Loc) (ls : Array Slot), va_P D vwCl (wG K ad σL1) H → va_S (GA ad) s.heap H locs → lv_has ls 7 [(0, .ref (ad 63)), (2, .int x2), (3, .ref (ad q3))] → KL1_26 v4_1 σL1 = some z0 → W p l e (rmd 2) s m args below meth c H locs 0 0 (MQ below (QV D K ad z0) args s 0 0 (GA ad)) (F0 m 26 ls []) := by
    clear hf
    intro v4_1 σL1 H locs ls hP hS hl hf
    rw [eKL1_26] at hf
    try dsimp only at hf
    refine lv_iconst (v := (0 : Int32)) hx hb d_M_layPlain_26 (by decide) ?_
    refine lv_istore (lv' := [(4, .int (0 : Int32)), (0, .ref (ad 63)), (2, .int x2), (3, .ref (ad q3))]) hx hb d_M_layPlain_27 hl (by decide) rfl (fun ls hl => ?_)
    obtain ⟨KL2_153, eKL2_153, hf⟩ := jn_some hf
    have hKL2_153 : ∀ (v4_2 : Int32) (σL2 : GS) (H : Heap) (locs : List Loc) (ls : Array Slot), va_P D vwCl (wG K ad σL2) H → va_S (GA ad) s.heap H locs → lv_has ls 7 [] → KL2_153 v4_2 σL2 = some z0 → W p l e (rmd 2) s m args below meth c H locs 0 0 (MQ below (QV D K ad z0) args s 0 0 (GA ad)) (F0 m 153 ls []) := by
      clear hf
      intro v4_2 σL2 H locs ls hP hS hl hf
      rw [eKL2_153] at hf
      try dsimp only at hf
      cases hf
      exact g_vret hC rfl hP hS d_M_layPlain_153
    clear eKL2_153
    have hL2 : ∀ (n : Nat) (v4_2 : Int32) (σL2 : GS) (H : Heap) (locs : List Loc) (ls : Array Slot), va_P D vwCl (wG K ad σL2) H → va_S (GA ad) s.heap H locs → lv_has ls 7 [(0, .ref (ad 63)), (2, .int x2), (3, .ref (ad q3)), (4, .int v4_2)] → F_M_layPlain_29 q1 q3 x2 KL2_153 n v4_2 σL2 = some z0 → W p l e (rmd 2) s m args below meth c H locs 0 0 (MQ below (QV D K ad z0) args s 0 0 (GA ad)) (F0 m 29 ls []) := by
      clear hf
      intro n
      induction n with
      | zero =>
        intro v4_2 σL2 H locs ls hP hS hl hf
        rw [F_M_layPlain_29.eq_1] at hf
        cases hf
      | succ n ih =>
        intro v4_2 σL2 H locs ls hP hS hl hf
        rw [F_M_layPlain_29.eq_2] at hf
        refine lv_iload hx hb d_M_layPlain_29 (lv_at hl 3 rfl) ?_
        refine lv_iload_n hx hb d_M_layPlain_31 rfl (lv_at hl 1 rfl) ?_
        refine lv_icmp_ge (tgt := 153) hx hb d_M_layPlain_32 (by decide) (fun hc21 => ?_) (fun hc21 => ?_)
        · rw [if_pos hc21] at hf
          exact hKL2_153 _ _ _ _ _ hP hS (lv_sub hl [] rfl) hf
        · rw [if_neg hc21] at hf
          refine lv_iconst (v := (-1 : Int32)) hx hb d_M_layPlain_35 (by decide) ?_
          refine lv_istore (lv' := [(5, .int (-1 : Int32)), (0, .ref (ad 63)), (2, .int x2), (3, .ref (ad q3)), (4, .int v4_2)]) hx hb d_M_layPlain_36 hl (by decide) rfl (fun ls hl => ?_)
          refine lv_iconst (v := (0 : Int32)) hx hb d_M_layPlain_38 (by decide) ?_
          refine lv_istore (lv' := [(6, .int (0 : Int32)), (5, .int (-1 : Int32)), (0, .ref (ad 63)), (2, .int x2), (3, .ref (ad q3)), (4, .int v4_2)]) hx hb d_M_layPlain_39 hl (by decide) rfl (fun ls hl => ?_)
          obtain ⟨KL3_99, eKL3_99, hf⟩ := jn_some hf
          have hKL3_99 : ∀ (v5_3 : Int32) (v6_3 : Int32) (H : Heap) (locs : List Loc) (ls : Array Slot), va_P D vwCl (wG K ad σL2) H → va_S (GA ad) s.heap H locs → lv_has ls 7 [(0, .ref (ad 63)), (2, .int x2), (3, .ref (ad q3)), (4, .int v4_2), (5, .int v5_3)] → KL3_99 v5_3 v6_3 = some z0 → W p l e (rmd 2) s m args below meth c H locs 0 0 (MQ below (QV D K ad z0) args s 0 0 (GA ad)) (F0 m 99 ls []) := by
            clear hf
            intro v5_3 v6_3 H locs ls hP hS hl hf
            rw [eKL3_99] at hf
            try dsimp only at hf
            refine lv_aload_n hx hb d_M_layPlain_99 rfl (lv_at hl 2 rfl) ?_
            refine lv_iload hx hb d_M_layPlain_100 (lv_at hl 3 rfl) ?_
            refine lv_aload_n hx hb d_M_layPlain_102 rfl (lv_at hl 0 rfl) ?_
            refine g_get (v := .ref (ad 78)) hC hP o_63 co_M 19 (by decide) rfl fl_M_57 rfl d_M_layPlain_103 ?_
            refine lv_iload hx hb d_M_layPlain_106 (lv_at hl 4 rfl) ?_
            obtain ⟨hg4, hf⟩ := gd_some hf
            refine g_iald2 (j := v5_3.toNatClampNeg) hC hP a_78 hg4 rfl d_M_layPlain_108 ?_
            obtain ⟨hg5, hf⟩ := gd_some hf
            obtain ⟨σ6, eσ6, hf⟩ := jn_some hf
            refine g_iast2 (j := v4_2.toNatClampNeg) hC hP hS h_q3 hg5 rfl d_M_layPlain_109 (fun H locs hP hS => ?_)
            rw [← eσ6] at hP
            refine lv_iload hx hb d_M_layPlain_110 (lv_at hl 4 rfl) ?_
            refine lv_istore (lv' := [(6, .int v5_3), (0, .ref (ad 63)), (2, .int x2), (3, .ref (ad q3)), (4, .int v4_2), (5, .int v5_3)]) hx hb d_M_layPlain_112 hl (by decide) rfl (fun ls hl => ?_)
            obtain ⟨KL7_147, eKL7_147, hf⟩ := jn_some hf
            have hKL7_147 : ∀ (v6_7 : Int32) (σL7 : GS) (H : Heap) (locs : List Loc) (ls : Array Slot), va_P D vwCl (wG K ad σL7) H → va_S (GA ad) s.heap H locs → lv_has ls 7 [(0, .ref (ad 63)), (2, .int x2), (3, .ref (ad q3)), (4, .int v4_2)] → KL7_147 v6_7 σL7 = some z0 → W p l e (rmd 2) s m args below meth c H locs 0 0 (MQ below (QV D K ad z0) args s 0 0 (GA ad)) (F0 m 147 ls []) := by
              clear hf
              intro v6_7 σL7 H locs ls hP hS hl hf
              rw [eKL7_147] at hf
              try dsimp only at hf
              refine lv_iinc (v := v4_2 + 1) (lv' := [(4, .int (v4_2 + 1)), (0, .ref (ad 63)), (2, .int x2), (3, .ref (ad q3))]) hx hb d_M_layPlain_147 hl (k := 3) rfl rfl (by decide) rfl (fun ls hl => ?_)
              refine lv_goto (tgt := 29) hx hb d_M_layPlain_150 (by decide) ?_
              exact ih _ _ _ _ _ hP hS (lv_sub hl [1, 2, 3, 0] rfl) hf
            clear eKL7_147
            have hL7 : ∀ (n : Nat) (v6_7 : Int32) (σL7 : GS) (H : Heap) (locs : List Loc) (ls : Array Slot), va_P D vwCl (wG K ad σL7) H → va_S (GA ad) s.heap H locs → lv_has ls 7 [(0, .ref (ad 63)), (2, .int x2), (3, .ref (ad q3)), (4, .int v4_2), (6, .int v6_7)] → F_M_layPlain_114 q1 q3 x2 v4_2 KL7_147 n v6_7 σL7 = some z0 → W p l e (rmd 2) s m args below meth c H locs 0 0 (MQ below (QV D K ad z0) args s 0 0 (GA ad)) (F0 m 114 ls []) := by
              clear hf
              intro n
              induction n with
              | zero =>
                intro v6_7 σL7 H locs ls hP hS hl hf
                rw [F_M_layPlain_114.eq_1] at hf
                cases hf
              | succ n ih =>
                intro v6_7 σL7 H locs ls hP hS hl hf
                rw [F_M_layPlain_114.eq_2] at hf
                refine lv_iload hx hb d_M_layPlain_114 (lv_at hl 4 rfl) ?_
                refine lv_iload_n hx hb d_M_layPlain_116 rfl (lv_at hl 1 rfl) ?_
                refine lv_iload hx hb d_M_layPlain_117 (lv_at hl 3 rfl) ?_
                refine lv_isub hx hb d_M_layPlain_119 ?_
                refine lv_iconst (v := (1 : Int32)) hx hb d_M_layPlain_120 (by decide) ?_
                refine lv_isub hx hb d_M_layPlain_121 ?_
                refine lv_icmp_ge (tgt := 147) hx hb d_M_layPlain_122 (by decide) (fun hc11 => ?_) (fun hc11 => ?_)
                · rw [if_pos hc11] at hf
                  exact hKL7_147 _ _ _ _ _ hP hS (lv_sub hl [0, 1, 2, 3] rfl) hf
                · rw [if_neg hc11] at hf
                  refine lv_aload_n hx hb d_M_layPlain_125 rfl (lv_at hl 0 rfl) ?_
                  refine g_get (v := .ref (ad 78)) hC hP o_63 co_M 19 (by decide) rfl fl_M_57 rfl d_M_layPlain_126 ?_
                  refine lv_iload hx hb d_M_layPlain_129 (lv_at hl 4 rfl) ?_
                  refine lv_aload_n hx hb d_M_layPlain_131 rfl (lv_at hl 0 rfl) ?_
                  refine g_get (v := .ref (ad 78)) hC hP o_63 co_M 19 (by decide) rfl fl_M_57 rfl d_M_layPlain_132 ?_
                  refine lv_iload hx hb d_M_layPlain_135 (lv_at hl 4 rfl) ?_
                  refine lv_iconst (v := (1 : Int32)) hx hb d_M_layPlain_137 (by decide) ?_
                  refine lv_iadd hx hb d_M_layPlain_138 ?_
                  obtain ⟨hg8, hf⟩ := gd_some hf
                  refine g_iald2 (j := (v6_7 + (1 : Int32)).toNatClampNeg) hC hP a_78 hg8 rfl d_M_layPlain_139 ?_
                  obtain ⟨hg9, hf⟩ := gd_some hf
                  obtain ⟨σ10, eσ10, hf⟩ := jn_some hf
                  refine g_iast2 (j := v6_7.toNatClampNeg) hC hP hS a_78 hg9 rfl d_M_layPlain_140 (fun H locs hP hS => ?_)
                  rw [← eσ10] at hP
                  refine lv_iinc (v := v6_7 + 1) (lv' := [(6, .int (v6_7 + 1)), (0, .ref (ad 63)), (2, .int x2), (3, .ref (ad q3)), (4, .int v4_2)]) hx hb d_M_layPlain_141 hl (k := 4) rfl rfl (by decide) rfl (fun ls hl => ?_)
                  refine lv_goto (tgt := 114) hx hb d_M_layPlain_144 (by decide) ?_
                  exact ih _ _ _ _ _ hP hS (lv_sub hl [1, 2, 3, 4, 0] rfl) hf
            exact hL7 _ _ _ _ _ _ hP hS (lv_sub hl [1, 2, 3, 4, 0] rfl) hf
          clear eKL3_99
          have hL3 : ∀ (n : Nat) (v5_3 : Int32) (v6_3 : Int32) (H : Heap) (locs : List Loc) (ls : Array Slot), va_P D vwCl (wG K ad σL2) H → va_S (GA ad) s.heap H locs → lv_has ls 7 [(0, .ref (ad 63)), (2, .int x2), (3, .ref (ad q3)), (4, .int v4_2), (5, .int v5_3), (6, .int v6_3)] → F_M_layPlain_41 q1 q3 x2 v4_2 σL2 KL3_99 n v5_3 v6_3 = some z0 → W p l e (rmd 2) s m args below meth c H locs 0 0 (MQ below (QV D K ad z0) args s 0 0 (GA ad)) (F0 m 41 ls []) := by
            clear hf
            intro n
            induction n with
            | zero =>
              intro v5_3 v6_3 H locs ls hP hS hl hf
              rw [F_M_layPlain_41.eq_1] at hf
              cases hf
            | succ n ih =>
              intro v5_3 v6_3 H locs ls hP hS hl hf
              rw [F_M_layPlain_41.eq_2] at hf
              refine lv_iload hx hb d_M_layPlain_41 (lv_at hl 5 rfl) ?_
              refine lv_iload_n hx hb d_M_layPlain_43 rfl (lv_at hl 1 rfl) ?_
              refine lv_iload hx hb d_M_layPlain_44 (lv_at hl 3 rfl) ?_
              refine lv_isub hx hb d_M_layPlain_46 ?_
              refine lv_icmp_ge (tgt := 99) hx hb d_M_layPlain_47 (by decide) (fun hc20 => ?_) (fun hc20 => ?_)
              · rw [if_pos hc20] at hf
                exact hKL3_99 _ _ _ _ _ hP hS (lv_sub hl [0, 1, 2, 3, 4] rfl) hf
              · rw [if_neg hc20] at hf
                refine lv_aload_n hx hb d_M_layPlain_50 rfl (lv_at hl 0 rfl) ?_
                refine g_get (v := .ref (ad 78)) hC hP o_63 co_M 19 (by decide) rfl fl_M_57 rfl d_M_layPlain_51 ?_
                refine lv_iload hx hb d_M_layPlain_54 (lv_at hl 5 rfl) ?_
                obtain ⟨r13, hk12, hf⟩ := bp_some hf
                refine g_calli hS (g_runS (As := [.ref (ad 78), .int v6_3]) (rest := []) hC hP (c_M_isFirst hj a_78 hk12) (rk (by decide) (by decide)) nm_M_isFirst cd_M_isFirst it_WideTownModel ml_M_152 sc_M_isFirst rfl hl.1 rfl (Nat.le_of_ble_eq_true rfl) d_M_layPlain_56 zz) (fun H locs hP hS => ?_)
                refine lv_if_eq (tgt := 89) hx hb d_M_layPlain_59 (by decide) (fun hc19 => ?_) (fun hc19 => ?_)
                · rw [if_pos hc19] at hf
                  refine lv_iload hx hb d_M_layPlain_89 (lv_at hl 4 rfl) ?_
                  refine lv_istore (lv' := [(5, .int v5_3), (0, .ref (ad 63)), (2, .int x2), (3, .ref (ad q3)), (4, .int v4_2), (6, .int v6_3)]) hx hb d_M_layPlain_91 hl (by decide) rfl (fun ls hl => ?_)
                  refine lv_iinc (v := v6_3 + 1) (lv' := [(6, .int (v6_3 + 1)), (5, .int v5_3), (0, .ref (ad 63)), (2, .int x2), (3, .ref (ad q3)), (4, .int v4_2)]) hx hb d_M_layPlain_93 hl (k := 5) rfl rfl (by decide) rfl (fun ls hl => ?_)
                  refine lv_goto (tgt := 41) hx hb d_M_layPlain_96 (by decide) ?_
                  exact ih _ _ _ _ _ hP hS (lv_sub hl [2, 3, 4, 5, 1, 0] rfl) hf
                · rw [if_neg hc19] at hf
                  refine lv_iload hx hb d_M_layPlain_62 (lv_at hl 4 rfl) ?_
                  obtain ⟨J14, eJ14, hf⟩ := jn_some hf
                  have hJ14 : ∀ (dJ14 : Unit) (H : Heap) (locs : List Loc) (ls : Array Slot), va_P D vwCl (wG K ad σL2) H → va_S (GA ad) s.heap H locs → lv_has ls 7 [(0, .ref (ad 63)), (2, .int x2), (3, .ref (ad q3)), (4, .int v4_2), (6, .int v6_3)] → J14 dJ14 = some z0 → W p l e (rmd 2) s m args below meth c H locs 0 0 (MQ below (QV D K ad z0) args s 0 0 (GA ad)) (F0 m 84 ls []) := by
                    clear hf
                    intro dJ14 H locs ls hP hS hl hf
                    rw [eJ14] at hf
                    try dsimp only at hf
                    refine lv_iload hx hb d_M_layPlain_84 (lv_at hl 4 rfl) ?_
                    refine lv_goto (tgt := 91) hx hb d_M_layPlain_86 (by decide) ?_
                    refine lv_istore (lv' := [(5, .int v6_3), (0, .ref (ad 63)), (2, .int x2), (3, .ref (ad q3)), (4, .int v4_2), (6, .int v6_3)]) hx hb d_M_layPlain_91 hl (by decide) rfl (fun ls hl => ?_)
                    refine lv_iinc (v := v6_3 + 1) (lv' := [(6, .int (v6_3 + 1)), (5, .int v6_3), (0, .ref (ad 63)), (2, .int x2), (3, .ref (ad q3)), (4, .int v4_2)]) hx hb d_M_layPlain_93 hl (k := 5) rfl rfl (by decide) rfl (fun ls hl => ?_)
                    refine lv_goto (tgt := 41) hx hb d_M_layPlain_96 (by decide) ?_
                    exact ih _ _ _ _ _ hP hS (lv_sub hl [2, 3, 4, 5, 1, 0] rfl) hf
                  clear eJ14
                  refine lv_if_lt (tgt := 84) hx hb d_M_layPlain_64 (by decide) (fun hc18 => ?_) (fun hc18 => ?_)
                  · rw [if_pos hc18] at hf
                    exact hJ14 _ _ _ _ hP hS (lv_sub hl [0, 1, 2, 3, 5] rfl) hf
                  · rw [if_neg hc18] at hf
                    refine lv_aload_n hx hb d_M_layPlain_67 rfl (lv_at hl 0 rfl) ?_
                    refine g_get (v := .ref (ad 78)) hC hP o_63 co_M 19 (by decide) rfl fl_M_57 rfl d_M_layPlain_68 ?_
                    refine lv_iload hx hb d_M_layPlain_71 (lv_at hl 5 rfl) ?_
                    obtain ⟨hg15, hf⟩ := gd_some hf
                    refine g_iald2 (j := v6_3.toNatClampNeg) hC hP a_78 hg15 rfl d_M_layPlain_73 ?_
                    refine lv_aload_n hx hb d_M_layPlain_74 rfl (lv_at hl 0 rfl) ?_
                    refine g_get (v := .ref (ad 78)) hC hP o_63 co_M 19 (by decide) rfl fl_M_57 rfl d_M_layPlain_75 ?_
                    refine lv_iload hx hb d_M_layPlain_78 (lv_at hl 4 rfl) ?_
                    obtain ⟨hg16, hf⟩ := gd_some hf
                    refine g_iald2 (j := v5_3.toNatClampNeg) hC hP a_78 hg16 rfl d_M_layPlain_80 ?_
                    refine lv_icmp_ge (tgt := 89) hx hb d_M_layPlain_81 (by decide) (fun hc17 => ?_) (fun hc17 => ?_)
                    · rw [if_pos hc17] at hf
                      refine lv_iload hx hb d_M_layPlain_89 (lv_at hl 4 rfl) ?_
                      refine lv_istore (lv' := [(5, .int v5_3), (0, .ref (ad 63)), (2, .int x2), (3, .ref (ad q3)), (4, .int v4_2), (6, .int v6_3)]) hx hb d_M_layPlain_91 hl (by decide) rfl (fun ls hl => ?_)
                      refine lv_iinc (v := v6_3 + 1) (lv' := [(6, .int (v6_3 + 1)), (5, .int v5_3), (0, .ref (ad 63)), (2, .int x2), (3, .ref (ad q3)), (4, .int v4_2)]) hx hb d_M_layPlain_93 hl (k := 5) rfl rfl (by decide) rfl (fun ls hl => ?_)
                      refine lv_goto (tgt := 41) hx hb d_M_layPlain_96 (by decide) ?_
                      exact ih _ _ _ _ _ hP hS (lv_sub hl [2, 3, 4, 5, 1, 0] rfl) hf
                    · rw [if_neg hc17] at hf
                      exact hJ14 _ _ _ _ hP hS (lv_sub hl [0, 1, 2, 3, 5] rfl) hf
          exact hL3 _ _ _ _ _ _ hP hS (lv_sub hl [2, 3, 4, 5, 1, 0] rfl) hf
    exact hL2 _ _ _ _ _ _ hP hS (lv_sub hl [1, 2, 3, 0] rfl) hf
  clear eKL1_26
  have hL1 : ∀ (n : Nat) (v4_1 : Int32) (σL1 : GS) (H : Heap) (locs : List Loc) (ls : Array Slot), va_P D vwCl (wG K ad σL1) H → va_S (GA ad) s.heap H locs → lv_has ls 7 [(0, .ref (ad 63)), (1, .ref (ad q1)), (2, .int x2), (3, .ref (ad q3)), (4, .int v4_1)] → F_M_layPlain_3 q1 q3 x2 KL1_26 n v4_1 σL1 = some z0 → W p l e (rmd 2) s m args below meth c H locs 0 0 (MQ below (QV D K ad z0) args s 0 0 (GA ad)) (F0 m 3 ls []) := by
    clear hf
    intro n
    induction n with
    | zero =>
      intro v4_1 σL1 H locs ls hP hS hl hf
      rw [F_M_layPlain_3.eq_1] at hf
      cases hf
    | succ n ih =>
      intro v4_1 σL1 H locs ls hP hS hl hf
      rw [F_M_layPlain_3.eq_2] at hf
      refine lv_iload hx hb d_M_layPlain_3 (lv_at hl 4 rfl) ?_
      refine lv_iload_n hx hb d_M_layPlain_5 rfl (lv_at hl 2 rfl) ?_
      refine lv_icmp_ge (tgt := 26) hx hb d_M_layPlain_6 (by decide) (fun hc25 => ?_) (fun hc25 => ?_)
      · rw [if_pos hc25] at hf
        exact hKL1_26 _ _ _ _ _ hP hS (lv_sub hl [0, 2, 3] rfl) hf
      · rw [if_neg hc25] at hf
        refine lv_aload_n hx hb d_M_layPlain_9 rfl (lv_at hl 0 rfl) ?_
        refine g_get (v := .ref (ad 78)) hC hP o_63 co_M 19 (by decide) rfl fl_M_57 rfl d_M_layPlain_10 ?_
        refine lv_iload hx hb d_M_layPlain_13 (lv_at hl 4 rfl) ?_
        refine lv_aload_n hx hb d_M_layPlain_15 rfl (lv_at hl 1 rfl) ?_
        refine lv_iload hx hb d_M_layPlain_16 (lv_at hl 4 rfl) ?_
        obtain ⟨hg22, hf⟩ := gd_some hf
        refine g_iald2 (j := v4_1.toNatClampNeg) hC hP h_q1 hg22 rfl d_M_layPlain_18 ?_
        obtain ⟨hg23, hf⟩ := gd_some hf
        obtain ⟨σ24, eσ24, hf⟩ := jn_some hf
        refine g_iast2 (j := v4_1.toNatClampNeg) hC hP hS a_78 hg23 rfl d_M_layPlain_19 (fun H locs hP hS => ?_)
        rw [← eσ24] at hP
        refine lv_iinc (v := v4_1 + 1) (lv' := [(4, .int (v4_1 + 1)), (0, .ref (ad 63)), (1, .ref (ad q1)), (2, .int x2), (3, .ref (ad q3))]) hx hb d_M_layPlain_20 hl (k := 4) rfl rfl (by decide) rfl (fun ls hl => ?_)
        refine lv_goto (tgt := 3) hx hb d_M_layPlain_23 (by decide) ?_
        exact ih _ _ _ _ _ hP hS (lv_sub hl [1, 2, 3, 4, 0] rfl) hf
  exact hL1 _ _ _ _ _ _ hP hS (lv_sub hl [1, 2, 3, 4, 0] rfl) hf
set_option maxHeartbeats 4000000 in
set_option maxRecDepth 100000 in
theorem c_M_codeOf {l : Launch} {D : va_G} {K : Nat → ClassId} {ad : Nat → Nat} (hj : inj ad) {q1 : Nat} (h_q1 : isA K ad q1 0 64) {x2 : Int32} {σ : GS} {z0 : Int32 × GS} (hf : F_M_codeOf q1 x2 σ = some z0) : CT l D K ad y_M_codeOf b_M_codeOf 5 (some .int) 3 [.ref (ad 63), .ref (ad q1), .int x2] σ (QI D K ad z0.1 z0.2) := by
  refine CT.intro hj (by decide) (Nat.le_of_ble_eq_true rfl) ?_
  intro p e s m args below meth c ls hC hP hS hl
  obtain ⟨hx, hb, -, hown, hts, -⟩ := id hC
  have hl : lv_has ls 5 [(0, .ref (ad 63)), (1, .ref (ad q1)), (2, .int x2)] := hl
  rw [F_M_codeOf] at hf
  refine lv_aload_n hx hb d_M_codeOf_0 rfl (lv_at hl 0 rfl) ?_
  refine lv_aload_n hx hb d_M_codeOf_1 rfl (lv_at hl 1 rfl) ?_
  refine lv_iload_n hx hb d_M_codeOf_2 rfl (lv_at hl 2 rfl) ?_
  refine lv_aload_n hx hb d_M_codeOf_3 rfl (lv_at hl 0 rfl) ?_
  refine g_get (v := .ref (ad 79)) hC hP o_63 co_M 20 (by decide) rfl fl_M_60 rfl d_M_codeOf_4 ?_
  obtain ⟨σ2, hk1, hf⟩ := bv_some hf
  refine g_callv hS (g_runV (As := [.ref (ad q1), .int x2, .ref (ad 79)]) (rest := []) hC hP (c_M_layPlain hj h_q1 a_79 hk1) (rk (by decide) (by decide)) nm_M_layPlain cd_M_layPlain it_WideTownModel ml_M_156 im_M_layPlain sl_M_layPlain o_63 co_M rfl hl.1 rfl (Nat.le_of_ble_eq_true rfl) d_M_codeOf_7 zz) (fun H locs hP hS => ?_)
  refine lv_iconst (v := (0 : Int32)) hx hb d_M_codeOf_10 (by decide) ?_
  refine lv_istore_n (lv' := [(3, .int (0 : Int32)), (0, .ref (ad 63)), (1, .ref (ad q1)), (2, .int x2)]) hx hb d_M_codeOf_11 rfl hl (by decide) rfl (fun ls hl => ?_)
  refine lv_iconst (v := (0 : Int32)) hx hb d_M_codeOf_12 (by decide) ?_
  refine lv_istore (lv' := [(4, .int (0 : Int32)), (3, .int (0 : Int32)), (0, .ref (ad 63)), (1, .ref (ad q1)), (2, .int x2)]) hx hb d_M_codeOf_13 hl (by decide) rfl (fun ls hl => ?_)
  obtain ⟨KL3_42, eKL3_42, hf⟩ := jn_some hf
  have hKL3_42 : ∀ (v3_3 : Int32) (v4_3 : Int32) (H : Heap) (locs : List Loc) (ls : Array Slot), va_P D vwCl (wG K ad σ2) H → va_S (GA ad) s.heap H locs → lv_has ls 5 [(3, .int v3_3)] → KL3_42 v3_3 v4_3 = some z0 → W p l e (rmd 3) s m args below meth c H locs 0 0 (MQ below (QI D K ad z0.1 z0.2) args s 0 0 (GA ad)) (F0 m 42 ls []) := by
    clear hf
    intro v3_3 v4_3 H locs ls hP hS hl hf
    rw [eKL3_42] at hf
    try dsimp only at hf
    refine lv_iload_n hx hb d_M_codeOf_42 rfl (lv_at hl 0 rfl) ?_
    cases hf
    exact g_iret hC rfl hP hS d_M_codeOf_43
  clear eKL3_42
  have hL3 : ∀ (n : Nat) (v3_3 : Int32) (v4_3 : Int32) (H : Heap) (locs : List Loc) (ls : Array Slot), va_P D vwCl (wG K ad σ2) H → va_S (GA ad) s.heap H locs → lv_has ls 5 [(0, .ref (ad 63)), (2, .int x2), (3, .int v3_3), (4, .int v4_3)] → F_M_codeOf_15 q1 x2 σ2 KL3_42 n v3_3 v4_3 = some z0 → W p l e (rmd 3) s m args below meth c H locs 0 0 (MQ below (QI D K ad z0.1 z0.2) args s 0 0 (GA ad)) (F0 m 15 ls []) := by
    clear hf
    intro n
    induction n with
    | zero =>
      intro v3_3 v4_3 H locs ls hP hS hl hf
      rw [F_M_codeOf_15.eq_1] at hf
      cases hf
    | succ n ih =>
      intro v3_3 v4_3 H locs ls hP hS hl hf
      rw [F_M_codeOf_15.eq_2] at hf
      refine lv_iload hx hb d_M_codeOf_15 (lv_at hl 3 rfl) ?_
      refine lv_iload_n hx hb d_M_codeOf_17 rfl (lv_at hl 1 rfl) ?_
      refine lv_icmp_ge (tgt := 42) hx hb d_M_codeOf_18 (by decide) (fun hc5 => ?_) (fun hc5 => ?_)
      · rw [if_pos hc5] at hf
        exact hKL3_42 _ _ _ _ _ hP hS (lv_sub hl [2] rfl) hf
      · rw [if_neg hc5] at hf
        refine lv_bipush (v := (10 : Int32)) hx hb d_M_codeOf_21 (by decide) ?_
        refine lv_iload_n hx hb d_M_codeOf_23 rfl (lv_at hl 2 rfl) ?_
        refine lv_imul hx hb d_M_codeOf_24 ?_
        refine lv_aload_n hx hb d_M_codeOf_25 rfl (lv_at hl 0 rfl) ?_
        refine g_get (v := .ref (ad 79)) hC hP o_63 co_M 20 (by decide) rfl fl_M_60 rfl d_M_codeOf_26 ?_
        refine lv_iload hx hb d_M_codeOf_29 (lv_at hl 3 rfl) ?_
        obtain ⟨hg4, hf⟩ := gd_some hf
        refine g_iald2 (j := v4_3.toNatClampNeg) hC hP a_79 hg4 rfl d_M_codeOf_31 ?_
        refine lv_iadd hx hb d_M_codeOf_32 ?_
        refine lv_iconst (v := (1 : Int32)) hx hb d_M_codeOf_33 (by decide) ?_
        refine lv_iadd hx hb d_M_codeOf_34 ?_
        refine lv_istore_n (lv' := [(3, .int ((((10 : Int32) * v3_3) + (σ2.1 79 v4_3.toNatClampNeg)) + (1 : Int32))), (0, .ref (ad 63)), (2, .int x2), (4, .int v4_3)]) hx hb d_M_codeOf_35 rfl hl (by decide) rfl (fun ls hl => ?_)
        refine lv_iinc (v := v4_3 + 1) (lv' := [(4, .int (v4_3 + 1)), (3, .int ((((10 : Int32) * v3_3) + (σ2.1 79 v4_3.toNatClampNeg)) + (1 : Int32))), (0, .ref (ad 63)), (2, .int x2)]) hx hb d_M_codeOf_36 hl (k := 3) rfl rfl (by decide) rfl (fun ls hl => ?_)
        refine lv_goto (tgt := 15) hx hb d_M_codeOf_39 (by decide) ?_
        exact ih _ _ _ _ _ hP hS (lv_sub hl [2, 3, 1, 0] rfl) hf
  exact hL3 _ _ _ _ _ _ hP hS (lv_sub hl [2, 4, 1, 0] rfl) hf
set_option maxHeartbeats 4000000 in
set_option maxRecDepth 100000 in
theorem c_M_takesWalker {l : Launch} {D : va_G} {K : Nat → ClassId} {ad : Nat → Nat} (hj : inj ad)   {x1 : Int32} {σ : GS} {z0 : Int32 × GS} (hf : F_M_takesWalker x1 σ = some z0) : CT l D K ad y_M_takesWalker b_M_takesWalker 6 (some .boolean) 4 [.ref (ad 63), .int x1] σ (QI D K ad z0.1 z0.2) := by
  refine CT.intro hj (by decide) (Nat.le_of_ble_eq_true rfl) ?_
  intro p e s m args below meth c ls hC hP hS hl
  obtain ⟨hx, hb, -, hown, hts, -⟩ := id hC
  have hl : lv_has ls 6 [(0, .ref (ad 63)), (1, .int x1)] := hl
  rw [F_M_takesWalker] at hf
  refine lv_aload_n hx hb d_M_takesWalker_0 rfl (lv_at hl 0 rfl) ?_
  refine g_get (v := .ref (ad 74)) hC hP o_63 co_M 14 (by decide) rfl fl_M_45 rfl d_M_takesWalker_1 ?_
  refine lv_iconst (v := (0 : Int32)) hx hb d_M_takesWalker_4 (by decide) ?_
  refine g_iald2 (j := 0) hC hP a_74 (by decide) rfl d_M_takesWalker_5 ?_
  refine lv_istore_n (lv' := [(2, .int (σ.1 74 0)), (0, .ref (ad 63)), (1, .int x1)]) hx hb d_M_takesWalker_6 rfl hl (by decide) rfl (fun ls hl => ?_)
  refine lv_aload_n hx hb d_M_takesWalker_7 rfl (lv_at hl 1 rfl) ?_
  refine lv_iload_n hx hb d_M_takesWalker_8 rfl (lv_at hl 2 rfl) ?_
  obtain ⟨r2, hk1, hf⟩ := bp_some hf
  refine g_calli hS (g_runV (As := [.int x1]) (rest := []) hC hP (c_M_byteAt hj  hk1) (rk (by decide) (by decide)) nm_M_byteAt cd_M_byteAt it_WideTownModel ml_M_125 im_M_byteAt sl_M_byteAt o_63 co_M rfl hl.1 rfl (Nat.le_of_ble_eq_true rfl) d_M_takesWalker_9 zz) (fun H locs hP hS => ?_)
  obtain ⟨r4, hk3, hf⟩ := bp_some hf
  refine g_calli hS (g_runS (As := [.int r2]) (rest := []) hC hP (c_M_kindOf hj  hk3) (rk (by decide) (by decide)) nm_M_kindOf cd_M_kindOf it_WideTownModel ml_M_128 sc_M_kindOf rfl hl.1 rfl (Nat.le_of_ble_eq_true rfl) d_M_takesWalker_12 zz) (fun H locs hP hS => ?_)
  refine lv_istore_n (lv' := [(3, .int r4), (2, .int (σ.1 74 0)), (0, .ref (ad 63)), (1, .int x1)]) hx hb d_M_takesWalker_15 rfl hl (by decide) rfl (fun ls hl => ?_)
  refine lv_iload_n hx hb d_M_takesWalker_16 rfl (lv_at hl 0 rfl) ?_
  refine lv_if_lt (tgt := 25) hx hb d_M_takesWalker_17 (by decide) (fun hc49 => ?_) (fun hc49 => ?_)
  · rw [if_pos hc49] at hf
    refine lv_iconst (v := (0 : Int32)) hx hb d_M_takesWalker_25 (by decide) ?_
    cases hf
    exact g_zret hC rfl (by decide) hP hS d_M_takesWalker_26
  · rw [if_neg hc49] at hf
    refine lv_iload_n hx hb d_M_takesWalker_20 rfl (lv_at hl 1 rfl) ?_
    refine lv_iconst (v := (5 : Int32)) hx hb d_M_takesWalker_21 (by decide) ?_
    refine lv_icmp_ne (tgt := 27) hx hb d_M_takesWalker_22 (by decide) (fun hc48 => ?_) (fun hc48 => ?_)
    · rw [if_neg hc48] at hf
      refine lv_aload_n hx hb d_M_takesWalker_27 rfl (lv_at hl 2 rfl) ?_
      refine lv_dup hx hb d_M_takesWalker_28 rfl ?_
      refine g_get (v := .int (σ.1 63 15)) hC hP o_63 co_M 15 (by decide) rfl fl_M_122 rfl d_M_takesWalker_29 ?_
      refine lv_iconst (v := (1 : Int32)) hx hb d_M_takesWalker_32 (by decide) ?_
      refine lv_iadd hx hb d_M_takesWalker_33 ?_
      obtain ⟨σ5, eσ5, hf⟩ := jn_some hf
      refine g_puti hC hP hS o_63 co_M 15 (by decide) rfl fl_M_122 rfl (to_M 15 (by decide)) (Nat.le_of_ble_eq_true rfl) rfl d_M_takesWalker_34 (fun H locs hP hS => ?_)
      rw [← eσ5] at hP
      refine lv_aload_n hx hb d_M_takesWalker_37 rfl (lv_at hl 2 rfl) ?_
      refine lv_iload_n hx hb d_M_takesWalker_38 rfl (lv_at hl 3 rfl) ?_
      obtain ⟨r7, hk6, hf⟩ := bp_some hf
      refine g_calli hS (g_runV (As := [.int x1]) (rest := []) hC hP (c_M_byteAt hj  hk6) (rk (by decide) (by decide)) nm_M_byteAt cd_M_byteAt it_WideTownModel ml_M_125 im_M_byteAt sl_M_byteAt o_63 co_M rfl hl.1 rfl (Nat.le_of_ble_eq_true rfl) d_M_takesWalker_39 zz) (fun H locs hP hS => ?_)
      refine lv_bipush (v := (48 : Int32)) hx hb d_M_takesWalker_42 (by decide) ?_
      refine lv_isub hx hb d_M_takesWalker_44 ?_
      obtain ⟨r9, hk8, hf⟩ := bp_some hf
      refine g_calli hS (g_runS (As := [.int (r7 - (48 : Int32))]) (rest := []) hC hP (c_M_isStreet hj  hk8) (rk (by decide) (by decide)) nm_M_isStreet cd_M_isStreet it_WideTownModel ml_M_131 sc_M_isStreet rfl hl.1 rfl (Nat.le_of_ble_eq_true rfl) d_M_takesWalker_45 zz) (fun H locs hP hS => ?_)
      refine lv_if_ne (tgt := 53) hx hb d_M_takesWalker_48 (by decide) (fun hc47 => ?_) (fun hc47 => ?_)
      · rw [if_neg hc47] at hf
        refine lv_aload_n hx hb d_M_takesWalker_53 rfl (lv_at hl 2 rfl) ?_
        refine g_get (v := .ref (ad 74)) hC hP o_63 co_M 14 (by decide) rfl fl_M_45 rfl d_M_takesWalker_54 ?_
        refine lv_iconst (v := (2 : Int32)) hx hb d_M_takesWalker_57 (by decide) ?_
        refine lv_iload_n hx hb d_M_takesWalker_58 rfl (lv_at hl 1 rfl) ?_
        refine lv_iadd hx hb d_M_takesWalker_59 ?_
        refine lv_iload_n hx hb d_M_takesWalker_60 rfl (lv_at hl 0 rfl) ?_
        obtain ⟨hg10, hf⟩ := gd_some hf
        obtain ⟨σ11, eσ11, hf⟩ := jn_some hf
        refine g_iast2 (j := ((2 : Int32) + (σ.1 74 0)).toNatClampNeg) hC hP hS a_74 hg10 rfl d_M_takesWalker_61 (fun H locs hP hS => ?_)
        rw [← eσ11] at hP
        refine lv_aload_n hx hb d_M_takesWalker_62 rfl (lv_at hl 2 rfl) ?_
        refine g_get (v := .ref (ad 74)) hC hP o_63 co_M 14 (by decide) rfl fl_M_45 rfl d_M_takesWalker_63 ?_
        refine lv_bipush (v := (12 : Int32)) hx hb d_M_takesWalker_66 (by decide) ?_
        refine lv_iload_n hx hb d_M_takesWalker_68 rfl (lv_at hl 1 rfl) ?_
        refine lv_iadd hx hb d_M_takesWalker_69 ?_
        refine lv_aload_n hx hb d_M_takesWalker_70 rfl (lv_at hl 2 rfl) ?_
        refine lv_iload_n hx hb d_M_takesWalker_71 rfl (lv_at hl 3 rfl) ?_
        obtain ⟨r13, hk12, hf⟩ := bp_some hf
        refine g_calli hS (g_runV (As := [.int x1]) (rest := [.int ((12 : Int32) + (σ.1 74 0)), .ref (ad 74)]) hC hP (c_M_byteAt hj  hk12) (rk (by decide) (by decide)) nm_M_byteAt cd_M_byteAt it_WideTownModel ml_M_125 im_M_byteAt sl_M_byteAt o_63 co_M rfl hl.1 rfl (Nat.le_of_ble_eq_true rfl) d_M_takesWalker_72 zz) (fun H locs hP hS => ?_)
        refine lv_bipush (v := (48 : Int32)) hx hb d_M_takesWalker_75 (by decide) ?_
        refine lv_isub hx hb d_M_takesWalker_77 ?_
        obtain ⟨hg14, hf⟩ := gd_some hf
        obtain ⟨σ15, eσ15, hf⟩ := jn_some hf
        refine g_iast2 (j := ((12 : Int32) + (σ.1 74 0)).toNatClampNeg) hC hP hS a_74 hg14 rfl d_M_takesWalker_78 (fun H locs hP hS => ?_)
        rw [← eσ15] at hP
        refine lv_aload_n hx hb d_M_takesWalker_79 rfl (lv_at hl 2 rfl) ?_
        refine lv_dup hx hb d_M_takesWalker_80 rfl ?_
        refine g_get (v := .int (σ15.1 63 15)) hC hP o_63 co_M 15 (by decide) rfl fl_M_122 rfl d_M_takesWalker_81 ?_
        refine lv_iconst (v := (1 : Int32)) hx hb d_M_takesWalker_84 (by decide) ?_
        refine lv_iadd hx hb d_M_takesWalker_85 ?_
        obtain ⟨σ16, eσ16, hf⟩ := jn_some hf
        refine g_puti hC hP hS o_63 co_M 15 (by decide) rfl fl_M_122 rfl (to_M 15 (by decide)) (Nat.le_of_ble_eq_true rfl) rfl d_M_takesWalker_86 (fun H locs hP hS => ?_)
        rw [← eσ16] at hP
        refine lv_iconst (v := (0 : Int32)) hx hb d_M_takesWalker_89 (by decide) ?_
        refine lv_istore (lv' := [(4, .int (0 : Int32)), (3, .int r4), (2, .int (σ.1 74 0)), (0, .ref (ad 63)), (1, .int x1)]) hx hb d_M_takesWalker_90 hl (by decide) rfl (fun ls hl => ?_)
        refine lv_iconst (v := (0 : Int32)) hx hb d_M_takesWalker_92 (by decide) ?_
        refine lv_istore (lv' := [(5, .int (0 : Int32)), (4, .int (0 : Int32)), (3, .int r4), (2, .int (σ.1 74 0)), (0, .ref (ad 63)), (1, .int x1)]) hx hb d_M_takesWalker_93 hl (by decide) rfl (fun ls hl => ?_)
        obtain ⟨u2_17, eu2_17, hf⟩ := jn_some hf
        have hl : lv_has ls 6 [(5, .int (0 : Int32)), (4, .int (0 : Int32)), (3, .int r4), (2, .int u2_17), (0, .ref (ad 63)), (1, .int x1)] := by rw [eu2_17]; exact hl
        obtain ⟨KL18_150, eKL18_150, hf⟩ := jn_some hf
        have hKL18_150 : ∀ (v4_18 : Int32) (v5_18 : Int32) (σL18 : GS) (H : Heap) (locs : List Loc) (ls : Array Slot), va_P D vwCl (wG K ad σL18) H → va_S (GA ad) s.heap H locs → lv_has ls 6 [(0, .ref (ad 63)), (1, .int x1), (2, .int u2_17), (4, .int v4_18)] → KL18_150 v4_18 v5_18 σL18 = some z0 → W p l e (rmd 4) s m args below meth c H locs 0 0 (MQ below (QI D K ad z0.1 z0.2) args s 0 0 (GA ad)) (F0 m 150 ls []) := by
          clear hf
          intro v4_18 v5_18 σL18 H locs ls hP hS hl hf
          rw [eKL18_150] at hf
          try dsimp only at hf
          refine lv_aload_n hx hb d_M_takesWalker_150 rfl (lv_at hl 0 rfl) ?_
          refine g_get (v := .ref (ad 74)) hC hP o_63 co_M 14 (by decide) rfl fl_M_45 rfl d_M_takesWalker_151 ?_
          refine lv_bipush (v := (7 : Int32)) hx hb d_M_takesWalker_154 (by decide) ?_
          refine lv_iload_n hx hb d_M_takesWalker_156 rfl (lv_at hl 2 rfl) ?_
          refine lv_iadd hx hb d_M_takesWalker_157 ?_
          refine lv_aload_n hx hb d_M_takesWalker_158 rfl (lv_at hl 0 rfl) ?_
          refine lv_aload_n hx hb d_M_takesWalker_159 rfl (lv_at hl 0 rfl) ?_
          refine g_get (v := .ref (ad 75)) hC hP o_63 co_M 16 (by decide) rfl fl_M_48 rfl d_M_takesWalker_160 ?_
          refine lv_iload hx hb d_M_takesWalker_163 (lv_at hl 3 rfl) ?_
          obtain ⟨r20, σ21, hk19, hf⟩ := bc_some hf
          refine g_calli hS (g_runV (As := [.ref (ad 75), .int v4_18]) (rest := [.int ((7 : Int32) + u2_17), .ref (ad 74)]) hC hP (c_M_codeOf hj a_75 hk19) (rk (by decide) (by decide)) nm_M_codeOf cd_M_codeOf it_WideTownModel ml_M_138 im_M_codeOf sl_M_codeOf o_63 co_M rfl hl.1 rfl (Nat.le_of_ble_eq_true rfl) d_M_takesWalker_165 zz) (fun H locs hP hS => ?_)
          obtain ⟨hg22, hf⟩ := gd_some hf
          obtain ⟨σ23, eσ23, hf⟩ := jn_some hf
          refine g_iast2 (j := ((7 : Int32) + u2_17).toNatClampNeg) hC hP hS a_74 hg22 rfl d_M_takesWalker_168 (fun H locs hP hS => ?_)
          rw [← eσ23] at hP
          refine lv_aload_n hx hb d_M_takesWalker_169 rfl (lv_at hl 0 rfl) ?_
          refine g_get (v := .ref (ad 74)) hC hP o_63 co_M 14 (by decide) rfl fl_M_45 rfl d_M_takesWalker_170 ?_
          refine lv_iconst (v := (0 : Int32)) hx hb d_M_takesWalker_173 (by decide) ?_
          refine lv_dup2_11 hx hb d_M_takesWalker_174 rfl rfl ?_
          refine g_iald2 (j := 0) hC hP a_74 (by decide) rfl d_M_takesWalker_175 ?_
          refine lv_iconst (v := (1 : Int32)) hx hb d_M_takesWalker_176 (by decide) ?_
          refine lv_iadd hx hb d_M_takesWalker_177 ?_
          obtain ⟨σ24, eσ24, hf⟩ := jn_some hf
          refine g_iast2 (j := 0) hC hP hS a_74 (by decide) rfl d_M_takesWalker_178 (fun H locs hP hS => ?_)
          rw [← eσ24] at hP
          refine lv_aload_n hx hb d_M_takesWalker_179 rfl (lv_at hl 0 rfl) ?_
          refine g_get (v := .int (σ24.1 63 15)) hC hP o_63 co_M 15 (by decide) rfl fl_M_122 rfl d_M_takesWalker_180 ?_
          refine lv_aload_n hx hb d_M_takesWalker_183 rfl (lv_at hl 0 rfl) ?_
          refine g_get (v := .ref (ad 66)) hC hP o_63 co_M 2 (by decide) rfl fl_M_16 rfl d_M_takesWalker_184 ?_
          refine lv_iload_n hx hb d_M_takesWalker_187 rfl (lv_at hl 1 rfl) ?_
          obtain ⟨hg25, hf⟩ := gd_some hf
          refine g_iald2 (j := x1.toNatClampNeg) hC hP a_66 hg25 rfl d_M_takesWalker_188 ?_
          refine lv_icmp_eq (tgt := 213) hx hb d_M_takesWalker_189 (by decide) (fun hc34 => ?_) (fun hc34 => ?_)
          · rw [if_pos hc34] at hf
            refine lv_iconst (v := (1 : Int32)) hx hb d_M_takesWalker_213 (by decide) ?_
            refine lv_goto (tgt := 218) hx hb d_M_takesWalker_214 (by decide) ?_
            cases hf
            exact g_zret hC rfl (by decide) hP hS d_M_takesWalker_218
          · rw [if_neg hc34] at hf
            refine lv_aload_n hx hb d_M_takesWalker_192 rfl (lv_at hl 0 rfl) ?_
            refine lv_iload_n hx hb d_M_takesWalker_193 rfl (lv_at hl 1 rfl) ?_
            obtain ⟨r27, hk26, hf⟩ := bp_some hf
            refine g_calli hS (g_runV (As := [.int x1]) (rest := []) hC hP (c_M_byteAt hj  hk26) (rk (by decide) (by decide)) nm_M_byteAt cd_M_byteAt it_WideTownModel ml_M_125 im_M_byteAt sl_M_byteAt o_63 co_M rfl hl.1 rfl (Nat.le_of_ble_eq_true rfl) d_M_takesWalker_194 zz) (fun H locs hP hS => ?_)
            refine lv_bipush (v := (32 : Int32)) hx hb d_M_takesWalker_197 (by decide) ?_
            refine lv_icmp_eq (tgt := 213) hx hb d_M_takesWalker_199 (by decide) (fun hc33 => ?_) (fun hc33 => ?_)
            · rw [if_pos hc33] at hf
              refine lv_iconst (v := (1 : Int32)) hx hb d_M_takesWalker_213 (by decide) ?_
              refine lv_goto (tgt := 218) hx hb d_M_takesWalker_214 (by decide) ?_
              cases hf
              exact g_zret hC rfl (by decide) hP hS d_M_takesWalker_218
            · rw [if_neg hc33] at hf
              refine lv_aload_n hx hb d_M_takesWalker_202 rfl (lv_at hl 0 rfl) ?_
              refine lv_iload_n hx hb d_M_takesWalker_203 rfl (lv_at hl 1 rfl) ?_
              obtain ⟨r29, hk28, hf⟩ := bp_some hf
              refine g_calli hS (g_runV (As := [.int x1]) (rest := []) hC hP (c_M_byteAt hj  hk28) (rk (by decide) (by decide)) nm_M_byteAt cd_M_byteAt it_WideTownModel ml_M_125 im_M_byteAt sl_M_byteAt o_63 co_M rfl hl.1 rfl (Nat.le_of_ble_eq_true rfl) d_M_takesWalker_204 zz) (fun H locs hP hS => ?_)
              obtain ⟨r31, hk30, hf⟩ := bp_some hf
              refine g_calli hS (g_runS (As := [.int r29]) (rest := []) hC hP (c_M_kindOf hj  hk30) (rk (by decide) (by decide)) nm_M_kindOf cd_M_kindOf it_WideTownModel ml_M_128 sc_M_kindOf rfl hl.1 rfl (Nat.le_of_ble_eq_true rfl) d_M_takesWalker_207 zz) (fun H locs hP hS => ?_)
              refine lv_if_lt (tgt := 217) hx hb d_M_takesWalker_210 (by decide) (fun hc32 => ?_) (fun hc32 => ?_)
              · rw [if_pos hc32] at hf
                refine lv_iconst (v := (0 : Int32)) hx hb d_M_takesWalker_217 (by decide) ?_
                cases hf
                exact g_zret hC rfl (by decide) hP hS d_M_takesWalker_218
              · rw [if_neg hc32] at hf
                refine lv_iconst (v := (1 : Int32)) hx hb d_M_takesWalker_213 (by decide) ?_
                refine lv_goto (tgt := 218) hx hb d_M_takesWalker_214 (by decide) ?_
                cases hf
                exact g_zret hC rfl (by decide) hP hS d_M_takesWalker_218
        clear eKL18_150
        have hL18 : ∀ (n : Nat) (v4_18 : Int32) (v5_18 : Int32) (σL18 : GS) (H : Heap) (locs : List Loc) (ls : Array Slot), va_P D vwCl (wG K ad σL18) H → va_S (GA ad) s.heap H locs → lv_has ls 6 [(0, .ref (ad 63)), (1, .int x1), (2, .int u2_17), (4, .int v4_18), (5, .int v5_18)] → F_M_takesWalker_95 x1 u2_17 KL18_150 n v4_18 v5_18 σL18 = some z0 → W p l e (rmd 4) s m args below meth c H locs 0 0 (MQ below (QI D K ad z0.1 z0.2) args s 0 0 (GA ad)) (F0 m 95 ls []) := by
          clear hf
          intro n
          induction n with
          | zero =>
            intro v4_18 v5_18 σL18 H locs ls hP hS hl hf
            rw [F_M_takesWalker_95.eq_1] at hf
            cases hf
          | succ n ih =>
            intro v4_18 v5_18 σL18 H locs ls hP hS hl hf
            rw [F_M_takesWalker_95.eq_2] at hf
            refine lv_iload hx hb d_M_takesWalker_95 (lv_at hl 4 rfl) ?_
            refine lv_iconst (v := (4 : Int32)) hx hb d_M_takesWalker_97 (by decide) ?_
            refine lv_icmp_ge (tgt := 150) hx hb d_M_takesWalker_98 (by decide) (fun hc46 => ?_) (fun hc46 => ?_)
            · rw [if_pos hc46] at hf
              exact hKL18_150 _ _ _ _ _ _ hP hS (lv_sub hl [0, 1, 2, 3] rfl) hf
            · rw [if_neg hc46] at hf
              refine lv_aload_n hx hb d_M_takesWalker_101 rfl (lv_at hl 0 rfl) ?_
              refine lv_iload_n hx hb d_M_takesWalker_102 rfl (lv_at hl 1 rfl) ?_
              obtain ⟨r36, hk35, hf⟩ := bp_some hf
              refine g_calli hS (g_runV (As := [.int x1]) (rest := []) hC hP (c_M_byteAt hj  hk35) (rk (by decide) (by decide)) nm_M_byteAt cd_M_byteAt it_WideTownModel ml_M_125 im_M_byteAt sl_M_byteAt o_63 co_M rfl hl.1 rfl (Nat.le_of_ble_eq_true rfl) d_M_takesWalker_103 zz) (fun H locs hP hS => ?_)
              refine lv_bipush (v := (48 : Int32)) hx hb d_M_takesWalker_106 (by decide) ?_
              refine lv_isub hx hb d_M_takesWalker_108 ?_
              obtain ⟨r38, hk37, hf⟩ := bp_some hf
              refine g_calli hS (g_runS (As := [.int (r36 - (48 : Int32))]) (rest := []) hC hP (c_M_isStreet hj  hk37) (rk (by decide) (by decide)) nm_M_isStreet cd_M_isStreet it_WideTownModel ml_M_131 sc_M_isStreet rfl hl.1 rfl (Nat.le_of_ble_eq_true rfl) d_M_takesWalker_109 zz) (fun H locs hP hS => ?_)
              refine lv_if_eq (tgt := 150) hx hb d_M_takesWalker_112 (by decide) (fun hc45 => ?_) (fun hc45 => ?_)
              · rw [if_pos hc45] at hf
                exact hKL18_150 _ _ _ _ _ _ hP hS (lv_sub hl [0, 1, 2, 3] rfl) hf
              · rw [if_neg hc45] at hf
                refine lv_aload_n hx hb d_M_takesWalker_115 rfl (lv_at hl 0 rfl) ?_
                refine g_get (v := .ref (ad 75)) hC hP o_63 co_M 16 (by decide) rfl fl_M_48 rfl d_M_takesWalker_116 ?_
                refine lv_iload hx hb d_M_takesWalker_119 (lv_at hl 3 rfl) ?_
                refine lv_aload_n hx hb d_M_takesWalker_121 rfl (lv_at hl 0 rfl) ?_
                refine lv_iload_n hx hb d_M_takesWalker_122 rfl (lv_at hl 1 rfl) ?_
                obtain ⟨r40, hk39, hf⟩ := bp_some hf
                refine g_calli hS (g_runV (As := [.int x1]) (rest := [.int v4_18, .ref (ad 75)]) hC hP (c_M_byteAt hj  hk39) (rk (by decide) (by decide)) nm_M_byteAt cd_M_byteAt it_WideTownModel ml_M_125 im_M_byteAt sl_M_byteAt o_63 co_M rfl hl.1 rfl (Nat.le_of_ble_eq_true rfl) d_M_takesWalker_123 zz) (fun H locs hP hS => ?_)
                refine lv_bipush (v := (48 : Int32)) hx hb d_M_takesWalker_126 (by decide) ?_
                refine lv_isub hx hb d_M_takesWalker_128 ?_
                obtain ⟨r42, σ43, hk41, hf⟩ := bc_some hf
                refine g_calli hS (g_runS (As := [.ref (ad 75), .int v4_18, .int (r40 - (48 : Int32))]) (rest := []) hC hP (c_M_times hj a_75 hk41) (rk (by decide) (by decide)) nm_M_times cd_M_times it_WideTownModel ml_M_134 sc_M_times rfl hl.1 rfl (Nat.le_of_ble_eq_true rfl) d_M_takesWalker_129 zz) (fun H locs hP hS => ?_)
                refine lv_istore (lv' := [(4, .int r42), (0, .ref (ad 63)), (1, .int x1), (2, .int u2_17), (5, .int v5_18)]) hx hb d_M_takesWalker_132 hl (by decide) rfl (fun ls hl => ?_)
                refine lv_aload_n hx hb d_M_takesWalker_134 rfl (lv_at hl 1 rfl) ?_
                refine lv_dup hx hb d_M_takesWalker_135 rfl ?_
                refine g_get (v := .int (σ43.1 63 15)) hC hP o_63 co_M 15 (by decide) rfl fl_M_122 rfl d_M_takesWalker_136 ?_
                refine lv_iconst (v := (1 : Int32)) hx hb d_M_takesWalker_139 (by decide) ?_
                refine lv_iadd hx hb d_M_takesWalker_140 ?_
                obtain ⟨σ44, eσ44, hf⟩ := jn_some hf
                refine g_puti hC hP hS o_63 co_M 15 (by decide) rfl fl_M_122 rfl (to_M 15 (by decide)) (Nat.le_of_ble_eq_true rfl) rfl d_M_takesWalker_141 (fun H locs hP hS => ?_)
                rw [← eσ44] at hP
                refine lv_iinc (v := v5_18 + 1) (lv' := [(5, .int (v5_18 + 1)), (4, .int r42), (0, .ref (ad 63)), (1, .int x1), (2, .int u2_17)]) hx hb d_M_takesWalker_144 hl (k := 4) rfl rfl (by decide) rfl (fun ls hl => ?_)
                refine lv_goto (tgt := 95) hx hb d_M_takesWalker_147 (by decide) ?_
                exact ih _ _ _ _ _ _ hP hS (lv_sub hl [2, 3, 4, 1, 0] rfl) hf
        exact hL18 _ _ _ _ _ _ _ hP hS (lv_sub hl [4, 5, 3, 1, 0] rfl) hf
      · rw [if_pos hc47] at hf
        refine lv_iconst (v := (0 : Int32)) hx hb d_M_takesWalker_51 (by decide) ?_
        cases hf
        exact g_zret hC rfl (by decide) hP hS d_M_takesWalker_52
    · rw [if_pos hc48] at hf
      refine lv_iconst (v := (0 : Int32)) hx hb d_M_takesWalker_25 (by decide) ?_
      cases hf
      exact g_zret hC rfl (by decide) hP hS d_M_takesWalker_26
