set_option maxHeartbeats 4000000 in
set_option maxRecDepth 100000 in
theorem c_X_tell {l : Launch} {D : va_G} {K : Nat → ClassId} {ad : Nat → Nat} (hj : inj ad)   {x1 : Int64} {x3 : Int64} {σ : GS} {z0 : Int32 × GS} (hf : F_X_tell x1 x3 σ = some z0) : CT l D K ad y_X_tell b_X_tell 7 (some .int) 1 [.ref (ad 0), .long x1, .long x3] σ (QI D K ad z0.1 z0.2) := by
  refine CT.intro hj (by decide) (Nat.le_of_ble_eq_true rfl) ?_
  intro p e s m args below meth c ls hC hP hS hl
  obtain ⟨hx, hb, -, hown, hts, -⟩ := id hC
  have hl : lv_has ls 7 [(0, .ref (ad 0)), (1, .long x1), (3, .long x3)] := hl
  rw [F_X_tell] at hf
  refine lv_lload_n hx hb d_X_tell_0 rfl (lv_at hl 1 rfl) ?_
  refine lv_lload_n hx hb d_X_tell_1 rfl (lv_at hl 2 rfl) ?_
  obtain ⟨r2, hk1, hf⟩ := bp_some hf
  refine g_calll hS (g_runS (As := [.long x1, .long x3]) (rest := []) hC hP (c_X_commonDivisor hj  hk1) (rk (by decide) (by decide)) nm_X_commonDivisor cd_X_commonDivisor it_WideTown ml_X_364 sc_X_commonDivisor rfl hl.1 rfl (Nat.le_of_ble_eq_true rfl) d_X_tell_2 zz) (fun H locs hP hS => ?_)
  refine lv_lstore (lv' := [(5, .long r2), (0, .ref (ad 0)), (1, .long x1), (3, .long x3)]) hx hb d_X_tell_5 hl (by decide) rfl (fun ls hl => ?_)
  refine lv_lload hx hb d_X_tell_7 (lv_at hl 0 rfl) ?_
  refine lv_lconst (v := (0 : Int64)) hx hb d_X_tell_9 (by decide) ?_
  refine W.lcmp hx hb d_X_tell_10 ?_
  refine lv_if_le (tgt := 30) hx hb d_X_tell_11 (by decide) (fun hc5 => ?_) (fun hc5 => ?_)
  · rw [if_pos hc5] at hf
    refine lv_iconst (v := (1 : Int32)) hx hb d_X_tell_30 (by decide) ?_
    cases hf
    exact g_iret hC rfl hP hS d_X_tell_31
  · rw [if_neg hc5] at hf
    refine lv_aload_n hx hb d_X_tell_14 rfl (lv_at hl 1 rfl) ?_
    refine lv_lload_n hx hb d_X_tell_15 rfl (lv_at hl 2 rfl) ?_
    refine lv_lload hx hb d_X_tell_16 (lv_at hl 0 rfl) ?_
    obtain ⟨hg, hf⟩ := gd_some hf
    refine lv_ldiv hx hb d_X_tell_18 (zL_in hg) ?_
    obtain ⟨σ3, eσ3, hf⟩ := jn_some hf
    refine g_putl hC hP hS o_0 co_X 17 (by decide) rfl fl_X_99 rfl (to_X 17 (by decide)) (Nat.le_of_ble_eq_true rfl) rfl d_X_tell_19 (fun H locs hP hS => ?_)
    rw [← eσ3] at hP
    refine lv_aload_n hx hb d_X_tell_22 rfl (lv_at hl 1 rfl) ?_
    refine lv_lload_n hx hb d_X_tell_23 rfl (lv_at hl 3 rfl) ?_
    refine lv_lload hx hb d_X_tell_24 (lv_at hl 0 rfl) ?_
    obtain ⟨hg, hf⟩ := gd_some hf
    refine lv_ldiv hx hb d_X_tell_26 (zL_in hg) ?_
    obtain ⟨σ4, eσ4, hf⟩ := jn_some hf
    refine g_putl hC hP hS o_0 co_X 18 (by decide) rfl fl_X_103 rfl (to_X 18 (by decide)) (Nat.le_of_ble_eq_true rfl) rfl d_X_tell_27 (fun H locs hP hS => ?_)
    rw [← eσ4] at hP
    refine lv_iconst (v := (1 : Int32)) hx hb d_X_tell_30 (by decide) ?_
    cases hf
    exact g_iret hC rfl hP hS d_X_tell_31
set_option maxHeartbeats 4000000 in
set_option maxRecDepth 100000 in
theorem c_X_ways {l : Launch} {D : va_G} {K : Nat → ClassId} {ad : Nat → Nat} (hj : inj ad)   {x1 : Int32} {x2 : Int32} {σ : GS} {z0 : Int32 × GS} (hf : F_X_ways x1 x2 σ = some z0) : CT l D K ad y_X_ways b_X_ways 3 (some .int) 4 [.ref (ad 0), .int x1, .int x2] σ (QI D K ad z0.1 z0.2) := by
  refine CT.intro hj (by decide) (Nat.le_of_ble_eq_true rfl) ?_
  intro p e s m args below meth c ls hC hP hS hl
  obtain ⟨hx, hb, -, hown, hts, -⟩ := id hC
  have hl : lv_has ls 3 [(0, .ref (ad 0)), (1, .int x1), (2, .int x2)] := hl
  rw [F_X_ways] at hf
  refine lv_iload_n hx hb d_X_ways_0 rfl (lv_at hl 1 rfl) ?_
  obtain ⟨r2, hk1, hf⟩ := bp_some hf
  refine g_calli hS (g_runS (As := [.int x1]) (rest := []) hC hP (c_X_isCode hj  hk1) (rk (by decide) (by decide)) nm_X_isCode cd_X_isCode it_WideTown ml_X_208 sc_X_isCode rfl hl.1 rfl (Nat.le_of_ble_eq_true rfl) d_X_ways_1 zz) (fun H locs hP hS => ?_)
  refine lv_if_eq (tgt := 14) hx hb d_X_ways_4 (by decide) (fun hc13 => ?_) (fun hc13 => ?_)
  · rw [if_pos hc13] at hf
    refine lv_iconst (v := (-1 : Int32)) hx hb d_X_ways_14 (by decide) ?_
    cases hf
    exact g_iret hC rfl hP hS d_X_ways_15
  · rw [if_neg hc13] at hf
    refine lv_iload_n hx hb d_X_ways_7 rfl (lv_at hl 2 rfl) ?_
    obtain ⟨r4, hk3, hf⟩ := bp_some hf
    refine g_calli hS (g_runS (As := [.int x2]) (rest := []) hC hP (c_X_isCode hj  hk3) (rk (by decide) (by decide)) nm_X_isCode cd_X_isCode it_WideTown ml_X_208 sc_X_isCode rfl hl.1 rfl (Nat.le_of_ble_eq_true rfl) d_X_ways_8 zz) (fun H locs hP hS => ?_)
    refine lv_if_ne (tgt := 16) hx hb d_X_ways_11 (by decide) (fun hc12 => ?_) (fun hc12 => ?_)
    · rw [if_neg hc12] at hf
      refine lv_aload_n hx hb d_X_ways_16 rfl (lv_at hl 0 rfl) ?_
      refine g_get (v := .ref (ad 32)) hC hP o_0 co_X 7 (by decide) rfl fl_X_47 rfl d_X_ways_17 ?_
      refine lv_iload_n hx hb d_X_ways_20 rfl (lv_at hl 1 rfl) ?_
      refine lv_iload_n hx hb d_X_ways_21 rfl (lv_at hl 2 rfl) ?_
      obtain ⟨σ6, hk5, hf⟩ := bv_some hf
      refine g_callv hS (g_runV (As := [.int x1, .int x2]) (rest := []) hC hP (c_Wd_becomesWay hj ⟨o_32, a_33⟩ hk5) (rk (by decide) (by decide)) nm_Wd_becomesWay cd_Wd_becomesWay it_WideTown_Word ml_X_250 im_Wd_becomesWay sl_Wd_becomesWay o_32 co_Wd rfl hl.1 rfl (Nat.le_of_ble_eq_true rfl) d_X_ways_22 zz) (fun H locs hP hS => ?_)
      refine lv_aload_n hx hb d_X_ways_25 rfl (lv_at hl 0 rfl) ?_
      refine g_get (v := .ref (ad 36)) hC hP o_0 co_X 10 (by decide) rfl fl_X_64 rfl d_X_ways_26 ?_
      refine lv_aload_n hx hb d_X_ways_29 rfl (lv_at hl 0 rfl) ?_
      refine g_get (v := .ref (ad 32)) hC hP o_0 co_X 7 (by decide) rfl fl_X_47 rfl d_X_ways_30 ?_
      obtain ⟨σ8, hk7, hf⟩ := bv_some hf
      refine g_callv hS (g_runV (As := [.ref (ad 32)]) (rest := []) hC hP (c_Id_tally hj  hk7) (rk (by decide) (by decide)) nm_Id_tally cd_Id_tally it_WideTown_Ideals ml_X_253 im_Id_tally sl_Id_tally o_36 co_Id rfl hl.1 rfl (Nat.le_of_ble_eq_true rfl) d_X_ways_33 zz) (fun H locs hP hS => ?_)
      refine lv_aload_n hx hb d_X_ways_36 rfl (lv_at hl 0 rfl) ?_
      refine lv_aload_n hx hb d_X_ways_37 rfl (lv_at hl 0 rfl) ?_
      refine g_get (v := .ref (ad 36)) hC hP o_0 co_X 10 (by decide) rfl fl_X_64 rfl d_X_ways_38 ?_
      refine g_get (v := .long (σ8.2 36 5)) hC hP o_36 co_Id 5 (by decide) rfl fl_X_256 rfl d_X_ways_41 ?_
      refine lv_lconst (v := (1 : Int64)) hx hb d_X_ways_44 (by decide) ?_
      obtain ⟨r10, σ11, hk9, hf⟩ := bc_some hf
      refine g_calli hS (g_runV (As := [.long (σ8.2 36 5), .long (1 : Int64)]) (rest := []) hC hP (c_X_tell hj  hk9) (rk (by decide) (by decide)) nm_X_tell cd_X_tell it_WideTown ml_X_259 im_X_tell sl_X_tell o_0 co_X rfl hl.1 rfl (Nat.le_of_ble_eq_true rfl) d_X_ways_45 zz) (fun H locs hP hS => ?_)
      cases hf
      exact g_iret hC rfl hP hS d_X_ways_48
    · rw [if_pos hc12] at hf
      refine lv_iconst (v := (-1 : Int32)) hx hb d_X_ways_14 (by decide) ?_
      cases hf
      exact g_iret hC rfl hP hS d_X_ways_15
set_option maxHeartbeats 4000000 in
set_option maxRecDepth 100000 in
theorem c_X_between {l : Launch} {D : va_G} {K : Nat → ClassId} {ad : Nat → Nat} (hj : inj ad)   {x1 : Int32} {x2 : Int32} {σ : GS} {z0 : Int32 × GS} (hf : F_X_between x1 x2 σ = some z0) : CT l D K ad y_X_between b_X_between 3 (some .int) 4 [.ref (ad 0), .int x1, .int x2] σ (QI D K ad z0.1 z0.2) := by
  refine CT.intro hj (by decide) (Nat.le_of_ble_eq_true rfl) ?_
  intro p e s m args below meth c ls hC hP hS hl
  obtain ⟨hx, hb, -, hown, hts, -⟩ := id hC
  have hl : lv_has ls 3 [(0, .ref (ad 0)), (1, .int x1), (2, .int x2)] := hl
  rw [F_X_between] at hf
  refine lv_iload_n hx hb d_X_between_0 rfl (lv_at hl 1 rfl) ?_
  obtain ⟨r2, hk1, hf⟩ := bp_some hf
  refine g_calli hS (g_runS (As := [.int x1]) (rest := []) hC hP (c_X_isCode hj  hk1) (rk (by decide) (by decide)) nm_X_isCode cd_X_isCode it_WideTown ml_X_208 sc_X_isCode rfl hl.1 rfl (Nat.le_of_ble_eq_true rfl) d_X_between_1 zz) (fun H locs hP hS => ?_)
  refine lv_if_eq (tgt := 14) hx hb d_X_between_4 (by decide) (fun hc10 => ?_) (fun hc10 => ?_)
  · rw [if_pos hc10] at hf
    refine lv_iconst (v := (-1 : Int32)) hx hb d_X_between_14 (by decide) ?_
    cases hf
    exact g_iret hC rfl hP hS d_X_between_15
  · rw [if_neg hc10] at hf
    refine lv_iload_n hx hb d_X_between_7 rfl (lv_at hl 2 rfl) ?_
    obtain ⟨r4, hk3, hf⟩ := bp_some hf
    refine g_calli hS (g_runS (As := [.int x2]) (rest := []) hC hP (c_X_isCode hj  hk3) (rk (by decide) (by decide)) nm_X_isCode cd_X_isCode it_WideTown ml_X_208 sc_X_isCode rfl hl.1 rfl (Nat.le_of_ble_eq_true rfl) d_X_between_8 zz) (fun H locs hP hS => ?_)
    refine lv_if_ne (tgt := 16) hx hb d_X_between_11 (by decide) (fun hc9 => ?_) (fun hc9 => ?_)
    · rw [if_neg hc9] at hf
      refine lv_aload_n hx hb d_X_between_16 rfl (lv_at hl 0 rfl) ?_
      refine g_get (v := .ref (ad 32)) hC hP o_0 co_X 7 (by decide) rfl fl_X_47 rfl d_X_between_17 ?_
      refine lv_iload_n hx hb d_X_between_20 rfl (lv_at hl 1 rfl) ?_
      refine lv_iload_n hx hb d_X_between_21 rfl (lv_at hl 2 rfl) ?_
      obtain ⟨σ6, hk5, hf⟩ := bv_some hf
      refine g_callv hS (g_runV (As := [.int x1, .int x2]) (rest := []) hC hP (c_Wd_becomesWay hj ⟨o_32, a_33⟩ hk5) (rk (by decide) (by decide)) nm_Wd_becomesWay cd_Wd_becomesWay it_WideTown_Word ml_X_250 im_Wd_becomesWay sl_Wd_becomesWay o_32 co_Wd rfl hl.1 rfl (Nat.le_of_ble_eq_true rfl) d_X_between_22 zz) (fun H locs hP hS => ?_)
      refine lv_aload_n hx hb d_X_between_25 rfl (lv_at hl 0 rfl) ?_
      refine g_get (v := .ref (ad 36)) hC hP o_0 co_X 10 (by decide) rfl fl_X_64 rfl d_X_between_26 ?_
      refine lv_aload_n hx hb d_X_between_29 rfl (lv_at hl 0 rfl) ?_
      refine g_get (v := .ref (ad 32)) hC hP o_0 co_X 7 (by decide) rfl fl_X_47 rfl d_X_between_30 ?_
      obtain ⟨σ8, hk7, hf⟩ := bv_some hf
      refine g_callv hS (g_runV (As := [.ref (ad 32)]) (rest := []) hC hP (c_Id_tally hj  hk7) (rk (by decide) (by decide)) nm_Id_tally cd_Id_tally it_WideTown_Ideals ml_X_253 im_Id_tally sl_Id_tally o_36 co_Id rfl hl.1 rfl (Nat.le_of_ble_eq_true rfl) d_X_between_33 zz) (fun H locs hP hS => ?_)
      refine lv_aload_n hx hb d_X_between_36 rfl (lv_at hl 0 rfl) ?_
      refine g_get (v := .ref (ad 36)) hC hP o_0 co_X 10 (by decide) rfl fl_X_64 rfl d_X_between_37 ?_
      refine g_get (v := .int (σ8.1 36 6)) hC hP o_36 co_Id 6 (by decide) rfl fl_X_263 rfl d_X_between_40 ?_
      cases hf
      exact g_iret hC rfl hP hS d_X_between_43
    · rw [if_pos hc9] at hf
      refine lv_iconst (v := (-1 : Int32)) hx hb d_X_between_14 (by decide) ?_
      cases hf
      exact g_iret hC rfl hP hS d_X_between_15
set_option maxHeartbeats 4000000 in
set_option maxRecDepth 100000 in
theorem c_X_lies {l : Launch} {D : va_G} {K : Nat → ClassId} {ad : Nat → Nat} (hj : inj ad)   {x1 : Int32} {x2 : Int32} {x3 : Int32} {σ : GS} {z0 : Int32 × GS} (hf : F_X_lies x1 x2 x3 σ = some z0) : CT l D K ad y_X_lies b_X_lies 4 (some .int) 5 [.ref (ad 0), .int x1, .int x2, .int x3] σ (QI D K ad z0.1 z0.2) := by
  refine CT.intro hj (by decide) (Nat.le_of_ble_eq_true rfl) ?_
  intro p e s m args below meth c ls hC hP hS hl
  obtain ⟨hx, hb, -, hown, hts, -⟩ := id hC
  have hl : lv_has ls 4 [(0, .ref (ad 0)), (1, .int x1), (2, .int x2), (3, .int x3)] := hl
  rw [F_X_lies] at hf
  refine lv_iload_n hx hb d_X_lies_0 rfl (lv_at hl 1 rfl) ?_
  obtain ⟨r2, hk1, hf⟩ := bp_some hf
  refine g_calli hS (g_runS (As := [.int x1]) (rest := []) hC hP (c_X_isCode hj  hk1) (rk (by decide) (by decide)) nm_X_isCode cd_X_isCode it_WideTown ml_X_208 sc_X_isCode rfl hl.1 rfl (Nat.le_of_ble_eq_true rfl) d_X_lies_1 zz) (fun H locs hP hS => ?_)
  refine lv_if_eq (tgt := 21) hx hb d_X_lies_4 (by decide) (fun hc19 => ?_) (fun hc19 => ?_)
  · rw [if_pos hc19] at hf
    refine lv_iconst (v := (-1 : Int32)) hx hb d_X_lies_21 (by decide) ?_
    cases hf
    exact g_iret hC rfl hP hS d_X_lies_22
  · rw [if_neg hc19] at hf
    refine lv_iload_n hx hb d_X_lies_7 rfl (lv_at hl 2 rfl) ?_
    obtain ⟨r4, hk3, hf⟩ := bp_some hf
    refine g_calli hS (g_runS (As := [.int x2]) (rest := []) hC hP (c_X_isCode hj  hk3) (rk (by decide) (by decide)) nm_X_isCode cd_X_isCode it_WideTown ml_X_208 sc_X_isCode rfl hl.1 rfl (Nat.le_of_ble_eq_true rfl) d_X_lies_8 zz) (fun H locs hP hS => ?_)
    refine lv_if_eq (tgt := 21) hx hb d_X_lies_11 (by decide) (fun hc18 => ?_) (fun hc18 => ?_)
    · rw [if_pos hc18] at hf
      refine lv_iconst (v := (-1 : Int32)) hx hb d_X_lies_21 (by decide) ?_
      cases hf
      exact g_iret hC rfl hP hS d_X_lies_22
    · rw [if_neg hc18] at hf
      refine lv_iload_n hx hb d_X_lies_14 rfl (lv_at hl 3 rfl) ?_
      obtain ⟨r6, hk5, hf⟩ := bp_some hf
      refine g_calli hS (g_runS (As := [.int x3]) (rest := []) hC hP (c_X_isCode hj  hk5) (rk (by decide) (by decide)) nm_X_isCode cd_X_isCode it_WideTown ml_X_208 sc_X_isCode rfl hl.1 rfl (Nat.le_of_ble_eq_true rfl) d_X_lies_15 zz) (fun H locs hP hS => ?_)
      refine lv_if_ne (tgt := 23) hx hb d_X_lies_18 (by decide) (fun hc17 => ?_) (fun hc17 => ?_)
      · rw [if_neg hc17] at hf
        refine lv_aload_n hx hb d_X_lies_23 rfl (lv_at hl 0 rfl) ?_
        refine lv_iload_n hx hb d_X_lies_24 rfl (lv_at hl 1 rfl) ?_
        refine lv_iload_n hx hb d_X_lies_25 rfl (lv_at hl 3 rfl) ?_
        obtain ⟨r8, σ9, hk7, hf⟩ := bc_some hf
        refine g_calli hS (g_runV (As := [.int x1, .int x3]) (rest := []) hC hP (c_X_gap hj  hk7) (rk (by decide) (by decide)) nm_X_gap cd_X_gap it_WideTown ml_X_247 im_X_gap sl_X_gap o_0 co_X rfl hl.1 rfl (Nat.le_of_ble_eq_true rfl) d_X_lies_26 zz) (fun H locs hP hS => ?_)
        refine lv_aload_n hx hb d_X_lies_29 rfl (lv_at hl 0 rfl) ?_
        refine lv_iload_n hx hb d_X_lies_30 rfl (lv_at hl 3 rfl) ?_
        refine lv_iload_n hx hb d_X_lies_31 rfl (lv_at hl 2 rfl) ?_
        obtain ⟨r11, σ12, hk10, hf⟩ := bc_some hf
        refine g_calli hS (g_runV (As := [.int x3, .int x2]) (rest := [.int r8]) hC hP (c_X_gap hj  hk10) (rk (by decide) (by decide)) nm_X_gap cd_X_gap it_WideTown ml_X_247 im_X_gap sl_X_gap o_0 co_X rfl hl.1 rfl (Nat.le_of_ble_eq_true rfl) d_X_lies_32 zz) (fun H locs hP hS => ?_)
        refine lv_iadd hx hb d_X_lies_35 ?_
        refine lv_aload_n hx hb d_X_lies_36 rfl (lv_at hl 0 rfl) ?_
        refine lv_iload_n hx hb d_X_lies_37 rfl (lv_at hl 1 rfl) ?_
        refine lv_iload_n hx hb d_X_lies_38 rfl (lv_at hl 2 rfl) ?_
        obtain ⟨r14, σ15, hk13, hf⟩ := bc_some hf
        refine g_calli hS (g_runV (As := [.int x1, .int x2]) (rest := [.int (r8 + r11)]) hC hP (c_X_gap hj  hk13) (rk (by decide) (by decide)) nm_X_gap cd_X_gap it_WideTown ml_X_247 im_X_gap sl_X_gap o_0 co_X rfl hl.1 rfl (Nat.le_of_ble_eq_true rfl) d_X_lies_39 zz) (fun H locs hP hS => ?_)
        refine lv_icmp_ne (tgt := 49) hx hb d_X_lies_42 (by decide) (fun hc16 => ?_) (fun hc16 => ?_)
        · rw [if_neg hc16] at hf
          refine lv_iconst (v := (0 : Int32)) hx hb d_X_lies_49 (by decide) ?_
          cases hf
          exact g_iret hC rfl hP hS d_X_lies_50
        · rw [if_pos hc16] at hf
          refine lv_iconst (v := (1 : Int32)) hx hb d_X_lies_45 (by decide) ?_
          refine lv_goto (tgt := 50) hx hb d_X_lies_46 (by decide) ?_
          cases hf
          exact g_iret hC rfl hP hS d_X_lies_50
      · rw [if_pos hc17] at hf
        refine lv_iconst (v := (-1 : Int32)) hx hb d_X_lies_21 (by decide) ?_
        cases hf
        exact g_iret hC rfl hP hS d_X_lies_22
set_option maxHeartbeats 4000000 in
set_option maxRecDepth 100000 in
theorem c_X_path {l : Launch} {D : va_G} {K : Nat → ClassId} {ad : Nat → Nat} (hj : inj ad)   {x1 : Int32} {x2 : Int32} {x3 : Int32} {σ : GS} {z0 : Int32 × GS} (hf : F_X_path x1 x2 x3 σ = some z0) : CT l D K ad y_X_path b_X_path 5 (some .int) 4 [.ref (ad 0), .int x1, .int x2, .int x3] σ (QI D K ad z0.1 z0.2) := by
  refine CT.intro hj (by decide) (Nat.le_of_ble_eq_true rfl) ?_
  intro p e s m args below meth c ls hC hP hS hl
  obtain ⟨hx, hb, -, hown, hts, -⟩ := id hC
  have hl : lv_has ls 5 [(0, .ref (ad 0)), (1, .int x1), (2, .int x2), (3, .int x3)] := hl
  rw [F_X_path] at hf
  refine lv_iload_n hx hb d_X_path_0 rfl (lv_at hl 1 rfl) ?_
  obtain ⟨r2, hk1, hf⟩ := bp_some hf
  refine g_calli hS (g_runS (As := [.int x1]) (rest := []) hC hP (c_X_isCode hj  hk1) (rk (by decide) (by decide)) nm_X_isCode cd_X_isCode it_WideTown ml_X_208 sc_X_isCode rfl hl.1 rfl (Nat.le_of_ble_eq_true rfl) d_X_path_1 zz) (fun H locs hP hS => ?_)
  refine lv_if_eq (tgt := 21) hx hb d_X_path_4 (by decide) (fun hc21 => ?_) (fun hc21 => ?_)
  · rw [if_pos hc21] at hf
    refine lv_iconst (v := (-1 : Int32)) hx hb d_X_path_21 (by decide) ?_
    cases hf
    exact g_iret hC rfl hP hS d_X_path_22
  · rw [if_neg hc21] at hf
    refine lv_iload_n hx hb d_X_path_7 rfl (lv_at hl 2 rfl) ?_
    obtain ⟨r4, hk3, hf⟩ := bp_some hf
    refine g_calli hS (g_runS (As := [.int x2]) (rest := []) hC hP (c_X_isCode hj  hk3) (rk (by decide) (by decide)) nm_X_isCode cd_X_isCode it_WideTown ml_X_208 sc_X_isCode rfl hl.1 rfl (Nat.le_of_ble_eq_true rfl) d_X_path_8 zz) (fun H locs hP hS => ?_)
    refine lv_if_eq (tgt := 21) hx hb d_X_path_11 (by decide) (fun hc20 => ?_) (fun hc20 => ?_)
    · rw [if_pos hc20] at hf
      refine lv_iconst (v := (-1 : Int32)) hx hb d_X_path_21 (by decide) ?_
      cases hf
      exact g_iret hC rfl hP hS d_X_path_22
    · rw [if_neg hc20] at hf
      refine lv_iload_n hx hb d_X_path_14 rfl (lv_at hl 3 rfl) ?_
      obtain ⟨r6, hk5, hf⟩ := bp_some hf
      refine g_calli hS (g_runS (As := [.int x3]) (rest := []) hC hP (c_X_isRow hj  hk5) (rk (by decide) (by decide)) nm_X_isRow cd_X_isRow it_WideTown ml_X_112 sc_X_isRow rfl hl.1 rfl (Nat.le_of_ble_eq_true rfl) d_X_path_15 zz) (fun H locs hP hS => ?_)
      refine lv_if_ne (tgt := 23) hx hb d_X_path_18 (by decide) (fun hc19 => ?_) (fun hc19 => ?_)
      · rw [if_neg hc19] at hf
        refine lv_aload_n hx hb d_X_path_23 rfl (lv_at hl 0 rfl) ?_
        refine g_get (v := .ref (ad 32)) hC hP o_0 co_X 7 (by decide) rfl fl_X_47 rfl d_X_path_24 ?_
        refine lv_iload_n hx hb d_X_path_27 rfl (lv_at hl 1 rfl) ?_
        refine lv_iload_n hx hb d_X_path_28 rfl (lv_at hl 2 rfl) ?_
        obtain ⟨σ8, hk7, hf⟩ := bv_some hf
        refine g_callv hS (g_runV (As := [.int x1, .int x2]) (rest := []) hC hP (c_Wd_becomesWay hj ⟨o_32, a_33⟩ hk7) (rk (by decide) (by decide)) nm_Wd_becomesWay cd_Wd_becomesWay it_WideTown_Word ml_X_250 im_Wd_becomesWay sl_Wd_becomesWay o_32 co_Wd rfl hl.1 rfl (Nat.le_of_ble_eq_true rfl) d_X_path_29 zz) (fun H locs hP hS => ?_)
        refine lv_aload_n hx hb d_X_path_32 rfl (lv_at hl 0 rfl) ?_
        refine lv_iload_n hx hb d_X_path_33 rfl (lv_at hl 3 rfl) ?_
        refine lv_aload_n hx hb d_X_path_34 rfl (lv_at hl 0 rfl) ?_
        refine g_get (v := .ref (ad 32)) hC hP o_0 co_X 7 (by decide) rfl fl_X_47 rfl d_X_path_35 ?_
        refine g_get (v := .int (σ8.1 32 1)) hC hP o_32 co_Wd 1 (by decide) rfl fl_X_204 rfl d_X_path_38 ?_
        obtain ⟨σ10, hk9, hf⟩ := bv_some hf
        refine g_callv hS (g_runV (As := [.int x3, .int (σ8.1 32 1)]) (rest := []) hC hP (c_X_renewRow hj  hk9) (rk (by decide) (by decide)) nm_X_renewRow cd_X_renewRow it_WideTown ml_X_120 im_X_renewRow sl_X_renewRow o_0 co_X rfl hl.1 rfl (Nat.le_of_ble_eq_true rfl) d_X_path_41 zz) (fun H locs hP hS => ?_)
        refine lv_iconst (v := (0 : Int32)) hx hb d_X_path_44 (by decide) ?_
        refine lv_istore (lv' := [(4, .int (0 : Int32)), (0, .ref (ad 0)), (1, .int x1), (2, .int x2), (3, .int x3)]) hx hb d_X_path_45 hl (by decide) rfl (fun ls hl => ?_)
        obtain ⟨KL11_82, eKL11_82, hf⟩ := jn_some hf
        have hKL11_82 : ∀ (v4_11 : Int32) (σL11 : GS) (H : Heap) (locs : List Loc) (ls : Array Slot), va_P D vwCl (wG K ad σL11) H → va_S (GA ad) s.heap H locs → lv_has ls 5 [(0, .ref (ad 0))] → KL11_82 v4_11 σL11 = some z0 → W p l e (rmd 4) s m args below meth c H locs 0 0 (MQ below (QI D K ad z0.1 z0.2) args s 0 0 (GA ad)) (F0 m 82 ls []) := by
          clear hf
          intro v4_11 σL11 H locs ls hP hS hl hf
          rw [eKL11_82] at hf
          try dsimp only at hf
          refine lv_aload_n hx hb d_X_path_82 rfl (lv_at hl 0 rfl) ?_
          refine g_get (v := .ref (ad 32)) hC hP o_0 co_X 7 (by decide) rfl fl_X_47 rfl d_X_path_83 ?_
          refine g_get (v := .int (σL11.1 32 1)) hC hP o_32 co_Wd 1 (by decide) rfl fl_X_204 rfl d_X_path_86 ?_
          cases hf
          exact g_iret hC rfl hP hS d_X_path_89
        clear eKL11_82
        have hL11 : ∀ (n : Nat) (v4_11 : Int32) (σL11 : GS) (H : Heap) (locs : List Loc) (ls : Array Slot), va_P D vwCl (wG K ad σL11) H → va_S (GA ad) s.heap H locs → lv_has ls 5 [(0, .ref (ad 0)), (3, .int x3), (4, .int v4_11)] → F_X_path_47 x3 KL11_82 n v4_11 σL11 = some z0 → W p l e (rmd 4) s m args below meth c H locs 0 0 (MQ below (QI D K ad z0.1 z0.2) args s 0 0 (GA ad)) (F0 m 47 ls []) := by
          clear hf
          intro n
          induction n with
          | zero =>
            intro v4_11 σL11 H locs ls hP hS hl hf
            rw [F_X_path_47.eq_1] at hf
            cases hf
          | succ n ih =>
            intro v4_11 σL11 H locs ls hP hS hl hf
            rw [F_X_path_47.eq_2] at hf
            refine lv_iload hx hb d_X_path_47 (lv_at hl 2 rfl) ?_
            refine lv_aload_n hx hb d_X_path_49 rfl (lv_at hl 0 rfl) ?_
            refine g_get (v := .ref (ad 8)) hC hP o_0 co_X 1 (by decide) rfl fl_X_14 rfl d_X_path_50 ?_
            refine lv_iload_n hx hb d_X_path_53 rfl (lv_at hl 1 rfl) ?_
            obtain ⟨hg12, hf⟩ := gd_some hf
            refine g_iald2 (j := x3.toNatClampNeg) hC hP a_8 hg12 rfl d_X_path_54 ?_
            refine lv_icmp_ge (tgt := 82) hx hb d_X_path_55 (by decide) (fun hc18 => ?_) (fun hc18 => ?_)
            · rw [if_pos hc18] at hf
              exact hKL11_82 _ _ _ _ _ hP hS (lv_sub hl [0] rfl) hf
            · rw [if_neg hc18] at hf
              refine lv_aload_n hx hb d_X_path_58 rfl (lv_at hl 0 rfl) ?_
              refine g_get (v := .ref (ad 1)) hC hP o_0 co_X 0 (by decide) rfl fl_X_11 rfl d_X_path_59 ?_
              refine lv_iload_n hx hb d_X_path_62 rfl (lv_at hl 1 rfl) ?_
              obtain ⟨hg13, hf⟩ := gd_some hf
              refine g_aald hC hP r_1 rfl rfl hg13 d_X_path_63 ?_
              refine lv_iload hx hb d_X_path_64 (lv_at hl 2 rfl) ?_
              refine lv_aload_n hx hb d_X_path_66 rfl (lv_at hl 0 rfl) ?_
              refine g_get (v := .ref (ad 32)) hC hP o_0 co_X 7 (by decide) rfl fl_X_47 rfl d_X_path_67 ?_
              refine lv_iload hx hb d_X_path_70 (lv_at hl 2 rfl) ?_
              obtain ⟨r15, hk14, hf⟩ := bp_some hf
              refine g_calli hS (g_runV (As := [.int v4_11]) (rest := [.int v4_11, .ref (ad (2 + x3.toNatClampNeg))]) hC hP (c_Wd_streetAt hj ⟨o_32, a_33⟩ hk14) (rk (by decide) (by decide)) nm_Wd_streetAt cd_Wd_streetAt it_WideTown_Word ml_X_266 im_Wd_streetAt sl_Wd_streetAt o_32 co_Wd rfl hl.1 rfl (Nat.le_of_ble_eq_true rfl) d_X_path_72 zz) (fun H locs hP hS => ?_)
              obtain ⟨hg16, hf⟩ := gd_some hf
              obtain ⟨σ17, eσ17, hf⟩ := jn_some hf
              refine g_iast2 (j := v4_11.toNatClampNeg) hC hP hS (rowA hg13) hg16 rfl d_X_path_75 (fun H locs hP hS => ?_)
              rw [← eσ17] at hP
              refine lv_iinc (v := v4_11 + 1) (lv' := [(4, .int (v4_11 + 1)), (0, .ref (ad 0)), (3, .int x3)]) hx hb d_X_path_76 hl (k := 2) rfl rfl (by decide) rfl (fun ls hl => ?_)
              refine lv_goto (tgt := 47) hx hb d_X_path_79 (by decide) ?_
              exact ih _ _ _ _ _ hP hS (lv_sub hl [1, 2, 0] rfl) hf
        exact hL11 _ _ _ _ _ _ hP hS (lv_sub hl [1, 4, 0] rfl) hf
      · rw [if_pos hc19] at hf
        refine lv_iconst (v := (-1 : Int32)) hx hb d_X_path_21 (by decide) ?_
        cases hf
        exact g_iret hC rfl hP hS d_X_path_22
set_option maxHeartbeats 4000000 in
set_option maxRecDepth 100000 in
theorem c_X_thin {l : Launch} {D : va_G} {K : Nat → ClassId} {ad : Nat → Nat} (hj : inj ad)   {x1 : Int32} {x2 : Int32} {x3 : Int32} {σ : GS} {z0 : Int32 × GS} (hf : F_X_thin x1 x2 x3 σ = some z0) : CT l D K ad y_X_thin b_X_thin 4 (some .int) 5 [.ref (ad 0), .int x1, .int x2, .int x3] σ (QI D K ad z0.1 z0.2) := by
  refine CT.intro hj (by decide) (Nat.le_of_ble_eq_true rfl) ?_
  intro p e s m args below meth c ls hC hP hS hl
  obtain ⟨hx, hb, -, hown, hts, -⟩ := id hC
  have hl : lv_has ls 4 [(0, .ref (ad 0)), (1, .int x1), (2, .int x2), (3, .int x3)] := hl
  rw [F_X_thin] at hf
  refine lv_iload_n hx hb d_X_thin_0 rfl (lv_at hl 1 rfl) ?_
  obtain ⟨r2, hk1, hf⟩ := bp_some hf
  refine g_calli hS (g_runS (As := [.int x1]) (rest := []) hC hP (c_X_isCode hj  hk1) (rk (by decide) (by decide)) nm_X_isCode cd_X_isCode it_WideTown ml_X_208 sc_X_isCode rfl hl.1 rfl (Nat.le_of_ble_eq_true rfl) d_X_thin_1 zz) (fun H locs hP hS => ?_)
  refine lv_if_eq (tgt := 21) hx hb d_X_thin_4 (by decide) (fun hc12 => ?_) (fun hc12 => ?_)
  · rw [if_pos hc12] at hf
    refine lv_iconst (v := (-1 : Int32)) hx hb d_X_thin_21 (by decide) ?_
    cases hf
    exact g_iret hC rfl hP hS d_X_thin_22
  · rw [if_neg hc12] at hf
    refine lv_iload_n hx hb d_X_thin_7 rfl (lv_at hl 2 rfl) ?_
    obtain ⟨r4, hk3, hf⟩ := bp_some hf
    refine g_calli hS (g_runS (As := [.int x2]) (rest := []) hC hP (c_X_isCode hj  hk3) (rk (by decide) (by decide)) nm_X_isCode cd_X_isCode it_WideTown ml_X_208 sc_X_isCode rfl hl.1 rfl (Nat.le_of_ble_eq_true rfl) d_X_thin_8 zz) (fun H locs hP hS => ?_)
    refine lv_if_eq (tgt := 21) hx hb d_X_thin_11 (by decide) (fun hc11 => ?_) (fun hc11 => ?_)
    · rw [if_pos hc11] at hf
      refine lv_iconst (v := (-1 : Int32)) hx hb d_X_thin_21 (by decide) ?_
      cases hf
      exact g_iret hC rfl hP hS d_X_thin_22
    · rw [if_neg hc11] at hf
      refine lv_iload_n hx hb d_X_thin_14 rfl (lv_at hl 3 rfl) ?_
      obtain ⟨r6, hk5, hf⟩ := bp_some hf
      refine g_calli hS (g_runS (As := [.int x3]) (rest := []) hC hP (c_X_isCode hj  hk5) (rk (by decide) (by decide)) nm_X_isCode cd_X_isCode it_WideTown ml_X_208 sc_X_isCode rfl hl.1 rfl (Nat.le_of_ble_eq_true rfl) d_X_thin_15 zz) (fun H locs hP hS => ?_)
      refine lv_if_ne (tgt := 23) hx hb d_X_thin_18 (by decide) (fun hc10 => ?_) (fun hc10 => ?_)
      · rw [if_neg hc10] at hf
        refine lv_aload_n hx hb d_X_thin_23 rfl (lv_at hl 0 rfl) ?_
        refine g_get (v := .ref (ad 41)) hC hP o_0 co_X 11 (by decide) rfl fl_X_71 rfl d_X_thin_24 ?_
        refine lv_iload_n hx hb d_X_thin_27 rfl (lv_at hl 1 rfl) ?_
        refine lv_iload_n hx hb d_X_thin_28 rfl (lv_at hl 2 rfl) ?_
        refine lv_iload_n hx hb d_X_thin_29 rfl (lv_at hl 3 rfl) ?_
        obtain ⟨r8, σ9, hk7, hf⟩ := bc_some hf
        refine g_calli hS (g_runV (As := [.int x1, .int x2, .int x3]) (rest := []) hC hP (c_Tr_width hj  hk7) (rk (by decide) (by decide)) nm_Tr_width cd_Tr_width it_WideTown_Triangle ml_X_269 im_Tr_width sl_Tr_width o_41 co_Tr rfl hl.1 rfl (Nat.le_of_ble_eq_true rfl) d_X_thin_30 zz) (fun H locs hP hS => ?_)
        cases hf
        exact g_iret hC rfl hP hS d_X_thin_33
      · rw [if_pos hc10] at hf
        refine lv_iconst (v := (-1 : Int32)) hx hb d_X_thin_21 (by decide) ?_
        cases hf
        exact g_iret hC rfl hP hS d_X_thin_22
set_option maxHeartbeats 4000000 in
set_option maxRecDepth 100000 in
theorem c_X_crossingsAt {l : Launch} {D : va_G} {K : Nat → ClassId} {ad : Nat → Nat} (hj : inj ad)   {x0 : Int32} {σ : GS} {z0 : Int64} (hf : F_X_crossingsAt x0 = some z0) : CT l D K ad y_X_crossingsAt b_X_crossingsAt 8 (some .long) 0 [.int x0] σ (QL D K ad z0 σ) := by
  refine CT.intro hj (by decide) (Nat.le_of_ble_eq_true rfl) ?_
  intro p e s m args below meth c ls hC hP hS hl
  obtain ⟨hx, hb, -, hown, hts, -⟩ := id hC
  have hl : lv_has ls 8 [(0, .int x0)] := hl
  rw [F_X_crossingsAt] at hf
  refine lv_iload_n hx hb d_X_crossingsAt_0 rfl (lv_at hl 0 rfl) ?_
  refine lv_if_gt (tgt := 14) hx hb d_X_crossingsAt_1 (by decide) (fun hc4 => ?_) (fun hc4 => ?_)
  · rw [if_pos hc4] at hf
    refine lv_lconst (v := (0 : Int64)) hx hb d_X_crossingsAt_14 (by decide) ?_
    refine lv_lstore_n (lv' := [(1, .long (0 : Int64)), (0, .int x0)]) hx hb d_X_crossingsAt_15 rfl hl (by decide) rfl (fun ls hl => ?_)
    refine lv_ldc2 hx hb hown (hts _ cn_X_286) d_X_crossingsAt_16 ?_
    refine lv_lstore_n (lv' := [(3, .long (5 : Int64)), (1, .long (0 : Int64)), (0, .int x0)]) hx hb d_X_crossingsAt_19 rfl hl (by decide) rfl (fun ls hl => ?_)
    refine lv_iconst (v := (1 : Int32)) hx hb d_X_crossingsAt_20 (by decide) ?_
    refine lv_istore (lv' := [(5, .int (1 : Int32)), (3, .long (5 : Int64)), (1, .long (0 : Int64)), (0, .int x0)]) hx hb d_X_crossingsAt_21 hl (by decide) rfl (fun ls hl => ?_)
    obtain ⟨KL1_49, eKL1_49, hf⟩ := jn_some hf
    have hKL1_49 : ∀ (v1_1 : Int64) (v3_1 : Int64) (v5_1 : Int32) (H : Heap) (locs : List Loc) (ls : Array Slot), va_P D vwCl (wG K ad σ) H → va_S (GA ad) s.heap H locs → lv_has ls 8 [(3, .long v3_1)] → KL1_49 v1_1 v3_1 v5_1 = some z0 → W p l e (rmd 0) s m args below meth c H locs 0 0 (MQ below (QL D K ad z0 σ) args s 0 0 (GA ad)) (F0 m 49 ls []) := by
      clear hf
      intro v1_1 v3_1 v5_1 H locs ls hP hS hl hf
      rw [eKL1_49] at hf
      try dsimp only at hf
      refine lv_lload_n hx hb d_X_crossingsAt_49 rfl (lv_at hl 0 rfl) ?_
      cases hf
      exact g_lret hC rfl hP hS d_X_crossingsAt_50
    clear eKL1_49
    have hL1 : ∀ (n : Nat) (v1_1 : Int64) (v3_1 : Int64) (v5_1 : Int32) (H : Heap) (locs : List Loc) (ls : Array Slot), va_P D vwCl (wG K ad σ) H → va_S (GA ad) s.heap H locs → lv_has ls 8 [(0, .int x0), (1, .long v1_1), (3, .long v3_1), (5, .int v5_1)] → F_X_crossingsAt_23 x0 KL1_49 n v1_1 v3_1 v5_1 = some z0 → W p l e (rmd 0) s m args below meth c H locs 0 0 (MQ below (QL D K ad z0 σ) args s 0 0 (GA ad)) (F0 m 23 ls []) := by
      clear hf
      intro n
      induction n with
      | zero =>
        intro v1_1 v3_1 v5_1 H locs ls hP hS hl hf
        rw [F_X_crossingsAt_23.eq_1] at hf
        cases hf
      | succ n ih =>
        intro v1_1 v3_1 v5_1 H locs ls hP hS hl hf
        rw [F_X_crossingsAt_23.eq_2] at hf
        refine lv_iload hx hb d_X_crossingsAt_23 (lv_at hl 3 rfl) ?_
        refine lv_iload_n hx hb d_X_crossingsAt_25 rfl (lv_at hl 0 rfl) ?_
        refine lv_icmp_ge (tgt := 49) hx hb d_X_crossingsAt_26 (by decide) (fun hc2 => ?_) (fun hc2 => ?_)
        · rw [if_pos hc2] at hf
          exact hKL1_49 _ _ _ _ _ _ hP hS (lv_sub hl [2] rfl) hf
        · rw [if_neg hc2] at hf
          refine lv_ldc2 hx hb hown (hts _ cn_X_383) d_X_crossingsAt_29 ?_
          refine lv_lload_n hx hb d_X_crossingsAt_32 rfl (lv_at hl 2 rfl) ?_
          refine lv_lmul hx hb d_X_crossingsAt_33 ?_
          refine lv_lload_n hx hb d_X_crossingsAt_34 rfl (lv_at hl 1 rfl) ?_
          refine lv_lsub hx hb d_X_crossingsAt_35 ?_
          refine lv_lstore (lv' := [(6, .long (((3 : Int64) * v3_1) - v1_1)), (0, .int x0), (1, .long v1_1), (3, .long v3_1), (5, .int v5_1)]) hx hb d_X_crossingsAt_36 hl (by decide) rfl (fun ls hl => ?_)
          refine lv_lload_n hx hb d_X_crossingsAt_38 rfl (lv_at hl 3 rfl) ?_
          refine lv_lstore_n (lv' := [(1, .long v3_1), (6, .long (((3 : Int64) * v3_1) - v1_1)), (0, .int x0), (3, .long v3_1), (5, .int v5_1)]) hx hb d_X_crossingsAt_39 rfl hl (by decide) rfl (fun ls hl => ?_)
          refine lv_lload hx hb d_X_crossingsAt_40 (lv_at hl 1 rfl) ?_
          refine lv_lstore_n (lv' := [(3, .long (((3 : Int64) * v3_1) - v1_1)), (1, .long v3_1), (6, .long (((3 : Int64) * v3_1) - v1_1)), (0, .int x0), (5, .int v5_1)]) hx hb d_X_crossingsAt_42 rfl hl (by decide) rfl (fun ls hl => ?_)
          refine lv_iinc (v := v5_1 + 1) (lv' := [(5, .int (v5_1 + 1)), (3, .long (((3 : Int64) * v3_1) - v1_1)), (1, .long v3_1), (6, .long (((3 : Int64) * v3_1) - v1_1)), (0, .int x0)]) hx hb d_X_crossingsAt_43 hl (k := 4) rfl rfl (by decide) rfl (fun ls hl => ?_)
          refine lv_goto (tgt := 23) hx hb d_X_crossingsAt_46 (by decide) ?_
          exact ih _ _ _ _ _ _ hP hS (lv_sub hl [4, 2, 1, 0] rfl) hf
    exact hL1 _ _ _ _ _ _ _ hP hS (lv_sub hl [3, 2, 1, 0] rfl) hf
  · rw [if_neg hc4] at hf
    refine lv_iload_n hx hb d_X_crossingsAt_4 rfl (lv_at hl 0 rfl) ?_
    refine lv_if_ne (tgt := 12) hx hb d_X_crossingsAt_5 (by decide) (fun hc3 => ?_) (fun hc3 => ?_)
    · rw [if_neg hc3] at hf
      refine lv_lconst (v := (0 : Int64)) hx hb d_X_crossingsAt_12 (by decide) ?_
      cases hf
      exact g_lret hC rfl hP hS d_X_crossingsAt_13
    · rw [if_pos hc3] at hf
      refine lv_lconst (v := (1 : Int64)) hx hb d_X_crossingsAt_8 (by decide) ?_
      refine lv_goto (tgt := 13) hx hb d_X_crossingsAt_9 (by decide) ?_
      cases hf
      exact g_lret hC rfl hP hS d_X_crossingsAt_13
set_option maxHeartbeats 4000000 in
set_option maxRecDepth 100000 in
theorem c_X_ring {l : Launch} {D : va_G} {K : Nat → ClassId} {ad : Nat → Nat} (hj : inj ad)   {x1 : Int32} {σ : GS} {z0 : Int32 × GS} (hf : F_X_ring x1 σ = some z0) : CT l D K ad y_X_ring b_X_ring 2 (some .int) 2 [.ref (ad 0), .int x1] σ (QI D K ad z0.1 z0.2) := by
  refine CT.intro hj (by decide) (Nat.le_of_ble_eq_true rfl) ?_
  intro p e s m args below meth c ls hC hP hS hl
  obtain ⟨hx, hb, -, hown, hts, -⟩ := id hC
  have hl : lv_has ls 2 [(0, .ref (ad 0)), (1, .int x1)] := hl
  rw [F_X_ring] at hf
  refine lv_iload_n hx hb d_X_ring_0 rfl (lv_at hl 1 rfl) ?_
  refine lv_if_lt (tgt := 10) hx hb d_X_ring_1 (by decide) (fun hc7 => ?_) (fun hc7 => ?_)
  · rw [if_pos hc7] at hf
    refine lv_iconst (v := (-1 : Int32)) hx hb d_X_ring_10 (by decide) ?_
    cases hf
    exact g_iret hC rfl hP hS d_X_ring_11
  · rw [if_neg hc7] at hf
    refine lv_iload_n hx hb d_X_ring_4 rfl (lv_at hl 1 rfl) ?_
    refine lv_bipush (v := (30 : Int32)) hx hb d_X_ring_5 (by decide) ?_
    refine lv_icmp_le (tgt := 12) hx hb d_X_ring_7 (by decide) (fun hc6 => ?_) (fun hc6 => ?_)
    · rw [if_pos hc6] at hf
      refine lv_aload_n hx hb d_X_ring_12 rfl (lv_at hl 0 rfl) ?_
      refine lv_iload_n hx hb d_X_ring_13 rfl (lv_at hl 1 rfl) ?_
      obtain ⟨r2, hk1, hf⟩ := bp_some hf
      refine g_calll hS (g_runS (As := [.int x1]) (rest := [.ref (ad 0)]) hC hP (c_X_crossingsAt hj  hk1) (rk (by decide) (by decide)) nm_X_crossingsAt cd_X_crossingsAt it_WideTown ml_X_273 sc_X_crossingsAt rfl hl.1 rfl (Nat.le_of_ble_eq_true rfl) d_X_ring_14 zz) (fun H locs hP hS => ?_)
      refine lv_lconst (v := (1 : Int64)) hx hb d_X_ring_17 (by decide) ?_
      obtain ⟨r4, σ5, hk3, hf⟩ := bc_some hf
      refine g_calli hS (g_runV (As := [.long r2, .long (1 : Int64)]) (rest := []) hC hP (c_X_tell hj  hk3) (rk (by decide) (by decide)) nm_X_tell cd_X_tell it_WideTown ml_X_259 im_X_tell sl_X_tell o_0 co_X rfl hl.1 rfl (Nat.le_of_ble_eq_true rfl) d_X_ring_18 zz) (fun H locs hP hS => ?_)
      cases hf
      exact g_iret hC rfl hP hS d_X_ring_21
    · rw [if_neg hc6] at hf
      refine lv_iconst (v := (-1 : Int32)) hx hb d_X_ring_10 (by decide) ?_
      cases hf
      exact g_iret hC rfl hP hS d_X_ring_11
set_option maxHeartbeats 4000000 in
set_option maxRecDepth 100000 in
theorem c_X_crossingsUpTo {l : Launch} {D : va_G} {K : Nat → ClassId} {ad : Nat → Nat} (hj : inj ad)   {x0 : Int32} {σ : GS} {z0 : Int64} (hf : F_X_crossingsUpTo x0 = some z0) : CT l D K ad y_X_crossingsUpTo b_X_crossingsUpTo 4 (some .long) 1 [.int x0] σ (QL D K ad z0 σ) := by
  refine CT.intro hj (by decide) (Nat.le_of_ble_eq_true rfl) ?_
  intro p e s m args below meth c ls hC hP hS hl
  obtain ⟨hx, hb, -, hown, hts, -⟩ := id hC
  have hl : lv_has ls 4 [(0, .int x0)] := hl
  rw [F_X_crossingsUpTo] at hf
  refine lv_lconst (v := (0 : Int64)) hx hb d_X_crossingsUpTo_0 (by decide) ?_
  refine lv_lstore_n (lv' := [(1, .long (0 : Int64)), (0, .int x0)]) hx hb d_X_crossingsUpTo_1 rfl hl (by decide) rfl (fun ls hl => ?_)
  refine lv_iconst (v := (0 : Int32)) hx hb d_X_crossingsUpTo_2 (by decide) ?_
  refine lv_istore_n (lv' := [(3, .int (0 : Int32)), (1, .long (0 : Int64)), (0, .int x0)]) hx hb d_X_crossingsUpTo_3 rfl hl (by decide) rfl (fun ls hl => ?_)
  obtain ⟨KL1_22, eKL1_22, hf⟩ := jn_some hf
  have hKL1_22 : ∀ (v1_1 : Int64) (v3_1 : Int32) (H : Heap) (locs : List Loc) (ls : Array Slot), va_P D vwCl (wG K ad σ) H → va_S (GA ad) s.heap H locs → lv_has ls 4 [(1, .long v1_1)] → KL1_22 v1_1 v3_1 = some z0 → W p l e (rmd 1) s m args below meth c H locs 0 0 (MQ below (QL D K ad z0 σ) args s 0 0 (GA ad)) (F0 m 22 ls []) := by
    clear hf
    intro v1_1 v3_1 H locs ls hP hS hl hf
    rw [eKL1_22] at hf
    try dsimp only at hf
    refine lv_lload_n hx hb d_X_crossingsUpTo_22 rfl (lv_at hl 0 rfl) ?_
    cases hf
    exact g_lret hC rfl hP hS d_X_crossingsUpTo_23
  clear eKL1_22
  have hL1 : ∀ (n : Nat) (v1_1 : Int64) (v3_1 : Int32) (H : Heap) (locs : List Loc) (ls : Array Slot), va_P D vwCl (wG K ad σ) H → va_S (GA ad) s.heap H locs → lv_has ls 4 [(0, .int x0), (1, .long v1_1), (3, .int v3_1)] → F_X_crossingsUpTo_4 x0 KL1_22 n v1_1 v3_1 = some z0 → W p l e (rmd 1) s m args below meth c H locs 0 0 (MQ below (QL D K ad z0 σ) args s 0 0 (GA ad)) (F0 m 4 ls []) := by
    clear hf
    intro n
    induction n with
    | zero =>
      intro v1_1 v3_1 H locs ls hP hS hl hf
      rw [F_X_crossingsUpTo_4.eq_1] at hf
      cases hf
    | succ n ih =>
      intro v1_1 v3_1 H locs ls hP hS hl hf
      rw [F_X_crossingsUpTo_4.eq_2] at hf
      refine lv_iload_n hx hb d_X_crossingsUpTo_4 rfl (lv_at hl 2 rfl) ?_
      refine lv_iload_n hx hb d_X_crossingsUpTo_5 rfl (lv_at hl 0 rfl) ?_
      refine lv_icmp_gt (tgt := 22) hx hb d_X_crossingsUpTo_6 (by decide) (fun hc4 => ?_) (fun hc4 => ?_)
      · rw [if_pos hc4] at hf
        exact hKL1_22 _ _ _ _ _ hP hS (lv_sub hl [1] rfl) hf
      · rw [if_neg hc4] at hf
        refine lv_lload_n hx hb d_X_crossingsUpTo_9 rfl (lv_at hl 1 rfl) ?_
        refine lv_iload_n hx hb d_X_crossingsUpTo_10 rfl (lv_at hl 2 rfl) ?_
        obtain ⟨r3, hk2, hf⟩ := bp_some hf
        refine g_calll hS (g_runS (As := [.int v3_1]) (rest := [.long v1_1]) hC hP (c_X_crossingsAt hj  hk2) (rk (by decide) (by decide)) nm_X_crossingsAt cd_X_crossingsAt it_WideTown ml_X_273 sc_X_crossingsAt rfl hl.1 rfl (Nat.le_of_ble_eq_true rfl) d_X_crossingsUpTo_11 zz) (fun H locs hP hS => ?_)
        refine lv_ladd hx hb d_X_crossingsUpTo_14 ?_
        refine lv_lstore_n (lv' := [(1, .long (v1_1 + r3)), (0, .int x0), (3, .int v3_1)]) hx hb d_X_crossingsUpTo_15 rfl hl (by decide) rfl (fun ls hl => ?_)
        refine lv_iinc (v := v3_1 + 1) (lv' := [(3, .int (v3_1 + 1)), (1, .long (v1_1 + r3)), (0, .int x0)]) hx hb d_X_crossingsUpTo_16 hl (k := 2) rfl rfl (by decide) rfl (fun ls hl => ?_)
        refine lv_goto (tgt := 4) hx hb d_X_crossingsUpTo_19 (by decide) ?_
        exact ih _ _ _ _ _ hP hS (lv_sub hl [2, 1, 0] rfl) hf
  exact hL1 _ _ _ _ _ _ hP hS (lv_sub hl [2, 1, 0] rfl) hf
set_option maxHeartbeats 4000000 in
set_option maxRecDepth 100000 in
theorem c_X_within {l : Launch} {D : va_G} {K : Nat → ClassId} {ad : Nat → Nat} (hj : inj ad)   {x1 : Int32} {σ : GS} {z0 : Int32 × GS} (hf : F_X_within x1 σ = some z0) : CT l D K ad y_X_within b_X_within 2 (some .int) 2 [.ref (ad 0), .int x1] σ (QI D K ad z0.1 z0.2) := by
  refine CT.intro hj (by decide) (Nat.le_of_ble_eq_true rfl) ?_
  intro p e s m args below meth c ls hC hP hS hl
  obtain ⟨hx, hb, -, hown, hts, -⟩ := id hC
  have hl : lv_has ls 2 [(0, .ref (ad 0)), (1, .int x1)] := hl
  rw [F_X_within] at hf
  refine lv_iload_n hx hb d_X_within_0 rfl (lv_at hl 1 rfl) ?_
  refine lv_if_lt (tgt := 10) hx hb d_X_within_1 (by decide) (fun hc7 => ?_) (fun hc7 => ?_)
  · rw [if_pos hc7] at hf
    refine lv_iconst (v := (-1 : Int32)) hx hb d_X_within_10 (by decide) ?_
    cases hf
    exact g_iret hC rfl hP hS d_X_within_11
  · rw [if_neg hc7] at hf
    refine lv_iload_n hx hb d_X_within_4 rfl (lv_at hl 1 rfl) ?_
    refine lv_bipush (v := (30 : Int32)) hx hb d_X_within_5 (by decide) ?_
    refine lv_icmp_le (tgt := 12) hx hb d_X_within_7 (by decide) (fun hc6 => ?_) (fun hc6 => ?_)
    · rw [if_pos hc6] at hf
      refine lv_aload_n hx hb d_X_within_12 rfl (lv_at hl 0 rfl) ?_
      refine lv_iload_n hx hb d_X_within_13 rfl (lv_at hl 1 rfl) ?_
      obtain ⟨r2, hk1, hf⟩ := bp_some hf
      refine g_calll hS (g_runS (As := [.int x1]) (rest := [.ref (ad 0)]) hC hP (c_X_crossingsUpTo hj  hk1) (rk (by decide) (by decide)) nm_X_crossingsUpTo cd_X_crossingsUpTo it_WideTown ml_X_277 sc_X_crossingsUpTo rfl hl.1 rfl (Nat.le_of_ble_eq_true rfl) d_X_within_14 zz) (fun H locs hP hS => ?_)
      refine lv_lconst (v := (1 : Int64)) hx hb d_X_within_17 (by decide) ?_
      obtain ⟨r4, σ5, hk3, hf⟩ := bc_some hf
      refine g_calli hS (g_runV (As := [.long r2, .long (1 : Int64)]) (rest := []) hC hP (c_X_tell hj  hk3) (rk (by decide) (by decide)) nm_X_tell cd_X_tell it_WideTown ml_X_259 im_X_tell sl_X_tell o_0 co_X rfl hl.1 rfl (Nat.le_of_ble_eq_true rfl) d_X_within_18 zz) (fun H locs hP hS => ?_)
      cases hf
      exact g_iret hC rfl hP hS d_X_within_21
    · rw [if_neg hc6] at hf
      refine lv_iconst (v := (-1 : Int32)) hx hb d_X_within_10 (by decide) ?_
      cases hf
      exact g_iret hC rfl hP hS d_X_within_11
set_option maxHeartbeats 4000000 in
set_option maxRecDepth 100000 in
theorem c_X_edge {l : Launch} {D : va_G} {K : Nat → ClassId} {ad : Nat → Nat} (hj : inj ad)   {x1 : Int32} {σ : GS} {z0 : Int32 × GS} (hf : F_X_edge x1 σ = some z0) : CT l D K ad y_X_edge b_X_edge 2 (some .int) 2 [.ref (ad 0), .int x1] σ (QI D K ad z0.1 z0.2) := by
  refine CT.intro hj (by decide) (Nat.le_of_ble_eq_true rfl) ?_
  intro p e s m args below meth c ls hC hP hS hl
  obtain ⟨hx, hb, -, hown, hts, -⟩ := id hC
  have hl : lv_has ls 2 [(0, .ref (ad 0)), (1, .int x1)] := hl
  rw [F_X_edge] at hf
  refine lv_iload_n hx hb d_X_edge_0 rfl (lv_at hl 1 rfl) ?_
  refine lv_if_lt (tgt := 10) hx hb d_X_edge_1 (by decide) (fun hc9 => ?_) (fun hc9 => ?_)
  · rw [if_pos hc9] at hf
    refine lv_iconst (v := (-1 : Int32)) hx hb d_X_edge_10 (by decide) ?_
    cases hf
    exact g_iret hC rfl hP hS d_X_edge_11
  · rw [if_neg hc9] at hf
    refine lv_iload_n hx hb d_X_edge_4 rfl (lv_at hl 1 rfl) ?_
    refine lv_bipush (v := (30 : Int32)) hx hb d_X_edge_5 (by decide) ?_
    refine lv_icmp_le (tgt := 12) hx hb d_X_edge_7 (by decide) (fun hc8 => ?_) (fun hc8 => ?_)
    · rw [if_pos hc8] at hf
      refine lv_aload_n hx hb d_X_edge_12 rfl (lv_at hl 0 rfl) ?_
      refine lv_iload_n hx hb d_X_edge_13 rfl (lv_at hl 1 rfl) ?_
      obtain ⟨r2, hk1, hf⟩ := bp_some hf
      refine g_calll hS (g_runS (As := [.int x1]) (rest := [.ref (ad 0)]) hC hP (c_X_crossingsAt hj  hk1) (rk (by decide) (by decide)) nm_X_crossingsAt cd_X_crossingsAt it_WideTown ml_X_273 sc_X_crossingsAt rfl hl.1 rfl (Nat.le_of_ble_eq_true rfl) d_X_edge_14 zz) (fun H locs hP hS => ?_)
      refine lv_iload_n hx hb d_X_edge_17 rfl (lv_at hl 1 rfl) ?_
      obtain ⟨r4, hk3, hf⟩ := bp_some hf
      refine g_calll hS (g_runS (As := [.int x1]) (rest := [.long r2, .ref (ad 0)]) hC hP (c_X_crossingsUpTo hj  hk3) (rk (by decide) (by decide)) nm_X_crossingsUpTo cd_X_crossingsUpTo it_WideTown ml_X_277 sc_X_crossingsUpTo rfl hl.1 rfl (Nat.le_of_ble_eq_true rfl) d_X_edge_18 zz) (fun H locs hP hS => ?_)
      obtain ⟨r6, σ7, hk5, hf⟩ := bc_some hf
      refine g_calli hS (g_runV (As := [.long r2, .long r4]) (rest := []) hC hP (c_X_tell hj  hk5) (rk (by decide) (by decide)) nm_X_tell cd_X_tell it_WideTown ml_X_259 im_X_tell sl_X_tell o_0 co_X rfl hl.1 rfl (Nat.le_of_ble_eq_true rfl) d_X_edge_21 zz) (fun H locs hP hS => ?_)
      cases hf
      exact g_iret hC rfl hP hS d_X_edge_24
    · rw [if_neg hc8] at hf
      refine lv_iconst (v := (-1 : Int32)) hx hb d_X_edge_10 (by decide) ?_
      cases hf
      exact g_iret hC rfl hP hS d_X_edge_11
set_option maxHeartbeats 4000000 in
set_option maxRecDepth 100000 in
theorem c_X_crossingsNotBy1 {l : Launch} {D : va_G} {K : Nat → ClassId} {ad : Nat → Nat} (hj : inj ad)   {x0 : Int32} {σ : GS} {z0 : Int64} (hf : F_X_crossingsNotBy1 x0 = some z0) : CT l D K ad y_X_crossingsNotBy1 b_X_crossingsNotBy1 4 (some .long) 1 [.int x0] σ (QL D K ad z0 σ) := by
  refine CT.intro hj (by decide) (Nat.le_of_ble_eq_true rfl) ?_
  intro p e s m args below meth c ls hC hP hS hl
  obtain ⟨hx, hb, -, hown, hts, -⟩ := id hC
  have hl : lv_has ls 4 [(0, .int x0)] := hl
  rw [F_X_crossingsNotBy1] at hf
  refine lv_lconst (v := (0 : Int64)) hx hb d_X_crossingsNotBy1_0 (by decide) ?_
  refine lv_lstore_n (lv' := [(1, .long (0 : Int64)), (0, .int x0)]) hx hb d_X_crossingsNotBy1_1 rfl hl (by decide) rfl (fun ls hl => ?_)
  refine lv_iconst (v := (0 : Int32)) hx hb d_X_crossingsNotBy1_2 (by decide) ?_
  refine lv_istore_n (lv' := [(3, .int (0 : Int32)), (1, .long (0 : Int64)), (0, .int x0)]) hx hb d_X_crossingsNotBy1_3 rfl hl (by decide) rfl (fun ls hl => ?_)
  obtain ⟨KL1_22, eKL1_22, hf⟩ := jn_some hf
  have hKL1_22 : ∀ (v1_1 : Int64) (v3_1 : Int32) (H : Heap) (locs : List Loc) (ls : Array Slot), va_P D vwCl (wG K ad σ) H → va_S (GA ad) s.heap H locs → lv_has ls 4 [(1, .long v1_1)] → KL1_22 v1_1 v3_1 = some z0 → W p l e (rmd 1) s m args below meth c H locs 0 0 (MQ below (QL D K ad z0 σ) args s 0 0 (GA ad)) (F0 m 22 ls []) := by
    clear hf
    intro v1_1 v3_1 H locs ls hP hS hl hf
    rw [eKL1_22] at hf
    try dsimp only at hf
    refine lv_lload_n hx hb d_X_crossingsNotBy1_22 rfl (lv_at hl 0 rfl) ?_
    cases hf
    exact g_lret hC rfl hP hS d_X_crossingsNotBy1_23
  clear eKL1_22
  have hL1 : ∀ (n : Nat) (v1_1 : Int64) (v3_1 : Int32) (H : Heap) (locs : List Loc) (ls : Array Slot), va_P D vwCl (wG K ad σ) H → va_S (GA ad) s.heap H locs → lv_has ls 4 [(0, .int x0), (1, .long v1_1), (3, .int v3_1)] → F_X_crossingsNotBy1_4 x0 KL1_22 n v1_1 v3_1 = some z0 → W p l e (rmd 1) s m args below meth c H locs 0 0 (MQ below (QL D K ad z0 σ) args s 0 0 (GA ad)) (F0 m 4 ls []) := by
    clear hf
    intro n
    induction n with
    | zero =>
      intro v1_1 v3_1 H locs ls hP hS hl hf
      rw [F_X_crossingsNotBy1_4.eq_1] at hf
      cases hf
    | succ n ih =>
      intro v1_1 v3_1 H locs ls hP hS hl hf
      rw [F_X_crossingsNotBy1_4.eq_2] at hf
      refine lv_iload_n hx hb d_X_crossingsNotBy1_4 rfl (lv_at hl 2 rfl) ?_
      refine lv_iload_n hx hb d_X_crossingsNotBy1_5 rfl (lv_at hl 0 rfl) ?_
      refine lv_icmp_gt (tgt := 22) hx hb d_X_crossingsNotBy1_6 (by decide) (fun hc4 => ?_) (fun hc4 => ?_)
      · rw [if_pos hc4] at hf
        exact hKL1_22 _ _ _ _ _ hP hS (lv_sub hl [1] rfl) hf
      · rw [if_neg hc4] at hf
        refine lv_iload_n hx hb d_X_crossingsNotBy1_9 rfl (lv_at hl 2 rfl) ?_
        obtain ⟨r3, hk2, hf⟩ := bp_some hf
        refine g_calll hS (g_runS (As := [.int v3_1]) (rest := []) hC hP (c_X_crossingsAt hj  hk2) (rk (by decide) (by decide)) nm_X_crossingsAt cd_X_crossingsAt it_WideTown ml_X_273 sc_X_crossingsAt rfl hl.1 rfl (Nat.le_of_ble_eq_true rfl) d_X_crossingsNotBy1_10 zz) (fun H locs hP hS => ?_)
        refine lv_lload_n hx hb d_X_crossingsNotBy1_13 rfl (lv_at hl 1 rfl) ?_
        refine lv_lsub hx hb d_X_crossingsNotBy1_14 ?_
        refine lv_lstore_n (lv' := [(1, .long (r3 - v1_1)), (0, .int x0), (3, .int v3_1)]) hx hb d_X_crossingsNotBy1_15 rfl hl (by decide) rfl (fun ls hl => ?_)
        refine lv_iinc (v := v3_1 + 1) (lv' := [(3, .int (v3_1 + 1)), (1, .long (r3 - v1_1)), (0, .int x0)]) hx hb d_X_crossingsNotBy1_16 hl (k := 2) rfl rfl (by decide) rfl (fun ls hl => ?_)
        refine lv_goto (tgt := 4) hx hb d_X_crossingsNotBy1_19 (by decide) ?_
        exact ih _ _ _ _ _ hP hS (lv_sub hl [2, 1, 0] rfl) hf
  exact hL1 _ _ _ _ _ _ hP hS (lv_sub hl [2, 1, 0] rfl) hf
set_option maxHeartbeats 4000000 in
set_option maxRecDepth 100000 in
theorem c_X_crossingsNotBy2 {l : Launch} {D : va_G} {K : Nat → ClassId} {ad : Nat → Nat} (hj : inj ad)   {x0 : Int32} {σ : GS} {z0 : Int64} (hf : F_X_crossingsNotBy2 x0 = some z0) : CT l D K ad y_X_crossingsNotBy2 b_X_crossingsNotBy2 4 (some .long) 2 [.int x0] σ (QL D K ad z0 σ) := by
  refine CT.intro hj (by decide) (Nat.le_of_ble_eq_true rfl) ?_
  intro p e s m args below meth c ls hC hP hS hl
  obtain ⟨hx, hb, -, hown, hts, -⟩ := id hC
  have hl : lv_has ls 4 [(0, .int x0)] := hl
  rw [F_X_crossingsNotBy2] at hf
  refine lv_lconst (v := (0 : Int64)) hx hb d_X_crossingsNotBy2_0 (by decide) ?_
  refine lv_lstore_n (lv' := [(1, .long (0 : Int64)), (0, .int x0)]) hx hb d_X_crossingsNotBy2_1 rfl hl (by decide) rfl (fun ls hl => ?_)
  refine lv_iload_n hx hb d_X_crossingsNotBy2_2 rfl (lv_at hl 1 rfl) ?_
  refine lv_iconst (v := (2 : Int32)) hx hb d_X_crossingsNotBy2_3 (by decide) ?_
  refine lv_irem hx hb d_X_crossingsNotBy2_4 (by decide) ?_
  refine lv_istore_n (lv' := [(3, .int (x0 - x0 / (2 : Int32) * (2 : Int32))), (1, .long (0 : Int64)), (0, .int x0)]) hx hb d_X_crossingsNotBy2_5 rfl hl (by decide) rfl (fun ls hl => ?_)
  obtain ⟨KL1_35, eKL1_35, hf⟩ := jn_some hf
  have hKL1_35 : ∀ (v1_1 : Int64) (v3_1 : Int32) (H : Heap) (locs : List Loc) (ls : Array Slot), va_P D vwCl (wG K ad σ) H → va_S (GA ad) s.heap H locs → lv_has ls 4 [(1, .long v1_1)] → KL1_35 v1_1 v3_1 = some z0 → W p l e (rmd 2) s m args below meth c H locs 0 0 (MQ below (QL D K ad z0 σ) args s 0 0 (GA ad)) (F0 m 35 ls []) := by
    clear hf
    intro v1_1 v3_1 H locs ls hP hS hl hf
    rw [eKL1_35] at hf
    try dsimp only at hf
    refine lv_lload_n hx hb d_X_crossingsNotBy2_35 rfl (lv_at hl 0 rfl) ?_
    cases hf
    exact g_lret hC rfl hP hS d_X_crossingsNotBy2_36
  clear eKL1_35
  have hL1 : ∀ (n : Nat) (v1_1 : Int64) (v3_1 : Int32) (H : Heap) (locs : List Loc) (ls : Array Slot), va_P D vwCl (wG K ad σ) H → va_S (GA ad) s.heap H locs → lv_has ls 4 [(0, .int x0), (1, .long v1_1), (3, .int v3_1)] → F_X_crossingsNotBy2_6 x0 KL1_35 n v1_1 v3_1 = some z0 → W p l e (rmd 2) s m args below meth c H locs 0 0 (MQ below (QL D K ad z0 σ) args s 0 0 (GA ad)) (F0 m 6 ls []) := by
    clear hf
    intro n
    induction n with
    | zero =>
      intro v1_1 v3_1 H locs ls hP hS hl hf
      rw [F_X_crossingsNotBy2_6.eq_1] at hf
      cases hf
    | succ n ih =>
      intro v1_1 v3_1 H locs ls hP hS hl hf
      rw [F_X_crossingsNotBy2_6.eq_2] at hf
      refine lv_iload_n hx hb d_X_crossingsNotBy2_6 rfl (lv_at hl 2 rfl) ?_
      refine lv_iload_n hx hb d_X_crossingsNotBy2_7 rfl (lv_at hl 0 rfl) ?_
      refine lv_icmp_gt (tgt := 35) hx hb d_X_crossingsNotBy2_8 (by decide) (fun hc6 => ?_) (fun hc6 => ?_)
      · rw [if_pos hc6] at hf
        exact hKL1_35 _ _ _ _ _ hP hS (lv_sub hl [1] rfl) hf
      · rw [if_neg hc6] at hf
        refine lv_iload_n hx hb d_X_crossingsNotBy2_11 rfl (lv_at hl 2 rfl) ?_
        obtain ⟨r3, hk2, hf⟩ := bp_some hf
        refine g_calll hS (g_runS (As := [.int v3_1]) (rest := []) hC hP (c_X_crossingsAt hj  hk2) (rk (by decide) (by decide)) nm_X_crossingsAt cd_X_crossingsAt it_WideTown ml_X_273 sc_X_crossingsAt rfl hl.1 rfl (Nat.le_of_ble_eq_true rfl) d_X_crossingsNotBy2_12 zz) (fun H locs hP hS => ?_)
        refine lv_ldc2 hx hb hown (hts _ cn_X_385) d_X_crossingsNotBy2_15 ?_
        refine lv_iload_n hx hb d_X_crossingsNotBy2_18 rfl (lv_at hl 2 rfl) ?_
        refine lv_iconst (v := (1 : Int32)) hx hb d_X_crossingsNotBy2_19 (by decide) ?_
        refine lv_isub hx hb d_X_crossingsNotBy2_20 ?_
        obtain ⟨r5, hk4, hf⟩ := bp_some hf
        refine g_calll hS (g_runS (As := [.int (v3_1 - (1 : Int32))]) (rest := [.long (2 : Int64), .long r3]) hC hP (c_X_crossingsNotBy1 hj  hk4) (rk (by decide) (by decide)) nm_X_crossingsNotBy1 cd_X_crossingsNotBy1 it_WideTown ml_X_280 sc_X_crossingsNotBy1 rfl hl.1 rfl (Nat.le_of_ble_eq_true rfl) d_X_crossingsNotBy2_21 zz) (fun H locs hP hS => ?_)
        refine lv_lmul hx hb d_X_crossingsNotBy2_24 ?_
        refine lv_lsub hx hb d_X_crossingsNotBy2_25 ?_
        refine lv_lload_n hx hb d_X_crossingsNotBy2_26 rfl (lv_at hl 1 rfl) ?_
        refine lv_ladd hx hb d_X_crossingsNotBy2_27 ?_
        refine lv_lstore_n (lv' := [(1, .long ((r3 - ((2 : Int64) * r5)) + v1_1)), (0, .int x0), (3, .int v3_1)]) hx hb d_X_crossingsNotBy2_28 rfl hl (by decide) rfl (fun ls hl => ?_)
        refine lv_iinc (v := v3_1 + 2) (lv' := [(3, .int (v3_1 + 2)), (1, .long ((r3 - ((2 : Int64) * r5)) + v1_1)), (0, .int x0)]) hx hb d_X_crossingsNotBy2_29 hl (k := 2) rfl rfl (by decide) rfl (fun ls hl => ?_)
        refine lv_goto (tgt := 6) hx hb d_X_crossingsNotBy2_32 (by decide) ?_
        exact ih _ _ _ _ _ hP hS (lv_sub hl [2, 1, 0] rfl) hf
  exact hL1 _ _ _ _ _ _ hP hS (lv_sub hl [2, 1, 0] rfl) hf
set_option maxHeartbeats 4000000 in
set_option maxRecDepth 100000 in
theorem c_X_beyond {l : Launch} {D : va_G} {K : Nat → ClassId} {ad : Nat → Nat} (hj : inj ad)   {x1 : Int32} {x2 : Int32} {σ : GS} {z0 : Int32 × GS} (hf : F_X_beyond x1 x2 σ = some z0) : CT l D K ad y_X_beyond b_X_beyond 4 (some .int) 4 [.ref (ad 0), .int x1, .int x2] σ (QI D K ad z0.1 z0.2) := by
  refine CT.intro hj (by decide) (Nat.le_of_ble_eq_true rfl) ?_
  intro p e s m args below meth c ls hC hP hS hl
  obtain ⟨hx, hb, -, hown, hts, -⟩ := id hC
  have hl : lv_has ls 4 [(0, .ref (ad 0)), (1, .int x1), (2, .int x2)] := hl
  rw [F_X_beyond] at hf
  refine lv_iload_n hx hb d_X_beyond_0 rfl (lv_at hl 1 rfl) ?_
  obtain ⟨r2, hk1, hf⟩ := bp_some hf
  refine g_calli hS (g_runS (As := [.int x1]) (rest := []) hC hP (c_X_isCode hj  hk1) (rk (by decide) (by decide)) nm_X_isCode cd_X_isCode it_WideTown ml_X_208 sc_X_isCode rfl hl.1 rfl (Nat.le_of_ble_eq_true rfl) d_X_beyond_1 zz) (fun H locs hP hS => ?_)
  refine lv_if_eq (tgt := 17) hx hb d_X_beyond_4 (by decide) (fun hc28 => ?_) (fun hc28 => ?_)
  · rw [if_pos hc28] at hf
    refine lv_iconst (v := (-1 : Int32)) hx hb d_X_beyond_17 (by decide) ?_
    cases hf
    exact g_iret hC rfl hP hS d_X_beyond_18
  · rw [if_neg hc28] at hf
    refine lv_iload_n hx hb d_X_beyond_7 rfl (lv_at hl 2 rfl) ?_
    refine lv_if_lt (tgt := 17) hx hb d_X_beyond_8 (by decide) (fun hc27 => ?_) (fun hc27 => ?_)
    · rw [if_pos hc27] at hf
      refine lv_iconst (v := (-1 : Int32)) hx hb d_X_beyond_17 (by decide) ?_
      cases hf
      exact g_iret hC rfl hP hS d_X_beyond_18
    · rw [if_neg hc27] at hf
      refine lv_iload_n hx hb d_X_beyond_11 rfl (lv_at hl 2 rfl) ?_
      refine lv_bipush (v := (20 : Int32)) hx hb d_X_beyond_12 (by decide) ?_
      refine lv_icmp_le (tgt := 19) hx hb d_X_beyond_14 (by decide) (fun hc26 => ?_) (fun hc26 => ?_)
      · rw [if_pos hc26] at hf
        refine lv_aload_n hx hb d_X_beyond_19 rfl (lv_at hl 0 rfl) ?_
        refine g_get (v := .ref (ad 32)) hC hP o_0 co_X 7 (by decide) rfl fl_X_47 rfl d_X_beyond_20 ?_
        refine lv_iload_n hx hb d_X_beyond_23 rfl (lv_at hl 1 rfl) ?_
        obtain ⟨σ4, hk3, hf⟩ := bv_some hf
        refine g_callv hS (g_runV (As := [.int x1]) (rest := []) hC hP (c_Wd_becomes hj ⟨o_32, a_33⟩ hk3) (rk (by decide) (by decide)) nm_Wd_becomes cd_Wd_becomes it_WideTown_Word ml_X_187 im_Wd_becomes sl_Wd_becomes o_32 co_Wd rfl hl.1 rfl (Nat.le_of_ble_eq_true rfl) d_X_beyond_24 zz) (fun H locs hP hS => ?_)
        refine lv_aload_n hx hb d_X_beyond_27 rfl (lv_at hl 0 rfl) ?_
        refine g_get (v := .ref (ad 32)) hC hP o_0 co_X 7 (by decide) rfl fl_X_47 rfl d_X_beyond_28 ?_
        obtain ⟨r6, hk5, hf⟩ := bp_some hf
        refine g_calli hS (g_runV (As := []) (rest := []) hC hP (c_Wd_lastStreets hj ⟨o_32, a_33⟩ hk5) (rk (by decide) (by decide)) nm_Wd_lastStreets cd_Wd_lastStreets it_WideTown_Word ml_X_191 im_Wd_lastStreets sl_Wd_lastStreets o_32 co_Wd rfl hl.1 rfl (Nat.le_of_ble_eq_true rfl) d_X_beyond_31 zz) (fun H locs hP hS => ?_)
        obtain ⟨r8, hk7, hf⟩ := bp_some hf
        refine g_calli hS (g_runS (As := [.int r6]) (rest := []) hC hP (c_J_bitCount hj  hk7) (rk (by decide) (by decide)) nm_J_bitCount cd_J_bitCount it_java_lang_Integer ml_X_195 sc_J_bitCount rfl hl.1 rfl (Nat.le_of_ble_eq_true rfl) d_X_beyond_34 zz) (fun H locs hP hS => ?_)
        refine lv_istore_n (lv' := [(3, .int r8), (0, .ref (ad 0)), (1, .int x1), (2, .int x2)]) hx hb d_X_beyond_37 rfl hl (by decide) rfl (fun ls hl => ?_)
        refine lv_iload_n hx hb d_X_beyond_38 rfl (lv_at hl 0 rfl) ?_
        refine lv_if_ne (tgt := 52) hx hb d_X_beyond_39 (by decide) (fun hc25 => ?_) (fun hc25 => ?_)
        · rw [if_neg hc25] at hf
          refine lv_aload_n hx hb d_X_beyond_52 rfl (lv_at hl 1 rfl) ?_
          refine lv_iload_n hx hb d_X_beyond_53 rfl (lv_at hl 0 rfl) ?_
          refine lv_iconst (v := (1 : Int32)) hx hb d_X_beyond_54 (by decide) ?_
          refine lv_icmp_ne (tgt := 65) hx hb d_X_beyond_55 (by decide) (fun hc19 => ?_) (fun hc19 => ?_)
          · rw [if_neg hc19] at hf
            refine lv_iload_n hx hb d_X_beyond_65 rfl (lv_at hl 3 rfl) ?_
            obtain ⟨r10, hk9, hf⟩ := bp_some hf
            refine g_calll hS (g_runS (As := [.int x2]) (rest := [.ref (ad 0)]) hC hP (c_X_crossingsNotBy2 hj  hk9) (rk (by decide) (by decide)) nm_X_crossingsNotBy2 cd_X_crossingsNotBy2 it_WideTown ml_X_283 sc_X_crossingsNotBy2 rfl hl.1 rfl (Nat.le_of_ble_eq_true rfl) d_X_beyond_66 zz) (fun H locs hP hS => ?_)
            refine lv_lconst (v := (1 : Int64)) hx hb d_X_beyond_69 (by decide) ?_
            obtain ⟨r12, σ13, hk11, hf⟩ := bc_some hf
            refine g_calli hS (g_runV (As := [.long r10, .long (1 : Int64)]) (rest := []) hC hP (c_X_tell hj  hk11) (rk (by decide) (by decide)) nm_X_tell cd_X_tell it_WideTown ml_X_259 im_X_tell sl_X_tell o_0 co_X rfl hl.1 rfl (Nat.le_of_ble_eq_true rfl) d_X_beyond_70 zz) (fun H locs hP hS => ?_)
            cases hf
            exact g_iret hC rfl hP hS d_X_beyond_73
          · rw [if_pos hc19] at hf
            refine lv_iload_n hx hb d_X_beyond_58 rfl (lv_at hl 3 rfl) ?_
            obtain ⟨r15, hk14, hf⟩ := bp_some hf
            refine g_calll hS (g_runS (As := [.int x2]) (rest := [.ref (ad 0)]) hC hP (c_X_crossingsNotBy1 hj  hk14) (rk (by decide) (by decide)) nm_X_crossingsNotBy1 cd_X_crossingsNotBy1 it_WideTown ml_X_280 sc_X_crossingsNotBy1 rfl hl.1 rfl (Nat.le_of_ble_eq_true rfl) d_X_beyond_59 zz) (fun H locs hP hS => ?_)
            refine lv_goto (tgt := 69) hx hb d_X_beyond_62 (by decide) ?_
            refine lv_lconst (v := (1 : Int64)) hx hb d_X_beyond_69 (by decide) ?_
            obtain ⟨r17, σ18, hk16, hf⟩ := bc_some hf
            refine g_calli hS (g_runV (As := [.long r15, .long (1 : Int64)]) (rest := []) hC hP (c_X_tell hj  hk16) (rk (by decide) (by decide)) nm_X_tell cd_X_tell it_WideTown ml_X_259 im_X_tell sl_X_tell o_0 co_X rfl hl.1 rfl (Nat.le_of_ble_eq_true rfl) d_X_beyond_70 zz) (fun H locs hP hS => ?_)
            cases hf
            exact g_iret hC rfl hP hS d_X_beyond_73
        · rw [if_pos hc25] at hf
          refine lv_aload_n hx hb d_X_beyond_42 rfl (lv_at hl 1 rfl) ?_
          refine lv_iload_n hx hb d_X_beyond_43 rfl (lv_at hl 3 rfl) ?_
          obtain ⟨r21, hk20, hf⟩ := bp_some hf
          refine g_calll hS (g_runS (As := [.int x2]) (rest := [.ref (ad 0)]) hC hP (c_X_crossingsAt hj  hk20) (rk (by decide) (by decide)) nm_X_crossingsAt cd_X_crossingsAt it_WideTown ml_X_273 sc_X_crossingsAt rfl hl.1 rfl (Nat.le_of_ble_eq_true rfl) d_X_beyond_44 zz) (fun H locs hP hS => ?_)
          refine lv_lconst (v := (1 : Int64)) hx hb d_X_beyond_47 (by decide) ?_
          obtain ⟨r23, σ24, hk22, hf⟩ := bc_some hf
          refine g_calli hS (g_runV (As := [.long r21, .long (1 : Int64)]) (rest := []) hC hP (c_X_tell hj  hk22) (rk (by decide) (by decide)) nm_X_tell cd_X_tell it_WideTown ml_X_259 im_X_tell sl_X_tell o_0 co_X rfl hl.1 rfl (Nat.le_of_ble_eq_true rfl) d_X_beyond_48 zz) (fun H locs hP hS => ?_)
          cases hf
          exact g_iret hC rfl hP hS d_X_beyond_51
      · rw [if_neg hc26] at hf
        refine lv_iconst (v := (-1 : Int32)) hx hb d_X_beyond_17 (by decide) ?_
        cases hf
        exact g_iret hC rfl hP hS d_X_beyond_18
set_option maxHeartbeats 4000000 in
set_option maxRecDepth 100000 in
theorem c_X_houses {l : Launch} {D : va_G} {K : Nat → ClassId} {ad : Nat → Nat} (hj : inj ad)   {x1 : Int32} {σ : GS} {z0 : Int32 × GS} (hf : F_X_houses x1 σ = some z0) : CT l D K ad y_X_houses b_X_houses 5 (some .int) 3 [.ref (ad 0), .int x1] σ (QI D K ad z0.1 z0.2) := by
  refine CT.intro hj (by decide) (Nat.le_of_ble_eq_true rfl) ?_
  intro p e s m args below meth c ls hC hP hS hl
  obtain ⟨hx, hb, -, hown, hts, -⟩ := id hC
  have hl : lv_has ls 5 [(0, .ref (ad 0)), (1, .int x1)] := hl
  rw [F_X_houses] at hf
  refine lv_iload_n hx hb d_X_houses_0 rfl (lv_at hl 1 rfl) ?_
  refine lv_if_lt (tgt := 10) hx hb d_X_houses_1 (by decide) (fun hc9 => ?_) (fun hc9 => ?_)
  · rw [if_pos hc9] at hf
    refine lv_iconst (v := (-1 : Int32)) hx hb d_X_houses_10 (by decide) ?_
    cases hf
    exact g_iret hC rfl hP hS d_X_houses_11
  · rw [if_neg hc9] at hf
    refine lv_iload_n hx hb d_X_houses_4 rfl (lv_at hl 1 rfl) ?_
    refine lv_bipush (v := (20 : Int32)) hx hb d_X_houses_5 (by decide) ?_
    refine lv_icmp_le (tgt := 12) hx hb d_X_houses_7 (by decide) (fun hc8 => ?_) (fun hc8 => ?_)
    · rw [if_pos hc8] at hf
      refine lv_lconst (v := (0 : Int64)) hx hb d_X_houses_12 (by decide) ?_
      refine lv_lstore_n (lv' := [(2, .long (0 : Int64)), (0, .ref (ad 0)), (1, .int x1)]) hx hb d_X_houses_13 rfl hl (by decide) rfl (fun ls hl => ?_)
      refine lv_iconst (v := (0 : Int32)) hx hb d_X_houses_14 (by decide) ?_
      refine lv_istore (lv' := [(4, .int (0 : Int32)), (2, .long (0 : Int64)), (0, .ref (ad 0)), (1, .int x1)]) hx hb d_X_houses_15 hl (by decide) rfl (fun ls hl => ?_)
      obtain ⟨KL1_41, eKL1_41, hf⟩ := jn_some hf
      have hKL1_41 : ∀ (v2_1 : Int64) (v4_1 : Int32) (H : Heap) (locs : List Loc) (ls : Array Slot), va_P D vwCl (wG K ad σ) H → va_S (GA ad) s.heap H locs → lv_has ls 5 [(0, .ref (ad 0)), (2, .long v2_1)] → KL1_41 v2_1 v4_1 = some z0 → W p l e (rmd 3) s m args below meth c H locs 0 0 (MQ below (QI D K ad z0.1 z0.2) args s 0 0 (GA ad)) (F0 m 41 ls []) := by
        clear hf
        intro v2_1 v4_1 H locs ls hP hS hl hf
        rw [eKL1_41] at hf
        try dsimp only at hf
        refine lv_aload_n hx hb d_X_houses_41 rfl (lv_at hl 0 rfl) ?_
        refine lv_lload_n hx hb d_X_houses_42 rfl (lv_at hl 1 rfl) ?_
        refine lv_lconst (v := (1 : Int64)) hx hb d_X_houses_43 (by decide) ?_
        obtain ⟨r3, σ4, hk2, hf⟩ := bc_some hf
        refine g_calli hS (g_runV (As := [.long v2_1, .long (1 : Int64)]) (rest := []) hC hP (c_X_tell hj  hk2) (rk (by decide) (by decide)) nm_X_tell cd_X_tell it_WideTown ml_X_259 im_X_tell sl_X_tell o_0 co_X rfl hl.1 rfl (Nat.le_of_ble_eq_true rfl) d_X_houses_44 zz) (fun H locs hP hS => ?_)
        cases hf
        exact g_iret hC rfl hP hS d_X_houses_47
      clear eKL1_41
      have hL1 : ∀ (n : Nat) (v2_1 : Int64) (v4_1 : Int32) (H : Heap) (locs : List Loc) (ls : Array Slot), va_P D vwCl (wG K ad σ) H → va_S (GA ad) s.heap H locs → lv_has ls 5 [(0, .ref (ad 0)), (1, .int x1), (2, .long v2_1), (4, .int v4_1)] → F_X_houses_17 x1 σ KL1_41 n v2_1 v4_1 = some z0 → W p l e (rmd 3) s m args below meth c H locs 0 0 (MQ below (QI D K ad z0.1 z0.2) args s 0 0 (GA ad)) (F0 m 17 ls []) := by
        clear hf
        intro n
        induction n with
        | zero =>
          intro v2_1 v4_1 H locs ls hP hS hl hf
          rw [F_X_houses_17.eq_1] at hf
          cases hf
        | succ n ih =>
          intro v2_1 v4_1 H locs ls hP hS hl hf
          rw [F_X_houses_17.eq_2] at hf
          refine lv_iload hx hb d_X_houses_17 (lv_at hl 3 rfl) ?_
          refine lv_iload_n hx hb d_X_houses_19 rfl (lv_at hl 1 rfl) ?_
          refine lv_icmp_gt (tgt := 41) hx hb d_X_houses_20 (by decide) (fun hc7 => ?_) (fun hc7 => ?_)
          · rw [if_pos hc7] at hf
            exact hKL1_41 _ _ _ _ _ hP hS (lv_sub hl [0, 2] rfl) hf
          · rw [if_neg hc7] at hf
            refine lv_lload_n hx hb d_X_houses_23 rfl (lv_at hl 2 rfl) ?_
            refine lv_ldc2 hx hb hown (hts _ cn_X_286) d_X_houses_24 ?_
            refine lv_iload hx hb d_X_houses_27 (lv_at hl 3 rfl) ?_
            obtain ⟨r6, hk5, hf⟩ := bp_some hf
            refine g_calll hS (g_runS (As := [.int v4_1]) (rest := [.long (5 : Int64), .long v2_1]) hC hP (c_X_crossingsNotBy2 hj  hk5) (rk (by decide) (by decide)) nm_X_crossingsNotBy2 cd_X_crossingsNotBy2 it_WideTown ml_X_283 sc_X_crossingsNotBy2 rfl hl.1 rfl (Nat.le_of_ble_eq_true rfl) d_X_houses_29 zz) (fun H locs hP hS => ?_)
            refine lv_lmul hx hb d_X_houses_32 ?_
            refine lv_ladd hx hb d_X_houses_33 ?_
            refine lv_lstore_n (lv' := [(2, .long (v2_1 + ((5 : Int64) * r6))), (0, .ref (ad 0)), (1, .int x1), (4, .int v4_1)]) hx hb d_X_houses_34 rfl hl (by decide) rfl (fun ls hl => ?_)
            refine lv_iinc (v := v4_1 + 1) (lv' := [(4, .int (v4_1 + 1)), (2, .long (v2_1 + ((5 : Int64) * r6))), (0, .ref (ad 0)), (1, .int x1)]) hx hb d_X_houses_35 hl (k := 3) rfl rfl (by decide) rfl (fun ls hl => ?_)
            refine lv_goto (tgt := 17) hx hb d_X_houses_38 (by decide) ?_
            exact ih _ _ _ _ _ hP hS (lv_sub hl [2, 3, 1, 0] rfl) hf
      exact hL1 _ _ _ _ _ _ hP hS (lv_sub hl [2, 3, 1, 0] rfl) hf
    · rw [if_neg hc8] at hf
      refine lv_iconst (v := (-1 : Int32)) hx hb d_X_houses_10 (by decide) ?_
      cases hf
      exact g_iret hC rfl hP hS d_X_houses_11
set_option maxHeartbeats 4000000 in
set_option maxRecDepth 100000 in
theorem c_X_streetsRefusal {l : Launch} {D : va_G} {K : Nat → ClassId} {ad : Nat → Nat} (hj : inj ad)   {x1 : Int32} {σ : GS} {z0 : Int32 × GS} (hf : F_X_streetsRefusal x1 σ = some z0) : CT l D K ad y_X_streetsRefusal b_X_streetsRefusal 4 (some .int) 2 [.ref (ad 0), .int x1] σ (QI D K ad z0.1 z0.2) := by
  refine CT.intro hj (by decide) (Nat.le_of_ble_eq_true rfl) ?_
  intro p e s m args below meth c ls hC hP hS hl
  obtain ⟨hx, hb, -, hown, hts, -⟩ := id hC
  have hl : lv_has ls 4 [(0, .ref (ad 0)), (1, .int x1)] := hl
  rw [F_X_streetsRefusal] at hf
  refine lv_aload_n hx hb d_X_streetsRefusal_0 rfl (lv_at hl 0 rfl) ?_
  refine lv_iload_n hx hb d_X_streetsRefusal_1 rfl (lv_at hl 1 rfl) ?_
  obtain ⟨r2, σ3, hk1, hf⟩ := bc_some hf
  refine g_calli hS (g_runV (As := [.int x1]) (rest := []) hC hP (c_X_rowRefusal hj  hk1) (rk (by decide) (by decide)) nm_X_rowRefusal cd_X_rowRefusal it_WideTown ml_X_128 im_X_rowRefusal sl_X_rowRefusal o_0 co_X rfl hl.1 rfl (Nat.le_of_ble_eq_true rfl) d_X_streetsRefusal_2 zz) (fun H locs hP hS => ?_)
  refine lv_istore_n (lv' := [(2, .int r2), (0, .ref (ad 0)), (1, .int x1)]) hx hb d_X_streetsRefusal_5 rfl hl (by decide) rfl (fun ls hl => ?_)
  refine lv_iload_n hx hb d_X_streetsRefusal_6 rfl (lv_at hl 0 rfl) ?_
  refine lv_if_eq (tgt := 12) hx hb d_X_streetsRefusal_7 (by decide) (fun hc15 => ?_) (fun hc15 => ?_)
  · rw [if_pos hc15] at hf
    refine lv_iconst (v := (0 : Int32)) hx hb d_X_streetsRefusal_12 (by decide) ?_
    refine lv_istore_n (lv' := [(3, .int (0 : Int32)), (2, .int r2), (0, .ref (ad 0)), (1, .int x1)]) hx hb d_X_streetsRefusal_13 rfl hl (by decide) rfl (fun ls hl => ?_)
    obtain ⟨KL4_50, eKL4_50, hf⟩ := jn_some hf
    have hKL4_50 : ∀ (v3_4 : Int32) (σL4 : GS) (H : Heap) (locs : List Loc) (ls : Array Slot), va_P D vwCl (wG K ad σL4) H → va_S (GA ad) s.heap H locs → lv_has ls 4 [] → KL4_50 v3_4 σL4 = some z0 → W p l e (rmd 2) s m args below meth c H locs 0 0 (MQ below (QI D K ad z0.1 z0.2) args s 0 0 (GA ad)) (F0 m 50 ls []) := by
      clear hf
      intro v3_4 σL4 H locs ls hP hS hl hf
      rw [eKL4_50] at hf
      try dsimp only at hf
      refine lv_iconst (v := (0 : Int32)) hx hb d_X_streetsRefusal_50 (by decide) ?_
      cases hf
      exact g_iret hC rfl hP hS d_X_streetsRefusal_51
    clear eKL4_50
    have hL4 : ∀ (n : Nat) (v3_4 : Int32) (σL4 : GS) (H : Heap) (locs : List Loc) (ls : Array Slot), va_P D vwCl (wG K ad σL4) H → va_S (GA ad) s.heap H locs → lv_has ls 4 [(0, .ref (ad 0)), (1, .int x1), (3, .int v3_4)] → F_X_streetsRefusal_14 x1 KL4_50 n v3_4 σL4 = some z0 → W p l e (rmd 2) s m args below meth c H locs 0 0 (MQ below (QI D K ad z0.1 z0.2) args s 0 0 (GA ad)) (F0 m 14 ls []) := by
      clear hf
      intro n
      induction n with
      | zero =>
        intro v3_4 σL4 H locs ls hP hS hl hf
        rw [F_X_streetsRefusal_14.eq_1] at hf
        cases hf
      | succ n ih =>
        intro v3_4 σL4 H locs ls hP hS hl hf
        rw [F_X_streetsRefusal_14.eq_2] at hf
        refine lv_iload_n hx hb d_X_streetsRefusal_14 rfl (lv_at hl 2 rfl) ?_
        refine lv_aload_n hx hb d_X_streetsRefusal_15 rfl (lv_at hl 0 rfl) ?_
        refine g_get (v := .ref (ad 8)) hC hP o_0 co_X 1 (by decide) rfl fl_X_14 rfl d_X_streetsRefusal_16 ?_
        refine lv_iload_n hx hb d_X_streetsRefusal_19 rfl (lv_at hl 1 rfl) ?_
        obtain ⟨hg5, hf⟩ := gd_some hf
        refine g_iald2 (j := x1.toNatClampNeg) hC hP a_8 hg5 rfl d_X_streetsRefusal_20 ?_
        refine lv_icmp_ge (tgt := 50) hx hb d_X_streetsRefusal_21 (by decide) (fun hc14 => ?_) (fun hc14 => ?_)
        · rw [if_pos hc14] at hf
          exact hKL4_50 _ _ _ _ _ hP hS (lv_sub hl [] rfl) hf
        · rw [if_neg hc14] at hf
          refine lv_aload_n hx hb d_X_streetsRefusal_24 rfl (lv_at hl 0 rfl) ?_
          refine g_get (v := .ref (ad 1)) hC hP o_0 co_X 0 (by decide) rfl fl_X_11 rfl d_X_streetsRefusal_25 ?_
          refine lv_iload_n hx hb d_X_streetsRefusal_28 rfl (lv_at hl 1 rfl) ?_
          obtain ⟨hg6, hf⟩ := gd_some hf
          refine g_aald hC hP r_1 rfl rfl hg6 d_X_streetsRefusal_29 ?_
          refine lv_iload_n hx hb d_X_streetsRefusal_30 rfl (lv_at hl 2 rfl) ?_
          obtain ⟨hg7, hf⟩ := gd_some hf
          refine g_iald2 (j := v3_4.toNatClampNeg) hC hP (rowA hg6) hg7 rfl d_X_streetsRefusal_31 ?_
          obtain ⟨r9, hk8, hf⟩ := bp_some hf
          refine g_calli hS (g_runS (As := [.int (σL4.1 (2 + x1.toNatClampNeg) v3_4.toNatClampNeg)]) (rest := []) hC hP (c_X_isStreet hj  hk8) (rk (by decide) (by decide)) nm_X_isStreet cd_X_isStreet it_WideTown ml_X_217 sc_X_isStreet rfl hl.1 rfl (Nat.le_of_ble_eq_true rfl) d_X_streetsRefusal_32 zz) (fun H locs hP hS => ?_)
          refine lv_if_ne (tgt := 44) hx hb d_X_streetsRefusal_35 (by decide) (fun hc13 => ?_) (fun hc13 => ?_)
          · rw [if_neg hc13] at hf
            refine lv_iinc (v := v3_4 + 1) (lv' := [(3, .int (v3_4 + 1)), (0, .ref (ad 0)), (1, .int x1)]) hx hb d_X_streetsRefusal_44 hl (k := 2) rfl rfl (by decide) rfl (fun ls hl => ?_)
            refine lv_goto (tgt := 14) hx hb d_X_streetsRefusal_47 (by decide) ?_
            exact ih _ _ _ _ _ hP hS (lv_sub hl [1, 2, 0] rfl) hf
          · rw [if_pos hc13] at hf
            refine lv_aload_n hx hb d_X_streetsRefusal_38 rfl (lv_at hl 0 rfl) ?_
            refine lv_iconst (v := (3 : Int32)) hx hb d_X_streetsRefusal_39 (by decide) ?_
            obtain ⟨r11, σ12, hk10, hf⟩ := bc_some hf
            refine g_calli hS (g_runV (As := [.int (3 : Int32)]) (rest := []) hC hP (c_X_found hj  hk10) (rk (by decide) (by decide)) nm_X_found cd_X_found it_WideTown ml_X_116 im_X_found sl_X_found o_0 co_X rfl hl.1 rfl (Nat.le_of_ble_eq_true rfl) d_X_streetsRefusal_40 zz) (fun H locs hP hS => ?_)
            cases hf
            exact g_iret hC rfl hP hS d_X_streetsRefusal_43
    exact hL4 _ _ _ _ _ _ hP hS (lv_sub hl [2, 3, 0] rfl) hf
  · rw [if_neg hc15] at hf
    refine lv_iload_n hx hb d_X_streetsRefusal_10 rfl (lv_at hl 0 rfl) ?_
    cases hf
    exact g_iret hC rfl hP hS d_X_streetsRefusal_11
set_option maxHeartbeats 4000000 in
set_option maxRecDepth 100000 in
theorem c_X_walk {l : Launch} {D : va_G} {K : Nat → ClassId} {ad : Nat → Nat} (hj : inj ad)   {x1 : Int32} {σ : GS} {z0 : Int32 × GS} (hf : F_X_walk x1 σ = some z0) : CT l D K ad y_X_walk b_X_walk 4 (some .int) 3 [.ref (ad 0), .int x1] σ (QI D K ad z0.1 z0.2) := by
  refine CT.intro hj (by decide) (Nat.le_of_ble_eq_true rfl) ?_
  intro p e s m args below meth c ls hC hP hS hl
  obtain ⟨hx, hb, -, hown, hts, -⟩ := id hC
  have hl : lv_has ls 4 [(0, .ref (ad 0)), (1, .int x1)] := hl
  rw [F_X_walk] at hf
  refine lv_aload_n hx hb d_X_walk_0 rfl (lv_at hl 0 rfl) ?_
  refine lv_iload_n hx hb d_X_walk_1 rfl (lv_at hl 1 rfl) ?_
  obtain ⟨r2, σ3, hk1, hf⟩ := bc_some hf
  refine g_calli hS (g_runV (As := [.int x1]) (rest := []) hC hP (c_X_streetsRefusal hj  hk1) (rk (by decide) (by decide)) nm_X_streetsRefusal cd_X_streetsRefusal it_WideTown ml_X_288 im_X_streetsRefusal sl_X_streetsRefusal o_0 co_X rfl hl.1 rfl (Nat.le_of_ble_eq_true rfl) d_X_walk_2 zz) (fun H locs hP hS => ?_)
  refine lv_istore_n (lv' := [(2, .int r2), (0, .ref (ad 0)), (1, .int x1)]) hx hb d_X_walk_5 rfl hl (by decide) rfl (fun ls hl => ?_)
  refine lv_iload_n hx hb d_X_walk_6 rfl (lv_at hl 0 rfl) ?_
  refine lv_if_eq (tgt := 12) hx hb d_X_walk_7 (by decide) (fun hc18 => ?_) (fun hc18 => ?_)
  · rw [if_pos hc18] at hf
    refine lv_aload_n hx hb d_X_walk_12 rfl (lv_at hl 1 rfl) ?_
    refine g_get (v := .ref (ad 32)) hC hP o_0 co_X 7 (by decide) rfl fl_X_47 rfl d_X_walk_13 ?_
    obtain ⟨σ5, hk4, hf⟩ := bv_some hf
    refine g_callv hS (g_runV (As := []) (rest := []) hC hP (c_Wd_clear hj ⟨o_32, a_33⟩ hk4) (rk (by decide) (by decide)) nm_Wd_clear cd_Wd_clear it_WideTown_Word ml_X_241 im_Wd_clear sl_Wd_clear o_32 co_Wd rfl hl.1 rfl (Nat.le_of_ble_eq_true rfl) d_X_walk_16 zz) (fun H locs hP hS => ?_)
    refine lv_iconst (v := (0 : Int32)) hx hb d_X_walk_19 (by decide) ?_
    refine lv_istore_n (lv' := [(3, .int (0 : Int32)), (2, .int r2), (0, .ref (ad 0)), (1, .int x1)]) hx hb d_X_walk_20 rfl hl (by decide) rfl (fun ls hl => ?_)
    obtain ⟨KL6_52, eKL6_52, hf⟩ := jn_some hf
    have hKL6_52 : ∀ (v3_6 : Int32) (σL6 : GS) (H : Heap) (locs : List Loc) (ls : Array Slot), va_P D vwCl (wG K ad σL6) H → va_S (GA ad) s.heap H locs → lv_has ls 4 [(0, .ref (ad 0)), (1, .int x1)] → KL6_52 v3_6 σL6 = some z0 → W p l e (rmd 3) s m args below meth c H locs 0 0 (MQ below (QI D K ad z0.1 z0.2) args s 0 0 (GA ad)) (F0 m 52 ls []) := by
      clear hf
      intro v3_6 σL6 H locs ls hP hS hl hf
      rw [eKL6_52] at hf
      try dsimp only at hf
      refine lv_aload_n hx hb d_X_walk_52 rfl (lv_at hl 0 rfl) ?_
      refine g_get (v := .ref (ad 32)) hC hP o_0 co_X 7 (by decide) rfl fl_X_47 rfl d_X_walk_53 ?_
      refine g_get (v := .int (σL6.1 32 1)) hC hP o_32 co_Wd 1 (by decide) rfl fl_X_204 rfl d_X_walk_56 ?_
      refine lv_bipush (v := (9 : Int32)) hx hb d_X_walk_59 (by decide) ?_
      refine lv_icmp_le (tgt := 67) hx hb d_X_walk_61 (by decide) (fun hc11 => ?_) (fun hc11 => ?_)
      · rw [if_pos hc11] at hf
        refine lv_aload_n hx hb d_X_walk_67 rfl (lv_at hl 0 rfl) ?_
        refine lv_aload_n hx hb d_X_walk_68 rfl (lv_at hl 0 rfl) ?_
        refine g_get (v := .ref (ad 8)) hC hP o_0 co_X 1 (by decide) rfl fl_X_14 rfl d_X_walk_69 ?_
        refine lv_iload_n hx hb d_X_walk_72 rfl (lv_at hl 1 rfl) ?_
        obtain ⟨hg7, hf⟩ := gd_some hf
        refine g_iald2 (j := x1.toNatClampNeg) hC hP a_8 hg7 rfl d_X_walk_73 ?_
        refine lv_aload_n hx hb d_X_walk_74 rfl (lv_at hl 0 rfl) ?_
        refine g_get (v := .ref (ad 32)) hC hP o_0 co_X 7 (by decide) rfl fl_X_47 rfl d_X_walk_75 ?_
        refine g_get (v := .int (σL6.1 32 1)) hC hP o_32 co_Wd 1 (by decide) rfl fl_X_204 rfl d_X_walk_78 ?_
        refine lv_isub hx hb d_X_walk_81 ?_
        obtain ⟨σ8, eσ8, hf⟩ := jn_some hf
        refine g_puti hC hP hS o_0 co_X 16 (by decide) rfl fl_X_96 rfl (to_X 16 (by decide)) (Nat.le_of_ble_eq_true rfl) rfl d_X_walk_82 (fun H locs hP hS => ?_)
        rw [← eσ8] at hP
        refine lv_aload_n hx hb d_X_walk_85 rfl (lv_at hl 0 rfl) ?_
        refine g_get (v := .ref (ad 32)) hC hP o_0 co_X 7 (by decide) rfl fl_X_47 rfl d_X_walk_86 ?_
        obtain ⟨r10, hk9, hf⟩ := bp_some hf
        refine g_calli hS (g_runV (As := []) (rest := []) hC hP (c_Wd_code hj ⟨o_32, a_33⟩ hk9) (rk (by decide) (by decide)) nm_Wd_code cd_Wd_code it_WideTown_Word ml_X_238 im_Wd_code sl_Wd_code o_32 co_Wd rfl hl.1 rfl (Nat.le_of_ble_eq_true rfl) d_X_walk_89 zz) (fun H locs hP hS => ?_)
        cases hf
        exact g_iret hC rfl hP hS d_X_walk_92
      · rw [if_neg hc11] at hf
        refine lv_bipush (v := (-6 : Int32)) hx hb d_X_walk_64 (by decide) ?_
        cases hf
        exact g_iret hC rfl hP hS d_X_walk_66
    clear eKL6_52
    have hL6 : ∀ (n : Nat) (v3_6 : Int32) (σL6 : GS) (H : Heap) (locs : List Loc) (ls : Array Slot), va_P D vwCl (wG K ad σL6) H → va_S (GA ad) s.heap H locs → lv_has ls 4 [(0, .ref (ad 0)), (1, .int x1), (3, .int v3_6)] → F_X_walk_21 x1 KL6_52 n v3_6 σL6 = some z0 → W p l e (rmd 3) s m args below meth c H locs 0 0 (MQ below (QI D K ad z0.1 z0.2) args s 0 0 (GA ad)) (F0 m 21 ls []) := by
      clear hf
      intro n
      induction n with
      | zero =>
        intro v3_6 σL6 H locs ls hP hS hl hf
        rw [F_X_walk_21.eq_1] at hf
        cases hf
      | succ n ih =>
        intro v3_6 σL6 H locs ls hP hS hl hf
        rw [F_X_walk_21.eq_2] at hf
        refine lv_iload_n hx hb d_X_walk_21 rfl (lv_at hl 2 rfl) ?_
        refine lv_aload_n hx hb d_X_walk_22 rfl (lv_at hl 0 rfl) ?_
        refine g_get (v := .ref (ad 8)) hC hP o_0 co_X 1 (by decide) rfl fl_X_14 rfl d_X_walk_23 ?_
        refine lv_iload_n hx hb d_X_walk_26 rfl (lv_at hl 1 rfl) ?_
        obtain ⟨hg12, hf⟩ := gd_some hf
        refine g_iald2 (j := x1.toNatClampNeg) hC hP a_8 hg12 rfl d_X_walk_27 ?_
        refine lv_icmp_ge (tgt := 52) hx hb d_X_walk_28 (by decide) (fun hc17 => ?_) (fun hc17 => ?_)
        · rw [if_pos hc17] at hf
          exact hKL6_52 _ _ _ _ _ hP hS (lv_sub hl [0, 1] rfl) hf
        · rw [if_neg hc17] at hf
          refine lv_aload_n hx hb d_X_walk_31 rfl (lv_at hl 0 rfl) ?_
          refine g_get (v := .ref (ad 32)) hC hP o_0 co_X 7 (by decide) rfl fl_X_47 rfl d_X_walk_32 ?_
          refine lv_aload_n hx hb d_X_walk_35 rfl (lv_at hl 0 rfl) ?_
          refine g_get (v := .ref (ad 1)) hC hP o_0 co_X 0 (by decide) rfl fl_X_11 rfl d_X_walk_36 ?_
          refine lv_iload_n hx hb d_X_walk_39 rfl (lv_at hl 1 rfl) ?_
          obtain ⟨hg13, hf⟩ := gd_some hf
          refine g_aald hC hP r_1 rfl rfl hg13 d_X_walk_40 ?_
          refine lv_iload_n hx hb d_X_walk_41 rfl (lv_at hl 2 rfl) ?_
          obtain ⟨hg14, hf⟩ := gd_some hf
          refine g_iald2 (j := v3_6.toNatClampNeg) hC hP (rowA hg13) hg14 rfl d_X_walk_42 ?_
          obtain ⟨σ16, hk15, hf⟩ := bv_some hf
          refine g_callv hS (g_runV (As := [.int (σL6.1 (2 + x1.toNatClampNeg) v3_6.toNatClampNeg)]) (rest := []) hC hP (c_Wd_go hj ⟨o_32, a_33⟩ hk15) (rk (by decide) (by decide)) nm_Wd_go cd_Wd_go it_WideTown_Word ml_X_291 im_Wd_go sl_Wd_go o_32 co_Wd rfl hl.1 rfl (Nat.le_of_ble_eq_true rfl) d_X_walk_43 zz) (fun H locs hP hS => ?_)
          refine lv_iinc (v := v3_6 + 1) (lv' := [(3, .int (v3_6 + 1)), (0, .ref (ad 0)), (1, .int x1)]) hx hb d_X_walk_46 hl (k := 2) rfl rfl (by decide) rfl (fun ls hl => ?_)
          refine lv_goto (tgt := 21) hx hb d_X_walk_49 (by decide) ?_
          exact ih _ _ _ _ _ hP hS (lv_sub hl [1, 2, 0] rfl) hf
    exact hL6 _ _ _ _ _ _ hP hS (lv_sub hl [2, 3, 0] rfl) hf
  · rw [if_neg hc18] at hf
    refine lv_iload_n hx hb d_X_walk_10 rfl (lv_at hl 0 rfl) ?_
    cases hf
    exact g_iret hC rfl hP hS d_X_walk_11
set_option maxHeartbeats 4000000 in
set_option maxRecDepth 100000 in
theorem c_X_reaches {l : Launch} {D : va_G} {K : Nat → ClassId} {ad : Nat → Nat} (hj : inj ad)   {x1 : Int32} {σ : GS} {z0 : Int32 × GS} (hf : F_X_reaches x1 σ = some z0) : CT l D K ad y_X_reaches b_X_reaches 6 (some .int) 3 [.ref (ad 0), .int x1] σ (QI D K ad z0.1 z0.2) := by
  refine CT.intro hj (by decide) (Nat.le_of_ble_eq_true rfl) ?_
  intro p e s m args below meth c ls hC hP hS hl
  obtain ⟨hx, hb, -, hown, hts, -⟩ := id hC
  have hl : lv_has ls 6 [(0, .ref (ad 0)), (1, .int x1)] := hl
  rw [F_X_reaches] at hf
  refine lv_aload_n hx hb d_X_reaches_0 rfl (lv_at hl 0 rfl) ?_
  refine lv_iload_n hx hb d_X_reaches_1 rfl (lv_at hl 1 rfl) ?_
  obtain ⟨r2, σ3, hk1, hf⟩ := bc_some hf
  refine g_calli hS (g_runV (As := [.int x1]) (rest := []) hC hP (c_X_streetsRefusal hj  hk1) (rk (by decide) (by decide)) nm_X_streetsRefusal cd_X_streetsRefusal it_WideTown ml_X_288 im_X_streetsRefusal sl_X_streetsRefusal o_0 co_X rfl hl.1 rfl (Nat.le_of_ble_eq_true rfl) d_X_reaches_2 zz) (fun H locs hP hS => ?_)
  refine lv_istore_n (lv' := [(2, .int r2), (0, .ref (ad 0)), (1, .int x1)]) hx hb d_X_reaches_5 rfl hl (by decide) rfl (fun ls hl => ?_)
  refine lv_iload_n hx hb d_X_reaches_6 rfl (lv_at hl 0 rfl) ?_
  refine lv_if_eq (tgt := 12) hx hb d_X_reaches_7 (by decide) (fun hc15 => ?_) (fun hc15 => ?_)
  · rw [if_pos hc15] at hf
    refine lv_iconst (v := (0 : Int32)) hx hb d_X_reaches_12 (by decide) ?_
    refine lv_istore_n (lv' := [(3, .int (0 : Int32)), (2, .int r2), (0, .ref (ad 0)), (1, .int x1)]) hx hb d_X_reaches_13 rfl hl (by decide) rfl (fun ls hl => ?_)
    refine lv_iconst (v := (0 : Int32)) hx hb d_X_reaches_14 (by decide) ?_
    refine lv_istore (lv' := [(4, .int (0 : Int32)), (3, .int (0 : Int32)), (2, .int r2), (0, .ref (ad 0)), (1, .int x1)]) hx hb d_X_reaches_15 hl (by decide) rfl (fun ls hl => ?_)
    refine lv_aload_n hx hb d_X_reaches_17 rfl (lv_at hl 3 rfl) ?_
    refine g_get (v := .ref (ad 32)) hC hP o_0 co_X 7 (by decide) rfl fl_X_47 rfl d_X_reaches_18 ?_
    obtain ⟨σ5, hk4, hf⟩ := bv_some hf
    refine g_callv hS (g_runV (As := []) (rest := []) hC hP (c_Wd_clear hj ⟨o_32, a_33⟩ hk4) (rk (by decide) (by decide)) nm_Wd_clear cd_Wd_clear it_WideTown_Word ml_X_241 im_Wd_clear sl_Wd_clear o_32 co_Wd rfl hl.1 rfl (Nat.le_of_ble_eq_true rfl) d_X_reaches_21 zz) (fun H locs hP hS => ?_)
    refine lv_iconst (v := (0 : Int32)) hx hb d_X_reaches_24 (by decide) ?_
    refine lv_istore (lv' := [(5, .int (0 : Int32)), (4, .int (0 : Int32)), (3, .int (0 : Int32)), (2, .int r2), (0, .ref (ad 0)), (1, .int x1)]) hx hb d_X_reaches_25 hl (by decide) rfl (fun ls hl => ?_)
    obtain ⟨KL6_85, eKL6_85, hf⟩ := jn_some hf
    have hKL6_85 : ∀ (v3_6 : Int32) (v4_6 : Int32) (v5_6 : Int32) (σL6 : GS) (H : Heap) (locs : List Loc) (ls : Array Slot), va_P D vwCl (wG K ad σL6) H → va_S (GA ad) s.heap H locs → lv_has ls 6 [(0, .ref (ad 0)), (3, .int v3_6), (4, .int v4_6)] → KL6_85 v3_6 v4_6 v5_6 σL6 = some z0 → W p l e (rmd 3) s m args below meth c H locs 0 0 (MQ below (QI D K ad z0.1 z0.2) args s 0 0 (GA ad)) (F0 m 85 ls []) := by
      clear hf
      intro v3_6 v4_6 v5_6 σL6 H locs ls hP hS hl hf
      rw [eKL6_85] at hf
      try dsimp only at hf
      refine lv_aload_n hx hb d_X_reaches_85 rfl (lv_at hl 0 rfl) ?_
      refine lv_iload hx hb d_X_reaches_86 (lv_at hl 2 rfl) ?_
      obtain ⟨σ7, eσ7, hf⟩ := jn_some hf
      refine g_puti hC hP hS o_0 co_X 16 (by decide) rfl fl_X_96 rfl (to_X 16 (by decide)) (Nat.le_of_ble_eq_true rfl) rfl d_X_reaches_88 (fun H locs hP hS => ?_)
      rw [← eσ7] at hP
      refine lv_iload_n hx hb d_X_reaches_91 rfl (lv_at hl 1 rfl) ?_
      cases hf
      exact g_iret hC rfl hP hS d_X_reaches_92
    clear eKL6_85
    have hL6 : ∀ (n : Nat) (v3_6 : Int32) (v4_6 : Int32) (v5_6 : Int32) (σL6 : GS) (H : Heap) (locs : List Loc) (ls : Array Slot), va_P D vwCl (wG K ad σL6) H → va_S (GA ad) s.heap H locs → lv_has ls 6 [(0, .ref (ad 0)), (1, .int x1), (3, .int v3_6), (4, .int v4_6), (5, .int v5_6)] → F_X_reaches_27 x1 KL6_85 n v3_6 v4_6 v5_6 σL6 = some z0 → W p l e (rmd 3) s m args below meth c H locs 0 0 (MQ below (QI D K ad z0.1 z0.2) args s 0 0 (GA ad)) (F0 m 27 ls []) := by
      clear hf
      intro n
      induction n with
      | zero =>
        intro v3_6 v4_6 v5_6 σL6 H locs ls hP hS hl hf
        rw [F_X_reaches_27.eq_1] at hf
        cases hf
      | succ n ih =>
        intro v3_6 v4_6 v5_6 σL6 H locs ls hP hS hl hf
        rw [F_X_reaches_27.eq_2] at hf
        refine lv_iload hx hb d_X_reaches_27 (lv_at hl 4 rfl) ?_
        refine lv_aload_n hx hb d_X_reaches_29 rfl (lv_at hl 0 rfl) ?_
        refine g_get (v := .ref (ad 8)) hC hP o_0 co_X 1 (by decide) rfl fl_X_14 rfl d_X_reaches_30 ?_
        refine lv_iload_n hx hb d_X_reaches_33 rfl (lv_at hl 1 rfl) ?_
        obtain ⟨hg8, hf⟩ := gd_some hf
        refine g_iald2 (j := x1.toNatClampNeg) hC hP a_8 hg8 rfl d_X_reaches_34 ?_
        refine lv_icmp_ge (tgt := 85) hx hb d_X_reaches_35 (by decide) (fun hc14 => ?_) (fun hc14 => ?_)
        · rw [if_pos hc14] at hf
          exact hKL6_85 _ _ _ _ _ _ _ hP hS (lv_sub hl [0, 2, 3] rfl) hf
        · rw [if_neg hc14] at hf
          refine lv_aload_n hx hb d_X_reaches_38 rfl (lv_at hl 0 rfl) ?_
          refine g_get (v := .ref (ad 32)) hC hP o_0 co_X 7 (by decide) rfl fl_X_47 rfl d_X_reaches_39 ?_
          refine lv_aload_n hx hb d_X_reaches_42 rfl (lv_at hl 0 rfl) ?_
          refine g_get (v := .ref (ad 1)) hC hP o_0 co_X 0 (by decide) rfl fl_X_11 rfl d_X_reaches_43 ?_
          refine lv_iload_n hx hb d_X_reaches_46 rfl (lv_at hl 1 rfl) ?_
          obtain ⟨hg9, hf⟩ := gd_some hf
          refine g_aald hC hP r_1 rfl rfl hg9 d_X_reaches_47 ?_
          refine lv_iload hx hb d_X_reaches_48 (lv_at hl 4 rfl) ?_
          obtain ⟨hg10, hf⟩ := gd_some hf
          refine g_iald2 (j := v5_6.toNatClampNeg) hC hP (rowA hg9) hg10 rfl d_X_reaches_50 ?_
          obtain ⟨σ12, hk11, hf⟩ := bv_some hf
          refine g_callv hS (g_runV (As := [.int (σL6.1 (2 + x1.toNatClampNeg) v5_6.toNatClampNeg)]) (rest := []) hC hP (c_Wd_go hj ⟨o_32, a_33⟩ hk11) (rk (by decide) (by decide)) nm_Wd_go cd_Wd_go it_WideTown_Word ml_X_291 im_Wd_go sl_Wd_go o_32 co_Wd rfl hl.1 rfl (Nat.le_of_ble_eq_true rfl) d_X_reaches_51 zz) (fun H locs hP hS => ?_)
          refine lv_aload_n hx hb d_X_reaches_54 rfl (lv_at hl 0 rfl) ?_
          refine g_get (v := .ref (ad 32)) hC hP o_0 co_X 7 (by decide) rfl fl_X_47 rfl d_X_reaches_55 ?_
          refine g_get (v := .int (σ12.1 32 1)) hC hP o_32 co_Wd 1 (by decide) rfl fl_X_204 rfl d_X_reaches_58 ?_
          refine lv_iload_n hx hb d_X_reaches_61 rfl (lv_at hl 2 rfl) ?_
          refine lv_icmp_le (tgt := 79) hx hb d_X_reaches_62 (by decide) (fun hc13 => ?_) (fun hc13 => ?_)
          · rw [if_pos hc13] at hf
            refine lv_iinc (v := v5_6 + 1) (lv' := [(5, .int (v5_6 + 1)), (0, .ref (ad 0)), (1, .int x1), (3, .int v3_6), (4, .int v4_6)]) hx hb d_X_reaches_79 hl (k := 4) rfl rfl (by decide) rfl (fun ls hl => ?_)
            refine lv_goto (tgt := 27) hx hb d_X_reaches_82 (by decide) ?_
            exact ih _ _ _ _ _ _ _ hP hS (lv_sub hl [1, 2, 3, 4, 0] rfl) hf
          · rw [if_neg hc13] at hf
            refine lv_aload_n hx hb d_X_reaches_65 rfl (lv_at hl 0 rfl) ?_
            refine g_get (v := .ref (ad 32)) hC hP o_0 co_X 7 (by decide) rfl fl_X_47 rfl d_X_reaches_66 ?_
            refine g_get (v := .int (σ12.1 32 1)) hC hP o_32 co_Wd 1 (by decide) rfl fl_X_204 rfl d_X_reaches_69 ?_
            refine lv_istore_n (lv' := [(3, .int (σ12.1 32 1)), (0, .ref (ad 0)), (1, .int x1), (4, .int v4_6), (5, .int v5_6)]) hx hb d_X_reaches_72 rfl hl (by decide) rfl (fun ls hl => ?_)
            refine lv_iload hx hb d_X_reaches_73 (lv_at hl 4 rfl) ?_
            refine lv_iconst (v := (1 : Int32)) hx hb d_X_reaches_75 (by decide) ?_
            refine lv_iadd hx hb d_X_reaches_76 ?_
            refine lv_istore (lv' := [(4, .int (v5_6 + (1 : Int32))), (3, .int (σ12.1 32 1)), (0, .ref (ad 0)), (1, .int x1), (5, .int v5_6)]) hx hb d_X_reaches_77 hl (by decide) rfl (fun ls hl => ?_)
            refine lv_iinc (v := v5_6 + 1) (lv' := [(5, .int (v5_6 + 1)), (4, .int (v5_6 + (1 : Int32))), (3, .int (σ12.1 32 1)), (0, .ref (ad 0)), (1, .int x1)]) hx hb d_X_reaches_79 hl (k := 4) rfl rfl (by decide) rfl (fun ls hl => ?_)
            refine lv_goto (tgt := 27) hx hb d_X_reaches_82 (by decide) ?_
            exact ih _ _ _ _ _ _ _ hP hS (lv_sub hl [3, 4, 2, 1, 0] rfl) hf
    exact hL6 _ _ _ _ _ _ _ _ hP hS (lv_sub hl [4, 5, 2, 1, 0] rfl) hf
  · rw [if_neg hc15] at hf
    refine lv_iload_n hx hb d_X_reaches_10 rfl (lv_at hl 0 rfl) ?_
    cases hf
    exact g_iret hC rfl hP hS d_X_reaches_11
set_option maxHeartbeats 4000000 in
set_option maxRecDepth 100000 in
theorem c_X_comesAgain {l : Launch} {D : va_G} {K : Nat → ClassId} {ad : Nat → Nat} (hj : inj ad)   {x1 : Int32} {x2 : Int32} {σ : GS} {z0 : Int32 × GS} (hf : F_X_comesAgain x1 x2 σ = some z0) : CT l D K ad y_X_comesAgain b_X_comesAgain 4 (some .boolean) 2 [.ref (ad 0), .int x1, .int x2] σ (QI D K ad z0.1 z0.2) := by
  refine CT.intro hj (by decide) (Nat.le_of_ble_eq_true rfl) ?_
  intro p e s m args below meth c ls hC hP hS hl
  obtain ⟨hx, hb, -, hown, hts, -⟩ := id hC
  have hl : lv_has ls 4 [(0, .ref (ad 0)), (1, .int x1), (2, .int x2)] := hl
  rw [F_X_comesAgain] at hf
  refine lv_aload_n hx hb d_X_comesAgain_0 rfl (lv_at hl 0 rfl) ?_
  refine g_get (v := .ref (ad 32)) hC hP o_0 co_X 7 (by decide) rfl fl_X_47 rfl d_X_comesAgain_1 ?_
  obtain ⟨σ2, hk1, hf⟩ := bv_some hf
  refine g_callv hS (g_runV (As := []) (rest := []) hC hP (c_Wd_clear hj ⟨o_32, a_33⟩ hk1) (rk (by decide) (by decide)) nm_Wd_clear cd_Wd_clear it_WideTown_Word ml_X_241 im_Wd_clear sl_Wd_clear o_32 co_Wd rfl hl.1 rfl (Nat.le_of_ble_eq_true rfl) d_X_comesAgain_4 zz) (fun H locs hP hS => ?_)
  refine lv_iload_n hx hb d_X_comesAgain_7 rfl (lv_at hl 2 rfl) ?_
  refine lv_istore_n (lv' := [(3, .int x2), (0, .ref (ad 0)), (1, .int x1), (2, .int x2)]) hx hb d_X_comesAgain_8 rfl hl (by decide) rfl (fun ls hl => ?_)
  obtain ⟨KL3_52, eKL3_52, hf⟩ := jn_some hf
  have hKL3_52 : ∀ (v3_3 : Int32) (σL3 : GS) (H : Heap) (locs : List Loc) (ls : Array Slot), va_P D vwCl (wG K ad σL3) H → va_S (GA ad) s.heap H locs → lv_has ls 4 [] → KL3_52 v3_3 σL3 = some z0 → W p l e (rmd 2) s m args below meth c H locs 0 0 (MQ below (QI D K ad z0.1 z0.2) args s 0 0 (GA ad)) (F0 m 52 ls []) := by
    clear hf
    intro v3_3 σL3 H locs ls hP hS hl hf
    rw [eKL3_52] at hf
    try dsimp only at hf
    refine lv_iconst (v := (0 : Int32)) hx hb d_X_comesAgain_52 (by decide) ?_
    cases hf
    exact g_zret hC rfl (by decide) hP hS d_X_comesAgain_53
  clear eKL3_52
  have hL3 : ∀ (n : Nat) (v3_3 : Int32) (σL3 : GS) (H : Heap) (locs : List Loc) (ls : Array Slot), va_P D vwCl (wG K ad σL3) H → va_S (GA ad) s.heap H locs → lv_has ls 4 [(0, .ref (ad 0)), (1, .int x1), (3, .int v3_3)] → F_X_comesAgain_9 x1 KL3_52 n v3_3 σL3 = some z0 → W p l e (rmd 2) s m args below meth c H locs 0 0 (MQ below (QI D K ad z0.1 z0.2) args s 0 0 (GA ad)) (F0 m 9 ls []) := by
    clear hf
    intro n
    induction n with
    | zero =>
      intro v3_3 σL3 H locs ls hP hS hl hf
      rw [F_X_comesAgain_9.eq_1] at hf
      cases hf
    | succ n ih =>
      intro v3_3 σL3 H locs ls hP hS hl hf
      rw [F_X_comesAgain_9.eq_2] at hf
      refine lv_iload_n hx hb d_X_comesAgain_9 rfl (lv_at hl 2 rfl) ?_
      refine lv_aload_n hx hb d_X_comesAgain_10 rfl (lv_at hl 0 rfl) ?_
      refine g_get (v := .ref (ad 8)) hC hP o_0 co_X 1 (by decide) rfl fl_X_14 rfl d_X_comesAgain_11 ?_
      refine lv_iload_n hx hb d_X_comesAgain_14 rfl (lv_at hl 1 rfl) ?_
      obtain ⟨hg4, hf⟩ := gd_some hf
      refine g_iald2 (j := x1.toNatClampNeg) hC hP a_8 hg4 rfl d_X_comesAgain_15 ?_
      refine lv_icmp_ge (tgt := 52) hx hb d_X_comesAgain_16 (by decide) (fun hc10 => ?_) (fun hc10 => ?_)
      · rw [if_pos hc10] at hf
        exact hKL3_52 _ _ _ _ _ hP hS (lv_sub hl [] rfl) hf
      · rw [if_neg hc10] at hf
        refine lv_aload_n hx hb d_X_comesAgain_19 rfl (lv_at hl 0 rfl) ?_
        refine g_get (v := .ref (ad 32)) hC hP o_0 co_X 7 (by decide) rfl fl_X_47 rfl d_X_comesAgain_20 ?_
        refine lv_aload_n hx hb d_X_comesAgain_23 rfl (lv_at hl 0 rfl) ?_
        refine g_get (v := .ref (ad 1)) hC hP o_0 co_X 0 (by decide) rfl fl_X_11 rfl d_X_comesAgain_24 ?_
        refine lv_iload_n hx hb d_X_comesAgain_27 rfl (lv_at hl 1 rfl) ?_
        obtain ⟨hg5, hf⟩ := gd_some hf
        refine g_aald hC hP r_1 rfl rfl hg5 d_X_comesAgain_28 ?_
        refine lv_iload_n hx hb d_X_comesAgain_29 rfl (lv_at hl 2 rfl) ?_
        obtain ⟨hg6, hf⟩ := gd_some hf
        refine g_iald2 (j := v3_3.toNatClampNeg) hC hP (rowA hg5) hg6 rfl d_X_comesAgain_30 ?_
        obtain ⟨σ8, hk7, hf⟩ := bv_some hf
        refine g_callv hS (g_runV (As := [.int (σL3.1 (2 + x1.toNatClampNeg) v3_3.toNatClampNeg)]) (rest := []) hC hP (c_Wd_go hj ⟨o_32, a_33⟩ hk7) (rk (by decide) (by decide)) nm_Wd_go cd_Wd_go it_WideTown_Word ml_X_291 im_Wd_go sl_Wd_go o_32 co_Wd rfl hl.1 rfl (Nat.le_of_ble_eq_true rfl) d_X_comesAgain_31 zz) (fun H locs hP hS => ?_)
        refine lv_aload_n hx hb d_X_comesAgain_34 rfl (lv_at hl 0 rfl) ?_
        refine g_get (v := .ref (ad 32)) hC hP o_0 co_X 7 (by decide) rfl fl_X_47 rfl d_X_comesAgain_35 ?_
        refine g_get (v := .int (σ8.1 32 1)) hC hP o_32 co_Wd 1 (by decide) rfl fl_X_204 rfl d_X_comesAgain_38 ?_
        refine lv_if_ne (tgt := 46) hx hb d_X_comesAgain_41 (by decide) (fun hc9 => ?_) (fun hc9 => ?_)
        · rw [if_neg hc9] at hf
          refine lv_iinc (v := v3_3 + 1) (lv' := [(3, .int (v3_3 + 1)), (0, .ref (ad 0)), (1, .int x1)]) hx hb d_X_comesAgain_46 hl (k := 2) rfl rfl (by decide) rfl (fun ls hl => ?_)
          refine lv_goto (tgt := 9) hx hb d_X_comesAgain_49 (by decide) ?_
          exact ih _ _ _ _ _ hP hS (lv_sub hl [1, 2, 0] rfl) hf
        · rw [if_pos hc9] at hf
          refine lv_iconst (v := (1 : Int32)) hx hb d_X_comesAgain_44 (by decide) ?_
          cases hf
          exact g_zret hC rfl (by decide) hP hS d_X_comesAgain_45
  exact hL3 _ _ _ _ _ _ hP hS (lv_sub hl [1, 2, 0] rfl) hf
set_option maxHeartbeats 4000000 in
set_option maxRecDepth 100000 in
theorem c_X_sees {l : Launch} {D : va_G} {K : Nat → ClassId} {ad : Nat → Nat} (hj : inj ad)   {x1 : Int32} {σ : GS} {z0 : Int32 × GS} (hf : F_X_sees x1 σ = some z0) : CT l D K ad y_X_sees b_X_sees 5 (some .int) 3 [.ref (ad 0), .int x1] σ (QI D K ad z0.1 z0.2) := by
  refine CT.intro hj (by decide) (Nat.le_of_ble_eq_true rfl) ?_
  intro p e s m args below meth c ls hC hP hS hl
  obtain ⟨hx, hb, -, hown, hts, -⟩ := id hC
  have hl : lv_has ls 5 [(0, .ref (ad 0)), (1, .int x1)] := hl
  rw [F_X_sees] at hf
  refine lv_aload_n hx hb d_X_sees_0 rfl (lv_at hl 0 rfl) ?_
  refine lv_iload_n hx hb d_X_sees_1 rfl (lv_at hl 1 rfl) ?_
  obtain ⟨r2, σ3, hk1, hf⟩ := bc_some hf
  refine g_calli hS (g_runV (As := [.int x1]) (rest := []) hC hP (c_X_streetsRefusal hj  hk1) (rk (by decide) (by decide)) nm_X_streetsRefusal cd_X_streetsRefusal it_WideTown ml_X_288 im_X_streetsRefusal sl_X_streetsRefusal o_0 co_X rfl hl.1 rfl (Nat.le_of_ble_eq_true rfl) d_X_sees_2 zz) (fun H locs hP hS => ?_)
  refine lv_istore_n (lv' := [(2, .int r2), (0, .ref (ad 0)), (1, .int x1)]) hx hb d_X_sees_5 rfl hl (by decide) rfl (fun ls hl => ?_)
  refine lv_iload_n hx hb d_X_sees_6 rfl (lv_at hl 0 rfl) ?_
  refine lv_if_eq (tgt := 12) hx hb d_X_sees_7 (by decide) (fun hc11 => ?_) (fun hc11 => ?_)
  · rw [if_pos hc11] at hf
    refine lv_iconst (v := (0 : Int32)) hx hb d_X_sees_12 (by decide) ?_
    refine lv_istore_n (lv' := [(3, .int (0 : Int32)), (2, .int r2), (0, .ref (ad 0)), (1, .int x1)]) hx hb d_X_sees_13 rfl hl (by decide) rfl (fun ls hl => ?_)
    refine lv_iconst (v := (0 : Int32)) hx hb d_X_sees_14 (by decide) ?_
    refine lv_istore (lv' := [(4, .int (0 : Int32)), (3, .int (0 : Int32)), (2, .int r2), (0, .ref (ad 0)), (1, .int x1)]) hx hb d_X_sees_15 hl (by decide) rfl (fun ls hl => ?_)
    obtain ⟨KL4_47, eKL4_47, hf⟩ := jn_some hf
    have hKL4_47 : ∀ (v3_4 : Int32) (v4_4 : Int32) (σL4 : GS) (H : Heap) (locs : List Loc) (ls : Array Slot), va_P D vwCl (wG K ad σL4) H → va_S (GA ad) s.heap H locs → lv_has ls 5 [(3, .int v3_4)] → KL4_47 v3_4 v4_4 σL4 = some z0 → W p l e (rmd 3) s m args below meth c H locs 0 0 (MQ below (QI D K ad z0.1 z0.2) args s 0 0 (GA ad)) (F0 m 47 ls []) := by
      clear hf
      intro v3_4 v4_4 σL4 H locs ls hP hS hl hf
      rw [eKL4_47] at hf
      try dsimp only at hf
      refine lv_iload_n hx hb d_X_sees_47 rfl (lv_at hl 0 rfl) ?_
      cases hf
      exact g_iret hC rfl hP hS d_X_sees_48
    clear eKL4_47
    have hL4 : ∀ (n : Nat) (v3_4 : Int32) (v4_4 : Int32) (σL4 : GS) (H : Heap) (locs : List Loc) (ls : Array Slot), va_P D vwCl (wG K ad σL4) H → va_S (GA ad) s.heap H locs → lv_has ls 5 [(0, .ref (ad 0)), (1, .int x1), (3, .int v3_4), (4, .int v4_4)] → F_X_sees_17 x1 KL4_47 n v3_4 v4_4 σL4 = some z0 → W p l e (rmd 3) s m args below meth c H locs 0 0 (MQ below (QI D K ad z0.1 z0.2) args s 0 0 (GA ad)) (F0 m 17 ls []) := by
      clear hf
      intro n
      induction n with
      | zero =>
        intro v3_4 v4_4 σL4 H locs ls hP hS hl hf
        rw [F_X_sees_17.eq_1] at hf
        cases hf
      | succ n ih =>
        intro v3_4 v4_4 σL4 H locs ls hP hS hl hf
        rw [F_X_sees_17.eq_2] at hf
        refine lv_iload hx hb d_X_sees_17 (lv_at hl 3 rfl) ?_
        refine lv_aload_n hx hb d_X_sees_19 rfl (lv_at hl 0 rfl) ?_
        refine g_get (v := .ref (ad 8)) hC hP o_0 co_X 1 (by decide) rfl fl_X_14 rfl d_X_sees_20 ?_
        refine lv_iload_n hx hb d_X_sees_23 rfl (lv_at hl 1 rfl) ?_
        obtain ⟨hg5, hf⟩ := gd_some hf
        refine g_iald2 (j := x1.toNatClampNeg) hC hP a_8 hg5 rfl d_X_sees_24 ?_
        refine lv_icmp_gt (tgt := 47) hx hb d_X_sees_25 (by decide) (fun hc10 => ?_) (fun hc10 => ?_)
        · rw [if_pos hc10] at hf
          exact hKL4_47 _ _ _ _ _ _ hP hS (lv_sub hl [2] rfl) hf
        · rw [if_neg hc10] at hf
          refine lv_aload_n hx hb d_X_sees_28 rfl (lv_at hl 0 rfl) ?_
          refine lv_iload_n hx hb d_X_sees_29 rfl (lv_at hl 1 rfl) ?_
          refine lv_iload hx hb d_X_sees_30 (lv_at hl 3 rfl) ?_
          obtain ⟨r7, σ8, hk6, hf⟩ := bc_some hf
          refine g_calli hS (g_runV (As := [.int x1, .int v4_4]) (rest := []) hC hP (c_X_comesAgain hj  hk6) (rk (by decide) (by decide)) nm_X_comesAgain cd_X_comesAgain it_WideTown ml_X_294 im_X_comesAgain sl_X_comesAgain o_0 co_X rfl hl.1 rfl (Nat.le_of_ble_eq_true rfl) d_X_sees_32 zz) (fun H locs hP hS => ?_)
          refine lv_if_ne (tgt := 41) hx hb d_X_sees_35 (by decide) (fun hc9 => ?_) (fun hc9 => ?_)
          · rw [if_neg hc9] at hf
            refine lv_iinc (v := v4_4 + 1) (lv' := [(4, .int (v4_4 + 1)), (0, .ref (ad 0)), (1, .int x1), (3, .int v3_4)]) hx hb d_X_sees_41 hl (k := 3) rfl rfl (by decide) rfl (fun ls hl => ?_)
            refine lv_goto (tgt := 17) hx hb d_X_sees_44 (by decide) ?_
            exact ih _ _ _ _ _ _ hP hS (lv_sub hl [1, 2, 3, 0] rfl) hf
          · rw [if_pos hc9] at hf
            refine lv_iinc (v := v3_4 + 1) (lv' := [(3, .int (v3_4 + 1)), (0, .ref (ad 0)), (1, .int x1), (4, .int v4_4)]) hx hb d_X_sees_38 hl (k := 2) rfl rfl (by decide) rfl (fun ls hl => ?_)
            refine lv_iinc (v := v4_4 + 1) (lv' := [(4, .int (v4_4 + 1)), (3, .int (v3_4 + 1)), (0, .ref (ad 0)), (1, .int x1)]) hx hb d_X_sees_41 hl (k := 3) rfl rfl (by decide) rfl (fun ls hl => ?_)
            refine lv_goto (tgt := 17) hx hb d_X_sees_44 (by decide) ?_
            exact ih _ _ _ _ _ _ hP hS (lv_sub hl [2, 3, 1, 0] rfl) hf
    exact hL4 _ _ _ _ _ _ _ hP hS (lv_sub hl [3, 4, 1, 0] rfl) hf
  · rw [if_neg hc11] at hf
    refine lv_iload_n hx hb d_X_sees_10 rfl (lv_at hl 0 rfl) ?_
    cases hf
    exact g_iret hC rfl hP hS d_X_sees_11
set_option maxHeartbeats 4000000 in
set_option maxRecDepth 100000 in
theorem c_X_codesRefusal {l : Launch} {D : va_G} {K : Nat → ClassId} {ad : Nat → Nat} (hj : inj ad)   {x1 : Int32} {x2 : Int32} {σ : GS} {z0 : Int32 × GS} (hf : F_X_codesRefusal x1 x2 σ = some z0) : CT l D K ad y_X_codesRefusal b_X_codesRefusal 5 (some .int) 2 [.ref (ad 0), .int x1, .int x2] σ (QI D K ad z0.1 z0.2) := by
  refine CT.intro hj (by decide) (Nat.le_of_ble_eq_true rfl) ?_
  intro p e s m args below meth c ls hC hP hS hl
  obtain ⟨hx, hb, -, hown, hts, -⟩ := id hC
  have hl : lv_has ls 5 [(0, .ref (ad 0)), (1, .int x1), (2, .int x2)] := hl
  rw [F_X_codesRefusal] at hf
  refine lv_aload_n hx hb d_X_codesRefusal_0 rfl (lv_at hl 0 rfl) ?_
  refine lv_iload_n hx hb d_X_codesRefusal_1 rfl (lv_at hl 1 rfl) ?_
  obtain ⟨r2, σ3, hk1, hf⟩ := bc_some hf
  refine g_calli hS (g_runV (As := [.int x1]) (rest := []) hC hP (c_X_rowRefusal hj  hk1) (rk (by decide) (by decide)) nm_X_rowRefusal cd_X_rowRefusal it_WideTown ml_X_128 im_X_rowRefusal sl_X_rowRefusal o_0 co_X rfl hl.1 rfl (Nat.le_of_ble_eq_true rfl) d_X_codesRefusal_2 zz) (fun H locs hP hS => ?_)
  refine lv_istore_n (lv' := [(3, .int r2), (0, .ref (ad 0)), (1, .int x1), (2, .int x2)]) hx hb d_X_codesRefusal_5 rfl hl (by decide) rfl (fun ls hl => ?_)
  refine lv_iload_n hx hb d_X_codesRefusal_6 rfl (lv_at hl 0 rfl) ?_
  refine lv_if_eq (tgt := 12) hx hb d_X_codesRefusal_7 (by decide) (fun hc20 => ?_) (fun hc20 => ?_)
  · rw [if_pos hc20] at hf
    refine lv_aload_n hx hb d_X_codesRefusal_12 rfl (lv_at hl 1 rfl) ?_
    refine g_get (v := .ref (ad 8)) hC hP o_0 co_X 1 (by decide) rfl fl_X_14 rfl d_X_codesRefusal_13 ?_
    refine lv_iload_n hx hb d_X_codesRefusal_16 rfl (lv_at hl 2 rfl) ?_
    obtain ⟨hg4, hf⟩ := gd_some hf
    refine g_iald2 (j := x1.toNatClampNeg) hC hP a_8 hg4 rfl d_X_codesRefusal_17 ?_
    refine lv_iload_n hx hb d_X_codesRefusal_18 rfl (lv_at hl 3 rfl) ?_
    refine lv_icmp_le (tgt := 28) hx hb d_X_codesRefusal_19 (by decide) (fun hc19 => ?_) (fun hc19 => ?_)
    · rw [if_pos hc19] at hf
      refine lv_iconst (v := (0 : Int32)) hx hb d_X_codesRefusal_28 (by decide) ?_
      refine lv_istore (lv' := [(4, .int (0 : Int32)), (3, .int r2), (0, .ref (ad 0)), (1, .int x1), (2, .int x2)]) hx hb d_X_codesRefusal_29 hl (by decide) rfl (fun ls hl => ?_)
      obtain ⟨KL5_69, eKL5_69, hf⟩ := jn_some hf
      have hKL5_69 : ∀ (v4_5 : Int32) (σL5 : GS) (H : Heap) (locs : List Loc) (ls : Array Slot), va_P D vwCl (wG K ad σL5) H → va_S (GA ad) s.heap H locs → lv_has ls 5 [] → KL5_69 v4_5 σL5 = some z0 → W p l e (rmd 2) s m args below meth c H locs 0 0 (MQ below (QI D K ad z0.1 z0.2) args s 0 0 (GA ad)) (F0 m 69 ls []) := by
        clear hf
        intro v4_5 σL5 H locs ls hP hS hl hf
        rw [eKL5_69] at hf
        try dsimp only at hf
        refine lv_iconst (v := (0 : Int32)) hx hb d_X_codesRefusal_69 (by decide) ?_
        cases hf
        exact g_iret hC rfl hP hS d_X_codesRefusal_70
      clear eKL5_69
      have hL5 : ∀ (n : Nat) (v4_5 : Int32) (σL5 : GS) (H : Heap) (locs : List Loc) (ls : Array Slot), va_P D vwCl (wG K ad σL5) H → va_S (GA ad) s.heap H locs → lv_has ls 5 [(0, .ref (ad 0)), (1, .int x1), (4, .int v4_5)] → F_X_codesRefusal_31 x1 KL5_69 n v4_5 σL5 = some z0 → W p l e (rmd 2) s m args below meth c H locs 0 0 (MQ below (QI D K ad z0.1 z0.2) args s 0 0 (GA ad)) (F0 m 31 ls []) := by
        clear hf
        intro n
        induction n with
        | zero =>
          intro v4_5 σL5 H locs ls hP hS hl hf
          rw [F_X_codesRefusal_31.eq_1] at hf
          cases hf
        | succ n ih =>
          intro v4_5 σL5 H locs ls hP hS hl hf
          rw [F_X_codesRefusal_31.eq_2] at hf
          refine lv_iload hx hb d_X_codesRefusal_31 (lv_at hl 2 rfl) ?_
          refine lv_aload_n hx hb d_X_codesRefusal_33 rfl (lv_at hl 0 rfl) ?_
          refine g_get (v := .ref (ad 8)) hC hP o_0 co_X 1 (by decide) rfl fl_X_14 rfl d_X_codesRefusal_34 ?_
          refine lv_iload_n hx hb d_X_codesRefusal_37 rfl (lv_at hl 1 rfl) ?_
          obtain ⟨hg6, hf⟩ := gd_some hf
          refine g_iald2 (j := x1.toNatClampNeg) hC hP a_8 hg6 rfl d_X_codesRefusal_38 ?_
          refine lv_icmp_ge (tgt := 69) hx hb d_X_codesRefusal_39 (by decide) (fun hc15 => ?_) (fun hc15 => ?_)
          · rw [if_pos hc15] at hf
            exact hKL5_69 _ _ _ _ _ hP hS (lv_sub hl [] rfl) hf
          · rw [if_neg hc15] at hf
            refine lv_aload_n hx hb d_X_codesRefusal_42 rfl (lv_at hl 0 rfl) ?_
            refine g_get (v := .ref (ad 1)) hC hP o_0 co_X 0 (by decide) rfl fl_X_11 rfl d_X_codesRefusal_43 ?_
            refine lv_iload_n hx hb d_X_codesRefusal_46 rfl (lv_at hl 1 rfl) ?_
            obtain ⟨hg7, hf⟩ := gd_some hf
            refine g_aald hC hP r_1 rfl rfl hg7 d_X_codesRefusal_47 ?_
            refine lv_iload hx hb d_X_codesRefusal_48 (lv_at hl 2 rfl) ?_
            obtain ⟨hg8, hf⟩ := gd_some hf
            refine g_iald2 (j := v4_5.toNatClampNeg) hC hP (rowA hg7) hg8 rfl d_X_codesRefusal_50 ?_
            obtain ⟨r10, hk9, hf⟩ := bp_some hf
            refine g_calli hS (g_runS (As := [.int (σL5.1 (2 + x1.toNatClampNeg) v4_5.toNatClampNeg)]) (rest := []) hC hP (c_X_isCode hj  hk9) (rk (by decide) (by decide)) nm_X_isCode cd_X_isCode it_WideTown ml_X_208 sc_X_isCode rfl hl.1 rfl (Nat.le_of_ble_eq_true rfl) d_X_codesRefusal_51 zz) (fun H locs hP hS => ?_)
            refine lv_if_ne (tgt := 63) hx hb d_X_codesRefusal_54 (by decide) (fun hc14 => ?_) (fun hc14 => ?_)
            · rw [if_neg hc14] at hf
              refine lv_iinc (v := v4_5 + 1) (lv' := [(4, .int (v4_5 + 1)), (0, .ref (ad 0)), (1, .int x1)]) hx hb d_X_codesRefusal_63 hl (k := 2) rfl rfl (by decide) rfl (fun ls hl => ?_)
              refine lv_goto (tgt := 31) hx hb d_X_codesRefusal_66 (by decide) ?_
              exact ih _ _ _ _ _ hP hS (lv_sub hl [1, 2, 0] rfl) hf
            · rw [if_pos hc14] at hf
              refine lv_aload_n hx hb d_X_codesRefusal_57 rfl (lv_at hl 0 rfl) ?_
              refine lv_iconst (v := (3 : Int32)) hx hb d_X_codesRefusal_58 (by decide) ?_
              obtain ⟨r12, σ13, hk11, hf⟩ := bc_some hf
              refine g_calli hS (g_runV (As := [.int (3 : Int32)]) (rest := []) hC hP (c_X_found hj  hk11) (rk (by decide) (by decide)) nm_X_found cd_X_found it_WideTown ml_X_116 im_X_found sl_X_found o_0 co_X rfl hl.1 rfl (Nat.le_of_ble_eq_true rfl) d_X_codesRefusal_59 zz) (fun H locs hP hS => ?_)
              cases hf
              exact g_iret hC rfl hP hS d_X_codesRefusal_62
      exact hL5 _ _ _ _ _ _ hP hS (lv_sub hl [2, 3, 0] rfl) hf
    · rw [if_neg hc19] at hf
      refine lv_aload_n hx hb d_X_codesRefusal_22 rfl (lv_at hl 1 rfl) ?_
      refine lv_iconst (v := (5 : Int32)) hx hb d_X_codesRefusal_23 (by decide) ?_
      obtain ⟨r17, σ18, hk16, hf⟩ := bc_some hf
      refine g_calli hS (g_runV (As := [.int (5 : Int32)]) (rest := []) hC hP (c_X_found hj  hk16) (rk (by decide) (by decide)) nm_X_found cd_X_found it_WideTown ml_X_116 im_X_found sl_X_found o_0 co_X rfl hl.1 rfl (Nat.le_of_ble_eq_true rfl) d_X_codesRefusal_24 zz) (fun H locs hP hS => ?_)
      cases hf
      exact g_iret hC rfl hP hS d_X_codesRefusal_27
  · rw [if_neg hc20] at hf
    refine lv_iload_n hx hb d_X_codesRefusal_10 rfl (lv_at hl 0 rfl) ?_
    cases hf
    exact g_iret hC rfl hP hS d_X_codesRefusal_11
set_option maxHeartbeats 4000000 in
set_option maxRecDepth 100000 in
theorem c_X_round {l : Launch} {D : va_G} {K : Nat → ClassId} {ad : Nat → Nat} (hj : inj ad)   {x1 : Int32} {x2 : Int32} {σ : GS} {z0 : Int32 × GS} (hf : F_X_round x1 x2 σ = some z0) : CT l D K ad y_X_round b_X_round 6 (some .int) 5 [.ref (ad 0), .int x1, .int x2] σ (QI D K ad z0.1 z0.2) := by
  refine CT.intro hj (by decide) (Nat.le_of_ble_eq_true rfl) ?_
  intro p e s m args below meth c ls hC hP hS hl
  obtain ⟨hx, hb, -, hown, hts, -⟩ := id hC
  have hl : lv_has ls 6 [(0, .ref (ad 0)), (1, .int x1), (2, .int x2)] := hl
  rw [F_X_round] at hf
  refine lv_iload_n hx hb d_X_round_0 rfl (lv_at hl 2 rfl) ?_
  obtain ⟨r2, hk1, hf⟩ := bp_some hf
  refine g_calli hS (g_runS (As := [.int x2]) (rest := []) hC hP (c_X_isRow hj  hk1) (rk (by decide) (by decide)) nm_X_isRow cd_X_isRow it_WideTown ml_X_112 sc_X_isRow rfl hl.1 rfl (Nat.le_of_ble_eq_true rfl) d_X_round_1 zz) (fun H locs hP hS => ?_)
  refine lv_if_ne (tgt := 9) hx hb d_X_round_4 (by decide) (fun hc22 => ?_) (fun hc22 => ?_)
  · rw [if_neg hc22] at hf
    refine lv_aload_n hx hb d_X_round_9 rfl (lv_at hl 0 rfl) ?_
    refine lv_iload_n hx hb d_X_round_10 rfl (lv_at hl 1 rfl) ?_
    refine lv_bipush (v := (6 : Int32)) hx hb d_X_round_11 (by decide) ?_
    obtain ⟨r4, σ5, hk3, hf⟩ := bc_some hf
    refine g_calli hS (g_runV (As := [.int x1, .int (6 : Int32)]) (rest := []) hC hP (c_X_codesRefusal hj  hk3) (rk (by decide) (by decide)) nm_X_codesRefusal cd_X_codesRefusal it_WideTown ml_X_298 im_X_codesRefusal sl_X_codesRefusal o_0 co_X rfl hl.1 rfl (Nat.le_of_ble_eq_true rfl) d_X_round_13 zz) (fun H locs hP hS => ?_)
    refine lv_istore_n (lv' := [(3, .int r4), (0, .ref (ad 0)), (1, .int x1), (2, .int x2)]) hx hb d_X_round_16 rfl hl (by decide) rfl (fun ls hl => ?_)
    refine lv_iload_n hx hb d_X_round_17 rfl (lv_at hl 0 rfl) ?_
    refine lv_if_eq (tgt := 23) hx hb d_X_round_18 (by decide) (fun hc21 => ?_) (fun hc21 => ?_)
    · rw [if_pos hc21] at hf
      refine lv_aload_n hx hb d_X_round_23 rfl (lv_at hl 1 rfl) ?_
      refine g_get (v := .ref (ad 8)) hC hP o_0 co_X 1 (by decide) rfl fl_X_14 rfl d_X_round_24 ?_
      refine lv_iload_n hx hb d_X_round_27 rfl (lv_at hl 2 rfl) ?_
      obtain ⟨hg6, hf⟩ := gd_some hf
      refine g_iald2 (j := x1.toNatClampNeg) hC hP a_8 hg6 rfl d_X_round_28 ?_
      refine lv_istore (lv' := [(4, .int (σ5.1 8 x1.toNatClampNeg)), (3, .int r4), (0, .ref (ad 0)), (1, .int x1), (2, .int x2)]) hx hb d_X_round_29 hl (by decide) rfl (fun ls hl => ?_)
      refine lv_aload_n hx hb d_X_round_31 rfl (lv_at hl 2 rfl) ?_
      refine g_get (v := .ref (ad 50)) hC hP o_0 co_X 12 (by decide) rfl fl_X_78 rfl d_X_round_32 ?_
      refine lv_aload_n hx hb d_X_round_35 rfl (lv_at hl 2 rfl) ?_
      refine g_get (v := .ref (ad 1)) hC hP o_0 co_X 0 (by decide) rfl fl_X_11 rfl d_X_round_36 ?_
      refine lv_iload_n hx hb d_X_round_39 rfl (lv_at hl 3 rfl) ?_
      obtain ⟨hg7, hf⟩ := gd_some hf
      refine g_aald hC hP r_1 rfl rfl hg7 d_X_round_40 ?_
      refine lv_iload hx hb d_X_round_41 (lv_at hl 0 rfl) ?_
      refine lv_aload_n hx hb d_X_round_43 rfl (lv_at hl 2 rfl) ?_
      refine g_get (v := .ref (ad 32)) hC hP o_0 co_X 7 (by decide) rfl fl_X_47 rfl d_X_round_44 ?_
      obtain ⟨σ9, hk8, hf⟩ := bv_some hf
      refine g_callv hS (g_runV (As := [.ref (ad (2 + x1.toNatClampNeg)), .int (σ5.1 8 x1.toNatClampNeg), .ref (ad 32)]) (rest := []) hC hP (c_To_measure hj (rowA hg7) hk8) (rk (by decide) (by decide)) nm_To_measure cd_To_measure it_WideTown_Tour ml_X_301 im_To_measure sl_To_measure o_50 co_To rfl hl.1 rfl (Nat.le_of_ble_eq_true rfl) d_X_round_47 zz) (fun H locs hP hS => ?_)
      refine lv_aload_n hx hb d_X_round_50 rfl (lv_at hl 2 rfl) ?_
      refine g_get (v := .ref (ad 50)) hC hP o_0 co_X 12 (by decide) rfl fl_X_78 rfl d_X_round_51 ?_
      obtain ⟨σ11, hk10, hf⟩ := bv_some hf
      refine g_callv hS (g_runV (As := []) (rest := []) hC hP (c_To_search hj  hk10) (rk (by decide) (by decide)) nm_To_search cd_To_search it_WideTown_Tour ml_X_305 im_To_search sl_To_search o_50 co_To rfl hl.1 rfl (Nat.le_of_ble_eq_true rfl) d_X_round_54 zz) (fun H locs hP hS => ?_)
      refine lv_aload_n hx hb d_X_round_57 rfl (lv_at hl 2 rfl) ?_
      refine lv_iload_n hx hb d_X_round_58 rfl (lv_at hl 4 rfl) ?_
      refine lv_iload hx hb d_X_round_59 (lv_at hl 0 rfl) ?_
      obtain ⟨σ13, hk12, hf⟩ := bv_some hf
      refine g_callv hS (g_runV (As := [.int x2, .int (σ5.1 8 x1.toNatClampNeg)]) (rest := []) hC hP (c_X_renewRow hj  hk12) (rk (by decide) (by decide)) nm_X_renewRow cd_X_renewRow it_WideTown ml_X_120 im_X_renewRow sl_X_renewRow o_0 co_X rfl hl.1 rfl (Nat.le_of_ble_eq_true rfl) d_X_round_61 zz) (fun H locs hP hS => ?_)
      refine lv_iconst (v := (0 : Int32)) hx hb d_X_round_64 (by decide) ?_
      refine lv_istore (lv' := [(5, .int (0 : Int32)), (4, .int (σ5.1 8 x1.toNatClampNeg)), (3, .int r4), (0, .ref (ad 0)), (1, .int x1), (2, .int x2)]) hx hb d_X_round_65 hl (by decide) rfl (fun ls hl => ?_)
      obtain ⟨u4_14, eu4_14, hf⟩ := jn_some hf
      have hl : lv_has ls 6 [(5, .int (0 : Int32)), (4, .int u4_14), (3, .int r4), (0, .ref (ad 0)), (1, .int x1), (2, .int x2)] := by rw [eu4_14]; exact hl
      obtain ⟨KL15_99, eKL15_99, hf⟩ := jn_some hf
      have hKL15_99 : ∀ (v5_15 : Int32) (σL15 : GS) (H : Heap) (locs : List Loc) (ls : Array Slot), va_P D vwCl (wG K ad σL15) H → va_S (GA ad) s.heap H locs → lv_has ls 6 [(0, .ref (ad 0))] → KL15_99 v5_15 σL15 = some z0 → W p l e (rmd 5) s m args below meth c H locs 0 0 (MQ below (QI D K ad z0.1 z0.2) args s 0 0 (GA ad)) (F0 m 99 ls []) := by
        clear hf
        intro v5_15 σL15 H locs ls hP hS hl hf
        rw [eKL15_99] at hf
        try dsimp only at hf
        refine lv_aload_n hx hb d_X_round_99 rfl (lv_at hl 0 rfl) ?_
        refine g_get (v := .ref (ad 50)) hC hP o_0 co_X 12 (by decide) rfl fl_X_78 rfl d_X_round_100 ?_
        refine g_get (v := .int (σL15.1 50 4)) hC hP o_50 co_To 4 (by decide) rfl fl_X_311 rfl d_X_round_103 ?_
        cases hf
        exact g_iret hC rfl hP hS d_X_round_106
      clear eKL15_99
      have hL15 : ∀ (n : Nat) (v5_15 : Int32) (σL15 : GS) (H : Heap) (locs : List Loc) (ls : Array Slot), va_P D vwCl (wG K ad σL15) H → va_S (GA ad) s.heap H locs → lv_has ls 6 [(0, .ref (ad 0)), (2, .int x2), (4, .int u4_14), (5, .int v5_15)] → F_X_round_67 x2 u4_14 KL15_99 n v5_15 σL15 = some z0 → W p l e (rmd 5) s m args below meth c H locs 0 0 (MQ below (QI D K ad z0.1 z0.2) args s 0 0 (GA ad)) (F0 m 67 ls []) := by
        clear hf
        intro n
        induction n with
        | zero =>
          intro v5_15 σL15 H locs ls hP hS hl hf
          rw [F_X_round_67.eq_1] at hf
          cases hf
        | succ n ih =>
          intro v5_15 σL15 H locs ls hP hS hl hf
          rw [F_X_round_67.eq_2] at hf
          refine lv_iload hx hb d_X_round_67 (lv_at hl 3 rfl) ?_
          refine lv_iload hx hb d_X_round_69 (lv_at hl 2 rfl) ?_
          refine lv_icmp_ge (tgt := 99) hx hb d_X_round_71 (by decide) (fun hc20 => ?_) (fun hc20 => ?_)
          · rw [if_pos hc20] at hf
            exact hKL15_99 _ _ _ _ _ hP hS (lv_sub hl [0] rfl) hf
          · rw [if_neg hc20] at hf
            refine lv_aload_n hx hb d_X_round_74 rfl (lv_at hl 0 rfl) ?_
            refine g_get (v := .ref (ad 1)) hC hP o_0 co_X 0 (by decide) rfl fl_X_11 rfl d_X_round_75 ?_
            refine lv_iload_n hx hb d_X_round_78 rfl (lv_at hl 1 rfl) ?_
            obtain ⟨hg16, hf⟩ := gd_some hf
            refine g_aald hC hP r_1 rfl rfl hg16 d_X_round_79 ?_
            refine lv_iload hx hb d_X_round_80 (lv_at hl 3 rfl) ?_
            refine lv_aload_n hx hb d_X_round_82 rfl (lv_at hl 0 rfl) ?_
            refine g_get (v := .ref (ad 50)) hC hP o_0 co_X 12 (by decide) rfl fl_X_78 rfl d_X_round_83 ?_
            refine g_get (v := .ref (ad 53)) hC hP o_50 co_To 2 (by decide) rfl fl_X_308 rfl d_X_round_86 ?_
            refine lv_iload hx hb d_X_round_89 (lv_at hl 3 rfl) ?_
            obtain ⟨hg17, hf⟩ := gd_some hf
            refine g_iald2 (j := v5_15.toNatClampNeg) hC hP a_53 hg17 rfl d_X_round_91 ?_
            obtain ⟨hg18, hf⟩ := gd_some hf
            obtain ⟨σ19, eσ19, hf⟩ := jn_some hf
            refine g_iast2 (j := v5_15.toNatClampNeg) hC hP hS (rowA hg16) hg18 rfl d_X_round_92 (fun H locs hP hS => ?_)
            rw [← eσ19] at hP
            refine lv_iinc (v := v5_15 + 1) (lv' := [(5, .int (v5_15 + 1)), (0, .ref (ad 0)), (2, .int x2), (4, .int u4_14)]) hx hb d_X_round_93 hl (k := 3) rfl rfl (by decide) rfl (fun ls hl => ?_)
            refine lv_goto (tgt := 67) hx hb d_X_round_96 (by decide) ?_
            exact ih _ _ _ _ _ hP hS (lv_sub hl [1, 2, 3, 0] rfl) hf
      exact hL15 _ _ _ _ _ _ hP hS (lv_sub hl [3, 5, 1, 0] rfl) hf
    · rw [if_neg hc21] at hf
      refine lv_iload_n hx hb d_X_round_21 rfl (lv_at hl 0 rfl) ?_
      cases hf
      exact g_iret hC rfl hP hS d_X_round_22
  · rw [if_pos hc22] at hf
    refine lv_iconst (v := (-1 : Int32)) hx hb d_X_round_7 (by decide) ?_
    cases hf
    exact g_iret hC rfl hP hS d_X_round_8
set_option maxHeartbeats 4000000 in
set_option maxRecDepth 100000 in
theorem c_X_post {l : Launch} {D : va_G} {K : Nat → ClassId} {ad : Nat → Nat} (hj : inj ad)   {x1 : Int32} {σ : GS} {z0 : Int32 × GS} (hf : F_X_post x1 σ = some z0) : CT l D K ad y_X_post b_X_post 8 (some .int) 5 [.ref (ad 0), .int x1] σ (QI D K ad z0.1 z0.2) := by
  refine CT.intro hj (by decide) (Nat.le_of_ble_eq_true rfl) ?_
  intro p e s m args below meth c ls hC hP hS hl
  obtain ⟨hx, hb, -, hown, hts, -⟩ := id hC
  have hl : lv_has ls 8 [(0, .ref (ad 0)), (1, .int x1)] := hl
  rw [F_X_post] at hf
  refine lv_aload_n hx hb d_X_post_0 rfl (lv_at hl 0 rfl) ?_
  refine lv_iload_n hx hb d_X_post_1 rfl (lv_at hl 1 rfl) ?_
  refine lv_bipush (v := (20 : Int32)) hx hb d_X_post_2 (by decide) ?_
  obtain ⟨r2, σ3, hk1, hf⟩ := bc_some hf
  refine g_calli hS (g_runV (As := [.int x1, .int (20 : Int32)]) (rest := []) hC hP (c_X_codesRefusal hj  hk1) (rk (by decide) (by decide)) nm_X_codesRefusal cd_X_codesRefusal it_WideTown ml_X_298 im_X_codesRefusal sl_X_codesRefusal o_0 co_X rfl hl.1 rfl (Nat.le_of_ble_eq_true rfl) d_X_post_4 zz) (fun H locs hP hS => ?_)
  refine lv_istore_n (lv' := [(2, .int r2), (0, .ref (ad 0)), (1, .int x1)]) hx hb d_X_post_7 rfl hl (by decide) rfl (fun ls hl => ?_)
  refine lv_iload_n hx hb d_X_post_8 rfl (lv_at hl 0 rfl) ?_
  refine lv_if_eq (tgt := 14) hx hb d_X_post_9 (by decide) (fun hc22 => ?_) (fun hc22 => ?_)
  · rw [if_pos hc22] at hf
    refine lv_aload_n hx hb d_X_post_14 rfl (lv_at hl 1 rfl) ?_
    refine g_get (v := .ref (ad 54)) hC hP o_0 co_X 13 (by decide) rfl fl_X_85 rfl d_X_post_15 ?_
    refine lv_aload_n hx hb d_X_post_18 rfl (lv_at hl 1 rfl) ?_
    refine g_get (v := .ref (ad 32)) hC hP o_0 co_X 7 (by decide) rfl fl_X_47 rfl d_X_post_19 ?_
    obtain ⟨σ5, hk4, hf⟩ := bv_some hf
    refine g_callv hS (g_runV (As := [.ref (ad 32)]) (rest := []) hC hP (c_Qu_survey hj  hk4) (rk (by decide) (by decide)) nm_Qu_survey cd_Qu_survey it_WideTown_Quarter ml_X_314 im_Qu_survey sl_Qu_survey o_54 co_Qu rfl hl.1 rfl (Nat.le_of_ble_eq_true rfl) d_X_post_22 zz) (fun H locs hP hS => ?_)
    refine lv_iconst (v := (0 : Int32)) hx hb d_X_post_25 (by decide) ?_
    refine lv_istore_n (lv' := [(3, .int (0 : Int32)), (2, .int r2), (0, .ref (ad 0)), (1, .int x1)]) hx hb d_X_post_26 rfl hl (by decide) rfl (fun ls hl => ?_)
    refine lv_ldcw hx hb hown (hts _ cn_X_317) d_X_post_27 ?_
    refine lv_istore (lv' := [(4, .int (1000000 : Int32)), (3, .int (0 : Int32)), (2, .int r2), (0, .ref (ad 0)), (1, .int x1)]) hx hb d_X_post_30 hl (by decide) rfl (fun ls hl => ?_)
    refine lv_iconst (v := (0 : Int32)) hx hb d_X_post_32 (by decide) ?_
    refine lv_istore (lv' := [(5, .int (0 : Int32)), (4, .int (1000000 : Int32)), (3, .int (0 : Int32)), (2, .int r2), (0, .ref (ad 0)), (1, .int x1)]) hx hb d_X_post_33 hl (by decide) rfl (fun ls hl => ?_)
    obtain ⟨KL6_140, eKL6_140, hf⟩ := jn_some hf
    have hKL6_140 : ∀ (v3_6 : Int32) (v4_6 : Int32) (v5_6 : Int32) (σL6 : GS) (H : Heap) (locs : List Loc) (ls : Array Slot), va_P D vwCl (wG K ad σL6) H → va_S (GA ad) s.heap H locs → lv_has ls 8 [(0, .ref (ad 0)), (3, .int v3_6), (4, .int v4_6)] → KL6_140 v3_6 v4_6 v5_6 σL6 = some z0 → W p l e (rmd 5) s m args below meth c H locs 0 0 (MQ below (QI D K ad z0.1 z0.2) args s 0 0 (GA ad)) (F0 m 140 ls []) := by
      clear hf
      intro v3_6 v4_6 v5_6 σL6 H locs ls hP hS hl hf
      rw [eKL6_140] at hf
      try dsimp only at hf
      refine lv_aload_n hx hb d_X_post_140 rfl (lv_at hl 0 rfl) ?_
      refine lv_iload hx hb d_X_post_141 (lv_at hl 2 rfl) ?_
      obtain ⟨σ7, eσ7, hf⟩ := jn_some hf
      refine g_puti hC hP hS o_0 co_X 16 (by decide) rfl fl_X_96 rfl (to_X 16 (by decide)) (Nat.le_of_ble_eq_true rfl) rfl d_X_post_143 (fun H locs hP hS => ?_)
      rw [← eσ7] at hP
      refine lv_iload_n hx hb d_X_post_146 rfl (lv_at hl 1 rfl) ?_
      cases hf
      exact g_iret hC rfl hP hS d_X_post_147
    clear eKL6_140
    have hL6 : ∀ (n : Nat) (v3_6 : Int32) (v4_6 : Int32) (v5_6 : Int32) (σL6 : GS) (H : Heap) (locs : List Loc) (ls : Array Slot), va_P D vwCl (wG K ad σL6) H → va_S (GA ad) s.heap H locs → lv_has ls 8 [(0, .ref (ad 0)), (1, .int x1), (3, .int v3_6), (4, .int v4_6), (5, .int v5_6)] → F_X_post_35 x1 KL6_140 n v3_6 v4_6 v5_6 σL6 = some z0 → W p l e (rmd 5) s m args below meth c H locs 0 0 (MQ below (QI D K ad z0.1 z0.2) args s 0 0 (GA ad)) (F0 m 35 ls []) := by
      clear hf
      intro n
      induction n with
      | zero =>
        intro v3_6 v4_6 v5_6 σL6 H locs ls hP hS hl hf
        rw [F_X_post_35.eq_1] at hf
        cases hf
      | succ n ih =>
        intro v3_6 v4_6 v5_6 σL6 H locs ls hP hS hl hf
        rw [F_X_post_35.eq_2] at hf
        refine lv_iload hx hb d_X_post_35 (lv_at hl 4 rfl) ?_
        refine lv_aload_n hx hb d_X_post_37 rfl (lv_at hl 0 rfl) ?_
        refine g_get (v := .ref (ad 54)) hC hP o_0 co_X 13 (by decide) rfl fl_X_85 rfl d_X_post_38 ?_
        refine g_get (v := .int (σL6.1 54 9)) hC hP o_54 co_Qu 9 (by decide) rfl fl_X_318 rfl d_X_post_41 ?_
        refine lv_icmp_ge (tgt := 140) hx hb d_X_post_44 (by decide) (fun hc21 => ?_) (fun hc21 => ?_)
        · rw [if_pos hc21] at hf
          exact hKL6_140 _ _ _ _ _ _ _ hP hS (lv_sub hl [0, 2, 3] rfl) hf
        · rw [if_neg hc21] at hf
          refine lv_aload_n hx hb d_X_post_47 rfl (lv_at hl 0 rfl) ?_
          refine g_get (v := .ref (ad 54)) hC hP o_0 co_X 13 (by decide) rfl fl_X_85 rfl d_X_post_48 ?_
          refine g_get (v := .ref (ad 56)) hC hP o_54 co_Qu 1 (by decide) rfl fl_X_319 rfl d_X_post_51 ?_
          refine lv_iload hx hb d_X_post_54 (lv_at hl 4 rfl) ?_
          obtain ⟨hg8, hf⟩ := gd_some hf
          refine g_iald2 (j := v5_6.toNatClampNeg) hC hP a_56 hg8 rfl d_X_post_56 ?_
          refine lv_iconst (v := (3 : Int32)) hx hb d_X_post_57 (by decide) ?_
          refine lv_icmp_gt (tgt := 140) hx hb d_X_post_58 (by decide) (fun hc20 => ?_) (fun hc20 => ?_)
          · rw [if_pos hc20] at hf
            exact hKL6_140 _ _ _ _ _ _ _ hP hS (lv_sub hl [0, 2, 3] rfl) hf
          · rw [if_neg hc20] at hf
            refine lv_iconst (v := (0 : Int32)) hx hb d_X_post_61 (by decide) ?_
            refine lv_istore (lv' := [(6, .int (0 : Int32)), (0, .ref (ad 0)), (1, .int x1), (3, .int v3_6), (4, .int v4_6), (5, .int v5_6)]) hx hb d_X_post_62 hl (by decide) rfl (fun ls hl => ?_)
            refine lv_iconst (v := (0 : Int32)) hx hb d_X_post_64 (by decide) ?_
            refine lv_istore (lv' := [(7, .int (0 : Int32)), (6, .int (0 : Int32)), (0, .ref (ad 0)), (1, .int x1), (3, .int v3_6), (4, .int v4_6), (5, .int v5_6)]) hx hb d_X_post_65 hl (by decide) rfl (fun ls hl => ?_)
            obtain ⟨KL9_112, eKL9_112, hf⟩ := jn_some hf
            have hKL9_112 : ∀ (v6_9 : Int32) (v7_9 : Int32) (σL9 : GS) (H : Heap) (locs : List Loc) (ls : Array Slot), va_P D vwCl (wG K ad σL9) H → va_S (GA ad) s.heap H locs → lv_has ls 8 [(0, .ref (ad 0)), (1, .int x1), (3, .int v3_6), (4, .int v4_6), (5, .int v5_6), (6, .int v6_9)] → KL9_112 v6_9 v7_9 σL9 = some z0 → W p l e (rmd 5) s m args below meth c H locs 0 0 (MQ below (QI D K ad z0.1 z0.2) args s 0 0 (GA ad)) (F0 m 112 ls []) := by
              clear hf
              intro v6_9 v7_9 σL9 H locs ls hP hS hl hf
              rw [eKL9_112] at hf
              try dsimp only at hf
              refine lv_iload hx hb d_X_post_112 (lv_at hl 5 rfl) ?_
              refine lv_iload hx hb d_X_post_114 (lv_at hl 3 rfl) ?_
              refine lv_icmp_ge (tgt := 134) hx hb d_X_post_116 (by decide) (fun hc11 => ?_) (fun hc11 => ?_)
              · rw [if_pos hc11] at hf
                refine lv_iinc (v := v5_6 + 1) (lv' := [(5, .int (v5_6 + 1)), (0, .ref (ad 0)), (1, .int x1), (3, .int v3_6), (4, .int v4_6), (6, .int v6_9)]) hx hb d_X_post_134 hl (k := 4) rfl rfl (by decide) rfl (fun ls hl => ?_)
                refine lv_goto (tgt := 35) hx hb d_X_post_137 (by decide) ?_
                exact ih _ _ _ _ _ _ _ hP hS (lv_sub hl [1, 2, 3, 4, 0] rfl) hf
              · rw [if_neg hc11] at hf
                refine lv_iload hx hb d_X_post_119 (lv_at hl 5 rfl) ?_
                refine lv_istore (lv' := [(4, .int v6_9), (0, .ref (ad 0)), (1, .int x1), (3, .int v3_6), (5, .int v5_6), (6, .int v6_9)]) hx hb d_X_post_121 hl (by decide) rfl (fun ls hl => ?_)
                refine lv_aload_n hx hb d_X_post_123 rfl (lv_at hl 1 rfl) ?_
                refine g_get (v := .ref (ad 54)) hC hP o_0 co_X 13 (by decide) rfl fl_X_85 rfl d_X_post_124 ?_
                refine g_get (v := .ref (ad 55)) hC hP o_54 co_Qu 0 (by decide) rfl fl_X_322 rfl d_X_post_127 ?_
                refine lv_iload hx hb d_X_post_130 (lv_at hl 4 rfl) ?_
                obtain ⟨hg10, hf⟩ := gd_some hf
                refine g_iald2 (j := v5_6.toNatClampNeg) hC hP a_55 hg10 rfl d_X_post_132 ?_
                refine lv_istore_n (lv' := [(3, .int (σL9.1 55 v5_6.toNatClampNeg)), (4, .int v6_9), (0, .ref (ad 0)), (1, .int x1), (5, .int v5_6), (6, .int v6_9)]) hx hb d_X_post_133 rfl hl (by decide) rfl (fun ls hl => ?_)
                refine lv_iinc (v := v5_6 + 1) (lv' := [(5, .int (v5_6 + 1)), (3, .int (σL9.1 55 v5_6.toNatClampNeg)), (4, .int v6_9), (0, .ref (ad 0)), (1, .int x1), (6, .int v6_9)]) hx hb d_X_post_134 hl (k := 4) rfl rfl (by decide) rfl (fun ls hl => ?_)
                refine lv_goto (tgt := 35) hx hb d_X_post_137 (by decide) ?_
                exact ih _ _ _ _ _ _ _ hP hS (lv_sub hl [3, 4, 1, 2, 0] rfl) hf
            clear eKL9_112
            have hL9 : ∀ (n : Nat) (v6_9 : Int32) (v7_9 : Int32) (σL9 : GS) (H : Heap) (locs : List Loc) (ls : Array Slot), va_P D vwCl (wG K ad σL9) H → va_S (GA ad) s.heap H locs → lv_has ls 8 [(0, .ref (ad 0)), (1, .int x1), (3, .int v3_6), (4, .int v4_6), (5, .int v5_6), (6, .int v6_9), (7, .int v7_9)] → F_X_post_67 x1 v3_6 v4_6 v5_6 KL9_112 n v6_9 v7_9 σL9 = some z0 → W p l e (rmd 5) s m args below meth c H locs 0 0 (MQ below (QI D K ad z0.1 z0.2) args s 0 0 (GA ad)) (F0 m 67 ls []) := by
              clear hf
              intro n
              induction n with
              | zero =>
                intro v6_9 v7_9 σL9 H locs ls hP hS hl hf
                rw [F_X_post_67.eq_1] at hf
                cases hf
              | succ n ih =>
                intro v6_9 v7_9 σL9 H locs ls hP hS hl hf
                rw [F_X_post_67.eq_2] at hf
                refine lv_iload hx hb d_X_post_67 (lv_at hl 6 rfl) ?_
                refine lv_aload_n hx hb d_X_post_69 rfl (lv_at hl 0 rfl) ?_
                refine g_get (v := .ref (ad 8)) hC hP o_0 co_X 1 (by decide) rfl fl_X_14 rfl d_X_post_70 ?_
                refine lv_iload_n hx hb d_X_post_73 rfl (lv_at hl 1 rfl) ?_
                obtain ⟨hg12, hf⟩ := gd_some hf
                refine g_iald2 (j := x1.toNatClampNeg) hC hP a_8 hg12 rfl d_X_post_74 ?_
                refine lv_icmp_ge (tgt := 112) hx hb d_X_post_75 (by decide) (fun hc19 => ?_) (fun hc19 => ?_)
                · rw [if_pos hc19] at hf
                  exact hKL9_112 _ _ _ _ _ _ hP hS (lv_sub hl [0, 1, 2, 3, 4, 5] rfl) hf
                · rw [if_neg hc19] at hf
                  refine lv_iload hx hb d_X_post_78 (lv_at hl 5 rfl) ?_
                  refine lv_aload_n hx hb d_X_post_80 rfl (lv_at hl 0 rfl) ?_
                  refine lv_aload_n hx hb d_X_post_81 rfl (lv_at hl 0 rfl) ?_
                  refine g_get (v := .ref (ad 54)) hC hP o_0 co_X 13 (by decide) rfl fl_X_85 rfl d_X_post_82 ?_
                  refine g_get (v := .ref (ad 55)) hC hP o_54 co_Qu 0 (by decide) rfl fl_X_322 rfl d_X_post_85 ?_
                  refine lv_iload hx hb d_X_post_88 (lv_at hl 4 rfl) ?_
                  obtain ⟨hg13, hf⟩ := gd_some hf
                  refine g_iald2 (j := v5_6.toNatClampNeg) hC hP a_55 hg13 rfl d_X_post_90 ?_
                  refine lv_aload_n hx hb d_X_post_91 rfl (lv_at hl 0 rfl) ?_
                  refine g_get (v := .ref (ad 1)) hC hP o_0 co_X 0 (by decide) rfl fl_X_11 rfl d_X_post_92 ?_
                  refine lv_iload_n hx hb d_X_post_95 rfl (lv_at hl 1 rfl) ?_
                  obtain ⟨hg14, hf⟩ := gd_some hf
                  refine g_aald hC hP r_1 rfl rfl hg14 d_X_post_96 ?_
                  refine lv_iload hx hb d_X_post_97 (lv_at hl 6 rfl) ?_
                  obtain ⟨hg15, hf⟩ := gd_some hf
                  refine g_iald2 (j := v7_9.toNatClampNeg) hC hP (rowA hg14) hg15 rfl d_X_post_99 ?_
                  obtain ⟨r17, σ18, hk16, hf⟩ := bc_some hf
                  refine g_calli hS (g_runV (As := [.int (σL9.1 55 v5_6.toNatClampNeg), .int (σL9.1 (2 + x1.toNatClampNeg) v7_9.toNatClampNeg)]) (rest := [.int v6_9]) hC hP (c_X_gap hj  hk16) (rk (by decide) (by decide)) nm_X_gap cd_X_gap it_WideTown ml_X_247 im_X_gap sl_X_gap o_0 co_X rfl hl.1 rfl (Nat.le_of_ble_eq_true rfl) d_X_post_100 zz) (fun H locs hP hS => ?_)
                  refine lv_iadd hx hb d_X_post_103 ?_
                  refine lv_istore (lv' := [(6, .int (v6_9 + r17)), (0, .ref (ad 0)), (1, .int x1), (3, .int v3_6), (4, .int v4_6), (5, .int v5_6), (7, .int v7_9)]) hx hb d_X_post_104 hl (by decide) rfl (fun ls hl => ?_)
                  refine lv_iinc (v := v7_9 + 1) (lv' := [(7, .int (v7_9 + 1)), (6, .int (v6_9 + r17)), (0, .ref (ad 0)), (1, .int x1), (3, .int v3_6), (4, .int v4_6), (5, .int v5_6)]) hx hb d_X_post_106 hl (k := 6) rfl rfl (by decide) rfl (fun ls hl => ?_)
                  refine lv_goto (tgt := 67) hx hb d_X_post_109 (by decide) ?_
                  exact ih _ _ _ _ _ _ hP hS (lv_sub hl [2, 3, 4, 5, 6, 1, 0] rfl) hf
            exact hL9 _ _ _ _ _ _ _ hP hS (lv_sub hl [2, 3, 4, 5, 6, 1, 0] rfl) hf
    exact hL6 _ _ _ _ _ _ _ _ hP hS (lv_sub hl [4, 5, 2, 1, 0] rfl) hf
  · rw [if_neg hc22] at hf
    refine lv_iload_n hx hb d_X_post_12 rfl (lv_at hl 0 rfl) ?_
    cases hf
    exact g_iret hC rfl hP hS d_X_post_13
