set_option maxHeartbeats 4000000 in
set_option maxRecDepth 100000 in
theorem c_M_stand {l : Launch} {D : va_G} {K : Nat → ClassId} {ad : Nat → Nat} (hj : inj ad)   {x1 : Int32} {x2 : Int32} {σ : GS} {z0 : Int32 × GS} (hf : F_M_stand x1 x2 σ = some z0) : CT l D K ad y_M_stand b_M_stand 4 (some .int) 5 [.ref (ad 63), .int x1, .int x2] σ (QI D K ad z0.1 z0.2) := by
  refine CT.intro hj (by decide) (Nat.le_of_ble_eq_true rfl) ?_
  intro p e s m args below meth c ls hC hP hS hl
  obtain ⟨hx, hb, -, hown, hts, -⟩ := id hC
  have hl : lv_has ls 4 [(0, .ref (ad 63)), (1, .int x1), (2, .int x2)] := hl
  rw [F_M_stand] at hf
  refine lv_aload_n hx hb d_M_stand_0 rfl (lv_at hl 0 rfl) ?_
  refine lv_iload_n hx hb d_M_stand_1 rfl (lv_at hl 1 rfl) ?_
  obtain ⟨r2, hk1, hf⟩ := bp_some hf
  refine g_calli hS (g_runV (As := [.int x1]) (rest := []) hC hP (c_M_isWalker hj  hk1) (rk (by decide) (by decide)) nm_M_isWalker cd_M_isWalker it_WideTownModel ml_M_191 im_M_isWalker sl_M_isWalker o_63 co_M rfl hl.1 rfl (Nat.le_of_ble_eq_true rfl) d_M_stand_2 zz) (fun H locs hP hS => ?_)
  refine lv_if_eq (tgt := 15) hx hb d_M_stand_5 (by decide) (fun hc12 => ?_) (fun hc12 => ?_)
  · rw [if_pos hc12] at hf
    refine lv_iconst (v := (-1 : Int32)) hx hb d_M_stand_15 (by decide) ?_
    cases hf
    exact g_iret hC rfl hP hS d_M_stand_16
  · rw [if_neg hc12] at hf
    refine lv_iload_n hx hb d_M_stand_8 rfl (lv_at hl 2 rfl) ?_
    obtain ⟨r4, hk3, hf⟩ := bp_some hf
    refine g_calli hS (g_runS (As := [.int x2]) (rest := []) hC hP (c_M_isCode hj  hk3) (rk (by decide) (by decide)) nm_M_isCode cd_M_isCode it_WideTownModel ml_M_213 sc_M_isCode rfl hl.1 rfl (Nat.le_of_ble_eq_true rfl) d_M_stand_9 zz) (fun H locs hP hS => ?_)
    refine lv_if_ne (tgt := 17) hx hb d_M_stand_12 (by decide) (fun hc11 => ?_) (fun hc11 => ?_)
    · rw [if_neg hc11] at hf
      refine lv_aload_n hx hb d_M_stand_17 rfl (lv_at hl 0 rfl) ?_
      refine g_get (v := .ref (ad 68)) hC hP o_63 co_M 4 (by decide) rfl fl_M_22 rfl d_M_stand_18 ?_
      refine lv_bipush (v := (7 : Int32)) hx hb d_M_stand_21 (by decide) ?_
      refine lv_iload_n hx hb d_M_stand_23 rfl (lv_at hl 1 rfl) ?_
      refine lv_iadd hx hb d_M_stand_24 ?_
      obtain ⟨hg5, hf⟩ := gd_some hf
      refine g_iald2 (j := ((7 : Int32) + x1).toNatClampNeg) hC hP a_68 hg5 rfl d_M_stand_25 ?_
      refine lv_istore_n (lv' := [(3, .int (σ.1 68 ((7 : Int32) + x1).toNatClampNeg)), (0, .ref (ad 63)), (1, .int x1), (2, .int x2)]) hx hb d_M_stand_26 rfl hl (by decide) rfl (fun ls hl => ?_)
      refine lv_aload_n hx hb d_M_stand_27 rfl (lv_at hl 1 rfl) ?_
      refine g_get (v := .ref (ad 68)) hC hP o_63 co_M 4 (by decide) rfl fl_M_22 rfl d_M_stand_28 ?_
      refine lv_bipush (v := (7 : Int32)) hx hb d_M_stand_31 (by decide) ?_
      refine lv_iload_n hx hb d_M_stand_33 rfl (lv_at hl 2 rfl) ?_
      refine lv_iadd hx hb d_M_stand_34 ?_
      refine lv_aload_n hx hb d_M_stand_35 rfl (lv_at hl 1 rfl) ?_
      refine lv_iload_n hx hb d_M_stand_36 rfl (lv_at hl 3 rfl) ?_
      obtain ⟨r7, σ8, hk6, hf⟩ := bc_some hf
      refine g_calli hS (g_runV (As := [.int x2]) (rest := [.int ((7 : Int32) + x1), .ref (ad 68)]) hC hP (c_M_plainOf hj  hk6) (rk (by decide) (by decide)) nm_M_plainOf cd_M_plainOf it_WideTownModel ml_M_216 im_M_plainOf sl_M_plainOf o_63 co_M rfl hl.1 rfl (Nat.le_of_ble_eq_true rfl) d_M_stand_37 zz) (fun H locs hP hS => ?_)
      obtain ⟨hg9, hf⟩ := gd_some hf
      obtain ⟨σ10, eσ10, hf⟩ := jn_some hf
      refine g_iast2 (j := ((7 : Int32) + x1).toNatClampNeg) hC hP hS a_68 hg9 rfl d_M_stand_40 (fun H locs hP hS => ?_)
      rw [← eσ10] at hP
      refine lv_iload_n hx hb d_M_stand_41 rfl (lv_at hl 0 rfl) ?_
      cases hf
      exact g_iret hC rfl hP hS d_M_stand_42
    · rw [if_pos hc11] at hf
      refine lv_iconst (v := (-1 : Int32)) hx hb d_M_stand_15 (by decide) ?_
      cases hf
      exact g_iret hC rfl hP hS d_M_stand_16
set_option maxHeartbeats 4000000 in
set_option maxRecDepth 100000 in
theorem c_M_head {l : Launch} {D : va_G} {K : Nat → ClassId} {ad : Nat → Nat} (hj : inj ad)   {x1 : Int32} {x2 : Int32} {σ : GS} {z0 : Int32 × GS} (hf : F_M_head x1 x2 σ = some z0) : CT l D K ad y_M_head b_M_head 4 (some .int) 2 [.ref (ad 63), .int x1, .int x2] σ (QI D K ad z0.1 z0.2) := by
  refine CT.intro hj (by decide) (Nat.le_of_ble_eq_true rfl) ?_
  intro p e s m args below meth c ls hC hP hS hl
  obtain ⟨hx, hb, -, hown, hts, -⟩ := id hC
  have hl : lv_has ls 4 [(0, .ref (ad 63)), (1, .int x1), (2, .int x2)] := hl
  rw [F_M_head] at hf
  refine lv_aload_n hx hb d_M_head_0 rfl (lv_at hl 0 rfl) ?_
  refine lv_iload_n hx hb d_M_head_1 rfl (lv_at hl 1 rfl) ?_
  obtain ⟨r2, hk1, hf⟩ := bp_some hf
  refine g_calli hS (g_runV (As := [.int x1]) (rest := []) hC hP (c_M_isWalker hj  hk1) (rk (by decide) (by decide)) nm_M_isWalker cd_M_isWalker it_WideTownModel ml_M_191 im_M_isWalker sl_M_isWalker o_63 co_M rfl hl.1 rfl (Nat.le_of_ble_eq_true rfl) d_M_head_2 zz) (fun H locs hP hS => ?_)
  refine lv_if_eq (tgt := 15) hx hb d_M_head_5 (by decide) (fun hc11 => ?_) (fun hc11 => ?_)
  · rw [if_pos hc11] at hf
    refine lv_iconst (v := (-1 : Int32)) hx hb d_M_head_15 (by decide) ?_
    cases hf
    exact g_iret hC rfl hP hS d_M_head_16
  · rw [if_neg hc11] at hf
    refine lv_iload_n hx hb d_M_head_8 rfl (lv_at hl 2 rfl) ?_
    obtain ⟨r4, hk3, hf⟩ := bp_some hf
    refine g_calli hS (g_runS (As := [.int x2]) (rest := []) hC hP (c_M_isStreet hj  hk3) (rk (by decide) (by decide)) nm_M_isStreet cd_M_isStreet it_WideTownModel ml_M_131 sc_M_isStreet rfl hl.1 rfl (Nat.le_of_ble_eq_true rfl) d_M_head_9 zz) (fun H locs hP hS => ?_)
    refine lv_if_ne (tgt := 17) hx hb d_M_head_12 (by decide) (fun hc10 => ?_) (fun hc10 => ?_)
    · rw [if_neg hc10] at hf
      refine lv_aload_n hx hb d_M_head_17 rfl (lv_at hl 0 rfl) ?_
      refine g_get (v := .ref (ad 68)) hC hP o_63 co_M 4 (by decide) rfl fl_M_22 rfl d_M_head_18 ?_
      refine lv_bipush (v := (12 : Int32)) hx hb d_M_head_21 (by decide) ?_
      refine lv_iload_n hx hb d_M_head_23 rfl (lv_at hl 1 rfl) ?_
      refine lv_iadd hx hb d_M_head_24 ?_
      obtain ⟨hg5, hf⟩ := gd_some hf
      refine g_iald2 (j := ((12 : Int32) + x1).toNatClampNeg) hC hP a_68 hg5 rfl d_M_head_25 ?_
      refine lv_istore_n (lv' := [(3, .int (σ.1 68 ((12 : Int32) + x1).toNatClampNeg)), (0, .ref (ad 63)), (1, .int x1), (2, .int x2)]) hx hb d_M_head_26 rfl hl (by decide) rfl (fun ls hl => ?_)
      refine lv_aload_n hx hb d_M_head_27 rfl (lv_at hl 1 rfl) ?_
      refine g_get (v := .ref (ad 68)) hC hP o_63 co_M 4 (by decide) rfl fl_M_22 rfl d_M_head_28 ?_
      refine lv_bipush (v := (12 : Int32)) hx hb d_M_head_31 (by decide) ?_
      refine lv_iload_n hx hb d_M_head_33 rfl (lv_at hl 2 rfl) ?_
      refine lv_iadd hx hb d_M_head_34 ?_
      refine lv_iload_n hx hb d_M_head_35 rfl (lv_at hl 3 rfl) ?_
      obtain ⟨hg6, hf⟩ := gd_some hf
      obtain ⟨σ7, eσ7, hf⟩ := jn_some hf
      refine g_iast2 (j := ((12 : Int32) + x1).toNatClampNeg) hC hP hS a_68 hg6 rfl d_M_head_36 (fun H locs hP hS => ?_)
      rw [← eσ7] at hP
      refine lv_aload_n hx hb d_M_head_37 rfl (lv_at hl 1 rfl) ?_
      refine g_get (v := .ref (ad 68)) hC hP o_63 co_M 4 (by decide) rfl fl_M_22 rfl d_M_head_38 ?_
      refine lv_bipush (v := (17 : Int32)) hx hb d_M_head_41 (by decide) ?_
      refine lv_iload_n hx hb d_M_head_43 rfl (lv_at hl 2 rfl) ?_
      refine lv_iadd hx hb d_M_head_44 ?_
      refine lv_iconst (v := (0 : Int32)) hx hb d_M_head_45 (by decide) ?_
      obtain ⟨hg8, hf⟩ := gd_some hf
      obtain ⟨σ9, eσ9, hf⟩ := jn_some hf
      refine g_iast2 (j := ((17 : Int32) + x1).toNatClampNeg) hC hP hS a_68 hg8 rfl d_M_head_46 (fun H locs hP hS => ?_)
      rw [← eσ9] at hP
      refine lv_iload_n hx hb d_M_head_47 rfl (lv_at hl 0 rfl) ?_
      cases hf
      exact g_iret hC rfl hP hS d_M_head_48
    · rw [if_pos hc10] at hf
      refine lv_iconst (v := (-1 : Int32)) hx hb d_M_head_15 (by decide) ?_
      cases hf
      exact g_iret hC rfl hP hS d_M_head_16
set_option maxHeartbeats 4000000 in
set_option maxRecDepth 100000 in
theorem c_M_hours {l : Launch} {D : va_G} {K : Nat → ClassId} {ad : Nat → Nat} (hj : inj ad)   {x1 : Int32} {σ : GS} {z0 : Int32 × GS} (hf : F_M_hours x1 σ = some z0) : CT l D K ad y_M_hours b_M_hours 4 (some .int) 6 [.ref (ad 63), .int x1] σ (QI D K ad z0.1 z0.2) := by
  refine CT.intro hj (by decide) (Nat.le_of_ble_eq_true rfl) ?_
  intro p e s m args below meth c ls hC hP hS hl
  obtain ⟨hx, hb, -, hown, hts, -⟩ := id hC
  have hl : lv_has ls 4 [(0, .ref (ad 63)), (1, .int x1)] := hl
  rw [F_M_hours] at hf
  refine lv_iload_n hx hb d_M_hours_0 rfl (lv_at hl 1 rfl) ?_
  refine lv_i2l hx hb d_M_hours_1 rfl ?_
  refine lv_lconst (v := (0 : Int64)) hx hb d_M_hours_2 (by decide) ?_
  refine lv_ldc2 hx hb hown (hts _ cn_M_219) d_M_hours_3 ?_
  obtain ⟨r2, hk1, hf⟩ := bp_some hf
  refine g_calli hS (g_runS (As := [.long x1.toInt64, .long (0 : Int64), .long (20 : Int64)]) (rest := []) hC hP (c_M_in hj  hk1) (rk (by decide) (by decide)) nm_M_in cd_M_in it_WideTownModel ml_M_100 sc_M_in rfl hl.1 rfl (Nat.le_of_ble_eq_true rfl) d_M_hours_6 zz) (fun H locs hP hS => ?_)
  refine lv_if_ne (tgt := 14) hx hb d_M_hours_9 (by decide) (fun hc17 => ?_) (fun hc17 => ?_)
  · rw [if_neg hc17] at hf
    refine lv_aload_n hx hb d_M_hours_14 rfl (lv_at hl 0 rfl) ?_
    refine g_get (v := .ref (ad 68)) hC hP o_63 co_M 4 (by decide) rfl fl_M_22 rfl d_M_hours_15 ?_
    refine lv_iconst (v := (0 : Int32)) hx hb d_M_hours_18 (by decide) ?_
    refine g_iald2 (j := 0) hC hP a_68 (by decide) rfl d_M_hours_19 ?_
    refine lv_if_ne (tgt := 26) hx hb d_M_hours_20 (by decide) (fun hc16 => ?_) (fun hc16 => ?_)
    · rw [if_neg hc16] at hf
      refine lv_aload_n hx hb d_M_hours_26 rfl (lv_at hl 0 rfl) ?_
      refine g_get (v := .ref (ad 68)) hC hP o_63 co_M 4 (by decide) rfl fl_M_22 rfl d_M_hours_27 ?_
      refine lv_iconst (v := (1 : Int32)) hx hb d_M_hours_30 (by decide) ?_
      refine g_iald2 (j := 1) hC hP a_68 (by decide) rfl d_M_hours_31 ?_
      refine lv_iload_n hx hb d_M_hours_32 rfl (lv_at hl 1 rfl) ?_
      refine lv_iadd hx hb d_M_hours_33 ?_
      refine lv_bipush (v := (60 : Int32)) hx hb d_M_hours_34 (by decide) ?_
      refine lv_icmp_le (tgt := 42) hx hb d_M_hours_36 (by decide) (fun hc15 => ?_) (fun hc15 => ?_)
      · rw [if_pos hc15] at hf
        refine lv_iconst (v := (0 : Int32)) hx hb d_M_hours_42 (by decide) ?_
        refine lv_istore_n (lv' := [(2, .int (0 : Int32)), (0, .ref (ad 63)), (1, .int x1)]) hx hb d_M_hours_43 rfl hl (by decide) rfl (fun ls hl => ?_)
        obtain ⟨KL3_128, eKL3_128, hf⟩ := jn_some hf
        have hKL3_128 : ∀ (v2_3 : Int32) (σL3 : GS) (H : Heap) (locs : List Loc) (ls : Array Slot), va_P D vwCl (wG K ad σL3) H → va_S (GA ad) s.heap H locs → lv_has ls 4 [(0, .ref (ad 63))] → KL3_128 v2_3 σL3 = some z0 → W p l e (rmd 6) s m args below meth c H locs 0 0 (MQ below (QI D K ad z0.1 z0.2) args s 0 0 (GA ad)) (F0 m 128 ls []) := by
          clear hf
          intro v2_3 σL3 H locs ls hP hS hl hf
          rw [eKL3_128] at hf
          try dsimp only at hf
          refine lv_aload_n hx hb d_M_hours_128 rfl (lv_at hl 0 rfl) ?_
          refine g_get (v := .ref (ad 68)) hC hP o_63 co_M 4 (by decide) rfl fl_M_22 rfl d_M_hours_129 ?_
          refine lv_iconst (v := (1 : Int32)) hx hb d_M_hours_132 (by decide) ?_
          refine g_iald2 (j := 1) hC hP a_68 (by decide) rfl d_M_hours_133 ?_
          cases hf
          exact g_iret hC rfl hP hS d_M_hours_134
        clear eKL3_128
        have hL3 : ∀ (n : Nat) (v2_3 : Int32) (σL3 : GS) (H : Heap) (locs : List Loc) (ls : Array Slot), va_P D vwCl (wG K ad σL3) H → va_S (GA ad) s.heap H locs → lv_has ls 4 [(0, .ref (ad 63)), (1, .int x1), (2, .int v2_3)] → F_M_hours_44 x1 KL3_128 n v2_3 σL3 = some z0 → W p l e (rmd 6) s m args below meth c H locs 0 0 (MQ below (QI D K ad z0.1 z0.2) args s 0 0 (GA ad)) (F0 m 44 ls []) := by
          clear hf
          intro n
          induction n with
          | zero =>
            intro v2_3 σL3 H locs ls hP hS hl hf
            rw [F_M_hours_44.eq_1] at hf
            cases hf
          | succ n ih =>
            intro v2_3 σL3 H locs ls hP hS hl hf
            rw [F_M_hours_44.eq_2] at hf
            refine lv_iload_n hx hb d_M_hours_44 rfl (lv_at hl 2 rfl) ?_
            refine lv_iload_n hx hb d_M_hours_45 rfl (lv_at hl 1 rfl) ?_
            refine lv_icmp_ge (tgt := 128) hx hb d_M_hours_46 (by decide) (fun hc14 => ?_) (fun hc14 => ?_)
            · rw [if_pos hc14] at hf
              exact hKL3_128 _ _ _ _ _ hP hS (lv_sub hl [0] rfl) hf
            · rw [if_neg hc14] at hf
              refine lv_iconst (v := (0 : Int32)) hx hb d_M_hours_49 (by decide) ?_
              refine lv_istore_n (lv' := [(3, .int (0 : Int32)), (0, .ref (ad 63)), (1, .int x1), (2, .int v2_3)]) hx hb d_M_hours_50 rfl hl (by decide) rfl (fun ls hl => ?_)
              obtain ⟨KL4_85, eKL4_85, hf⟩ := jn_some hf
              have hKL4_85 : ∀ (v3_4 : Int32) (σL4 : GS) (H : Heap) (locs : List Loc) (ls : Array Slot), va_P D vwCl (wG K ad σL4) H → va_S (GA ad) s.heap H locs → lv_has ls 4 [(0, .ref (ad 63)), (1, .int x1), (2, .int v2_3)] → KL4_85 v3_4 σL4 = some z0 → W p l e (rmd 6) s m args below meth c H locs 0 0 (MQ below (QI D K ad z0.1 z0.2) args s 0 0 (GA ad)) (F0 m 85 ls []) := by
                clear hf
                intro v3_4 σL4 H locs ls hP hS hl hf
                rw [eKL4_85] at hf
                try dsimp only at hf
                refine lv_iconst (v := (0 : Int32)) hx hb d_M_hours_85 (by decide) ?_
                refine lv_istore_n (lv' := [(3, .int (0 : Int32)), (0, .ref (ad 63)), (1, .int x1), (2, .int v2_3)]) hx hb d_M_hours_86 rfl hl (by decide) rfl (fun ls hl => ?_)
                obtain ⟨KL5_112, eKL5_112, hf⟩ := jn_some hf
                have hKL5_112 : ∀ (v3_5 : Int32) (σL5 : GS) (H : Heap) (locs : List Loc) (ls : Array Slot), va_P D vwCl (wG K ad σL5) H → va_S (GA ad) s.heap H locs → lv_has ls 4 [(0, .ref (ad 63)), (1, .int x1), (2, .int v2_3)] → KL5_112 v3_5 σL5 = some z0 → W p l e (rmd 6) s m args below meth c H locs 0 0 (MQ below (QI D K ad z0.1 z0.2) args s 0 0 (GA ad)) (F0 m 112 ls []) := by
                  clear hf
                  intro v3_5 σL5 H locs ls hP hS hl hf
                  rw [eKL5_112] at hf
                  try dsimp only at hf
                  refine lv_aload_n hx hb d_M_hours_112 rfl (lv_at hl 0 rfl) ?_
                  refine g_get (v := .ref (ad 68)) hC hP o_63 co_M 4 (by decide) rfl fl_M_22 rfl d_M_hours_113 ?_
                  refine lv_iconst (v := (1 : Int32)) hx hb d_M_hours_116 (by decide) ?_
                  refine lv_dup2_11 hx hb d_M_hours_117 rfl rfl ?_
                  refine g_iald2 (j := 1) hC hP a_68 (by decide) rfl d_M_hours_118 ?_
                  refine lv_iconst (v := (1 : Int32)) hx hb d_M_hours_119 (by decide) ?_
                  refine lv_iadd hx hb d_M_hours_120 ?_
                  obtain ⟨σ6, eσ6, hf⟩ := jn_some hf
                  refine g_iast2 (j := 1) hC hP hS a_68 (by decide) rfl d_M_hours_121 (fun H locs hP hS => ?_)
                  rw [← eσ6] at hP
                  refine lv_iinc (v := v2_3 + 1) (lv' := [(2, .int (v2_3 + 1)), (0, .ref (ad 63)), (1, .int x1)]) hx hb d_M_hours_122 hl (k := 2) rfl rfl (by decide) rfl (fun ls hl => ?_)
                  refine lv_goto (tgt := 44) hx hb d_M_hours_125 (by decide) ?_
                  exact ih _ _ _ _ _ hP hS (lv_sub hl [1, 2, 0] rfl) hf
                clear eKL5_112
                have hL5 : ∀ (n : Nat) (v3_5 : Int32) (σL5 : GS) (H : Heap) (locs : List Loc) (ls : Array Slot), va_P D vwCl (wG K ad σL5) H → va_S (GA ad) s.heap H locs → lv_has ls 4 [(0, .ref (ad 63)), (1, .int x1), (2, .int v2_3), (3, .int v3_5)] → F_M_hours_87 x1 v2_3 KL5_112 n v3_5 σL5 = some z0 → W p l e (rmd 6) s m args below meth c H locs 0 0 (MQ below (QI D K ad z0.1 z0.2) args s 0 0 (GA ad)) (F0 m 87 ls []) := by
                  clear hf
                  intro n
                  induction n with
                  | zero =>
                    intro v3_5 σL5 H locs ls hP hS hl hf
                    rw [F_M_hours_87.eq_1] at hf
                    cases hf
                  | succ n ih =>
                    intro v3_5 σL5 H locs ls hP hS hl hf
                    rw [F_M_hours_87.eq_2] at hf
                    refine lv_iload_n hx hb d_M_hours_87 rfl (lv_at hl 3 rfl) ?_
                    refine lv_aload_n hx hb d_M_hours_88 rfl (lv_at hl 0 rfl) ?_
                    refine g_get (v := .ref (ad 68)) hC hP o_63 co_M 4 (by decide) rfl fl_M_22 rfl d_M_hours_89 ?_
                    refine lv_iconst (v := (0 : Int32)) hx hb d_M_hours_92 (by decide) ?_
                    refine g_iald2 (j := 0) hC hP a_68 (by decide) rfl d_M_hours_93 ?_
                    refine lv_icmp_ge (tgt := 112) hx hb d_M_hours_94 (by decide) (fun hc9 => ?_) (fun hc9 => ?_)
                    · rw [if_pos hc9] at hf
                      exact hKL5_112 _ _ _ _ _ hP hS (lv_sub hl [0, 1, 2] rfl) hf
                    · rw [if_neg hc9] at hf
                      refine lv_aload_n hx hb d_M_hours_97 rfl (lv_at hl 0 rfl) ?_
                      refine lv_aload_n hx hb d_M_hours_98 rfl (lv_at hl 0 rfl) ?_
                      refine g_get (v := .ref (ad 68)) hC hP o_63 co_M 4 (by decide) rfl fl_M_22 rfl d_M_hours_99 ?_
                      refine lv_iload_n hx hb d_M_hours_102 rfl (lv_at hl 3 rfl) ?_
                      obtain ⟨σ8, hk7, hf⟩ := bv_some hf
                      refine g_callv hS (g_runV (As := [.ref (ad 68), .int v3_5]) (rest := []) hC hP (c_M_hourOf hj a_68 hk7) (rk (by decide) (by decide)) nm_M_hourOf cd_M_hourOf it_WideTownModel ml_M_210 im_M_hourOf sl_M_hourOf o_63 co_M rfl hl.1 rfl (Nat.le_of_ble_eq_true rfl) d_M_hours_103 zz) (fun H locs hP hS => ?_)
                      refine lv_iinc (v := v3_5 + 1) (lv' := [(3, .int (v3_5 + 1)), (0, .ref (ad 63)), (1, .int x1), (2, .int v2_3)]) hx hb d_M_hours_106 hl (k := 3) rfl rfl (by decide) rfl (fun ls hl => ?_)
                      refine lv_goto (tgt := 87) hx hb d_M_hours_109 (by decide) ?_
                      exact ih _ _ _ _ _ hP hS (lv_sub hl [1, 2, 3, 0] rfl) hf
                exact hL5 _ _ _ _ _ _ hP hS (lv_sub hl [1, 2, 3, 0] rfl) hf
              clear eKL4_85
              have hL4 : ∀ (n : Nat) (v3_4 : Int32) (σL4 : GS) (H : Heap) (locs : List Loc) (ls : Array Slot), va_P D vwCl (wG K ad σL4) H → va_S (GA ad) s.heap H locs → lv_has ls 4 [(0, .ref (ad 63)), (1, .int x1), (2, .int v2_3), (3, .int v3_4)] → F_M_hours_51 x1 v2_3 KL4_85 n v3_4 σL4 = some z0 → W p l e (rmd 6) s m args below meth c H locs 0 0 (MQ below (QI D K ad z0.1 z0.2) args s 0 0 (GA ad)) (F0 m 51 ls []) := by
                clear hf
                intro n
                induction n with
                | zero =>
                  intro v3_4 σL4 H locs ls hP hS hl hf
                  rw [F_M_hours_51.eq_1] at hf
                  cases hf
                | succ n ih =>
                  intro v3_4 σL4 H locs ls hP hS hl hf
                  rw [F_M_hours_51.eq_2] at hf
                  refine lv_iload_n hx hb d_M_hours_51 rfl (lv_at hl 3 rfl) ?_
                  refine lv_bipush (v := (27 : Int32)) hx hb d_M_hours_52 (by decide) ?_
                  refine lv_icmp_ge (tgt := 85) hx hb d_M_hours_54 (by decide) (fun hc13 => ?_) (fun hc13 => ?_)
                  · rw [if_pos hc13] at hf
                    exact hKL4_85 _ _ _ _ _ hP hS (lv_sub hl [0, 1, 2] rfl) hf
                  · rw [if_neg hc13] at hf
                    refine lv_aload_n hx hb d_M_hours_57 rfl (lv_at hl 0 rfl) ?_
                    refine g_get (v := .ref (ad 69)) hC hP o_63 co_M 5 (by decide) rfl fl_M_25 rfl d_M_hours_58 ?_
                    refine lv_bipush (v := (27 : Int32)) hx hb d_M_hours_61 (by decide) ?_
                    refine lv_aload_n hx hb d_M_hours_63 rfl (lv_at hl 0 rfl) ?_
                    refine g_get (v := .ref (ad 68)) hC hP o_63 co_M 4 (by decide) rfl fl_M_22 rfl d_M_hours_64 ?_
                    refine lv_iconst (v := (1 : Int32)) hx hb d_M_hours_67 (by decide) ?_
                    refine g_iald2 (j := 1) hC hP a_68 (by decide) rfl d_M_hours_68 ?_
                    refine lv_imul hx hb d_M_hours_69 ?_
                    refine lv_iload_n hx hb d_M_hours_70 rfl (lv_at hl 3 rfl) ?_
                    refine lv_iadd hx hb d_M_hours_71 ?_
                    refine lv_aload_n hx hb d_M_hours_72 rfl (lv_at hl 0 rfl) ?_
                    refine g_get (v := .ref (ad 68)) hC hP o_63 co_M 4 (by decide) rfl fl_M_22 rfl d_M_hours_73 ?_
                    refine lv_iload_n hx hb d_M_hours_76 rfl (lv_at hl 3 rfl) ?_
                    obtain ⟨hg10, hf⟩ := gd_some hf
                    refine g_iald2 (j := v3_4.toNatClampNeg) hC hP a_68 hg10 rfl d_M_hours_77 ?_
                    obtain ⟨hg11, hf⟩ := gd_some hf
                    obtain ⟨σ12, eσ12, hf⟩ := jn_some hf
                    refine g_iast2 (j := (((27 : Int32) * (σL4.1 68 1)) + v3_4).toNatClampNeg) hC hP hS a_69 hg11 rfl d_M_hours_78 (fun H locs hP hS => ?_)
                    rw [← eσ12] at hP
                    refine lv_iinc (v := v3_4 + 1) (lv' := [(3, .int (v3_4 + 1)), (0, .ref (ad 63)), (1, .int x1), (2, .int v2_3)]) hx hb d_M_hours_79 hl (k := 3) rfl rfl (by decide) rfl (fun ls hl => ?_)
                    refine lv_goto (tgt := 51) hx hb d_M_hours_82 (by decide) ?_
                    exact ih _ _ _ _ _ hP hS (lv_sub hl [1, 2, 3, 0] rfl) hf
              exact hL4 _ _ _ _ _ _ hP hS (lv_sub hl [1, 2, 3, 0] rfl) hf
        exact hL3 _ _ _ _ _ _ hP hS (lv_sub hl [1, 2, 0] rfl) hf
      · rw [if_neg hc15] at hf
        refine lv_bipush (v := (-2 : Int32)) hx hb d_M_hours_39 (by decide) ?_
        cases hf
        exact g_iret hC rfl hP hS d_M_hours_41
    · rw [if_pos hc16] at hf
      refine lv_bipush (v := (-4 : Int32)) hx hb d_M_hours_23 (by decide) ?_
      cases hf
      exact g_iret hC rfl hP hS d_M_hours_25
  · rw [if_pos hc17] at hf
    refine lv_iconst (v := (-1 : Int32)) hx hb d_M_hours_12 (by decide) ?_
    cases hf
    exact g_iret hC rfl hP hS d_M_hours_13
set_option maxHeartbeats 4000000 in
set_option maxRecDepth 100000 in
theorem c_M_undo {l : Launch} {D : va_G} {K : Nat → ClassId} {ad : Nat → Nat} (hj : inj ad)   {x1 : Int32} {σ : GS} {z0 : Int32 × GS} (hf : F_M_undo x1 σ = some z0) : CT l D K ad y_M_undo b_M_undo 4 (some .int) 1 [.ref (ad 63), .int x1] σ (QI D K ad z0.1 z0.2) := by
  refine CT.intro hj (by decide) (Nat.le_of_ble_eq_true rfl) ?_
  intro p e s m args below meth c ls hC hP hS hl
  obtain ⟨hx, hb, -, hown, hts, -⟩ := id hC
  have hl : lv_has ls 4 [(0, .ref (ad 63)), (1, .int x1)] := hl
  rw [F_M_undo] at hf
  refine lv_iload_n hx hb d_M_undo_0 rfl (lv_at hl 1 rfl) ?_
  refine lv_i2l hx hb d_M_undo_1 rfl ?_
  refine lv_lconst (v := (0 : Int64)) hx hb d_M_undo_2 (by decide) ?_
  refine lv_aload_n hx hb d_M_undo_3 rfl (lv_at hl 0 rfl) ?_
  refine g_get (v := .ref (ad 68)) hC hP o_63 co_M 4 (by decide) rfl fl_M_22 rfl d_M_undo_4 ?_
  refine lv_iconst (v := (1 : Int32)) hx hb d_M_undo_7 (by decide) ?_
  refine g_iald2 (j := 1) hC hP a_68 (by decide) rfl d_M_undo_8 ?_
  refine lv_i2l hx hb d_M_undo_9 rfl ?_
  obtain ⟨r2, hk1, hf⟩ := bp_some hf
  refine g_calli hS (g_runS (As := [.long x1.toInt64, .long (0 : Int64), .long ((σ.1 68 1).toInt64)]) (rest := []) hC hP (c_M_in hj  hk1) (rk (by decide) (by decide)) nm_M_in cd_M_in it_WideTownModel ml_M_100 sc_M_in rfl hl.1 rfl (Nat.le_of_ble_eq_true rfl) d_M_undo_10 zz) (fun H locs hP hS => ?_)
  refine lv_if_ne (tgt := 18) hx hb d_M_undo_13 (by decide) (fun hc10 => ?_) (fun hc10 => ?_)
  · rw [if_neg hc10] at hf
    refine lv_aload_n hx hb d_M_undo_18 rfl (lv_at hl 0 rfl) ?_
    refine g_get (v := .ref (ad 68)) hC hP o_63 co_M 4 (by decide) rfl fl_M_22 rfl d_M_undo_19 ?_
    refine lv_iconst (v := (1 : Int32)) hx hb d_M_undo_22 (by decide) ?_
    refine g_iald2 (j := 1) hC hP a_68 (by decide) rfl d_M_undo_23 ?_
    refine lv_iload_n hx hb d_M_undo_24 rfl (lv_at hl 1 rfl) ?_
    refine lv_isub hx hb d_M_undo_25 ?_
    refine lv_istore_n (lv' := [(2, .int ((σ.1 68 1) - x1)), (0, .ref (ad 63)), (1, .int x1)]) hx hb d_M_undo_26 rfl hl (by decide) rfl (fun ls hl => ?_)
    refine lv_iconst (v := (0 : Int32)) hx hb d_M_undo_27 (by decide) ?_
    refine lv_istore_n (lv' := [(3, .int (0 : Int32)), (2, .int ((σ.1 68 1) - x1)), (0, .ref (ad 63)), (1, .int x1)]) hx hb d_M_undo_28 rfl hl (by decide) rfl (fun ls hl => ?_)
    obtain ⟨u2_3, eu2_3, hf⟩ := jn_some hf
    have hl : lv_has ls 4 [(3, .int (0 : Int32)), (2, .int u2_3), (0, .ref (ad 63)), (1, .int x1)] := by rw [eu2_3]; exact hl
    obtain ⟨KL4_62, eKL4_62, hf⟩ := jn_some hf
    have hKL4_62 : ∀ (v3_4 : Int32) (σL4 : GS) (H : Heap) (locs : List Loc) (ls : Array Slot), va_P D vwCl (wG K ad σL4) H → va_S (GA ad) s.heap H locs → lv_has ls 4 [(2, .int u2_3)] → KL4_62 v3_4 σL4 = some z0 → W p l e (rmd 1) s m args below meth c H locs 0 0 (MQ below (QI D K ad z0.1 z0.2) args s 0 0 (GA ad)) (F0 m 62 ls []) := by
      clear hf
      intro v3_4 σL4 H locs ls hP hS hl hf
      rw [eKL4_62] at hf
      try dsimp only at hf
      refine lv_iload_n hx hb d_M_undo_62 rfl (lv_at hl 0 rfl) ?_
      cases hf
      exact g_iret hC rfl hP hS d_M_undo_63
    clear eKL4_62
    have hL4 : ∀ (n : Nat) (v3_4 : Int32) (σL4 : GS) (H : Heap) (locs : List Loc) (ls : Array Slot), va_P D vwCl (wG K ad σL4) H → va_S (GA ad) s.heap H locs → lv_has ls 4 [(0, .ref (ad 63)), (1, .int x1), (2, .int u2_3), (3, .int v3_4)] → F_M_undo_29 x1 u2_3 KL4_62 n v3_4 σL4 = some z0 → W p l e (rmd 1) s m args below meth c H locs 0 0 (MQ below (QI D K ad z0.1 z0.2) args s 0 0 (GA ad)) (F0 m 29 ls []) := by
      clear hf
      intro n
      induction n with
      | zero =>
        intro v3_4 σL4 H locs ls hP hS hl hf
        rw [F_M_undo_29.eq_1] at hf
        cases hf
      | succ n ih =>
        intro v3_4 σL4 H locs ls hP hS hl hf
        rw [F_M_undo_29.eq_2] at hf
        refine lv_iload_n hx hb d_M_undo_29 rfl (lv_at hl 3 rfl) ?_
        refine lv_bipush (v := (27 : Int32)) hx hb d_M_undo_30 (by decide) ?_
        refine lv_icmp_ge (tgt := 62) hx hb d_M_undo_32 (by decide) (fun hc9 => ?_) (fun hc9 => ?_)
        · rw [if_pos hc9] at hf
          exact hKL4_62 _ _ _ _ _ hP hS (lv_sub hl [2] rfl) hf
        · rw [if_neg hc9] at hf
          refine lv_iload_n hx hb d_M_undo_35 rfl (lv_at hl 2 rfl) ?_
          refine lv_if_le (tgt := 62) hx hb d_M_undo_36 (by decide) (fun hc8 => ?_) (fun hc8 => ?_)
          · rw [if_pos hc8] at hf
            exact hKL4_62 _ _ _ _ _ hP hS (lv_sub hl [2] rfl) hf
          · rw [if_neg hc8] at hf
            refine lv_aload_n hx hb d_M_undo_39 rfl (lv_at hl 0 rfl) ?_
            refine g_get (v := .ref (ad 68)) hC hP o_63 co_M 4 (by decide) rfl fl_M_22 rfl d_M_undo_40 ?_
            refine lv_iload_n hx hb d_M_undo_43 rfl (lv_at hl 3 rfl) ?_
            refine lv_aload_n hx hb d_M_undo_44 rfl (lv_at hl 0 rfl) ?_
            refine g_get (v := .ref (ad 69)) hC hP o_63 co_M 5 (by decide) rfl fl_M_25 rfl d_M_undo_45 ?_
            refine lv_bipush (v := (27 : Int32)) hx hb d_M_undo_48 (by decide) ?_
            refine lv_iload_n hx hb d_M_undo_50 rfl (lv_at hl 1 rfl) ?_
            refine lv_imul hx hb d_M_undo_51 ?_
            refine lv_iload_n hx hb d_M_undo_52 rfl (lv_at hl 3 rfl) ?_
            refine lv_iadd hx hb d_M_undo_53 ?_
            obtain ⟨hg5, hf⟩ := gd_some hf
            refine g_iald2 (j := (((27 : Int32) * x1) + v3_4).toNatClampNeg) hC hP a_69 hg5 rfl d_M_undo_54 ?_
            obtain ⟨hg6, hf⟩ := gd_some hf
            obtain ⟨σ7, eσ7, hf⟩ := jn_some hf
            refine g_iast2 (j := v3_4.toNatClampNeg) hC hP hS a_68 hg6 rfl d_M_undo_55 (fun H locs hP hS => ?_)
            rw [← eσ7] at hP
            refine lv_iinc (v := v3_4 + 1) (lv' := [(3, .int (v3_4 + 1)), (0, .ref (ad 63)), (1, .int x1), (2, .int u2_3)]) hx hb d_M_undo_56 hl (k := 3) rfl rfl (by decide) rfl (fun ls hl => ?_)
            refine lv_goto (tgt := 29) hx hb d_M_undo_59 (by decide) ?_
            exact ih _ _ _ _ _ hP hS (lv_sub hl [1, 2, 3, 0] rfl) hf
    exact hL4 _ _ _ _ _ _ hP hS (lv_sub hl [2, 3, 1, 0] rfl) hf
  · rw [if_pos hc10] at hf
    refine lv_iconst (v := (-1 : Int32)) hx hb d_M_undo_16 (by decide) ?_
    cases hf
    exact g_iret hC rfl hP hS d_M_undo_17
set_option maxHeartbeats 4000000 in
set_option maxRecDepth 100000 in
theorem c_M_keep {l : Launch} {D : va_G} {K : Nat → ClassId} {ad : Nat → Nat} (hj : inj ad)   {x1 : Int32} {σ : GS} {z0 : Int32 × GS} (hf : F_M_keep x1 σ = some z0) : CT l D K ad y_M_keep b_M_keep 3 (some .int) 1 [.ref (ad 63), .int x1] σ (QI D K ad z0.1 z0.2) := by
  refine CT.intro hj (by decide) (Nat.le_of_ble_eq_true rfl) ?_
  intro p e s m args below meth c ls hC hP hS hl
  obtain ⟨hx, hb, -, hown, hts, -⟩ := id hC
  have hl : lv_has ls 3 [(0, .ref (ad 63)), (1, .int x1)] := hl
  rw [F_M_keep] at hf
  refine lv_iload_n hx hb d_M_keep_0 rfl (lv_at hl 1 rfl) ?_
  refine lv_i2l hx hb d_M_keep_1 rfl ?_
  refine lv_lconst (v := (0 : Int64)) hx hb d_M_keep_2 (by decide) ?_
  refine lv_ldc2 hx hb hown (hts _ cn_M_221) d_M_keep_3 ?_
  obtain ⟨r2, hk1, hf⟩ := bp_some hf
  refine g_calli hS (g_runS (As := [.long x1.toInt64, .long (0 : Int64), .long (2 : Int64)]) (rest := []) hC hP (c_M_in hj  hk1) (rk (by decide) (by decide)) nm_M_in cd_M_in it_WideTownModel ml_M_100 sc_M_in rfl hl.1 rfl (Nat.le_of_ble_eq_true rfl) d_M_keep_6 zz) (fun H locs hP hS => ?_)
  refine lv_if_ne (tgt := 14) hx hb d_M_keep_9 (by decide) (fun hc16 => ?_) (fun hc16 => ?_)
  · rw [if_neg hc16] at hf
    refine lv_aload_n hx hb d_M_keep_14 rfl (lv_at hl 0 rfl) ?_
    refine g_get (v := .ref (ad 68)) hC hP o_63 co_M 4 (by decide) rfl fl_M_22 rfl d_M_keep_15 ?_
    refine lv_iconst (v := (0 : Int32)) hx hb d_M_keep_18 (by decide) ?_
    refine g_iald2 (j := 0) hC hP a_68 (by decide) rfl d_M_keep_19 ?_
    refine lv_if_ne (tgt := 26) hx hb d_M_keep_20 (by decide) (fun hc15 => ?_) (fun hc15 => ?_)
    · rw [if_neg hc15] at hf
      refine lv_iconst (v := (0 : Int32)) hx hb d_M_keep_26 (by decide) ?_
      refine lv_istore_n (lv' := [(2, .int (0 : Int32)), (0, .ref (ad 63)), (1, .int x1)]) hx hb d_M_keep_27 rfl hl (by decide) rfl (fun ls hl => ?_)
      obtain ⟨KL3_57, eKL3_57, hf⟩ := jn_some hf
      have hKL3_57 : ∀ (v2_3 : Int32) (σL3 : GS) (H : Heap) (locs : List Loc) (ls : Array Slot), va_P D vwCl (wG K ad σL3) H → va_S (GA ad) s.heap H locs → lv_has ls 3 [(0, .ref (ad 63)), (1, .int x1)] → KL3_57 v2_3 σL3 = some z0 → W p l e (rmd 1) s m args below meth c H locs 0 0 (MQ below (QI D K ad z0.1 z0.2) args s 0 0 (GA ad)) (F0 m 57 ls []) := by
        clear hf
        intro v2_3 σL3 H locs ls hP hS hl hf
        rw [eKL3_57] at hf
        try dsimp only at hf
        refine lv_iconst (v := (0 : Int32)) hx hb d_M_keep_57 (by decide) ?_
        refine lv_istore_n (lv' := [(2, .int (0 : Int32)), (0, .ref (ad 63)), (1, .int x1)]) hx hb d_M_keep_58 rfl hl (by decide) rfl (fun ls hl => ?_)
        obtain ⟨KL4_90, eKL4_90, hf⟩ := jn_some hf
        have hKL4_90 : ∀ (v2_4 : Int32) (σL4 : GS) (H : Heap) (locs : List Loc) (ls : Array Slot), va_P D vwCl (wG K ad σL4) H → va_S (GA ad) s.heap H locs → lv_has ls 3 [(0, .ref (ad 63)), (1, .int x1)] → KL4_90 v2_4 σL4 = some z0 → W p l e (rmd 1) s m args below meth c H locs 0 0 (MQ below (QI D K ad z0.1 z0.2) args s 0 0 (GA ad)) (F0 m 90 ls []) := by
          clear hf
          intro v2_4 σL4 H locs ls hP hS hl hf
          rw [eKL4_90] at hf
          try dsimp only at hf
          refine lv_aload_n hx hb d_M_keep_90 rfl (lv_at hl 0 rfl) ?_
          refine g_get (v := .ref (ad 72)) hC hP o_63 co_M 8 (by decide) rfl fl_M_34 rfl d_M_keep_91 ?_
          refine lv_iload_n hx hb d_M_keep_94 rfl (lv_at hl 1 rfl) ?_
          refine lv_iconst (v := (1 : Int32)) hx hb d_M_keep_95 (by decide) ?_
          obtain ⟨hg5, hf⟩ := gd_some hf
          obtain ⟨σ6, eσ6, hf⟩ := jn_some hf
          refine g_zast2 (j := x1.toNatClampNeg) hC hP hS a_72 hg5 rfl d_M_keep_96 (fun H locs hP hS => ?_)
          rw [← eσ6] at hP
          refine lv_aload_n hx hb d_M_keep_97 rfl (lv_at hl 0 rfl) ?_
          refine g_get (v := .ref (ad 68)) hC hP o_63 co_M 4 (by decide) rfl fl_M_22 rfl d_M_keep_98 ?_
          refine lv_iconst (v := (1 : Int32)) hx hb d_M_keep_101 (by decide) ?_
          refine g_iald2 (j := 1) hC hP a_68 (by decide) rfl d_M_keep_102 ?_
          cases hf
          exact g_iret hC rfl hP hS d_M_keep_103
        clear eKL4_90
        have hL4 : ∀ (n : Nat) (v2_4 : Int32) (σL4 : GS) (H : Heap) (locs : List Loc) (ls : Array Slot), va_P D vwCl (wG K ad σL4) H → va_S (GA ad) s.heap H locs → lv_has ls 3 [(0, .ref (ad 63)), (1, .int x1), (2, .int v2_4)] → F_M_keep_59 x1 KL4_90 n v2_4 σL4 = some z0 → W p l e (rmd 1) s m args below meth c H locs 0 0 (MQ below (QI D K ad z0.1 z0.2) args s 0 0 (GA ad)) (F0 m 59 ls []) := by
          clear hf
          intro n
          induction n with
          | zero =>
            intro v2_4 σL4 H locs ls hP hS hl hf
            rw [F_M_keep_59.eq_1] at hf
            cases hf
          | succ n ih =>
            intro v2_4 σL4 H locs ls hP hS hl hf
            rw [F_M_keep_59.eq_2] at hf
            refine lv_iload_n hx hb d_M_keep_59 rfl (lv_at hl 2 rfl) ?_
            refine lv_sipush (v := (1620 : Int32)) hx hb d_M_keep_60 (by decide) ?_
            refine lv_icmp_ge (tgt := 90) hx hb d_M_keep_63 (by decide) (fun hc10 => ?_) (fun hc10 => ?_)
            · rw [if_pos hc10] at hf
              exact hKL4_90 _ _ _ _ _ hP hS (lv_sub hl [0, 1] rfl) hf
            · rw [if_neg hc10] at hf
              refine lv_aload_n hx hb d_M_keep_66 rfl (lv_at hl 0 rfl) ?_
              refine g_get (v := .ref (ad 71)) hC hP o_63 co_M 7 (by decide) rfl fl_M_31 rfl d_M_keep_67 ?_
              refine lv_sipush (v := (1620 : Int32)) hx hb d_M_keep_70 (by decide) ?_
              refine lv_iload_n hx hb d_M_keep_73 rfl (lv_at hl 1 rfl) ?_
              refine lv_imul hx hb d_M_keep_74 ?_
              refine lv_iload_n hx hb d_M_keep_75 rfl (lv_at hl 2 rfl) ?_
              refine lv_iadd hx hb d_M_keep_76 ?_
              refine lv_aload_n hx hb d_M_keep_77 rfl (lv_at hl 0 rfl) ?_
              refine g_get (v := .ref (ad 69)) hC hP o_63 co_M 5 (by decide) rfl fl_M_25 rfl d_M_keep_78 ?_
              refine lv_iload_n hx hb d_M_keep_81 rfl (lv_at hl 2 rfl) ?_
              obtain ⟨hg7, hf⟩ := gd_some hf
              refine g_iald2 (j := v2_4.toNatClampNeg) hC hP a_69 hg7 rfl d_M_keep_82 ?_
              obtain ⟨hg8, hf⟩ := gd_some hf
              obtain ⟨σ9, eσ9, hf⟩ := jn_some hf
              refine g_iast2 (j := (((1620 : Int32) * x1) + v2_4).toNatClampNeg) hC hP hS a_71 hg8 rfl d_M_keep_83 (fun H locs hP hS => ?_)
              rw [← eσ9] at hP
              refine lv_iinc (v := v2_4 + 1) (lv' := [(2, .int (v2_4 + 1)), (0, .ref (ad 63)), (1, .int x1)]) hx hb d_M_keep_84 hl (k := 2) rfl rfl (by decide) rfl (fun ls hl => ?_)
              refine lv_goto (tgt := 59) hx hb d_M_keep_87 (by decide) ?_
              exact ih _ _ _ _ _ hP hS (lv_sub hl [1, 2, 0] rfl) hf
        exact hL4 _ _ _ _ _ _ hP hS (lv_sub hl [1, 2, 0] rfl) hf
      clear eKL3_57
      have hL3 : ∀ (n : Nat) (v2_3 : Int32) (σL3 : GS) (H : Heap) (locs : List Loc) (ls : Array Slot), va_P D vwCl (wG K ad σL3) H → va_S (GA ad) s.heap H locs → lv_has ls 3 [(0, .ref (ad 63)), (1, .int x1), (2, .int v2_3)] → F_M_keep_28 x1 KL3_57 n v2_3 σL3 = some z0 → W p l e (rmd 1) s m args below meth c H locs 0 0 (MQ below (QI D K ad z0.1 z0.2) args s 0 0 (GA ad)) (F0 m 28 ls []) := by
        clear hf
        intro n
        induction n with
        | zero =>
          intro v2_3 σL3 H locs ls hP hS hl hf
          rw [F_M_keep_28.eq_1] at hf
          cases hf
        | succ n ih =>
          intro v2_3 σL3 H locs ls hP hS hl hf
          rw [F_M_keep_28.eq_2] at hf
          refine lv_iload_n hx hb d_M_keep_28 rfl (lv_at hl 2 rfl) ?_
          refine lv_bipush (v := (27 : Int32)) hx hb d_M_keep_29 (by decide) ?_
          refine lv_icmp_ge (tgt := 57) hx hb d_M_keep_31 (by decide) (fun hc14 => ?_) (fun hc14 => ?_)
          · rw [if_pos hc14] at hf
            exact hKL3_57 _ _ _ _ _ hP hS (lv_sub hl [0, 1] rfl) hf
          · rw [if_neg hc14] at hf
            refine lv_aload_n hx hb d_M_keep_34 rfl (lv_at hl 0 rfl) ?_
            refine g_get (v := .ref (ad 70)) hC hP o_63 co_M 6 (by decide) rfl fl_M_28 rfl d_M_keep_35 ?_
            refine lv_bipush (v := (27 : Int32)) hx hb d_M_keep_38 (by decide) ?_
            refine lv_iload_n hx hb d_M_keep_40 rfl (lv_at hl 1 rfl) ?_
            refine lv_imul hx hb d_M_keep_41 ?_
            refine lv_iload_n hx hb d_M_keep_42 rfl (lv_at hl 2 rfl) ?_
            refine lv_iadd hx hb d_M_keep_43 ?_
            refine lv_aload_n hx hb d_M_keep_44 rfl (lv_at hl 0 rfl) ?_
            refine g_get (v := .ref (ad 68)) hC hP o_63 co_M 4 (by decide) rfl fl_M_22 rfl d_M_keep_45 ?_
            refine lv_iload_n hx hb d_M_keep_48 rfl (lv_at hl 2 rfl) ?_
            obtain ⟨hg11, hf⟩ := gd_some hf
            refine g_iald2 (j := v2_3.toNatClampNeg) hC hP a_68 hg11 rfl d_M_keep_49 ?_
            obtain ⟨hg12, hf⟩ := gd_some hf
            obtain ⟨σ13, eσ13, hf⟩ := jn_some hf
            refine g_iast2 (j := (((27 : Int32) * x1) + v2_3).toNatClampNeg) hC hP hS a_70 hg12 rfl d_M_keep_50 (fun H locs hP hS => ?_)
            rw [← eσ13] at hP
            refine lv_iinc (v := v2_3 + 1) (lv' := [(2, .int (v2_3 + 1)), (0, .ref (ad 63)), (1, .int x1)]) hx hb d_M_keep_51 hl (k := 2) rfl rfl (by decide) rfl (fun ls hl => ?_)
            refine lv_goto (tgt := 28) hx hb d_M_keep_54 (by decide) ?_
            exact ih _ _ _ _ _ hP hS (lv_sub hl [1, 2, 0] rfl) hf
      exact hL3 _ _ _ _ _ _ hP hS (lv_sub hl [1, 2, 0] rfl) hf
    · rw [if_pos hc15] at hf
      refine lv_bipush (v := (-4 : Int32)) hx hb d_M_keep_23 (by decide) ?_
      cases hf
      exact g_iret hC rfl hP hS d_M_keep_25
  · rw [if_pos hc16] at hf
    refine lv_iconst (v := (-1 : Int32)) hx hb d_M_keep_12 (by decide) ?_
    cases hf
    exact g_iret hC rfl hP hS d_M_keep_13
set_option maxHeartbeats 4000000 in
set_option maxRecDepth 100000 in
theorem c_M_on {l : Launch} {D : va_G} {K : Nat → ClassId} {ad : Nat → Nat} (hj : inj ad)   {x1 : Int32} {σ : GS} {z0 : Int32 × GS} (hf : F_M_on x1 σ = some z0) : CT l D K ad y_M_on b_M_on 3 (some .int) 1 [.ref (ad 63), .int x1] σ (QI D K ad z0.1 z0.2) := by
  refine CT.intro hj (by decide) (Nat.le_of_ble_eq_true rfl) ?_
  intro p e s m args below meth c ls hC hP hS hl
  obtain ⟨hx, hb, -, hown, hts, -⟩ := id hC
  have hl : lv_has ls 3 [(0, .ref (ad 63)), (1, .int x1)] := hl
  rw [F_M_on] at hf
  refine lv_iload_n hx hb d_M_on_0 rfl (lv_at hl 1 rfl) ?_
  refine lv_i2l hx hb d_M_on_1 rfl ?_
  refine lv_lconst (v := (0 : Int64)) hx hb d_M_on_2 (by decide) ?_
  refine lv_ldc2 hx hb hown (hts _ cn_M_221) d_M_on_3 ?_
  obtain ⟨r2, hk1, hf⟩ := bp_some hf
  refine g_calli hS (g_runS (As := [.long x1.toInt64, .long (0 : Int64), .long (2 : Int64)]) (rest := []) hC hP (c_M_in hj  hk1) (rk (by decide) (by decide)) nm_M_in cd_M_in it_WideTownModel ml_M_100 sc_M_in rfl hl.1 rfl (Nat.le_of_ble_eq_true rfl) d_M_on_6 zz) (fun H locs hP hS => ?_)
  refine lv_if_ne (tgt := 14) hx hb d_M_on_9 (by decide) (fun hc18 => ?_) (fun hc18 => ?_)
  · rw [if_neg hc18] at hf
    refine lv_aload_n hx hb d_M_on_14 rfl (lv_at hl 0 rfl) ?_
    refine g_get (v := .ref (ad 72)) hC hP o_63 co_M 8 (by decide) rfl fl_M_34 rfl d_M_on_15 ?_
    refine lv_iload_n hx hb d_M_on_18 rfl (lv_at hl 1 rfl) ?_
    obtain ⟨hg3, hf⟩ := gd_some hf
    refine g_zald2 (j := x1.toNatClampNeg) hC hP a_72 hg3 rfl d_M_on_19 ?_
    refine lv_if_ne (tgt := 29) hx hb d_M_on_20 (by decide) (fun hc17 => ?_) (fun hc17 => ?_)
    · rw [if_neg hc17] at hf
      refine lv_iconst (v := (0 : Int32)) hx hb d_M_on_29 (by decide) ?_
      refine lv_istore_n (lv' := [(2, .int (0 : Int32)), (0, .ref (ad 63)), (1, .int x1)]) hx hb d_M_on_30 rfl hl (by decide) rfl (fun ls hl => ?_)
      obtain ⟨KL4_60, eKL4_60, hf⟩ := jn_some hf
      have hKL4_60 : ∀ (v2_4 : Int32) (σL4 : GS) (H : Heap) (locs : List Loc) (ls : Array Slot), va_P D vwCl (wG K ad σL4) H → va_S (GA ad) s.heap H locs → lv_has ls 3 [(0, .ref (ad 63)), (1, .int x1)] → KL4_60 v2_4 σL4 = some z0 → W p l e (rmd 1) s m args below meth c H locs 0 0 (MQ below (QI D K ad z0.1 z0.2) args s 0 0 (GA ad)) (F0 m 60 ls []) := by
        clear hf
        intro v2_4 σL4 H locs ls hP hS hl hf
        rw [eKL4_60] at hf
        try dsimp only at hf
        refine lv_iconst (v := (0 : Int32)) hx hb d_M_on_60 (by decide) ?_
        refine lv_istore_n (lv' := [(2, .int (0 : Int32)), (0, .ref (ad 63)), (1, .int x1)]) hx hb d_M_on_61 rfl hl (by decide) rfl (fun ls hl => ?_)
        obtain ⟨KL5_93, eKL5_93, hf⟩ := jn_some hf
        have hKL5_93 : ∀ (v2_5 : Int32) (σL5 : GS) (H : Heap) (locs : List Loc) (ls : Array Slot), va_P D vwCl (wG K ad σL5) H → va_S (GA ad) s.heap H locs → lv_has ls 3 [(0, .ref (ad 63))] → KL5_93 v2_5 σL5 = some z0 → W p l e (rmd 1) s m args below meth c H locs 0 0 (MQ below (QI D K ad z0.1 z0.2) args s 0 0 (GA ad)) (F0 m 93 ls []) := by
          clear hf
          intro v2_5 σL5 H locs ls hP hS hl hf
          rw [eKL5_93] at hf
          try dsimp only at hf
          refine lv_aload_n hx hb d_M_on_93 rfl (lv_at hl 0 rfl) ?_
          refine g_get (v := .ref (ad 68)) hC hP o_63 co_M 4 (by decide) rfl fl_M_22 rfl d_M_on_94 ?_
          refine lv_iconst (v := (1 : Int32)) hx hb d_M_on_97 (by decide) ?_
          refine g_iald2 (j := 1) hC hP a_68 (by decide) rfl d_M_on_98 ?_
          cases hf
          exact g_iret hC rfl hP hS d_M_on_99
        clear eKL5_93
        have hL5 : ∀ (n : Nat) (v2_5 : Int32) (σL5 : GS) (H : Heap) (locs : List Loc) (ls : Array Slot), va_P D vwCl (wG K ad σL5) H → va_S (GA ad) s.heap H locs → lv_has ls 3 [(0, .ref (ad 63)), (1, .int x1), (2, .int v2_5)] → F_M_on_62 x1 KL5_93 n v2_5 σL5 = some z0 → W p l e (rmd 1) s m args below meth c H locs 0 0 (MQ below (QI D K ad z0.1 z0.2) args s 0 0 (GA ad)) (F0 m 62 ls []) := by
          clear hf
          intro n
          induction n with
          | zero =>
            intro v2_5 σL5 H locs ls hP hS hl hf
            rw [F_M_on_62.eq_1] at hf
            cases hf
          | succ n ih =>
            intro v2_5 σL5 H locs ls hP hS hl hf
            rw [F_M_on_62.eq_2] at hf
            refine lv_iload_n hx hb d_M_on_62 rfl (lv_at hl 2 rfl) ?_
            refine lv_sipush (v := (1620 : Int32)) hx hb d_M_on_63 (by decide) ?_
            refine lv_icmp_ge (tgt := 93) hx hb d_M_on_66 (by decide) (fun hc9 => ?_) (fun hc9 => ?_)
            · rw [if_pos hc9] at hf
              exact hKL5_93 _ _ _ _ _ hP hS (lv_sub hl [0] rfl) hf
            · rw [if_neg hc9] at hf
              refine lv_aload_n hx hb d_M_on_69 rfl (lv_at hl 0 rfl) ?_
              refine g_get (v := .ref (ad 69)) hC hP o_63 co_M 5 (by decide) rfl fl_M_25 rfl d_M_on_70 ?_
              refine lv_iload_n hx hb d_M_on_73 rfl (lv_at hl 2 rfl) ?_
              refine lv_aload_n hx hb d_M_on_74 rfl (lv_at hl 0 rfl) ?_
              refine g_get (v := .ref (ad 71)) hC hP o_63 co_M 7 (by decide) rfl fl_M_31 rfl d_M_on_75 ?_
              refine lv_sipush (v := (1620 : Int32)) hx hb d_M_on_78 (by decide) ?_
              refine lv_iload_n hx hb d_M_on_81 rfl (lv_at hl 1 rfl) ?_
              refine lv_imul hx hb d_M_on_82 ?_
              refine lv_iload_n hx hb d_M_on_83 rfl (lv_at hl 2 rfl) ?_
              refine lv_iadd hx hb d_M_on_84 ?_
              obtain ⟨hg6, hf⟩ := gd_some hf
              refine g_iald2 (j := (((1620 : Int32) * x1) + v2_5).toNatClampNeg) hC hP a_71 hg6 rfl d_M_on_85 ?_
              obtain ⟨hg7, hf⟩ := gd_some hf
              obtain ⟨σ8, eσ8, hf⟩ := jn_some hf
              refine g_iast2 (j := v2_5.toNatClampNeg) hC hP hS a_69 hg7 rfl d_M_on_86 (fun H locs hP hS => ?_)
              rw [← eσ8] at hP
              refine lv_iinc (v := v2_5 + 1) (lv' := [(2, .int (v2_5 + 1)), (0, .ref (ad 63)), (1, .int x1)]) hx hb d_M_on_87 hl (k := 2) rfl rfl (by decide) rfl (fun ls hl => ?_)
              refine lv_goto (tgt := 62) hx hb d_M_on_90 (by decide) ?_
              exact ih _ _ _ _ _ hP hS (lv_sub hl [1, 2, 0] rfl) hf
        exact hL5 _ _ _ _ _ _ hP hS (lv_sub hl [1, 2, 0] rfl) hf
      clear eKL4_60
      have hL4 : ∀ (n : Nat) (v2_4 : Int32) (σL4 : GS) (H : Heap) (locs : List Loc) (ls : Array Slot), va_P D vwCl (wG K ad σL4) H → va_S (GA ad) s.heap H locs → lv_has ls 3 [(0, .ref (ad 63)), (1, .int x1), (2, .int v2_4)] → F_M_on_31 x1 KL4_60 n v2_4 σL4 = some z0 → W p l e (rmd 1) s m args below meth c H locs 0 0 (MQ below (QI D K ad z0.1 z0.2) args s 0 0 (GA ad)) (F0 m 31 ls []) := by
        clear hf
        intro n
        induction n with
        | zero =>
          intro v2_4 σL4 H locs ls hP hS hl hf
          rw [F_M_on_31.eq_1] at hf
          cases hf
        | succ n ih =>
          intro v2_4 σL4 H locs ls hP hS hl hf
          rw [F_M_on_31.eq_2] at hf
          refine lv_iload_n hx hb d_M_on_31 rfl (lv_at hl 2 rfl) ?_
          refine lv_bipush (v := (27 : Int32)) hx hb d_M_on_32 (by decide) ?_
          refine lv_icmp_ge (tgt := 60) hx hb d_M_on_34 (by decide) (fun hc13 => ?_) (fun hc13 => ?_)
          · rw [if_pos hc13] at hf
            exact hKL4_60 _ _ _ _ _ hP hS (lv_sub hl [0, 1] rfl) hf
          · rw [if_neg hc13] at hf
            refine lv_aload_n hx hb d_M_on_37 rfl (lv_at hl 0 rfl) ?_
            refine g_get (v := .ref (ad 68)) hC hP o_63 co_M 4 (by decide) rfl fl_M_22 rfl d_M_on_38 ?_
            refine lv_iload_n hx hb d_M_on_41 rfl (lv_at hl 2 rfl) ?_
            refine lv_aload_n hx hb d_M_on_42 rfl (lv_at hl 0 rfl) ?_
            refine g_get (v := .ref (ad 70)) hC hP o_63 co_M 6 (by decide) rfl fl_M_28 rfl d_M_on_43 ?_
            refine lv_bipush (v := (27 : Int32)) hx hb d_M_on_46 (by decide) ?_
            refine lv_iload_n hx hb d_M_on_48 rfl (lv_at hl 1 rfl) ?_
            refine lv_imul hx hb d_M_on_49 ?_
            refine lv_iload_n hx hb d_M_on_50 rfl (lv_at hl 2 rfl) ?_
            refine lv_iadd hx hb d_M_on_51 ?_
            obtain ⟨hg10, hf⟩ := gd_some hf
            refine g_iald2 (j := (((27 : Int32) * x1) + v2_4).toNatClampNeg) hC hP a_70 hg10 rfl d_M_on_52 ?_
            obtain ⟨hg11, hf⟩ := gd_some hf
            obtain ⟨σ12, eσ12, hf⟩ := jn_some hf
            refine g_iast2 (j := v2_4.toNatClampNeg) hC hP hS a_68 hg11 rfl d_M_on_53 (fun H locs hP hS => ?_)
            rw [← eσ12] at hP
            refine lv_iinc (v := v2_4 + 1) (lv' := [(2, .int (v2_4 + 1)), (0, .ref (ad 63)), (1, .int x1)]) hx hb d_M_on_54 hl (k := 2) rfl rfl (by decide) rfl (fun ls hl => ?_)
            refine lv_goto (tgt := 31) hx hb d_M_on_57 (by decide) ?_
            exact ih _ _ _ _ _ hP hS (lv_sub hl [1, 2, 0] rfl) hf
      exact hL4 _ _ _ _ _ _ hP hS (lv_sub hl [1, 2, 0] rfl) hf
    · rw [if_pos hc17] at hf
      refine lv_aload_n hx hb d_M_on_23 rfl (lv_at hl 0 rfl) ?_
      refine lv_iconst (v := (1 : Int32)) hx hb d_M_on_24 (by decide) ?_
      obtain ⟨r15, σ16, hk14, hf⟩ := bc_some hf
      refine g_calli hS (g_runV (As := [.int (1 : Int32)]) (rest := []) hC hP (c_M_found hj  hk14) (rk (by decide) (by decide)) nm_M_found cd_M_found it_WideTownModel ml_M_110 im_M_found sl_M_found o_63 co_M rfl hl.1 rfl (Nat.le_of_ble_eq_true rfl) d_M_on_25 zz) (fun H locs hP hS => ?_)
      cases hf
      exact g_iret hC rfl hP hS d_M_on_28
  · rw [if_pos hc18] at hf
    refine lv_iconst (v := (-1 : Int32)) hx hb d_M_on_12 (by decide) ?_
    cases hf
    exact g_iret hC rfl hP hS d_M_on_13
set_option maxHeartbeats 4000000 in
set_option maxRecDepth 100000 in
theorem c_M_areCodes {l : Launch} {D : va_G} {K : Nat → ClassId} {ad : Nat → Nat} (hj : inj ad)   {x0 : Int32} {x1 : Int32} {σ : GS} {z0 : Int32} (hf : F_M_areCodes x0 x1 = some z0) : CT l D K ad y_M_areCodes b_M_areCodes 2 (some .boolean) 2 [.int x0, .int x1] σ (QI D K ad z0 σ) := by
  refine CT.intro hj (by decide) (Nat.le_of_ble_eq_true rfl) ?_
  intro p e s m args below meth c ls hC hP hS hl
  obtain ⟨hx, hb, -, hown, hts, -⟩ := id hC
  have hl : lv_has ls 2 [(0, .int x0), (1, .int x1)] := hl
  rw [F_M_areCodes] at hf
  refine lv_iload_n hx hb d_M_areCodes_0 rfl (lv_at hl 0 rfl) ?_
  obtain ⟨r2, hk1, hf⟩ := bp_some hf
  refine g_calli hS (g_runS (As := [.int x0]) (rest := []) hC hP (c_M_isCode hj  hk1) (rk (by decide) (by decide)) nm_M_isCode cd_M_isCode it_WideTownModel ml_M_213 sc_M_isCode rfl hl.1 rfl (Nat.le_of_ble_eq_true rfl) d_M_areCodes_1 zz) (fun H locs hP hS => ?_)
  refine lv_if_eq (tgt := 18) hx hb d_M_areCodes_4 (by decide) (fun hc6 => ?_) (fun hc6 => ?_)
  · rw [if_pos hc6] at hf
    refine lv_iconst (v := (0 : Int32)) hx hb d_M_areCodes_18 (by decide) ?_
    cases hf
    exact g_zret hC rfl (by decide) hP hS d_M_areCodes_19
  · rw [if_neg hc6] at hf
    refine lv_iload_n hx hb d_M_areCodes_7 rfl (lv_at hl 1 rfl) ?_
    obtain ⟨r4, hk3, hf⟩ := bp_some hf
    refine g_calli hS (g_runS (As := [.int x1]) (rest := []) hC hP (c_M_isCode hj  hk3) (rk (by decide) (by decide)) nm_M_isCode cd_M_isCode it_WideTownModel ml_M_213 sc_M_isCode rfl hl.1 rfl (Nat.le_of_ble_eq_true rfl) d_M_areCodes_8 zz) (fun H locs hP hS => ?_)
    refine lv_if_eq (tgt := 18) hx hb d_M_areCodes_11 (by decide) (fun hc5 => ?_) (fun hc5 => ?_)
    · rw [if_pos hc5] at hf
      refine lv_iconst (v := (0 : Int32)) hx hb d_M_areCodes_18 (by decide) ?_
      cases hf
      exact g_zret hC rfl (by decide) hP hS d_M_areCodes_19
    · rw [if_neg hc5] at hf
      refine lv_iconst (v := (1 : Int32)) hx hb d_M_areCodes_14 (by decide) ?_
      refine lv_goto (tgt := 19) hx hb d_M_areCodes_15 (by decide) ?_
      cases hf
      exact g_zret hC rfl (by decide) hP hS d_M_areCodes_19
set_option maxHeartbeats 4000000 in
set_option maxRecDepth 100000 in
theorem c_M_plain {l : Launch} {D : va_G} {K : Nat → ClassId} {ad : Nat → Nat} (hj : inj ad)   {x1 : Int32} {σ : GS} {z0 : Int32 × GS} (hf : F_M_plain x1 σ = some z0) : CT l D K ad y_M_plain b_M_plain 2 (some .int) 5 [.ref (ad 63), .int x1] σ (QI D K ad z0.1 z0.2) := by
  refine CT.intro hj (by decide) (Nat.le_of_ble_eq_true rfl) ?_
  intro p e s m args below meth c ls hC hP hS hl
  obtain ⟨hx, hb, -, hown, hts, -⟩ := id hC
  have hl : lv_has ls 2 [(0, .ref (ad 63)), (1, .int x1)] := hl
  rw [F_M_plain] at hf
  refine lv_iload_n hx hb d_M_plain_0 rfl (lv_at hl 1 rfl) ?_
  obtain ⟨r2, hk1, hf⟩ := bp_some hf
  refine g_calli hS (g_runS (As := [.int x1]) (rest := []) hC hP (c_M_isCode hj  hk1) (rk (by decide) (by decide)) nm_M_isCode cd_M_isCode it_WideTownModel ml_M_213 sc_M_isCode rfl hl.1 rfl (Nat.le_of_ble_eq_true rfl) d_M_plain_1 zz) (fun H locs hP hS => ?_)
  refine lv_if_eq (tgt := 15) hx hb d_M_plain_4 (by decide) (fun hc6 => ?_) (fun hc6 => ?_)
  · rw [if_pos hc6] at hf
    refine lv_iconst (v := (-1 : Int32)) hx hb d_M_plain_15 (by decide) ?_
    cases hf
    exact g_iret hC rfl hP hS d_M_plain_16
  · rw [if_neg hc6] at hf
    refine lv_aload_n hx hb d_M_plain_7 rfl (lv_at hl 0 rfl) ?_
    refine lv_iload_n hx hb d_M_plain_8 rfl (lv_at hl 1 rfl) ?_
    obtain ⟨r4, σ5, hk3, hf⟩ := bc_some hf
    refine g_calli hS (g_runV (As := [.int x1]) (rest := []) hC hP (c_M_plainOf hj  hk3) (rk (by decide) (by decide)) nm_M_plainOf cd_M_plainOf it_WideTownModel ml_M_216 im_M_plainOf sl_M_plainOf o_63 co_M rfl hl.1 rfl (Nat.le_of_ble_eq_true rfl) d_M_plain_9 zz) (fun H locs hP hS => ?_)
    refine lv_goto (tgt := 16) hx hb d_M_plain_12 (by decide) ?_
    cases hf
    exact g_iret hC rfl hP hS d_M_plain_16
set_option maxHeartbeats 4000000 in
set_option maxRecDepth 100000 in
theorem c_M_join {l : Launch} {D : va_G} {K : Nat → ClassId} {ad : Nat → Nat} (hj : inj ad)   {x1 : Int32} {x2 : Int32} {σ : GS} {z0 : Int32 × GS} (hf : F_M_join x1 x2 σ = some z0) : CT l D K ad y_M_join b_M_join 4 (some .int) 4 [.ref (ad 63), .int x1, .int x2] σ (QI D K ad z0.1 z0.2) := by
  refine CT.intro hj (by decide) (Nat.le_of_ble_eq_true rfl) ?_
  intro p e s m args below meth c ls hC hP hS hl
  obtain ⟨hx, hb, -, hown, hts, -⟩ := id hC
  have hl : lv_has ls 4 [(0, .ref (ad 63)), (1, .int x1), (2, .int x2)] := hl
  rw [F_M_join] at hf
  refine lv_iload_n hx hb d_M_join_0 rfl (lv_at hl 1 rfl) ?_
  refine lv_iload_n hx hb d_M_join_1 rfl (lv_at hl 2 rfl) ?_
  obtain ⟨r2, hk1, hf⟩ := bp_some hf
  refine g_calli hS (g_runS (As := [.int x1, .int x2]) (rest := []) hC hP (c_M_areCodes hj  hk1) (rk (by decide) (by decide)) nm_M_areCodes cd_M_areCodes it_WideTownModel ml_M_223 sc_M_areCodes rfl hl.1 rfl (Nat.le_of_ble_eq_true rfl) d_M_join_2 zz) (fun H locs hP hS => ?_)
  refine lv_if_ne (tgt := 10) hx hb d_M_join_5 (by decide) (fun hc13 => ?_) (fun hc13 => ?_)
  · rw [if_neg hc13] at hf
    refine lv_aload_n hx hb d_M_join_10 rfl (lv_at hl 0 rfl) ?_
    refine g_get (v := .ref (ad 75)) hC hP o_63 co_M 16 (by decide) rfl fl_M_48 rfl d_M_join_11 ?_
    refine lv_aload_n hx hb d_M_join_14 rfl (lv_at hl 0 rfl) ?_
    refine g_get (v := .ref (ad 75)) hC hP o_63 co_M 16 (by decide) rfl fl_M_48 rfl d_M_join_15 ?_
    refine lv_iconst (v := (0 : Int32)) hx hb d_M_join_18 (by decide) ?_
    refine lv_iload_n hx hb d_M_join_19 rfl (lv_at hl 1 rfl) ?_
    obtain ⟨r4, σ5, hk3, hf⟩ := bc_some hf
    refine g_calli hS (g_runS (As := [.ref (ad 75), .int (0 : Int32), .int x1]) (rest := [.ref (ad 75)]) hC hP (c_M_follow hj a_75 hk3) (rk (by decide) (by decide)) nm_M_follow cd_M_follow it_WideTownModel ml_M_171 sc_M_follow rfl hl.1 rfl (Nat.le_of_ble_eq_true rfl) d_M_join_20 zz) (fun H locs hP hS => ?_)
    refine lv_iload_n hx hb d_M_join_23 rfl (lv_at hl 2 rfl) ?_
    obtain ⟨r7, σ8, hk6, hf⟩ := bc_some hf
    refine g_calli hS (g_runS (As := [.ref (ad 75), .int r4, .int x2]) (rest := []) hC hP (c_M_follow hj a_75 hk6) (rk (by decide) (by decide)) nm_M_follow cd_M_follow it_WideTownModel ml_M_171 sc_M_follow rfl hl.1 rfl (Nat.le_of_ble_eq_true rfl) d_M_join_24 zz) (fun H locs hP hS => ?_)
    refine lv_istore_n (lv' := [(3, .int r7), (0, .ref (ad 63)), (1, .int x1), (2, .int x2)]) hx hb d_M_join_27 rfl hl (by decide) rfl (fun ls hl => ?_)
    refine lv_iload_n hx hb d_M_join_28 rfl (lv_at hl 0 rfl) ?_
    refine lv_bipush (v := (9 : Int32)) hx hb d_M_join_29 (by decide) ?_
    refine lv_icmp_le (tgt := 39) hx hb d_M_join_31 (by decide) (fun hc12 => ?_) (fun hc12 => ?_)
    · rw [if_pos hc12] at hf
      refine lv_aload_n hx hb d_M_join_39 rfl (lv_at hl 1 rfl) ?_
      refine lv_aload_n hx hb d_M_join_40 rfl (lv_at hl 1 rfl) ?_
      refine g_get (v := .ref (ad 75)) hC hP o_63 co_M 16 (by decide) rfl fl_M_48 rfl d_M_join_41 ?_
      refine lv_iload_n hx hb d_M_join_44 rfl (lv_at hl 0 rfl) ?_
      obtain ⟨r10, σ11, hk9, hf⟩ := bc_some hf
      refine g_calli hS (g_runV (As := [.ref (ad 75), .int r7]) (rest := []) hC hP (c_M_codeOf hj a_75 hk9) (rk (by decide) (by decide)) nm_M_codeOf cd_M_codeOf it_WideTownModel ml_M_138 im_M_codeOf sl_M_codeOf o_63 co_M rfl hl.1 rfl (Nat.le_of_ble_eq_true rfl) d_M_join_45 zz) (fun H locs hP hS => ?_)
      cases hf
      exact g_iret hC rfl hP hS d_M_join_48
    · rw [if_neg hc12] at hf
      refine lv_bipush (v := (-6 : Int32)) hx hb d_M_join_34 (by decide) ?_
      refine lv_goto (tgt := 48) hx hb d_M_join_36 (by decide) ?_
      cases hf
      exact g_iret hC rfl hP hS d_M_join_48
  · rw [if_pos hc13] at hf
    refine lv_iconst (v := (-1 : Int32)) hx hb d_M_join_8 (by decide) ?_
    cases hf
    exact g_iret hC rfl hP hS d_M_join_9
set_option maxHeartbeats 4000000 in
set_option maxRecDepth 100000 in
theorem c_M_back {l : Launch} {D : va_G} {K : Nat → ClassId} {ad : Nat → Nat} (hj : inj ad)   {x1 : Int32} {σ : GS} {z0 : Int32 × GS} (hf : F_M_back x1 σ = some z0) : CT l D K ad y_M_back b_M_back 2 (some .int) 4 [.ref (ad 63), .int x1] σ (QI D K ad z0.1 z0.2) := by
  refine CT.intro hj (by decide) (Nat.le_of_ble_eq_true rfl) ?_
  intro p e s m args below meth c ls hC hP hS hl
  obtain ⟨hx, hb, -, hown, hts, -⟩ := id hC
  have hl : lv_has ls 2 [(0, .ref (ad 63)), (1, .int x1)] := hl
  rw [F_M_back] at hf
  refine lv_iload_n hx hb d_M_back_0 rfl (lv_at hl 1 rfl) ?_
  obtain ⟨r2, hk1, hf⟩ := bp_some hf
  refine g_calli hS (g_runS (As := [.int x1]) (rest := []) hC hP (c_M_isCode hj  hk1) (rk (by decide) (by decide)) nm_M_isCode cd_M_isCode it_WideTownModel ml_M_213 sc_M_isCode rfl hl.1 rfl (Nat.le_of_ble_eq_true rfl) d_M_back_1 zz) (fun H locs hP hS => ?_)
  refine lv_if_eq (tgt := 27) hx hb d_M_back_4 (by decide) (fun hc9 => ?_) (fun hc9 => ?_)
  · rw [if_pos hc9] at hf
    refine lv_iconst (v := (-1 : Int32)) hx hb d_M_back_27 (by decide) ?_
    cases hf
    exact g_iret hC rfl hP hS d_M_back_28
  · rw [if_neg hc9] at hf
    refine lv_aload_n hx hb d_M_back_7 rfl (lv_at hl 0 rfl) ?_
    refine lv_aload_n hx hb d_M_back_8 rfl (lv_at hl 0 rfl) ?_
    refine g_get (v := .ref (ad 75)) hC hP o_63 co_M 16 (by decide) rfl fl_M_48 rfl d_M_back_9 ?_
    refine lv_aload_n hx hb d_M_back_12 rfl (lv_at hl 0 rfl) ?_
    refine g_get (v := .ref (ad 75)) hC hP o_63 co_M 16 (by decide) rfl fl_M_48 rfl d_M_back_13 ?_
    refine lv_iconst (v := (0 : Int32)) hx hb d_M_back_16 (by decide) ?_
    refine lv_iload_n hx hb d_M_back_17 rfl (lv_at hl 1 rfl) ?_
    obtain ⟨r4, σ5, hk3, hf⟩ := bc_some hf
    refine g_calli hS (g_runS (As := [.ref (ad 75), .int (0 : Int32), .int x1]) (rest := [.ref (ad 75), .ref (ad 63)]) hC hP (c_M_followBack hj a_75 hk3) (rk (by decide) (by decide)) nm_M_followBack cd_M_followBack it_WideTownModel ml_M_168 sc_M_followBack rfl hl.1 rfl (Nat.le_of_ble_eq_true rfl) d_M_back_18 zz) (fun H locs hP hS => ?_)
    obtain ⟨r7, σ8, hk6, hf⟩ := bc_some hf
    refine g_calli hS (g_runV (As := [.ref (ad 75), .int r4]) (rest := []) hC hP (c_M_codeOf hj a_75 hk6) (rk (by decide) (by decide)) nm_M_codeOf cd_M_codeOf it_WideTownModel ml_M_138 im_M_codeOf sl_M_codeOf o_63 co_M rfl hl.1 rfl (Nat.le_of_ble_eq_true rfl) d_M_back_21 zz) (fun H locs hP hS => ?_)
    refine lv_goto (tgt := 28) hx hb d_M_back_24 (by decide) ?_
    cases hf
    exact g_iret hC rfl hP hS d_M_back_28
set_option maxHeartbeats 4000000 in
set_option maxRecDepth 100000 in
theorem c_M_far {l : Launch} {D : va_G} {K : Nat → ClassId} {ad : Nat → Nat} (hj : inj ad)   {x1 : Int32} {x2 : Int32} {σ : GS} {z0 : Int32 × GS} (hf : F_M_far x1 x2 σ = some z0) : CT l D K ad y_M_far b_M_far 3 (some .int) 5 [.ref (ad 63), .int x1, .int x2] σ (QI D K ad z0.1 z0.2) := by
  refine CT.intro hj (by decide) (Nat.le_of_ble_eq_true rfl) ?_
  intro p e s m args below meth c ls hC hP hS hl
  obtain ⟨hx, hb, -, hown, hts, -⟩ := id hC
  have hl : lv_has ls 3 [(0, .ref (ad 63)), (1, .int x1), (2, .int x2)] := hl
  rw [F_M_far] at hf
  refine lv_iload_n hx hb d_M_far_0 rfl (lv_at hl 1 rfl) ?_
  refine lv_iload_n hx hb d_M_far_1 rfl (lv_at hl 2 rfl) ?_
  obtain ⟨r2, hk1, hf⟩ := bp_some hf
  refine g_calli hS (g_runS (As := [.int x1, .int x2]) (rest := []) hC hP (c_M_areCodes hj  hk1) (rk (by decide) (by decide)) nm_M_areCodes cd_M_areCodes it_WideTownModel ml_M_223 sc_M_areCodes rfl hl.1 rfl (Nat.le_of_ble_eq_true rfl) d_M_far_2 zz) (fun H locs hP hS => ?_)
  refine lv_if_eq (tgt := 17) hx hb d_M_far_5 (by decide) (fun hc6 => ?_) (fun hc6 => ?_)
  · rw [if_pos hc6] at hf
    refine lv_iconst (v := (-1 : Int32)) hx hb d_M_far_17 (by decide) ?_
    cases hf
    exact g_iret hC rfl hP hS d_M_far_18
  · rw [if_neg hc6] at hf
    refine lv_aload_n hx hb d_M_far_8 rfl (lv_at hl 0 rfl) ?_
    refine lv_iload_n hx hb d_M_far_9 rfl (lv_at hl 1 rfl) ?_
    refine lv_iload_n hx hb d_M_far_10 rfl (lv_at hl 2 rfl) ?_
    obtain ⟨r4, σ5, hk3, hf⟩ := bc_some hf
    refine g_calli hS (g_runV (As := [.int x1, .int x2]) (rest := []) hC hP (c_M_farOf hj  hk3) (rk (by decide) (by decide)) nm_M_farOf cd_M_farOf it_WideTownModel ml_M_204 im_M_farOf sl_M_farOf o_63 co_M rfl hl.1 rfl (Nat.le_of_ble_eq_true rfl) d_M_far_11 zz) (fun H locs hP hS => ?_)
    refine lv_goto (tgt := 18) hx hb d_M_far_14 (by decide) ?_
    cases hf
    exact g_iret hC rfl hP hS d_M_far_18
set_option maxHeartbeats 4000000 in
set_option maxRecDepth 100000 in
theorem c_M_ends {l : Launch} {D : va_G} {K : Nat → ClassId} {ad : Nat → Nat} (hj : inj ad)   {x1 : Int32} {σ : GS} {z0 : Int32 × GS} (hf : F_M_ends x1 σ = some z0) : CT l D K ad y_M_ends b_M_ends 2 (some .int) 4 [.ref (ad 63), .int x1] σ (QI D K ad z0.1 z0.2) := by
  refine CT.intro hj (by decide) (Nat.le_of_ble_eq_true rfl) ?_
  intro p e s m args below meth c ls hC hP hS hl
  obtain ⟨hx, hb, -, hown, hts, -⟩ := id hC
  have hl : lv_has ls 2 [(0, .ref (ad 63)), (1, .int x1)] := hl
  rw [F_M_ends] at hf
  refine lv_iload_n hx hb d_M_ends_0 rfl (lv_at hl 1 rfl) ?_
  obtain ⟨r2, hk1, hf⟩ := bp_some hf
  refine g_calli hS (g_runS (As := [.int x1]) (rest := []) hC hP (c_M_isCode hj  hk1) (rk (by decide) (by decide)) nm_M_isCode cd_M_isCode it_WideTownModel ml_M_213 sc_M_isCode rfl hl.1 rfl (Nat.le_of_ble_eq_true rfl) d_M_ends_1 zz) (fun H locs hP hS => ?_)
  refine lv_if_eq (tgt := 15) hx hb d_M_ends_4 (by decide) (fun hc6 => ?_) (fun hc6 => ?_)
  · rw [if_pos hc6] at hf
    refine lv_iconst (v := (-1 : Int32)) hx hb d_M_ends_15 (by decide) ?_
    cases hf
    exact g_iret hC rfl hP hS d_M_ends_16
  · rw [if_neg hc6] at hf
    refine lv_aload_n hx hb d_M_ends_7 rfl (lv_at hl 0 rfl) ?_
    refine lv_iload_n hx hb d_M_ends_8 rfl (lv_at hl 1 rfl) ?_
    obtain ⟨r4, σ5, hk3, hf⟩ := bc_some hf
    refine g_calli hS (g_runV (As := [.int x1]) (rest := []) hC hP (c_M_endsOf hj  hk3) (rk (by decide) (by decide)) nm_M_endsOf cd_M_endsOf it_WideTownModel ml_M_178 im_M_endsOf sl_M_endsOf o_63 co_M rfl hl.1 rfl (Nat.le_of_ble_eq_true rfl) d_M_ends_9 zz) (fun H locs hP hS => ?_)
    refine lv_goto (tgt := 16) hx hb d_M_ends_12 (by decide) ?_
    cases hf
    exact g_iret hC rfl hP hS d_M_ends_16
set_option maxHeartbeats 4000000 in
set_option maxRecDepth 100000 in
theorem c_M_begins {l : Launch} {D : va_G} {K : Nat → ClassId} {ad : Nat → Nat} (hj : inj ad)   {x1 : Int32} {σ : GS} {z0 : Int32 × GS} (hf : F_M_begins x1 σ = some z0) : CT l D K ad y_M_begins b_M_begins 5 (some .int) 3 [.ref (ad 63), .int x1] σ (QI D K ad z0.1 z0.2) := by
  refine CT.intro hj (by decide) (Nat.le_of_ble_eq_true rfl) ?_
  intro p e s m args below meth c ls hC hP hS hl
  obtain ⟨hx, hb, -, hown, hts, -⟩ := id hC
  have hl : lv_has ls 5 [(0, .ref (ad 63)), (1, .int x1)] := hl
  rw [F_M_begins] at hf
  refine lv_iload_n hx hb d_M_begins_0 rfl (lv_at hl 1 rfl) ?_
  obtain ⟨r2, hk1, hf⟩ := bp_some hf
  refine g_calli hS (g_runS (As := [.int x1]) (rest := []) hC hP (c_M_isCode hj  hk1) (rk (by decide) (by decide)) nm_M_isCode cd_M_isCode it_WideTownModel ml_M_213 sc_M_isCode rfl hl.1 rfl (Nat.le_of_ble_eq_true rfl) d_M_begins_1 zz) (fun H locs hP hS => ?_)
  refine lv_if_ne (tgt := 9) hx hb d_M_begins_4 (by decide) (fun hc12 => ?_) (fun hc12 => ?_)
  · rw [if_neg hc12] at hf
    refine lv_aload_n hx hb d_M_begins_9 rfl (lv_at hl 0 rfl) ?_
    refine g_get (v := .ref (ad 75)) hC hP o_63 co_M 16 (by decide) rfl fl_M_48 rfl d_M_begins_10 ?_
    refine lv_iconst (v := (0 : Int32)) hx hb d_M_begins_13 (by decide) ?_
    refine lv_iload_n hx hb d_M_begins_14 rfl (lv_at hl 1 rfl) ?_
    obtain ⟨r4, σ5, hk3, hf⟩ := bc_some hf
    refine g_calli hS (g_runS (As := [.ref (ad 75), .int (0 : Int32), .int x1]) (rest := []) hC hP (c_M_follow hj a_75 hk3) (rk (by decide) (by decide)) nm_M_follow cd_M_follow it_WideTownModel ml_M_171 sc_M_follow rfl hl.1 rfl (Nat.le_of_ble_eq_true rfl) d_M_begins_15 zz) (fun H locs hP hS => ?_)
    refine lv_istore_n (lv' := [(2, .int r4), (0, .ref (ad 63)), (1, .int x1)]) hx hb d_M_begins_18 rfl hl (by decide) rfl (fun ls hl => ?_)
    refine lv_iconst (v := (0 : Int32)) hx hb d_M_begins_19 (by decide) ?_
    refine lv_istore_n (lv' := [(3, .int (0 : Int32)), (2, .int r4), (0, .ref (ad 63)), (1, .int x1)]) hx hb d_M_begins_20 rfl hl (by decide) rfl (fun ls hl => ?_)
    refine lv_iconst (v := (0 : Int32)) hx hb d_M_begins_21 (by decide) ?_
    refine lv_istore (lv' := [(4, .int (0 : Int32)), (3, .int (0 : Int32)), (2, .int r4), (0, .ref (ad 63)), (1, .int x1)]) hx hb d_M_begins_22 hl (by decide) rfl (fun ls hl => ?_)
    obtain ⟨KL6_64, eKL6_64, hf⟩ := jn_some hf
    have hKL6_64 : ∀ (v3_6 : Int32) (v4_6 : Int32) (H : Heap) (locs : List Loc) (ls : Array Slot), va_P D vwCl (wG K ad σ5) H → va_S (GA ad) s.heap H locs → lv_has ls 5 [(3, .int v3_6)] → KL6_64 v3_6 v4_6 = some z0 → W p l e (rmd 3) s m args below meth c H locs 0 0 (MQ below (QI D K ad z0.1 z0.2) args s 0 0 (GA ad)) (F0 m 64 ls []) := by
      clear hf
      intro v3_6 v4_6 H locs ls hP hS hl hf
      rw [eKL6_64] at hf
      try dsimp only at hf
      refine lv_iload_n hx hb d_M_begins_64 rfl (lv_at hl 0 rfl) ?_
      cases hf
      exact g_iret hC rfl hP hS d_M_begins_65
    clear eKL6_64
    have hL6 : ∀ (n : Nat) (v3_6 : Int32) (v4_6 : Int32) (H : Heap) (locs : List Loc) (ls : Array Slot), va_P D vwCl (wG K ad σ5) H → va_S (GA ad) s.heap H locs → lv_has ls 5 [(0, .ref (ad 63)), (2, .int r4), (3, .int v3_6), (4, .int v4_6)] → F_M_begins_24 r4 σ5 KL6_64 n v3_6 v4_6 = some z0 → W p l e (rmd 3) s m args below meth c H locs 0 0 (MQ below (QI D K ad z0.1 z0.2) args s 0 0 (GA ad)) (F0 m 24 ls []) := by
      clear hf
      intro n
      induction n with
      | zero =>
        intro v3_6 v4_6 H locs ls hP hS hl hf
        rw [F_M_begins_24.eq_1] at hf
        cases hf
      | succ n ih =>
        intro v3_6 v4_6 H locs ls hP hS hl hf
        rw [F_M_begins_24.eq_2] at hf
        refine lv_iload hx hb d_M_begins_24 (lv_at hl 3 rfl) ?_
        refine lv_iload_n hx hb d_M_begins_26 rfl (lv_at hl 1 rfl) ?_
        refine lv_icmp_ge (tgt := 64) hx hb d_M_begins_27 (by decide) (fun hc11 => ?_) (fun hc11 => ?_)
        · rw [if_pos hc11] at hf
          exact hKL6_64 _ _ _ _ _ hP hS (lv_sub hl [2] rfl) hf
        · rw [if_neg hc11] at hf
          refine lv_iload_n hx hb d_M_begins_30 rfl (lv_at hl 2 rfl) ?_
          refine lv_aload_n hx hb d_M_begins_31 rfl (lv_at hl 0 rfl) ?_
          refine g_get (v := .ref (ad 75)) hC hP o_63 co_M 16 (by decide) rfl fl_M_48 rfl d_M_begins_32 ?_
          refine lv_iload hx hb d_M_begins_35 (lv_at hl 3 rfl) ?_
          obtain ⟨r8, hk7, hf⟩ := bp_some hf
          refine g_calli hS (g_runS (As := [.ref (ad 75), .int v4_6]) (rest := [.int v3_6]) hC hP (c_M_isFirst hj a_75 hk7) (rk (by decide) (by decide)) nm_M_isFirst cd_M_isFirst it_WideTownModel ml_M_152 sc_M_isFirst rfl hl.1 rfl (Nat.le_of_ble_eq_true rfl) d_M_begins_37 zz) (fun H locs hP hS => ?_)
          refine lv_if_eq (tgt := 55) hx hb d_M_begins_40 (by decide) (fun hc10 => ?_) (fun hc10 => ?_)
          · rw [if_pos hc10] at hf
            refine lv_iconst (v := (0 : Int32)) hx hb d_M_begins_55 (by decide) ?_
            refine lv_ior hx hb d_M_begins_56 ?_
            refine lv_istore_n (lv' := [(3, .int (v3_6 ||| (0 : Int32))), (0, .ref (ad 63)), (2, .int r4), (4, .int v4_6)]) hx hb d_M_begins_57 rfl hl (by decide) rfl (fun ls hl => ?_)
            refine lv_iinc (v := v4_6 + 1) (lv' := [(4, .int (v4_6 + 1)), (3, .int (v3_6 ||| (0 : Int32))), (0, .ref (ad 63)), (2, .int r4)]) hx hb d_M_begins_58 hl (k := 3) rfl rfl (by decide) rfl (fun ls hl => ?_)
            refine lv_goto (tgt := 24) hx hb d_M_begins_61 (by decide) ?_
            exact ih _ _ _ _ _ hP hS (lv_sub hl [2, 3, 1, 0] rfl) hf
          · rw [if_neg hc10] at hf
            refine lv_iconst (v := (1 : Int32)) hx hb d_M_begins_43 (by decide) ?_
            refine lv_aload_n hx hb d_M_begins_44 rfl (lv_at hl 0 rfl) ?_
            refine g_get (v := .ref (ad 75)) hC hP o_63 co_M 16 (by decide) rfl fl_M_48 rfl d_M_begins_45 ?_
            refine lv_iload hx hb d_M_begins_48 (lv_at hl 3 rfl) ?_
            obtain ⟨hg9, hf⟩ := gd_some hf
            refine g_iald2 (j := v4_6.toNatClampNeg) hC hP a_75 hg9 rfl d_M_begins_50 ?_
            refine lv_ishl hx hb d_M_begins_51 ?_
            refine lv_goto (tgt := 56) hx hb d_M_begins_52 (by decide) ?_
            refine lv_ior hx hb d_M_begins_56 ?_
            refine lv_istore_n (lv' := [(3, .int (v3_6 ||| ((1 : Int32) <<< ((σ5.1 75 v4_6.toNatClampNeg) &&& 31)))), (0, .ref (ad 63)), (2, .int r4), (4, .int v4_6)]) hx hb d_M_begins_57 rfl hl (by decide) rfl (fun ls hl => ?_)
            refine lv_iinc (v := v4_6 + 1) (lv' := [(4, .int (v4_6 + 1)), (3, .int (v3_6 ||| ((1 : Int32) <<< ((σ5.1 75 v4_6.toNatClampNeg) &&& 31)))), (0, .ref (ad 63)), (2, .int r4)]) hx hb d_M_begins_58 hl (k := 3) rfl rfl (by decide) rfl (fun ls hl => ?_)
            refine lv_goto (tgt := 24) hx hb d_M_begins_61 (by decide) ?_
            exact ih _ _ _ _ _ hP hS (lv_sub hl [2, 3, 1, 0] rfl) hf
    exact hL6 _ _ _ _ _ _ hP hS (lv_sub hl [3, 2, 1, 0] rfl) hf
  · rw [if_pos hc12] at hf
    refine lv_iconst (v := (-1 : Int32)) hx hb d_M_begins_7 (by decide) ?_
    cases hf
    exact g_iret hC rfl hP hS d_M_begins_8
set_option maxHeartbeats 4000000 in
set_option maxRecDepth 100000 in
theorem c_M_adds {l : Launch} {D : va_G} {K : Nat → ClassId} {ad : Nat → Nat} (hj : inj ad)   {x1 : Int32} {x2 : Int64} {σ : GS} {z0 : GS} (hf : F_M_adds x1 x2 σ = some z0) : CT l D K ad y_M_adds b_M_adds 5 none 0 [.ref (ad 63), .int x1, .long x2] σ (QV D K ad z0) := by
  refine CT.intro hj (by decide) (Nat.le_of_ble_eq_true rfl) ?_
  intro p e s m args below meth c ls hC hP hS hl
  obtain ⟨hx, hb, -, hown, hts, -⟩ := id hC
  have hl : lv_has ls 5 [(0, .ref (ad 63)), (1, .int x1), (2, .long x2)] := hl
  rw [F_M_adds] at hf
  refine lv_iconst (v := (0 : Int32)) hx hb d_M_adds_0 (by decide) ?_
  refine lv_istore (lv' := [(4, .int (0 : Int32)), (0, .ref (ad 63)), (1, .int x1), (2, .long x2)]) hx hb d_M_adds_1 hl (by decide) rfl (fun ls hl => ?_)
  obtain ⟨KL1_29, eKL1_29, hf⟩ := jn_some hf
  have hKL1_29 : ∀ (v4_1 : Int32) (H : Heap) (locs : List Loc) (ls : Array Slot), va_P D vwCl (wG K ad σ) H → va_S (GA ad) s.heap H locs → lv_has ls 5 [(0, .ref (ad 63)), (1, .int x1), (2, .long x2), (4, .int v4_1)] → KL1_29 v4_1 = some z0 → W p l e (rmd 0) s m args below meth c H locs 0 0 (MQ below (QV D K ad z0) args s 0 0 (GA ad)) (F0 m 29 ls []) := by
    clear hf
    intro v4_1 H locs ls hP hS hl hf
    rw [eKL1_29] at hf
    try dsimp only at hf
    refine lv_iload hx hb d_M_adds_29 (lv_at hl 3 rfl) ?_
    refine lv_aload_n hx hb d_M_adds_31 rfl (lv_at hl 0 rfl) ?_
    refine g_get (v := .int (σ.1 63 24)) hC hP o_63 co_M 24 (by decide) rfl fl_M_226 rfl d_M_adds_32 ?_
    obtain ⟨J2, eJ2, hf⟩ := jn_some hf
    have hJ2 : ∀ (σJ2 : GS) (H : Heap) (locs : List Loc) (ls : Array Slot), va_P D vwCl (wG K ad σJ2) H → va_S (GA ad) s.heap H locs → lv_has ls 5 [(0, .ref (ad 63)), (2, .long x2), (4, .int v4_1)] → J2 σJ2 = some z0 → W p l e (rmd 0) s m args below meth c H locs 0 0 (MQ below (QV D K ad z0) args s 0 0 (GA ad)) (F0 m 64 ls []) := by
      clear hf
      intro σJ2 H locs ls hP hS hl hf
      rw [eJ2] at hf
      try dsimp only at hf
      refine lv_aload_n hx hb d_M_adds_64 rfl (lv_at hl 0 rfl) ?_
      refine g_get (v := .ref (ad 82)) hC hP o_63 co_M 23 (by decide) rfl fl_M_69 rfl d_M_adds_65 ?_
      refine lv_iload hx hb d_M_adds_68 (lv_at hl 2 rfl) ?_
      refine lv_dup2_11 hx hb d_M_adds_70 rfl rfl ?_
      obtain ⟨hg3, hf⟩ := gd_some hf
      refine g_lald2 (j := v4_1.toNatClampNeg) hC hP j_82 hg3 rfl d_M_adds_71 ?_
      refine lv_lload_n hx hb d_M_adds_72 rfl (lv_at hl 1 rfl) ?_
      refine lv_ladd hx hb d_M_adds_73 ?_
      obtain ⟨hg4, hf⟩ := gd_some hf
      obtain ⟨σ5, eσ5, hf⟩ := jn_some hf
      refine g_last2 (j := v4_1.toNatClampNeg) hC hP hS j_82 hg4 rfl d_M_adds_74 (fun H locs hP hS => ?_)
      rw [← eσ5] at hP
      cases hf
      exact g_vret hC rfl hP hS d_M_adds_75
    clear eJ2
    refine lv_icmp_ne (tgt := 64) hx hb d_M_adds_35 (by decide) (fun hc11 => ?_) (fun hc11 => ?_)
    · rw [if_neg hc11] at hf
      exact hJ2 _ _ _ _ hP hS (lv_sub hl [0, 2, 3] rfl) hf
    · rw [if_pos hc11] at hf
      refine lv_aload_n hx hb d_M_adds_38 rfl (lv_at hl 0 rfl) ?_
      refine g_get (v := .ref (ad 81)) hC hP o_63 co_M 22 (by decide) rfl fl_M_66 rfl d_M_adds_39 ?_
      refine lv_iload hx hb d_M_adds_42 (lv_at hl 3 rfl) ?_
      refine lv_iload_n hx hb d_M_adds_44 rfl (lv_at hl 1 rfl) ?_
      obtain ⟨hg6, hf⟩ := gd_some hf
      obtain ⟨σ7, eσ7, hf⟩ := jn_some hf
      refine g_iast2 (j := v4_1.toNatClampNeg) hC hP hS a_81 hg6 rfl d_M_adds_45 (fun H locs hP hS => ?_)
      rw [← eσ7] at hP
      refine lv_aload_n hx hb d_M_adds_46 rfl (lv_at hl 0 rfl) ?_
      refine g_get (v := .ref (ad 82)) hC hP o_63 co_M 23 (by decide) rfl fl_M_69 rfl d_M_adds_47 ?_
      refine lv_iload hx hb d_M_adds_50 (lv_at hl 3 rfl) ?_
      refine lv_lconst (v := (0 : Int64)) hx hb d_M_adds_52 (by decide) ?_
      obtain ⟨hg8, hf⟩ := gd_some hf
      obtain ⟨σ9, eσ9, hf⟩ := jn_some hf
      refine g_last2 (j := v4_1.toNatClampNeg) hC hP hS j_82 hg8 rfl d_M_adds_53 (fun H locs hP hS => ?_)
      rw [← eσ9] at hP
      refine lv_aload_n hx hb d_M_adds_54 rfl (lv_at hl 0 rfl) ?_
      refine lv_dup hx hb d_M_adds_55 rfl ?_
      refine g_get (v := .int (σ9.1 63 24)) hC hP o_63 co_M 24 (by decide) rfl fl_M_226 rfl d_M_adds_56 ?_
      refine lv_iconst (v := (1 : Int32)) hx hb d_M_adds_59 (by decide) ?_
      refine lv_iadd hx hb d_M_adds_60 ?_
      obtain ⟨σ10, eσ10, hf⟩ := jn_some hf
      refine g_puti hC hP hS o_63 co_M 24 (by decide) rfl fl_M_226 rfl (to_M 24 (by decide)) (Nat.le_of_ble_eq_true rfl) rfl d_M_adds_61 (fun H locs hP hS => ?_)
      rw [← eσ10] at hP
      exact hJ2 _ _ _ _ hP hS (lv_sub hl [0, 2, 3] rfl) hf
  clear eKL1_29
  have hL1 : ∀ (n : Nat) (v4_1 : Int32) (H : Heap) (locs : List Loc) (ls : Array Slot), va_P D vwCl (wG K ad σ) H → va_S (GA ad) s.heap H locs → lv_has ls 5 [(0, .ref (ad 63)), (1, .int x1), (2, .long x2), (4, .int v4_1)] → F_M_adds_3 x1 x2 σ KL1_29 n v4_1 = some z0 → W p l e (rmd 0) s m args below meth c H locs 0 0 (MQ below (QV D K ad z0) args s 0 0 (GA ad)) (F0 m 3 ls []) := by
    clear hf
    intro n
    induction n with
    | zero =>
      intro v4_1 H locs ls hP hS hl hf
      rw [F_M_adds_3.eq_1] at hf
      cases hf
    | succ n ih =>
      intro v4_1 H locs ls hP hS hl hf
      rw [F_M_adds_3.eq_2] at hf
      refine lv_iload hx hb d_M_adds_3 (lv_at hl 3 rfl) ?_
      refine lv_aload_n hx hb d_M_adds_5 rfl (lv_at hl 0 rfl) ?_
      refine g_get (v := .int (σ.1 63 24)) hC hP o_63 co_M 24 (by decide) rfl fl_M_226 rfl d_M_adds_6 ?_
      refine lv_icmp_ge (tgt := 29) hx hb d_M_adds_9 (by decide) (fun hc14 => ?_) (fun hc14 => ?_)
      · rw [if_pos hc14] at hf
        exact hKL1_29 _ _ _ _ hP hS (lv_sub hl [0, 1, 2, 3] rfl) hf
      · rw [if_neg hc14] at hf
        refine lv_aload_n hx hb d_M_adds_12 rfl (lv_at hl 0 rfl) ?_
        refine g_get (v := .ref (ad 81)) hC hP o_63 co_M 22 (by decide) rfl fl_M_66 rfl d_M_adds_13 ?_
        refine lv_iload hx hb d_M_adds_16 (lv_at hl 3 rfl) ?_
        obtain ⟨hg12, hf⟩ := gd_some hf
        refine g_iald2 (j := v4_1.toNatClampNeg) hC hP a_81 hg12 rfl d_M_adds_18 ?_
        refine lv_iload_n hx hb d_M_adds_19 rfl (lv_at hl 1 rfl) ?_
        refine lv_icmp_eq (tgt := 29) hx hb d_M_adds_20 (by decide) (fun hc13 => ?_) (fun hc13 => ?_)
        · rw [if_pos hc13] at hf
          exact hKL1_29 _ _ _ _ hP hS (lv_sub hl [0, 1, 2, 3] rfl) hf
        · rw [if_neg hc13] at hf
          refine lv_iinc (v := v4_1 + 1) (lv' := [(4, .int (v4_1 + 1)), (0, .ref (ad 63)), (1, .int x1), (2, .long x2)]) hx hb d_M_adds_23 hl (k := 3) rfl rfl (by decide) rfl (fun ls hl => ?_)
          refine lv_goto (tgt := 3) hx hb d_M_adds_26 (by decide) ?_
          exact ih _ _ _ _ hP hS (lv_sub hl [1, 2, 3, 0] rfl) hf
  exact hL1 _ _ _ _ _ hP hS (lv_sub hl [1, 2, 3, 0] rfl) hf
set_option maxHeartbeats 4000000 in
set_option maxRecDepth 100000 in
theorem c_M_laySets {l : Launch} {D : va_G} {K : Nat → ClassId} {ad : Nat → Nat} (hj : inj ad) {q1 : Nat} (h_q1 : isA K ad q1 0 64) {x2 : Int32} {σ : GS} {z0 : GS} (hf : F_M_laySets q1 x2 σ = some z0) : CT l D K ad y_M_laySets b_M_laySets 7 none 1 [.ref (ad 63), .ref (ad q1), .int x2] σ (QV D K ad z0) := by
  refine CT.intro hj (by decide) (Nat.le_of_ble_eq_true rfl) ?_
  intro p e s m args below meth c ls hC hP hS hl
  obtain ⟨hx, hb, -, hown, hts, -⟩ := id hC
  have hl : lv_has ls 7 [(0, .ref (ad 63)), (1, .ref (ad q1)), (2, .int x2)] := hl
  rw [F_M_laySets] at hf
  refine lv_aload_n hx hb d_M_laySets_0 rfl (lv_at hl 0 rfl) ?_
  refine g_get (v := .ref (ad 81)) hC hP o_63 co_M 22 (by decide) rfl fl_M_66 rfl d_M_laySets_1 ?_
  refine lv_iconst (v := (0 : Int32)) hx hb d_M_laySets_4 (by decide) ?_
  refine lv_iconst (v := (0 : Int32)) hx hb d_M_laySets_5 (by decide) ?_
  obtain ⟨σ1, eσ1, hf⟩ := jn_some hf
  refine g_iast2 (j := 0) hC hP hS a_81 (by decide) rfl d_M_laySets_6 (fun H locs hP hS => ?_)
  rw [← eσ1] at hP
  refine lv_aload_n hx hb d_M_laySets_7 rfl (lv_at hl 0 rfl) ?_
  refine g_get (v := .ref (ad 82)) hC hP o_63 co_M 23 (by decide) rfl fl_M_69 rfl d_M_laySets_8 ?_
  refine lv_iconst (v := (0 : Int32)) hx hb d_M_laySets_11 (by decide) ?_
  refine lv_lconst (v := (1 : Int64)) hx hb d_M_laySets_12 (by decide) ?_
  obtain ⟨σ2, eσ2, hf⟩ := jn_some hf
  refine g_last2 (j := 0) hC hP hS j_82 (by decide) rfl d_M_laySets_13 (fun H locs hP hS => ?_)
  rw [← eσ2] at hP
  refine lv_aload_n hx hb d_M_laySets_14 rfl (lv_at hl 0 rfl) ?_
  refine lv_iconst (v := (1 : Int32)) hx hb d_M_laySets_15 (by decide) ?_
  obtain ⟨σ3, eσ3, hf⟩ := jn_some hf
  refine g_puti hC hP hS o_63 co_M 24 (by decide) rfl fl_M_226 rfl (to_M 24 (by decide)) (Nat.le_of_ble_eq_true rfl) rfl d_M_laySets_16 (fun H locs hP hS => ?_)
  rw [← eσ3] at hP
  refine lv_iconst (v := (0 : Int32)) hx hb d_M_laySets_19 (by decide) ?_
  refine lv_istore_n (lv' := [(3, .int (0 : Int32)), (0, .ref (ad 63)), (1, .ref (ad q1)), (2, .int x2)]) hx hb d_M_laySets_20 rfl hl (by decide) rfl (fun ls hl => ?_)
  obtain ⟨KL4_154, eKL4_154, hf⟩ := jn_some hf
  have hKL4_154 : ∀ (v3_4 : Int32) (σL4 : GS) (H : Heap) (locs : List Loc) (ls : Array Slot), va_P D vwCl (wG K ad σL4) H → va_S (GA ad) s.heap H locs → lv_has ls 7 [] → KL4_154 v3_4 σL4 = some z0 → W p l e (rmd 1) s m args below meth c H locs 0 0 (MQ below (QV D K ad z0) args s 0 0 (GA ad)) (F0 m 154 ls []) := by
    clear hf
    intro v3_4 σL4 H locs ls hP hS hl hf
    rw [eKL4_154] at hf
    try dsimp only at hf
    cases hf
    exact g_vret hC rfl hP hS d_M_laySets_154
  clear eKL4_154
  have hL4 : ∀ (n : Nat) (v3_4 : Int32) (σL4 : GS) (H : Heap) (locs : List Loc) (ls : Array Slot), va_P D vwCl (wG K ad σL4) H → va_S (GA ad) s.heap H locs → lv_has ls 7 [(0, .ref (ad 63)), (1, .ref (ad q1)), (2, .int x2), (3, .int v3_4)] → F_M_laySets_21 q1 x2 KL4_154 n v3_4 σL4 = some z0 → W p l e (rmd 1) s m args below meth c H locs 0 0 (MQ below (QV D K ad z0) args s 0 0 (GA ad)) (F0 m 21 ls []) := by
    clear hf
    intro n
    induction n with
    | zero =>
      intro v3_4 σL4 H locs ls hP hS hl hf
      rw [F_M_laySets_21.eq_1] at hf
      cases hf
    | succ n ih =>
      intro v3_4 σL4 H locs ls hP hS hl hf
      rw [F_M_laySets_21.eq_2] at hf
      refine lv_iload_n hx hb d_M_laySets_21 rfl (lv_at hl 3 rfl) ?_
      refine lv_aload_n hx hb d_M_laySets_22 rfl (lv_at hl 0 rfl) ?_
      refine g_get (v := .int (σL4.1 63 24)) hC hP o_63 co_M 24 (by decide) rfl fl_M_226 rfl d_M_laySets_23 ?_
      refine lv_icmp_ge (tgt := 154) hx hb d_M_laySets_26 (by decide) (fun hc26 => ?_) (fun hc26 => ?_)
      · rw [if_pos hc26] at hf
        exact hKL4_154 _ _ _ _ _ hP hS (lv_sub hl [] rfl) hf
      · rw [if_neg hc26] at hf
        refine lv_iconst (v := (0 : Int32)) hx hb d_M_laySets_29 (by decide) ?_
        refine lv_istore (lv' := [(4, .int (0 : Int32)), (0, .ref (ad 63)), (1, .ref (ad q1)), (2, .int x2), (3, .int v3_4)]) hx hb d_M_laySets_30 hl (by decide) rfl (fun ls hl => ?_)
        obtain ⟨KL5_148, eKL5_148, hf⟩ := jn_some hf
        have hKL5_148 : ∀ (v4_5 : Int32) (σL5 : GS) (H : Heap) (locs : List Loc) (ls : Array Slot), va_P D vwCl (wG K ad σL5) H → va_S (GA ad) s.heap H locs → lv_has ls 7 [(0, .ref (ad 63)), (1, .ref (ad q1)), (2, .int x2), (3, .int v3_4)] → KL5_148 v4_5 σL5 = some z0 → W p l e (rmd 1) s m args below meth c H locs 0 0 (MQ below (QV D K ad z0) args s 0 0 (GA ad)) (F0 m 148 ls []) := by
          clear hf
          intro v4_5 σL5 H locs ls hP hS hl hf
          rw [eKL5_148] at hf
          try dsimp only at hf
          refine lv_iinc (v := v3_4 + 1) (lv' := [(3, .int (v3_4 + 1)), (0, .ref (ad 63)), (1, .ref (ad q1)), (2, .int x2)]) hx hb d_M_laySets_148 hl (k := 3) rfl rfl (by decide) rfl (fun ls hl => ?_)
          refine lv_goto (tgt := 21) hx hb d_M_laySets_151 (by decide) ?_
          exact ih _ _ _ _ _ hP hS (lv_sub hl [1, 2, 3, 0] rfl) hf
        clear eKL5_148
        have hL5 : ∀ (n : Nat) (v4_5 : Int32) (σL5 : GS) (H : Heap) (locs : List Loc) (ls : Array Slot), va_P D vwCl (wG K ad σL5) H → va_S (GA ad) s.heap H locs → lv_has ls 7 [(0, .ref (ad 63)), (1, .ref (ad q1)), (2, .int x2), (3, .int v3_4), (4, .int v4_5)] → F_M_laySets_32 q1 x2 v3_4 KL5_148 n v4_5 σL5 = some z0 → W p l e (rmd 1) s m args below meth c H locs 0 0 (MQ below (QV D K ad z0) args s 0 0 (GA ad)) (F0 m 32 ls []) := by
          clear hf
          intro n
          induction n with
          | zero =>
            intro v4_5 σL5 H locs ls hP hS hl hf
            rw [F_M_laySets_32.eq_1] at hf
            cases hf
          | succ n ih =>
            intro v4_5 σL5 H locs ls hP hS hl hf
            rw [F_M_laySets_32.eq_2] at hf
            refine lv_iload hx hb d_M_laySets_32 (lv_at hl 4 rfl) ?_
            refine lv_iload_n hx hb d_M_laySets_34 rfl (lv_at hl 2 rfl) ?_
            refine lv_icmp_ge (tgt := 148) hx hb d_M_laySets_35 (by decide) (fun hc25 => ?_) (fun hc25 => ?_)
            · rw [if_pos hc25] at hf
              exact hKL5_148 _ _ _ _ _ hP hS (lv_sub hl [0, 1, 2, 3] rfl) hf
            · rw [if_neg hc25] at hf
              refine lv_aload_n hx hb d_M_laySets_38 rfl (lv_at hl 0 rfl) ?_
              refine g_get (v := .ref (ad 81)) hC hP o_63 co_M 22 (by decide) rfl fl_M_66 rfl d_M_laySets_39 ?_
              refine lv_iload_n hx hb d_M_laySets_42 rfl (lv_at hl 3 rfl) ?_
              obtain ⟨hg6, hf⟩ := gd_some hf
              refine g_iald2 (j := v3_4.toNatClampNeg) hC hP a_81 hg6 rfl d_M_laySets_43 ?_
              refine lv_iload hx hb d_M_laySets_44 (lv_at hl 4 rfl) ?_
              refine lv_ishr hx hb d_M_laySets_46 ?_
              refine lv_iconst (v := (1 : Int32)) hx hb d_M_laySets_47 (by decide) ?_
              refine lv_iand hx hb d_M_laySets_48 ?_
              obtain ⟨J7, eJ7, hf⟩ := jn_some hf
              have hJ7 : ∀ (tJ7 : Int32) (H : Heap) (locs : List Loc) (ls : Array Slot), va_P D vwCl (wG K ad σL5) H → va_S (GA ad) s.heap H locs → lv_has ls 7 [(0, .ref (ad 63)), (1, .ref (ad q1)), (2, .int x2), (3, .int v3_4), (4, .int v4_5)] → J7 tJ7 = some z0 → W p l e (rmd 1) s m args below meth c H locs 0 0 (MQ below (QV D K ad z0) args s 0 0 (GA ad)) (F0 m 57 ls [.int tJ7]) := by
                clear hf
                intro tJ7 H locs ls hP hS hl hf
                rw [eJ7] at hf
                try dsimp only at hf
                refine lv_istore (lv' := [(5, .int tJ7), (0, .ref (ad 63)), (1, .ref (ad q1)), (2, .int x2), (3, .int v3_4), (4, .int v4_5)]) hx hb d_M_laySets_57 hl (by decide) rfl (fun ls hl => ?_)
                refine lv_iconst (v := (0 : Int32)) hx hb d_M_laySets_59 (by decide) ?_
                refine lv_istore (lv' := [(6, .int (0 : Int32)), (5, .int tJ7), (0, .ref (ad 63)), (1, .ref (ad q1)), (2, .int x2), (3, .int v3_4), (4, .int v4_5)]) hx hb d_M_laySets_60 hl (by decide) rfl (fun ls hl => ?_)
                obtain ⟨KL8_116, eKL8_116, hf⟩ := jn_some hf
                have hKL8_116 : ∀ (v5_8 : Int32) (v6_8 : Int32) (H : Heap) (locs : List Loc) (ls : Array Slot), va_P D vwCl (wG K ad σL5) H → va_S (GA ad) s.heap H locs → lv_has ls 7 [(0, .ref (ad 63)), (1, .ref (ad q1)), (2, .int x2), (3, .int v3_4), (4, .int v4_5), (5, .int v5_8)] → KL8_116 v5_8 v6_8 = some z0 → W p l e (rmd 1) s m args below meth c H locs 0 0 (MQ below (QV D K ad z0) args s 0 0 (GA ad)) (F0 m 116 ls []) := by
                  clear hf
                  intro v5_8 v6_8 H locs ls hP hS hl hf
                  rw [eKL8_116] at hf
                  try dsimp only at hf
                  refine lv_iload hx hb d_M_laySets_116 (lv_at hl 5 rfl) ?_
                  refine lv_if_eq (tgt := 142) hx hb d_M_laySets_118 (by decide) (fun hc13 => ?_) (fun hc13 => ?_)
                  · rw [if_pos hc13] at hf
                    refine lv_iinc (v := v4_5 + 1) (lv' := [(4, .int (v4_5 + 1)), (0, .ref (ad 63)), (1, .ref (ad q1)), (2, .int x2), (3, .int v3_4), (5, .int v5_8)]) hx hb d_M_laySets_142 hl (k := 4) rfl rfl (by decide) rfl (fun ls hl => ?_)
                    refine lv_goto (tgt := 32) hx hb d_M_laySets_145 (by decide) ?_
                    exact ih _ _ _ _ _ hP hS (lv_sub hl [1, 2, 3, 4, 0] rfl) hf
                  · rw [if_neg hc13] at hf
                    refine lv_aload_n hx hb d_M_laySets_121 rfl (lv_at hl 0 rfl) ?_
                    refine lv_aload_n hx hb d_M_laySets_122 rfl (lv_at hl 0 rfl) ?_
                    refine g_get (v := .ref (ad 81)) hC hP o_63 co_M 22 (by decide) rfl fl_M_66 rfl d_M_laySets_123 ?_
                    refine lv_iload_n hx hb d_M_laySets_126 rfl (lv_at hl 3 rfl) ?_
                    obtain ⟨hg9, hf⟩ := gd_some hf
                    refine g_iald2 (j := v3_4.toNatClampNeg) hC hP a_81 hg9 rfl d_M_laySets_127 ?_
                    refine lv_iconst (v := (1 : Int32)) hx hb d_M_laySets_128 (by decide) ?_
                    refine lv_iload hx hb d_M_laySets_129 (lv_at hl 4 rfl) ?_
                    refine lv_ishl hx hb d_M_laySets_131 ?_
                    refine lv_ior hx hb d_M_laySets_132 ?_
                    refine lv_aload_n hx hb d_M_laySets_133 rfl (lv_at hl 0 rfl) ?_
                    refine g_get (v := .ref (ad 82)) hC hP o_63 co_M 23 (by decide) rfl fl_M_69 rfl d_M_laySets_134 ?_
                    refine lv_iload_n hx hb d_M_laySets_137 rfl (lv_at hl 3 rfl) ?_
                    obtain ⟨hg10, hf⟩ := gd_some hf
                    refine g_lald2 (j := v3_4.toNatClampNeg) hC hP j_82 hg10 rfl d_M_laySets_138 ?_
                    obtain ⟨σ12, hk11, hf⟩ := bv_some hf
                    refine g_callv hS (g_runV (As := [.int ((σL5.1 81 v3_4.toNatClampNeg) ||| ((1 : Int32) <<< (v4_5 &&& 31))), .long (σL5.2 82 v3_4.toNatClampNeg)]) (rest := []) hC hP (c_M_adds hj  hk11) (rk (by decide) (by decide)) nm_M_adds cd_M_adds it_WideTownModel ml_M_229 im_M_adds sl_M_adds o_63 co_M rfl hl.1 rfl (Nat.le_of_ble_eq_true rfl) d_M_laySets_139 zz) (fun H locs hP hS => ?_)
                    refine lv_iinc (v := v4_5 + 1) (lv' := [(4, .int (v4_5 + 1)), (0, .ref (ad 63)), (1, .ref (ad q1)), (2, .int x2), (3, .int v3_4), (5, .int v5_8)]) hx hb d_M_laySets_142 hl (k := 4) rfl rfl (by decide) rfl (fun ls hl => ?_)
                    refine lv_goto (tgt := 32) hx hb d_M_laySets_145 (by decide) ?_
                    exact ih _ _ _ _ _ hP hS (lv_sub hl [1, 2, 3, 4, 0] rfl) hf
                clear eKL8_116
                have hL8 : ∀ (n : Nat) (v5_8 : Int32) (v6_8 : Int32) (H : Heap) (locs : List Loc) (ls : Array Slot), va_P D vwCl (wG K ad σL5) H → va_S (GA ad) s.heap H locs → lv_has ls 7 [(0, .ref (ad 63)), (1, .ref (ad q1)), (2, .int x2), (3, .int v3_4), (4, .int v4_5), (5, .int v5_8), (6, .int v6_8)] → F_M_laySets_62 q1 x2 v3_4 v4_5 σL5 KL8_116 n v5_8 v6_8 = some z0 → W p l e (rmd 1) s m args below meth c H locs 0 0 (MQ below (QV D K ad z0) args s 0 0 (GA ad)) (F0 m 62 ls []) := by
                  clear hf
                  intro n
                  induction n with
                  | zero =>
                    intro v5_8 v6_8 H locs ls hP hS hl hf
                    rw [F_M_laySets_62.eq_1] at hf
                    cases hf
                  | succ n ih =>
                    intro v5_8 v6_8 H locs ls hP hS hl hf
                    rw [F_M_laySets_62.eq_2] at hf
                    refine lv_iload hx hb d_M_laySets_62 (lv_at hl 6 rfl) ?_
                    refine lv_iload hx hb d_M_laySets_64 (lv_at hl 4 rfl) ?_
                    refine lv_icmp_ge (tgt := 116) hx hb d_M_laySets_66 (by decide) (fun hc23 => ?_) (fun hc23 => ?_)
                    · rw [if_pos hc23] at hf
                      exact hKL8_116 _ _ _ _ _ hP hS (lv_sub hl [0, 1, 2, 3, 4, 5] rfl) hf
                    · rw [if_neg hc23] at hf
                      refine lv_iload hx hb d_M_laySets_69 (lv_at hl 5 rfl) ?_
                      refine lv_if_eq (tgt := 107) hx hb d_M_laySets_71 (by decide) (fun hc22 => ?_) (fun hc22 => ?_)
                      · rw [if_pos hc22] at hf
                        refine lv_iconst (v := (0 : Int32)) hx hb d_M_laySets_107 (by decide) ?_
                        refine lv_istore (lv' := [(5, .int (0 : Int32)), (0, .ref (ad 63)), (1, .ref (ad q1)), (2, .int x2), (3, .int v3_4), (4, .int v4_5), (6, .int v6_8)]) hx hb d_M_laySets_108 hl (by decide) rfl (fun ls hl => ?_)
                        refine lv_iinc (v := v6_8 + 1) (lv' := [(6, .int (v6_8 + 1)), (5, .int (0 : Int32)), (0, .ref (ad 63)), (1, .ref (ad q1)), (2, .int x2), (3, .int v3_4), (4, .int v4_5)]) hx hb d_M_laySets_110 hl (k := 6) rfl rfl (by decide) rfl (fun ls hl => ?_)
                        refine lv_goto (tgt := 62) hx hb d_M_laySets_113 (by decide) ?_
                        exact ih _ _ _ _ _ hP hS (lv_sub hl [2, 3, 4, 5, 6, 1, 0] rfl) hf
                      · rw [if_neg hc22] at hf
                        refine lv_aload_n hx hb d_M_laySets_74 rfl (lv_at hl 0 rfl) ?_
                        refine g_get (v := .ref (ad 81)) hC hP o_63 co_M 22 (by decide) rfl fl_M_66 rfl d_M_laySets_75 ?_
                        refine lv_iload_n hx hb d_M_laySets_78 rfl (lv_at hl 3 rfl) ?_
                        obtain ⟨hg14, hf⟩ := gd_some hf
                        refine g_iald2 (j := v3_4.toNatClampNeg) hC hP a_81 hg14 rfl d_M_laySets_79 ?_
                        refine lv_iload hx hb d_M_laySets_80 (lv_at hl 6 rfl) ?_
                        refine lv_ishr hx hb d_M_laySets_82 ?_
                        refine lv_iconst (v := (1 : Int32)) hx hb d_M_laySets_83 (by decide) ?_
                        refine lv_iand hx hb d_M_laySets_84 ?_
                        refine lv_iconst (v := (1 : Int32)) hx hb d_M_laySets_85 (by decide) ?_
                        obtain ⟨J15, eJ15, hf⟩ := jn_some hf
                        have hJ15 : ∀ (dJ15 : Unit) (H : Heap) (locs : List Loc) (ls : Array Slot), va_P D vwCl (wG K ad σL5) H → va_S (GA ad) s.heap H locs → lv_has ls 7 [(0, .ref (ad 63)), (1, .ref (ad q1)), (2, .int x2), (3, .int v3_4), (4, .int v4_5), (6, .int v6_8)] → J15 dJ15 = some z0 → W p l e (rmd 1) s m args below meth c H locs 0 0 (MQ below (QV D K ad z0) args s 0 0 (GA ad)) (F0 m 103 ls []) := by
                          clear hf
                          intro dJ15 H locs ls hP hS hl hf
                          rw [eJ15] at hf
                          try dsimp only at hf
                          refine lv_iconst (v := (1 : Int32)) hx hb d_M_laySets_103 (by decide) ?_
                          refine lv_goto (tgt := 108) hx hb d_M_laySets_104 (by decide) ?_
                          refine lv_istore (lv' := [(5, .int (1 : Int32)), (0, .ref (ad 63)), (1, .ref (ad q1)), (2, .int x2), (3, .int v3_4), (4, .int v4_5), (6, .int v6_8)]) hx hb d_M_laySets_108 hl (by decide) rfl (fun ls hl => ?_)
                          refine lv_iinc (v := v6_8 + 1) (lv' := [(6, .int (v6_8 + 1)), (5, .int (1 : Int32)), (0, .ref (ad 63)), (1, .ref (ad q1)), (2, .int x2), (3, .int v3_4), (4, .int v4_5)]) hx hb d_M_laySets_110 hl (k := 6) rfl rfl (by decide) rfl (fun ls hl => ?_)
                          refine lv_goto (tgt := 62) hx hb d_M_laySets_113 (by decide) ?_
                          exact ih _ _ _ _ _ hP hS (lv_sub hl [2, 3, 4, 5, 6, 1, 0] rfl) hf
                        clear eJ15
                        refine lv_icmp_eq (tgt := 103) hx hb d_M_laySets_86 (by decide) (fun hc21 => ?_) (fun hc21 => ?_)
                        · rw [if_pos hc21] at hf
                          exact hJ15 _ _ _ _ hP hS (lv_sub hl [0, 1, 2, 3, 4, 6] rfl) hf
                        · rw [if_neg hc21] at hf
                          refine lv_aload_n hx hb d_M_laySets_89 rfl (lv_at hl 1 rfl) ?_
                          refine lv_iload hx hb d_M_laySets_90 (lv_at hl 6 rfl) ?_
                          obtain ⟨hg16, hf⟩ := gd_some hf
                          refine g_iald2 (j := v6_8.toNatClampNeg) hC hP h_q1 hg16 rfl d_M_laySets_92 ?_
                          refine lv_aload_n hx hb d_M_laySets_93 rfl (lv_at hl 1 rfl) ?_
                          refine lv_iload hx hb d_M_laySets_94 (lv_at hl 4 rfl) ?_
                          obtain ⟨hg17, hf⟩ := gd_some hf
                          refine g_iald2 (j := v4_5.toNatClampNeg) hC hP h_q1 hg17 rfl d_M_laySets_96 ?_
                          obtain ⟨r19, hk18, hf⟩ := bp_some hf
                          refine g_calli hS (g_runS (As := [.int (σL5.1 q1 v6_8.toNatClampNeg), .int (σL5.1 q1 v4_5.toNatClampNeg)]) (rest := []) hC hP (c_M_areNeighbours hj  hk18) (rk (by decide) (by decide)) nm_M_areNeighbours cd_M_areNeighbours it_WideTownModel ml_M_148 sc_M_areNeighbours rfl hl.1 rfl (Nat.le_of_ble_eq_true rfl) d_M_laySets_97 zz) (fun H locs hP hS => ?_)
                          refine lv_if_eq (tgt := 107) hx hb d_M_laySets_100 (by decide) (fun hc20 => ?_) (fun hc20 => ?_)
                          · rw [if_pos hc20] at hf
                            refine lv_iconst (v := (0 : Int32)) hx hb d_M_laySets_107 (by decide) ?_
                            refine lv_istore (lv' := [(5, .int (0 : Int32)), (0, .ref (ad 63)), (1, .ref (ad q1)), (2, .int x2), (3, .int v3_4), (4, .int v4_5), (6, .int v6_8)]) hx hb d_M_laySets_108 hl (by decide) rfl (fun ls hl => ?_)
                            refine lv_iinc (v := v6_8 + 1) (lv' := [(6, .int (v6_8 + 1)), (5, .int (0 : Int32)), (0, .ref (ad 63)), (1, .ref (ad q1)), (2, .int x2), (3, .int v3_4), (4, .int v4_5)]) hx hb d_M_laySets_110 hl (k := 6) rfl rfl (by decide) rfl (fun ls hl => ?_)
                            refine lv_goto (tgt := 62) hx hb d_M_laySets_113 (by decide) ?_
                            exact ih _ _ _ _ _ hP hS (lv_sub hl [2, 3, 4, 5, 6, 1, 0] rfl) hf
                          · rw [if_neg hc20] at hf
                            exact hJ15 _ _ _ _ hP hS (lv_sub hl [0, 1, 2, 3, 4, 6] rfl) hf
                exact hL8 _ _ _ _ _ _ hP hS (lv_sub hl [2, 3, 4, 5, 6, 1, 0] rfl) hf
              clear eJ7
              refine lv_if_ne (tgt := 56) hx hb d_M_laySets_49 (by decide) (fun hc24 => ?_) (fun hc24 => ?_)
              · rw [if_neg hc24] at hf
                refine lv_iconst (v := (0 : Int32)) hx hb d_M_laySets_56 (by decide) ?_
                exact hJ7 _ _ _ _ hP hS (lv_sub hl [0, 1, 2, 3, 4] rfl) hf
              · rw [if_pos hc24] at hf
                refine lv_iconst (v := (1 : Int32)) hx hb d_M_laySets_52 (by decide) ?_
                refine lv_goto (tgt := 57) hx hb d_M_laySets_53 (by decide) ?_
                exact hJ7 _ _ _ _ hP hS (lv_sub hl [0, 1, 2, 3, 4] rfl) hf
        exact hL5 _ _ _ _ _ _ hP hS (lv_sub hl [1, 2, 3, 4, 0] rfl) hf
  exact hL4 _ _ _ _ _ _ hP hS (lv_sub hl [1, 2, 3, 0] rfl) hf
set_option maxHeartbeats 4000000 in
set_option maxRecDepth 100000 in
theorem c_M_ways {l : Launch} {D : va_G} {K : Nat → ClassId} {ad : Nat → Nat} (hj : inj ad)   {x1 : Int32} {x2 : Int32} {σ : GS} {z0 : Int32 × GS} (hf : F_M_ways x1 x2 σ = some z0) : CT l D K ad y_M_ways b_M_ways 3 (some .int) 5 [.ref (ad 63), .int x1, .int x2] σ (QI D K ad z0.1 z0.2) := by
  refine CT.intro hj (by decide) (Nat.le_of_ble_eq_true rfl) ?_
  intro p e s m args below meth c ls hC hP hS hl
  obtain ⟨hx, hb, -, hown, hts, -⟩ := id hC
  have hl : lv_has ls 3 [(0, .ref (ad 63)), (1, .int x1), (2, .int x2)] := hl
  rw [F_M_ways] at hf
  refine lv_iload_n hx hb d_M_ways_0 rfl (lv_at hl 1 rfl) ?_
  refine lv_iload_n hx hb d_M_ways_1 rfl (lv_at hl 2 rfl) ?_
  obtain ⟨r2, hk1, hf⟩ := bp_some hf
  refine g_calli hS (g_runS (As := [.int x1, .int x2]) (rest := []) hC hP (c_M_areCodes hj  hk1) (rk (by decide) (by decide)) nm_M_areCodes cd_M_areCodes it_WideTownModel ml_M_223 sc_M_areCodes rfl hl.1 rfl (Nat.le_of_ble_eq_true rfl) d_M_ways_2 zz) (fun H locs hP hS => ?_)
  refine lv_if_ne (tgt := 10) hx hb d_M_ways_5 (by decide) (fun hc12 => ?_) (fun hc12 => ?_)
  · rw [if_neg hc12] at hf
    refine lv_aload_n hx hb d_M_ways_10 rfl (lv_at hl 0 rfl) ?_
    refine lv_aload_n hx hb d_M_ways_11 rfl (lv_at hl 0 rfl) ?_
    refine g_get (v := .ref (ad 75)) hC hP o_63 co_M 16 (by decide) rfl fl_M_48 rfl d_M_ways_12 ?_
    refine lv_aload_n hx hb d_M_ways_15 rfl (lv_at hl 0 rfl) ?_
    refine lv_iload_n hx hb d_M_ways_16 rfl (lv_at hl 1 rfl) ?_
    refine lv_iload_n hx hb d_M_ways_17 rfl (lv_at hl 2 rfl) ?_
    obtain ⟨r4, σ5, hk3, hf⟩ := bc_some hf
    refine g_calli hS (g_runV (As := [.int x1, .int x2]) (rest := [.ref (ad 75), .ref (ad 63)]) hC hP (c_M_farOf hj  hk3) (rk (by decide) (by decide)) nm_M_farOf cd_M_farOf it_WideTownModel ml_M_204 im_M_farOf sl_M_farOf o_63 co_M rfl hl.1 rfl (Nat.le_of_ble_eq_true rfl) d_M_ways_18 zz) (fun H locs hP hS => ?_)
    obtain ⟨σ7, hk6, hf⟩ := bv_some hf
    refine g_callv hS (g_runV (As := [.ref (ad 75), .int r4]) (rest := []) hC hP (c_M_laySets hj a_75 hk6) (rk (by decide) (by decide)) nm_M_laySets cd_M_laySets it_WideTownModel ml_M_233 im_M_laySets sl_M_laySets o_63 co_M rfl hl.1 rfl (Nat.le_of_ble_eq_true rfl) d_M_ways_21 zz) (fun H locs hP hS => ?_)
    refine lv_aload_n hx hb d_M_ways_24 rfl (lv_at hl 0 rfl) ?_
    refine lv_aload_n hx hb d_M_ways_25 rfl (lv_at hl 0 rfl) ?_
    refine g_get (v := .ref (ad 82)) hC hP o_63 co_M 23 (by decide) rfl fl_M_69 rfl d_M_ways_26 ?_
    refine lv_aload_n hx hb d_M_ways_29 rfl (lv_at hl 0 rfl) ?_
    refine g_get (v := .int (σ7.1 63 24)) hC hP o_63 co_M 24 (by decide) rfl fl_M_226 rfl d_M_ways_30 ?_
    refine lv_iconst (v := (1 : Int32)) hx hb d_M_ways_33 (by decide) ?_
    refine lv_isub hx hb d_M_ways_34 ?_
    obtain ⟨hg8, hf⟩ := gd_some hf
    refine g_lald2 (j := ((σ7.1 63 24) - (1 : Int32)).toNatClampNeg) hC hP j_82 hg8 rfl d_M_ways_35 ?_
    refine lv_lconst (v := (1 : Int64)) hx hb d_M_ways_36 (by decide) ?_
    obtain ⟨r10, σ11, hk9, hf⟩ := bc_some hf
    refine g_calli hS (g_runV (As := [.long (σ7.2 82 ((σ7.1 63 24) - (1 : Int32)).toNatClampNeg), .long (1 : Int64)]) (rest := []) hC hP (c_M_tells hj  hk9) (rk (by decide) (by decide)) nm_M_tells cd_M_tells it_WideTownModel ml_M_236 im_M_tells sl_M_tells o_63 co_M rfl hl.1 rfl (Nat.le_of_ble_eq_true rfl) d_M_ways_37 zz) (fun H locs hP hS => ?_)
    cases hf
    exact g_iret hC rfl hP hS d_M_ways_40
  · rw [if_pos hc12] at hf
    refine lv_iconst (v := (-1 : Int32)) hx hb d_M_ways_8 (by decide) ?_
    cases hf
    exact g_iret hC rfl hP hS d_M_ways_9
set_option maxHeartbeats 4000000 in
set_option maxRecDepth 100000 in
theorem c_M_between {l : Launch} {D : va_G} {K : Nat → ClassId} {ad : Nat → Nat} (hj : inj ad)   {x1 : Int32} {x2 : Int32} {σ : GS} {z0 : Int32 × GS} (hf : F_M_between x1 x2 σ = some z0) : CT l D K ad y_M_between b_M_between 3 (some .int) 5 [.ref (ad 63), .int x1, .int x2] σ (QI D K ad z0.1 z0.2) := by
  refine CT.intro hj (by decide) (Nat.le_of_ble_eq_true rfl) ?_
  intro p e s m args below meth c ls hC hP hS hl
  obtain ⟨hx, hb, -, hown, hts, -⟩ := id hC
  have hl : lv_has ls 3 [(0, .ref (ad 63)), (1, .int x1), (2, .int x2)] := hl
  rw [F_M_between] at hf
  refine lv_iload_n hx hb d_M_between_0 rfl (lv_at hl 1 rfl) ?_
  refine lv_iload_n hx hb d_M_between_1 rfl (lv_at hl 2 rfl) ?_
  obtain ⟨r2, hk1, hf⟩ := bp_some hf
  refine g_calli hS (g_runS (As := [.int x1, .int x2]) (rest := []) hC hP (c_M_areCodes hj  hk1) (rk (by decide) (by decide)) nm_M_areCodes cd_M_areCodes it_WideTownModel ml_M_223 sc_M_areCodes rfl hl.1 rfl (Nat.le_of_ble_eq_true rfl) d_M_between_2 zz) (fun H locs hP hS => ?_)
  refine lv_if_ne (tgt := 10) hx hb d_M_between_5 (by decide) (fun hc8 => ?_) (fun hc8 => ?_)
  · rw [if_neg hc8] at hf
    refine lv_aload_n hx hb d_M_between_10 rfl (lv_at hl 0 rfl) ?_
    refine lv_aload_n hx hb d_M_between_11 rfl (lv_at hl 0 rfl) ?_
    refine g_get (v := .ref (ad 75)) hC hP o_63 co_M 16 (by decide) rfl fl_M_48 rfl d_M_between_12 ?_
    refine lv_aload_n hx hb d_M_between_15 rfl (lv_at hl 0 rfl) ?_
    refine lv_iload_n hx hb d_M_between_16 rfl (lv_at hl 1 rfl) ?_
    refine lv_iload_n hx hb d_M_between_17 rfl (lv_at hl 2 rfl) ?_
    obtain ⟨r4, σ5, hk3, hf⟩ := bc_some hf
    refine g_calli hS (g_runV (As := [.int x1, .int x2]) (rest := [.ref (ad 75), .ref (ad 63)]) hC hP (c_M_farOf hj  hk3) (rk (by decide) (by decide)) nm_M_farOf cd_M_farOf it_WideTownModel ml_M_204 im_M_farOf sl_M_farOf o_63 co_M rfl hl.1 rfl (Nat.le_of_ble_eq_true rfl) d_M_between_18 zz) (fun H locs hP hS => ?_)
    obtain ⟨σ7, hk6, hf⟩ := bv_some hf
    refine g_callv hS (g_runV (As := [.ref (ad 75), .int r4]) (rest := []) hC hP (c_M_laySets hj a_75 hk6) (rk (by decide) (by decide)) nm_M_laySets cd_M_laySets it_WideTownModel ml_M_233 im_M_laySets sl_M_laySets o_63 co_M rfl hl.1 rfl (Nat.le_of_ble_eq_true rfl) d_M_between_21 zz) (fun H locs hP hS => ?_)
    refine lv_aload_n hx hb d_M_between_24 rfl (lv_at hl 0 rfl) ?_
    refine g_get (v := .int (σ7.1 63 24)) hC hP o_63 co_M 24 (by decide) rfl fl_M_226 rfl d_M_between_25 ?_
    cases hf
    exact g_iret hC rfl hP hS d_M_between_28
  · rw [if_pos hc8] at hf
    refine lv_iconst (v := (-1 : Int32)) hx hb d_M_between_8 (by decide) ?_
    cases hf
    exact g_iret hC rfl hP hS d_M_between_9
set_option maxHeartbeats 4000000 in
set_option maxRecDepth 100000 in
theorem c_M_lies {l : Launch} {D : va_G} {K : Nat → ClassId} {ad : Nat → Nat} (hj : inj ad)   {x1 : Int32} {x2 : Int32} {x3 : Int32} {σ : GS} {z0 : Int32 × GS} (hf : F_M_lies x1 x2 x3 σ = some z0) : CT l D K ad y_M_lies b_M_lies 4 (some .int) 5 [.ref (ad 63), .int x1, .int x2, .int x3] σ (QI D K ad z0.1 z0.2) := by
  refine CT.intro hj (by decide) (Nat.le_of_ble_eq_true rfl) ?_
  intro p e s m args below meth c ls hC hP hS hl
  obtain ⟨hx, hb, -, hown, hts, -⟩ := id hC
  have hl : lv_has ls 4 [(0, .ref (ad 63)), (1, .int x1), (2, .int x2), (3, .int x3)] := hl
  rw [F_M_lies] at hf
  refine lv_iload_n hx hb d_M_lies_0 rfl (lv_at hl 1 rfl) ?_
  refine lv_iload_n hx hb d_M_lies_1 rfl (lv_at hl 2 rfl) ?_
  obtain ⟨r2, hk1, hf⟩ := bp_some hf
  refine g_calli hS (g_runS (As := [.int x1, .int x2]) (rest := []) hC hP (c_M_areCodes hj  hk1) (rk (by decide) (by decide)) nm_M_areCodes cd_M_areCodes it_WideTownModel ml_M_223 sc_M_areCodes rfl hl.1 rfl (Nat.le_of_ble_eq_true rfl) d_M_lies_2 zz) (fun H locs hP hS => ?_)
  refine lv_if_eq (tgt := 15) hx hb d_M_lies_5 (by decide) (fun hc16 => ?_) (fun hc16 => ?_)
  · rw [if_pos hc16] at hf
    refine lv_iconst (v := (-1 : Int32)) hx hb d_M_lies_15 (by decide) ?_
    cases hf
    exact g_iret hC rfl hP hS d_M_lies_16
  · rw [if_neg hc16] at hf
    refine lv_iload_n hx hb d_M_lies_8 rfl (lv_at hl 3 rfl) ?_
    obtain ⟨r4, hk3, hf⟩ := bp_some hf
    refine g_calli hS (g_runS (As := [.int x3]) (rest := []) hC hP (c_M_isCode hj  hk3) (rk (by decide) (by decide)) nm_M_isCode cd_M_isCode it_WideTownModel ml_M_213 sc_M_isCode rfl hl.1 rfl (Nat.le_of_ble_eq_true rfl) d_M_lies_9 zz) (fun H locs hP hS => ?_)
    refine lv_if_ne (tgt := 17) hx hb d_M_lies_12 (by decide) (fun hc15 => ?_) (fun hc15 => ?_)
    · rw [if_neg hc15] at hf
      refine lv_aload_n hx hb d_M_lies_17 rfl (lv_at hl 0 rfl) ?_
      refine lv_iload_n hx hb d_M_lies_18 rfl (lv_at hl 1 rfl) ?_
      refine lv_iload_n hx hb d_M_lies_19 rfl (lv_at hl 3 rfl) ?_
      obtain ⟨r6, σ7, hk5, hf⟩ := bc_some hf
      refine g_calli hS (g_runV (As := [.int x1, .int x3]) (rest := []) hC hP (c_M_farOf hj  hk5) (rk (by decide) (by decide)) nm_M_farOf cd_M_farOf it_WideTownModel ml_M_204 im_M_farOf sl_M_farOf o_63 co_M rfl hl.1 rfl (Nat.le_of_ble_eq_true rfl) d_M_lies_20 zz) (fun H locs hP hS => ?_)
      refine lv_aload_n hx hb d_M_lies_23 rfl (lv_at hl 0 rfl) ?_
      refine lv_iload_n hx hb d_M_lies_24 rfl (lv_at hl 3 rfl) ?_
      refine lv_iload_n hx hb d_M_lies_25 rfl (lv_at hl 2 rfl) ?_
      obtain ⟨r9, σ10, hk8, hf⟩ := bc_some hf
      refine g_calli hS (g_runV (As := [.int x3, .int x2]) (rest := [.int r6]) hC hP (c_M_farOf hj  hk8) (rk (by decide) (by decide)) nm_M_farOf cd_M_farOf it_WideTownModel ml_M_204 im_M_farOf sl_M_farOf o_63 co_M rfl hl.1 rfl (Nat.le_of_ble_eq_true rfl) d_M_lies_26 zz) (fun H locs hP hS => ?_)
      refine lv_iadd hx hb d_M_lies_29 ?_
      refine lv_aload_n hx hb d_M_lies_30 rfl (lv_at hl 0 rfl) ?_
      refine lv_iload_n hx hb d_M_lies_31 rfl (lv_at hl 1 rfl) ?_
      refine lv_iload_n hx hb d_M_lies_32 rfl (lv_at hl 2 rfl) ?_
      obtain ⟨r12, σ13, hk11, hf⟩ := bc_some hf
      refine g_calli hS (g_runV (As := [.int x1, .int x2]) (rest := [.int (r6 + r9)]) hC hP (c_M_farOf hj  hk11) (rk (by decide) (by decide)) nm_M_farOf cd_M_farOf it_WideTownModel ml_M_204 im_M_farOf sl_M_farOf o_63 co_M rfl hl.1 rfl (Nat.le_of_ble_eq_true rfl) d_M_lies_33 zz) (fun H locs hP hS => ?_)
      refine lv_icmp_ne (tgt := 43) hx hb d_M_lies_36 (by decide) (fun hc14 => ?_) (fun hc14 => ?_)
      · rw [if_neg hc14] at hf
        refine lv_iconst (v := (0 : Int32)) hx hb d_M_lies_43 (by decide) ?_
        cases hf
        exact g_iret hC rfl hP hS d_M_lies_44
      · rw [if_pos hc14] at hf
        refine lv_iconst (v := (1 : Int32)) hx hb d_M_lies_39 (by decide) ?_
        refine lv_goto (tgt := 44) hx hb d_M_lies_40 (by decide) ?_
        cases hf
        exact g_iret hC rfl hP hS d_M_lies_44
    · rw [if_pos hc15] at hf
      refine lv_iconst (v := (-1 : Int32)) hx hb d_M_lies_15 (by decide) ?_
      cases hf
      exact g_iret hC rfl hP hS d_M_lies_16
set_option maxHeartbeats 4000000 in
set_option maxRecDepth 100000 in
theorem c_M_path {l : Launch} {D : va_G} {K : Nat → ClassId} {ad : Nat → Nat} (hj : inj ad)   {x1 : Int32} {x2 : Int32} {x3 : Int32} {σ : GS} {z0 : Int32 × GS} (hf : F_M_path x1 x2 x3 σ = some z0) : CT l D K ad y_M_path b_M_path 7 (some .int) 5 [.ref (ad 63), .int x1, .int x2, .int x3] σ (QI D K ad z0.1 z0.2) := by
  refine CT.intro hj (by decide) (Nat.le_of_ble_eq_true rfl) ?_
  intro p e s m args below meth c ls hC hP hS hl
  obtain ⟨hx, hb, -, hown, hts, -⟩ := id hC
  have hl : lv_has ls 7 [(0, .ref (ad 63)), (1, .int x1), (2, .int x2), (3, .int x3)] := hl
  rw [F_M_path] at hf
  refine lv_iload_n hx hb d_M_path_0 rfl (lv_at hl 1 rfl) ?_
  refine lv_iload_n hx hb d_M_path_1 rfl (lv_at hl 2 rfl) ?_
  obtain ⟨r2, hk1, hf⟩ := bp_some hf
  refine g_calli hS (g_runS (As := [.int x1, .int x2]) (rest := []) hC hP (c_M_areCodes hj  hk1) (rk (by decide) (by decide)) nm_M_areCodes cd_M_areCodes it_WideTownModel ml_M_223 sc_M_areCodes rfl hl.1 rfl (Nat.le_of_ble_eq_true rfl) d_M_path_2 zz) (fun H locs hP hS => ?_)
  refine lv_if_eq (tgt := 15) hx hb d_M_path_5 (by decide) (fun hc19 => ?_) (fun hc19 => ?_)
  · rw [if_pos hc19] at hf
    refine lv_iconst (v := (-1 : Int32)) hx hb d_M_path_15 (by decide) ?_
    cases hf
    exact g_iret hC rfl hP hS d_M_path_16
  · rw [if_neg hc19] at hf
    refine lv_iload_n hx hb d_M_path_8 rfl (lv_at hl 3 rfl) ?_
    obtain ⟨r4, hk3, hf⟩ := bp_some hf
    refine g_calli hS (g_runS (As := [.int x3]) (rest := []) hC hP (c_M_isRow hj  hk3) (rk (by decide) (by decide)) nm_M_isRow cd_M_isRow it_WideTownModel ml_M_106 sc_M_isRow rfl hl.1 rfl (Nat.le_of_ble_eq_true rfl) d_M_path_9 zz) (fun H locs hP hS => ?_)
    refine lv_if_ne (tgt := 17) hx hb d_M_path_12 (by decide) (fun hc18 => ?_) (fun hc18 => ?_)
    · rw [if_neg hc18] at hf
      refine lv_aload_n hx hb d_M_path_17 rfl (lv_at hl 0 rfl) ?_
      refine lv_iload_n hx hb d_M_path_18 rfl (lv_at hl 1 rfl) ?_
      refine lv_iload_n hx hb d_M_path_19 rfl (lv_at hl 2 rfl) ?_
      obtain ⟨r6, σ7, hk5, hf⟩ := bc_some hf
      refine g_calli hS (g_runV (As := [.int x1, .int x2]) (rest := []) hC hP (c_M_farOf hj  hk5) (rk (by decide) (by decide)) nm_M_farOf cd_M_farOf it_WideTownModel ml_M_204 im_M_farOf sl_M_farOf o_63 co_M rfl hl.1 rfl (Nat.le_of_ble_eq_true rfl) d_M_path_20 zz) (fun H locs hP hS => ?_)
      refine lv_istore (lv' := [(4, .int r6), (0, .ref (ad 63)), (1, .int x1), (2, .int x2), (3, .int x3)]) hx hb d_M_path_23 hl (by decide) rfl (fun ls hl => ?_)
      refine lv_aload_n hx hb d_M_path_25 rfl (lv_at hl 1 rfl) ?_
      refine lv_aload_n hx hb d_M_path_26 rfl (lv_at hl 1 rfl) ?_
      refine g_get (v := .ref (ad 75)) hC hP o_63 co_M 16 (by decide) rfl fl_M_48 rfl d_M_path_27 ?_
      refine lv_iload hx hb d_M_path_30 (lv_at hl 0 rfl) ?_
      refine lv_aload_n hx hb d_M_path_32 rfl (lv_at hl 1 rfl) ?_
      refine g_get (v := .ref (ad 79)) hC hP o_63 co_M 20 (by decide) rfl fl_M_60 rfl d_M_path_33 ?_
      obtain ⟨σ9, hk8, hf⟩ := bv_some hf
      refine g_callv hS (g_runV (As := [.ref (ad 75), .int r6, .ref (ad 79)]) (rest := []) hC hP (c_M_layPlain hj a_75 a_79 hk8) (rk (by decide) (by decide)) nm_M_layPlain cd_M_layPlain it_WideTownModel ml_M_156 im_M_layPlain sl_M_layPlain o_63 co_M rfl hl.1 rfl (Nat.le_of_ble_eq_true rfl) d_M_path_36 zz) (fun H locs hP hS => ?_)
      refine lv_aload_n hx hb d_M_path_39 rfl (lv_at hl 1 rfl) ?_
      refine lv_iload_n hx hb d_M_path_40 rfl (lv_at hl 4 rfl) ?_
      refine lv_iload hx hb d_M_path_41 (lv_at hl 0 rfl) ?_
      obtain ⟨r11, σ12, hk10, hf⟩ := bc_some hf
      refine g_calli hS (g_runV (As := [.int x3, .int r6]) (rest := []) hC hP (c_M_row hj  hk10) (rk (by decide) (by decide)) nm_M_row cd_M_row it_WideTownModel ml_M_240 im_M_row sl_M_row o_63 co_M rfl hl.1 rfl (Nat.le_of_ble_eq_true rfl) d_M_path_43 zz) (fun H locs hP hS => ?_)
      refine lv_istore (lv' := [(5, .int r11), (4, .int r6), (0, .ref (ad 63)), (1, .int x1), (2, .int x2), (3, .int x3)]) hx hb d_M_path_46 hl (by decide) rfl (fun ls hl => ?_)
      refine lv_iconst (v := (0 : Int32)) hx hb d_M_path_48 (by decide) ?_
      refine lv_istore (lv' := [(6, .int (0 : Int32)), (5, .int r11), (4, .int r6), (0, .ref (ad 63)), (1, .int x1), (2, .int x2), (3, .int x3)]) hx hb d_M_path_49 hl (by decide) rfl (fun ls hl => ?_)
      obtain ⟨KL13_83, eKL13_83, hf⟩ := jn_some hf
      have hKL13_83 : ∀ (v6_13 : Int32) (σL13 : GS) (H : Heap) (locs : List Loc) (ls : Array Slot), va_P D vwCl (wG K ad σL13) H → va_S (GA ad) s.heap H locs → lv_has ls 7 [(5, .int r11)] → KL13_83 v6_13 σL13 = some z0 → W p l e (rmd 5) s m args below meth c H locs 0 0 (MQ below (QI D K ad z0.1 z0.2) args s 0 0 (GA ad)) (F0 m 83 ls []) := by
        clear hf
        intro v6_13 σL13 H locs ls hP hS hl hf
        rw [eKL13_83] at hf
        try dsimp only at hf
        refine lv_iload hx hb d_M_path_83 (lv_at hl 0 rfl) ?_
        cases hf
        exact g_iret hC rfl hP hS d_M_path_85
      clear eKL13_83
      have hL13 : ∀ (n : Nat) (v6_13 : Int32) (σL13 : GS) (H : Heap) (locs : List Loc) (ls : Array Slot), va_P D vwCl (wG K ad σL13) H → va_S (GA ad) s.heap H locs → lv_has ls 7 [(0, .ref (ad 63)), (3, .int x3), (4, .int r6), (5, .int r11), (6, .int v6_13)] → F_M_path_51 x3 r6 r11 KL13_83 n v6_13 σL13 = some z0 → W p l e (rmd 5) s m args below meth c H locs 0 0 (MQ below (QI D K ad z0.1 z0.2) args s 0 0 (GA ad)) (F0 m 51 ls []) := by
        clear hf
        intro n
        induction n with
        | zero =>
          intro v6_13 σL13 H locs ls hP hS hl hf
          rw [F_M_path_51.eq_1] at hf
          cases hf
        | succ n ih =>
          intro v6_13 σL13 H locs ls hP hS hl hf
          rw [F_M_path_51.eq_2] at hf
          refine lv_iload hx hb d_M_path_51 (lv_at hl 4 rfl) ?_
          refine lv_iload hx hb d_M_path_53 (lv_at hl 2 rfl) ?_
          refine lv_icmp_ge (tgt := 83) hx hb d_M_path_55 (by decide) (fun hc17 => ?_) (fun hc17 => ?_)
          · rw [if_pos hc17] at hf
            exact hKL13_83 _ _ _ _ _ hP hS (lv_sub hl [3] rfl) hf
          · rw [if_neg hc17] at hf
            refine lv_aload_n hx hb d_M_path_58 rfl (lv_at hl 0 rfl) ?_
            refine g_get (v := .ref (ad 65)) hC hP o_63 co_M 1 (by decide) rfl fl_M_13 rfl d_M_path_59 ?_
            refine lv_bipush (v := (40 : Int32)) hx hb d_M_path_62 (by decide) ?_
            refine lv_iload_n hx hb d_M_path_64 rfl (lv_at hl 1 rfl) ?_
            refine lv_imul hx hb d_M_path_65 ?_
            refine lv_iload hx hb d_M_path_66 (lv_at hl 4 rfl) ?_
            refine lv_iadd hx hb d_M_path_68 ?_
            refine lv_aload_n hx hb d_M_path_69 rfl (lv_at hl 0 rfl) ?_
            refine g_get (v := .ref (ad 79)) hC hP o_63 co_M 20 (by decide) rfl fl_M_60 rfl d_M_path_70 ?_
            refine lv_iload hx hb d_M_path_73 (lv_at hl 4 rfl) ?_
            obtain ⟨hg14, hf⟩ := gd_some hf
            refine g_iald2 (j := v6_13.toNatClampNeg) hC hP a_79 hg14 rfl d_M_path_75 ?_
            obtain ⟨hg15, hf⟩ := gd_some hf
            obtain ⟨σ16, eσ16, hf⟩ := jn_some hf
            refine g_iast2 (j := (((40 : Int32) * x3) + v6_13).toNatClampNeg) hC hP hS a_65 hg15 rfl d_M_path_76 (fun H locs hP hS => ?_)
            rw [← eσ16] at hP
            refine lv_iinc (v := v6_13 + 1) (lv' := [(6, .int (v6_13 + 1)), (0, .ref (ad 63)), (3, .int x3), (4, .int r6), (5, .int r11)]) hx hb d_M_path_77 hl (k := 4) rfl rfl (by decide) rfl (fun ls hl => ?_)
            refine lv_goto (tgt := 51) hx hb d_M_path_80 (by decide) ?_
            exact ih _ _ _ _ _ hP hS (lv_sub hl [1, 2, 3, 4, 0] rfl) hf
      exact hL13 _ _ _ _ _ _ hP hS (lv_sub hl [3, 6, 2, 1, 0] rfl) hf
    · rw [if_pos hc18] at hf
      refine lv_iconst (v := (-1 : Int32)) hx hb d_M_path_15 (by decide) ?_
      cases hf
      exact g_iret hC rfl hP hS d_M_path_16
set_option maxHeartbeats 4000000 in
set_option maxRecDepth 100000 in
theorem c_M_nearest {l : Launch} {D : va_G} {K : Nat → ClassId} {ad : Nat → Nat} (hj : inj ad)   {x1 : Int32} {x2 : Int32} {x3 : Int32} {x4 : Int32} {σ : GS} {z0 : Int32 × GS} (hf : F_M_nearest x1 x2 x3 x4 σ = some z0) : CT l D K ad y_M_nearest b_M_nearest 10 (some .int) 5 [.ref (ad 63), .int x1, .int x2, .int x3, .int x4] σ (QI D K ad z0.1 z0.2) := by
  refine CT.intro hj (by decide) (Nat.le_of_ble_eq_true rfl) ?_
  intro p e s m args below meth c ls hC hP hS hl
  obtain ⟨hx, hb, -, hown, hts, -⟩ := id hC
  have hl : lv_has ls 10 [(0, .ref (ad 63)), (1, .int x1), (2, .int x2), (3, .int x3), (4, .int x4)] := hl
  rw [F_M_nearest] at hf
  refine lv_bipush (v := (99 : Int32)) hx hb d_M_nearest_0 (by decide) ?_
  refine lv_istore (lv' := [(5, .int (99 : Int32)), (0, .ref (ad 63)), (1, .int x1), (2, .int x2), (3, .int x3), (4, .int x4)]) hx hb d_M_nearest_2 hl (by decide) rfl (fun ls hl => ?_)
  refine lv_aload_n hx hb d_M_nearest_4 rfl (lv_at hl 1 rfl) ?_
  refine lv_iload_n hx hb d_M_nearest_5 rfl (lv_at hl 4 rfl) ?_
  refine lv_iload hx hb d_M_nearest_6 (lv_at hl 5 rfl) ?_
  obtain ⟨r2, σ3, hk1, hf⟩ := bc_some hf
  refine g_calli hS (g_runV (As := [.int x3, .int x4]) (rest := []) hC hP (c_M_farOf hj  hk1) (rk (by decide) (by decide)) nm_M_farOf cd_M_farOf it_WideTownModel ml_M_204 im_M_farOf sl_M_farOf o_63 co_M rfl hl.1 rfl (Nat.le_of_ble_eq_true rfl) d_M_nearest_8 zz) (fun H locs hP hS => ?_)
  refine lv_istore (lv' := [(6, .int r2), (5, .int (99 : Int32)), (0, .ref (ad 63)), (1, .int x1), (2, .int x2), (3, .int x3), (4, .int x4)]) hx hb d_M_nearest_11 hl (by decide) rfl (fun ls hl => ?_)
  refine lv_aload_n hx hb d_M_nearest_13 rfl (lv_at hl 2 rfl) ?_
  refine lv_aload_n hx hb d_M_nearest_14 rfl (lv_at hl 2 rfl) ?_
  refine g_get (v := .ref (ad 75)) hC hP o_63 co_M 16 (by decide) rfl fl_M_48 rfl d_M_nearest_15 ?_
  refine lv_iload hx hb d_M_nearest_18 (lv_at hl 0 rfl) ?_
  refine lv_aload_n hx hb d_M_nearest_20 rfl (lv_at hl 2 rfl) ?_
  refine g_get (v := .ref (ad 83)) hC hP o_63 co_M 25 (by decide) rfl fl_M_73 rfl d_M_nearest_21 ?_
  obtain ⟨σ5, hk4, hf⟩ := bv_some hf
  refine g_callv hS (g_runV (As := [.ref (ad 75), .int r2, .ref (ad 83)]) (rest := []) hC hP (c_M_layPlain hj a_75 a_83 hk4) (rk (by decide) (by decide)) nm_M_layPlain cd_M_layPlain it_WideTownModel ml_M_156 im_M_layPlain sl_M_layPlain o_63 co_M rfl hl.1 rfl (Nat.le_of_ble_eq_true rfl) d_M_nearest_24 zz) (fun H locs hP hS => ?_)
  refine lv_iconst (v := (0 : Int32)) hx hb d_M_nearest_27 (by decide) ?_
  refine lv_istore (lv' := [(7, .int (0 : Int32)), (6, .int r2), (5, .int (99 : Int32)), (0, .ref (ad 63)), (1, .int x1), (2, .int x2), (3, .int x3), (4, .int x4)]) hx hb d_M_nearest_28 hl (by decide) rfl (fun ls hl => ?_)
  obtain ⟨KL6_150, eKL6_150, hf⟩ := jn_some hf
  have hKL6_150 : ∀ (v5_6 : Int32) (v7_6 : Int32) (σL6 : GS) (H : Heap) (locs : List Loc) (ls : Array Slot), va_P D vwCl (wG K ad σL6) H → va_S (GA ad) s.heap H locs → lv_has ls 10 [(5, .int v5_6)] → KL6_150 v5_6 v7_6 σL6 = some z0 → W p l e (rmd 5) s m args below meth c H locs 0 0 (MQ below (QI D K ad z0.1 z0.2) args s 0 0 (GA ad)) (F0 m 150 ls []) := by
    clear hf
    intro v5_6 v7_6 σL6 H locs ls hP hS hl hf
    rw [eKL6_150] at hf
    try dsimp only at hf
    refine lv_iload hx hb d_M_nearest_150 (lv_at hl 0 rfl) ?_
    cases hf
    exact g_iret hC rfl hP hS d_M_nearest_152
  clear eKL6_150
  have hL6 : ∀ (n : Nat) (v5_6 : Int32) (v7_6 : Int32) (σL6 : GS) (H : Heap) (locs : List Loc) (ls : Array Slot), va_P D vwCl (wG K ad σL6) H → va_S (GA ad) s.heap H locs → lv_has ls 10 [(0, .ref (ad 63)), (1, .int x1), (2, .int x2), (3, .int x3), (5, .int v5_6), (6, .int r2), (7, .int v7_6)] → F_M_nearest_30 x1 x2 x3 r2 KL6_150 n v5_6 v7_6 σL6 = some z0 → W p l e (rmd 5) s m args below meth c H locs 0 0 (MQ below (QI D K ad z0.1 z0.2) args s 0 0 (GA ad)) (F0 m 30 ls []) := by
    clear hf
    intro n
    induction n with
    | zero =>
      intro v5_6 v7_6 σL6 H locs ls hP hS hl hf
      rw [F_M_nearest_30.eq_1] at hf
      cases hf
    | succ n ih =>
      intro v5_6 v7_6 σL6 H locs ls hP hS hl hf
      rw [F_M_nearest_30.eq_2] at hf
      refine lv_iload hx hb d_M_nearest_30 (lv_at hl 6 rfl) ?_
      refine lv_iload hx hb d_M_nearest_32 (lv_at hl 5 rfl) ?_
      refine lv_icmp_gt (tgt := 150) hx hb d_M_nearest_34 (by decide) (fun hc26 => ?_) (fun hc26 => ?_)
      · rw [if_pos hc26] at hf
        exact hKL6_150 _ _ _ _ _ _ hP hS (lv_sub hl [4] rfl) hf
      · rw [if_neg hc26] at hf
        refine lv_iconst (v := (0 : Int32)) hx hb d_M_nearest_37 (by decide) ?_
        refine lv_istore (lv' := [(8, .int (0 : Int32)), (0, .ref (ad 63)), (1, .int x1), (2, .int x2), (3, .int x3), (5, .int v5_6), (6, .int r2), (7, .int v7_6)]) hx hb d_M_nearest_38 hl (by decide) rfl (fun ls hl => ?_)
        refine lv_iload_n hx hb d_M_nearest_40 rfl (lv_at hl 2 rfl) ?_
        refine lv_iconst (v := (1 : Int32)) hx hb d_M_nearest_41 (by decide) ?_
        refine lv_isub hx hb d_M_nearest_42 ?_
        refine lv_istore (lv' := [(9, .int (x1 - (1 : Int32))), (8, .int (0 : Int32)), (0, .ref (ad 63)), (1, .int x1), (2, .int x2), (3, .int x3), (5, .int v5_6), (6, .int r2), (7, .int v7_6)]) hx hb d_M_nearest_43 hl (by decide) rfl (fun ls hl => ?_)
        obtain ⟨KL7_74, eKL7_74, hf⟩ := jn_some hf
        have hKL7_74 : ∀ (v8_7 : Int32) (v9_7 : Int32) (σL7 : GS) (H : Heap) (locs : List Loc) (ls : Array Slot), va_P D vwCl (wG K ad σL7) H → va_S (GA ad) s.heap H locs → lv_has ls 10 [(0, .ref (ad 63)), (1, .int x1), (2, .int x2), (3, .int x3), (5, .int v5_6), (6, .int r2), (7, .int v7_6), (8, .int v8_7)] → KL7_74 v8_7 v9_7 σL7 = some z0 → W p l e (rmd 5) s m args below meth c H locs 0 0 (MQ below (QI D K ad z0.1 z0.2) args s 0 0 (GA ad)) (F0 m 74 ls []) := by
          clear hf
          intro v8_7 v9_7 σL7 H locs ls hP hS hl hf
          rw [eKL7_74] at hf
          try dsimp only at hf
          refine lv_aload_n hx hb d_M_nearest_74 rfl (lv_at hl 0 rfl) ?_
          refine g_get (v := .ref (ad 77)) hC hP o_63 co_M 18 (by decide) rfl fl_M_54 rfl d_M_nearest_75 ?_
          refine lv_aload_n hx hb d_M_nearest_78 rfl (lv_at hl 0 rfl) ?_
          refine g_get (v := .ref (ad 77)) hC hP o_63 co_M 18 (by decide) rfl fl_M_54 rfl d_M_nearest_79 ?_
          refine lv_iload hx hb d_M_nearest_82 (lv_at hl 7 rfl) ?_
          refine lv_iload_n hx hb d_M_nearest_84 rfl (lv_at hl 2 rfl) ?_
          obtain ⟨r9, σ10, hk8, hf⟩ := bc_some hf
          refine g_calli hS (g_runS (As := [.ref (ad 77), .int v8_7, .int x2]) (rest := [.ref (ad 77)]) hC hP (c_M_followBack hj a_77 hk8) (rk (by decide) (by decide)) nm_M_followBack cd_M_followBack it_WideTownModel ml_M_168 sc_M_followBack rfl hl.1 rfl (Nat.le_of_ble_eq_true rfl) d_M_nearest_85 zz) (fun H locs hP hS => ?_)
          refine lv_iload_n hx hb d_M_nearest_88 rfl (lv_at hl 3 rfl) ?_
          obtain ⟨r12, σ13, hk11, hf⟩ := bc_some hf
          refine g_calli hS (g_runS (As := [.ref (ad 77), .int r9, .int x3]) (rest := []) hC hP (c_M_follow hj a_77 hk11) (rk (by decide) (by decide)) nm_M_follow cd_M_follow it_WideTownModel ml_M_171 sc_M_follow rfl hl.1 rfl (Nat.le_of_ble_eq_true rfl) d_M_nearest_89 zz) (fun H locs hP hS => ?_)
          refine lv_istore (lv' := [(8, .int r12), (0, .ref (ad 63)), (1, .int x1), (2, .int x2), (3, .int x3), (5, .int v5_6), (6, .int r2), (7, .int v7_6)]) hx hb d_M_nearest_92 hl (by decide) rfl (fun ls hl => ?_)
          refine lv_iconst (v := (0 : Int32)) hx hb d_M_nearest_94 (by decide) ?_
          refine lv_istore (lv' := [(9, .int (0 : Int32)), (8, .int r12), (0, .ref (ad 63)), (1, .int x1), (2, .int x2), (3, .int x3), (5, .int v5_6), (6, .int r2), (7, .int v7_6)]) hx hb d_M_nearest_95 hl (by decide) rfl (fun ls hl => ?_)
          obtain ⟨KL14_128, eKL14_128, hf⟩ := jn_some hf
          have hKL14_128 : ∀ (v8_14 : Int32) (v9_14 : Int32) (σL14 : GS) (H : Heap) (locs : List Loc) (ls : Array Slot), va_P D vwCl (wG K ad σL14) H → va_S (GA ad) s.heap H locs → lv_has ls 10 [(0, .ref (ad 63)), (1, .int x1), (2, .int x2), (3, .int x3), (5, .int v5_6), (6, .int r2), (7, .int v7_6), (8, .int v8_14)] → KL14_128 v8_14 v9_14 σL14 = some z0 → W p l e (rmd 5) s m args below meth c H locs 0 0 (MQ below (QI D K ad z0.1 z0.2) args s 0 0 (GA ad)) (F0 m 128 ls []) := by
            clear hf
            intro v8_14 v9_14 σL14 H locs ls hP hS hl hf
            rw [eKL14_128] at hf
            try dsimp only at hf
            refine lv_iload hx hb d_M_nearest_128 (lv_at hl 7 rfl) ?_
            refine lv_iload hx hb d_M_nearest_130 (lv_at hl 4 rfl) ?_
            refine lv_icmp_ge (tgt := 140) hx hb d_M_nearest_132 (by decide) (fun hc15 => ?_) (fun hc15 => ?_)
            · rw [if_pos hc15] at hf
              refine lv_iload hx hb d_M_nearest_140 (lv_at hl 4 rfl) ?_
              refine lv_istore (lv' := [(5, .int v5_6), (0, .ref (ad 63)), (1, .int x1), (2, .int x2), (3, .int x3), (6, .int r2), (7, .int v7_6), (8, .int v8_14)]) hx hb d_M_nearest_142 hl (by decide) rfl (fun ls hl => ?_)
              refine lv_iinc (v := v7_6 + 1) (lv' := [(7, .int (v7_6 + 1)), (5, .int v5_6), (0, .ref (ad 63)), (1, .int x1), (2, .int x2), (3, .int x3), (6, .int r2), (8, .int v8_14)]) hx hb d_M_nearest_144 hl (k := 6) rfl rfl (by decide) rfl (fun ls hl => ?_)
              refine lv_goto (tgt := 30) hx hb d_M_nearest_147 (by decide) ?_
              exact ih _ _ _ _ _ _ hP hS (lv_sub hl [2, 3, 4, 5, 1, 6, 0] rfl) hf
            · rw [if_neg hc15] at hf
              refine lv_iload hx hb d_M_nearest_135 (lv_at hl 7 rfl) ?_
              refine lv_goto (tgt := 142) hx hb d_M_nearest_137 (by decide) ?_
              refine lv_istore (lv' := [(5, .int v8_14), (0, .ref (ad 63)), (1, .int x1), (2, .int x2), (3, .int x3), (6, .int r2), (7, .int v7_6), (8, .int v8_14)]) hx hb d_M_nearest_142 hl (by decide) rfl (fun ls hl => ?_)
              refine lv_iinc (v := v7_6 + 1) (lv' := [(7, .int (v7_6 + 1)), (5, .int v8_14), (0, .ref (ad 63)), (1, .int x1), (2, .int x2), (3, .int x3), (6, .int r2), (8, .int v8_14)]) hx hb d_M_nearest_144 hl (k := 6) rfl rfl (by decide) rfl (fun ls hl => ?_)
              refine lv_goto (tgt := 30) hx hb d_M_nearest_147 (by decide) ?_
              exact ih _ _ _ _ _ _ hP hS (lv_sub hl [2, 3, 4, 5, 1, 6, 0] rfl) hf
          clear eKL14_128
          have hL14 : ∀ (n : Nat) (v8_14 : Int32) (v9_14 : Int32) (σL14 : GS) (H : Heap) (locs : List Loc) (ls : Array Slot), va_P D vwCl (wG K ad σL14) H → va_S (GA ad) s.heap H locs → lv_has ls 10 [(0, .ref (ad 63)), (1, .int x1), (2, .int x2), (3, .int x3), (5, .int v5_6), (6, .int r2), (7, .int v7_6), (8, .int v8_14), (9, .int v9_14)] → F_M_nearest_97 x1 x2 x3 v5_6 r2 v7_6 KL14_128 n v8_14 v9_14 σL14 = some z0 → W p l e (rmd 5) s m args below meth c H locs 0 0 (MQ below (QI D K ad z0.1 z0.2) args s 0 0 (GA ad)) (F0 m 97 ls []) := by
            clear hf
            intro n
            induction n with
            | zero =>
              intro v8_14 v9_14 σL14 H locs ls hP hS hl hf
              rw [F_M_nearest_97.eq_1] at hf
              cases hf
            | succ n ih =>
              intro v8_14 v9_14 σL14 H locs ls hP hS hl hf
              rw [F_M_nearest_97.eq_2] at hf
              refine lv_iload hx hb d_M_nearest_97 (lv_at hl 8 rfl) ?_
              refine lv_iload hx hb d_M_nearest_99 (lv_at hl 6 rfl) ?_
              refine lv_icmp_ge (tgt := 128) hx hb d_M_nearest_101 (by decide) (fun hc20 => ?_) (fun hc20 => ?_)
              · rw [if_pos hc20] at hf
                exact hKL14_128 _ _ _ _ _ _ hP hS (lv_sub hl [0, 1, 2, 3, 4, 5, 6, 7] rfl) hf
              · rw [if_neg hc20] at hf
                refine lv_aload_n hx hb d_M_nearest_104 rfl (lv_at hl 0 rfl) ?_
                refine g_get (v := .ref (ad 77)) hC hP o_63 co_M 18 (by decide) rfl fl_M_54 rfl d_M_nearest_105 ?_
                refine lv_iload hx hb d_M_nearest_108 (lv_at hl 7 rfl) ?_
                refine lv_aload_n hx hb d_M_nearest_110 rfl (lv_at hl 0 rfl) ?_
                refine g_get (v := .ref (ad 83)) hC hP o_63 co_M 25 (by decide) rfl fl_M_73 rfl d_M_nearest_111 ?_
                refine lv_iload hx hb d_M_nearest_114 (lv_at hl 8 rfl) ?_
                obtain ⟨hg16, hf⟩ := gd_some hf
                refine g_iald2 (j := v9_14.toNatClampNeg) hC hP a_83 hg16 rfl d_M_nearest_116 ?_
                obtain ⟨r18, σ19, hk17, hf⟩ := bc_some hf
                refine g_calli hS (g_runS (As := [.ref (ad 77), .int v8_14, .int (σL14.1 83 v9_14.toNatClampNeg)]) (rest := []) hC hP (c_M_times hj a_77 hk17) (rk (by decide) (by decide)) nm_M_times cd_M_times it_WideTownModel ml_M_134 sc_M_times rfl hl.1 rfl (Nat.le_of_ble_eq_true rfl) d_M_nearest_117 zz) (fun H locs hP hS => ?_)
                refine lv_istore (lv' := [(8, .int r18), (0, .ref (ad 63)), (1, .int x1), (2, .int x2), (3, .int x3), (5, .int v5_6), (6, .int r2), (7, .int v7_6), (9, .int v9_14)]) hx hb d_M_nearest_120 hl (by decide) rfl (fun ls hl => ?_)
                refine lv_iinc (v := v9_14 + 1) (lv' := [(9, .int (v9_14 + 1)), (8, .int r18), (0, .ref (ad 63)), (1, .int x1), (2, .int x2), (3, .int x3), (5, .int v5_6), (6, .int r2), (7, .int v7_6)]) hx hb d_M_nearest_122 hl (k := 8) rfl rfl (by decide) rfl (fun ls hl => ?_)
                refine lv_goto (tgt := 97) hx hb d_M_nearest_125 (by decide) ?_
                exact ih _ _ _ _ _ _ hP hS (lv_sub hl [2, 3, 4, 5, 6, 7, 8, 1, 0] rfl) hf
          exact hL14 _ _ _ _ _ _ _ hP hS (lv_sub hl [2, 3, 4, 5, 6, 7, 8, 1, 0] rfl) hf
        clear eKL7_74
        have hL7 : ∀ (n : Nat) (v8_7 : Int32) (v9_7 : Int32) (σL7 : GS) (H : Heap) (locs : List Loc) (ls : Array Slot), va_P D vwCl (wG K ad σL7) H → va_S (GA ad) s.heap H locs → lv_has ls 10 [(0, .ref (ad 63)), (1, .int x1), (2, .int x2), (3, .int x3), (5, .int v5_6), (6, .int r2), (7, .int v7_6), (8, .int v8_7), (9, .int v9_7)] → F_M_nearest_45 x1 x2 x3 v5_6 r2 v7_6 KL7_74 n v8_7 v9_7 σL7 = some z0 → W p l e (rmd 5) s m args below meth c H locs 0 0 (MQ below (QI D K ad z0.1 z0.2) args s 0 0 (GA ad)) (F0 m 45 ls []) := by
          clear hf
          intro n
          induction n with
          | zero =>
            intro v8_7 v9_7 σL7 H locs ls hP hS hl hf
            rw [F_M_nearest_45.eq_1] at hf
            cases hf
          | succ n ih =>
            intro v8_7 v9_7 σL7 H locs ls hP hS hl hf
            rw [F_M_nearest_45.eq_2] at hf
            refine lv_iload hx hb d_M_nearest_45 (lv_at hl 8 rfl) ?_
            refine lv_if_lt (tgt := 74) hx hb d_M_nearest_47 (by decide) (fun hc25 => ?_) (fun hc25 => ?_)
            · rw [if_pos hc25] at hf
              exact hKL7_74 _ _ _ _ _ _ hP hS (lv_sub hl [0, 1, 2, 3, 4, 5, 6, 7] rfl) hf
            · rw [if_neg hc25] at hf
              refine lv_aload_n hx hb d_M_nearest_50 rfl (lv_at hl 0 rfl) ?_
              refine g_get (v := .ref (ad 77)) hC hP o_63 co_M 18 (by decide) rfl fl_M_54 rfl d_M_nearest_51 ?_
              refine lv_iload hx hb d_M_nearest_54 (lv_at hl 7 rfl) ?_
              refine lv_aload_n hx hb d_M_nearest_56 rfl (lv_at hl 0 rfl) ?_
              refine g_get (v := .ref (ad 76)) hC hP o_63 co_M 17 (by decide) rfl fl_M_51 rfl d_M_nearest_57 ?_
              refine lv_iload hx hb d_M_nearest_60 (lv_at hl 8 rfl) ?_
              obtain ⟨hg21, hf⟩ := gd_some hf
              refine g_iald2 (j := v9_7.toNatClampNeg) hC hP a_76 hg21 rfl d_M_nearest_62 ?_
              obtain ⟨r23, σ24, hk22, hf⟩ := bc_some hf
              refine g_calli hS (g_runS (As := [.ref (ad 77), .int v8_7, .int (σL7.1 76 v9_7.toNatClampNeg)]) (rest := []) hC hP (c_M_times hj a_77 hk22) (rk (by decide) (by decide)) nm_M_times cd_M_times it_WideTownModel ml_M_134 sc_M_times rfl hl.1 rfl (Nat.le_of_ble_eq_true rfl) d_M_nearest_63 zz) (fun H locs hP hS => ?_)
              refine lv_istore (lv' := [(8, .int r23), (0, .ref (ad 63)), (1, .int x1), (2, .int x2), (3, .int x3), (5, .int v5_6), (6, .int r2), (7, .int v7_6), (9, .int v9_7)]) hx hb d_M_nearest_66 hl (by decide) rfl (fun ls hl => ?_)
              refine lv_iinc (v := v9_7 + (-1)) (lv' := [(9, .int (v9_7 + (-1))), (8, .int r23), (0, .ref (ad 63)), (1, .int x1), (2, .int x2), (3, .int x3), (5, .int v5_6), (6, .int r2), (7, .int v7_6)]) hx hb d_M_nearest_68 hl (k := 8) rfl rfl (by decide) rfl (fun ls hl => ?_)
              refine lv_goto (tgt := 45) hx hb d_M_nearest_71 (by decide) ?_
              exact ih _ _ _ _ _ _ hP hS (lv_sub hl [2, 3, 4, 5, 6, 7, 8, 1, 0] rfl) hf
        exact hL7 _ _ _ _ _ _ _ hP hS (lv_sub hl [2, 3, 4, 5, 6, 7, 8, 1, 0] rfl) hf
  exact hL6 _ _ _ _ _ _ _ hP hS (lv_sub hl [3, 4, 5, 6, 2, 1, 0] rfl) hf
