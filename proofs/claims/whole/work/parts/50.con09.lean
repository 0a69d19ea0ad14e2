set_option maxHeartbeats 4000000 in
set_option maxRecDepth 100000 in
theorem c_M_thin {l : Launch} {D : va_G} {K : Nat → ClassId} {ad : Nat → Nat} (hj : inj ad)   {x1 : Int32} {x2 : Int32} {x3 : Int32} {σ : GS} {z0 : Int32 × GS} (hf : F_M_thin x1 x2 x3 σ = some z0) : CT l D K ad y_M_thin b_M_thin 10 (some .int) 6 [.ref (ad 63), .int x1, .int x2, .int x3] σ (QI D K ad z0.1 z0.2) := by
  refine CT.intro hj (by decide) (Nat.le_of_ble_eq_true rfl) ?_
  intro p e s m args below meth c ls hC hP hS hl
  obtain ⟨hx, hb, -, hown, hts, -⟩ := id hC
  have hl : lv_has ls 10 [(0, .ref (ad 63)), (1, .int x1), (2, .int x2), (3, .int x3)] := hl
  rw [F_M_thin] at hf
  refine lv_iload_n hx hb d_M_thin_0 rfl (lv_at hl 1 rfl) ?_
  refine lv_iload_n hx hb d_M_thin_1 rfl (lv_at hl 2 rfl) ?_
  obtain ⟨r2, hk1, hf⟩ := bp_some hf
  refine g_calli hS (g_runS (As := [.int x1, .int x2]) (rest := []) hC hP (c_M_areCodes hj  hk1) (rk (by decide) (by decide)) nm_M_areCodes cd_M_areCodes it_WideTownModel ml_M_223 sc_M_areCodes rfl hl.1 rfl (Nat.le_of_ble_eq_true rfl) d_M_thin_2 zz) (fun H locs hP hS => ?_)
  refine lv_if_eq (tgt := 15) hx hb d_M_thin_5 (by decide) (fun hc22 => ?_) (fun hc22 => ?_)
  · rw [if_pos hc22] at hf
    refine lv_iconst (v := (-1 : Int32)) hx hb d_M_thin_15 (by decide) ?_
    cases hf
    exact g_iret hC rfl hP hS d_M_thin_16
  · rw [if_neg hc22] at hf
    refine lv_iload_n hx hb d_M_thin_8 rfl (lv_at hl 3 rfl) ?_
    obtain ⟨r4, hk3, hf⟩ := bp_some hf
    refine g_calli hS (g_runS (As := [.int x3]) (rest := []) hC hP (c_M_isCode hj  hk3) (rk (by decide) (by decide)) nm_M_isCode cd_M_isCode it_WideTownModel ml_M_213 sc_M_isCode rfl hl.1 rfl (Nat.le_of_ble_eq_true rfl) d_M_thin_9 zz) (fun H locs hP hS => ?_)
    refine lv_if_ne (tgt := 17) hx hb d_M_thin_12 (by decide) (fun hc21 => ?_) (fun hc21 => ?_)
    · rw [if_neg hc21] at hf
      refine lv_aload_n hx hb d_M_thin_17 rfl (lv_at hl 0 rfl) ?_
      refine lv_iload_n hx hb d_M_thin_18 rfl (lv_at hl 1 rfl) ?_
      refine lv_iload_n hx hb d_M_thin_19 rfl (lv_at hl 2 rfl) ?_
      obtain ⟨r6, σ7, hk5, hf⟩ := bc_some hf
      refine g_calli hS (g_runV (As := [.int x1, .int x2]) (rest := []) hC hP (c_M_farOf hj  hk5) (rk (by decide) (by decide)) nm_M_farOf cd_M_farOf it_WideTownModel ml_M_204 im_M_farOf sl_M_farOf o_63 co_M rfl hl.1 rfl (Nat.le_of_ble_eq_true rfl) d_M_thin_20 zz) (fun H locs hP hS => ?_)
      refine lv_istore (lv' := [(4, .int r6), (0, .ref (ad 63)), (1, .int x1), (2, .int x2), (3, .int x3)]) hx hb d_M_thin_23 hl (by decide) rfl (fun ls hl => ?_)
      refine lv_aload_n hx hb d_M_thin_25 rfl (lv_at hl 1 rfl) ?_
      refine lv_aload_n hx hb d_M_thin_26 rfl (lv_at hl 1 rfl) ?_
      refine g_get (v := .ref (ad 75)) hC hP o_63 co_M 16 (by decide) rfl fl_M_48 rfl d_M_thin_27 ?_
      refine lv_iload hx hb d_M_thin_30 (lv_at hl 0 rfl) ?_
      refine lv_aload_n hx hb d_M_thin_32 rfl (lv_at hl 1 rfl) ?_
      refine g_get (v := .ref (ad 76)) hC hP o_63 co_M 17 (by decide) rfl fl_M_51 rfl d_M_thin_33 ?_
      obtain ⟨σ9, hk8, hf⟩ := bv_some hf
      refine g_callv hS (g_runV (As := [.ref (ad 75), .int r6, .ref (ad 76)]) (rest := []) hC hP (c_M_layPlain hj a_75 a_76 hk8) (rk (by decide) (by decide)) nm_M_layPlain cd_M_layPlain it_WideTownModel ml_M_156 im_M_layPlain sl_M_layPlain o_63 co_M rfl hl.1 rfl (Nat.le_of_ble_eq_true rfl) d_M_thin_36 zz) (fun H locs hP hS => ?_)
      refine lv_iconst (v := (0 : Int32)) hx hb d_M_thin_39 (by decide) ?_
      refine lv_istore (lv' := [(5, .int (0 : Int32)), (4, .int r6), (0, .ref (ad 63)), (1, .int x1), (2, .int x2), (3, .int x3)]) hx hb d_M_thin_40 hl (by decide) rfl (fun ls hl => ?_)
      refine lv_iconst (v := (0 : Int32)) hx hb d_M_thin_42 (by decide) ?_
      refine lv_istore (lv' := [(6, .int (0 : Int32)), (5, .int (0 : Int32)), (4, .int r6), (0, .ref (ad 63)), (1, .int x1), (2, .int x2), (3, .int x3)]) hx hb d_M_thin_43 hl (by decide) rfl (fun ls hl => ?_)
      obtain ⟨KL10_112, eKL10_112, hf⟩ := jn_some hf
      have hKL10_112 : ∀ (v5_10 : Int32) (v6_10 : Int32) (σL10 : GS) (H : Heap) (locs : List Loc) (ls : Array Slot), va_P D vwCl (wG K ad σL10) H → va_S (GA ad) s.heap H locs → lv_has ls 10 [(5, .int v5_10)] → KL10_112 v5_10 v6_10 σL10 = some z0 → W p l e (rmd 6) s m args below meth c H locs 0 0 (MQ below (QI D K ad z0.1 z0.2) args s 0 0 (GA ad)) (F0 m 112 ls []) := by
        clear hf
        intro v5_10 v6_10 σL10 H locs ls hP hS hl hf
        rw [eKL10_112] at hf
        try dsimp only at hf
        refine lv_iload hx hb d_M_thin_112 (lv_at hl 0 rfl) ?_
        cases hf
        exact g_iret hC rfl hP hS d_M_thin_114
      clear eKL10_112
      have hL10 : ∀ (n : Nat) (v5_10 : Int32) (v6_10 : Int32) (σL10 : GS) (H : Heap) (locs : List Loc) (ls : Array Slot), va_P D vwCl (wG K ad σL10) H → va_S (GA ad) s.heap H locs → lv_has ls 10 [(0, .ref (ad 63)), (1, .int x1), (2, .int x2), (3, .int x3), (4, .int r6), (5, .int v5_10), (6, .int v6_10)] → F_M_thin_45 x1 x2 x3 r6 KL10_112 n v5_10 v6_10 σL10 = some z0 → W p l e (rmd 6) s m args below meth c H locs 0 0 (MQ below (QI D K ad z0.1 z0.2) args s 0 0 (GA ad)) (F0 m 45 ls []) := by
        clear hf
        intro n
        induction n with
        | zero =>
          intro v5_10 v6_10 σL10 H locs ls hP hS hl hf
          rw [F_M_thin_45.eq_1] at hf
          cases hf
        | succ n ih =>
          intro v5_10 v6_10 σL10 H locs ls hP hS hl hf
          rw [F_M_thin_45.eq_2] at hf
          refine lv_iload hx hb d_M_thin_45 (lv_at hl 6 rfl) ?_
          refine lv_iload hx hb d_M_thin_47 (lv_at hl 4 rfl) ?_
          refine lv_icmp_gt (tgt := 112) hx hb d_M_thin_49 (by decide) (fun hc20 => ?_) (fun hc20 => ?_)
          · rw [if_pos hc20] at hf
            exact hKL10_112 _ _ _ _ _ _ hP hS (lv_sub hl [5] rfl) hf
          · rw [if_neg hc20] at hf
            refine lv_aload_n hx hb d_M_thin_52 rfl (lv_at hl 0 rfl) ?_
            refine lv_iload hx hb d_M_thin_53 (lv_at hl 6 rfl) ?_
            refine lv_iload_n hx hb d_M_thin_55 rfl (lv_at hl 1 rfl) ?_
            refine lv_iload_n hx hb d_M_thin_56 rfl (lv_at hl 1 rfl) ?_
            refine lv_iload_n hx hb d_M_thin_57 rfl (lv_at hl 3 rfl) ?_
            obtain ⟨r12, σ13, hk11, hf⟩ := bc_some hf
            refine g_calli hS (g_runV (As := [.int v6_10, .int x1, .int x1, .int x3]) (rest := []) hC hP (c_M_nearest hj  hk11) (rk (by decide) (by decide)) nm_M_nearest cd_M_nearest it_WideTownModel ml_M_243 im_M_nearest sl_M_nearest o_63 co_M rfl hl.1 rfl (Nat.le_of_ble_eq_true rfl) d_M_thin_58 zz) (fun H locs hP hS => ?_)
            refine lv_istore (lv' := [(7, .int r12), (0, .ref (ad 63)), (1, .int x1), (2, .int x2), (3, .int x3), (4, .int r6), (5, .int v5_10), (6, .int v6_10)]) hx hb d_M_thin_61 hl (by decide) rfl (fun ls hl => ?_)
            refine lv_aload_n hx hb d_M_thin_63 rfl (lv_at hl 1 rfl) ?_
            refine lv_iload hx hb d_M_thin_64 (lv_at hl 7 rfl) ?_
            refine lv_iload_n hx hb d_M_thin_66 rfl (lv_at hl 2 rfl) ?_
            refine lv_iload_n hx hb d_M_thin_67 rfl (lv_at hl 3 rfl) ?_
            refine lv_iload_n hx hb d_M_thin_68 rfl (lv_at hl 4 rfl) ?_
            obtain ⟨r15, σ16, hk14, hf⟩ := bc_some hf
            refine g_calli hS (g_runV (As := [.int v6_10, .int x1, .int x2, .int x3]) (rest := []) hC hP (c_M_nearest hj  hk14) (rk (by decide) (by decide)) nm_M_nearest cd_M_nearest it_WideTownModel ml_M_243 im_M_nearest sl_M_nearest o_63 co_M rfl hl.1 rfl (Nat.le_of_ble_eq_true rfl) d_M_thin_69 zz) (fun H locs hP hS => ?_)
            refine lv_istore (lv' := [(8, .int r15), (7, .int r12), (0, .ref (ad 63)), (1, .int x1), (2, .int x2), (3, .int x3), (4, .int r6), (5, .int v5_10), (6, .int v6_10)]) hx hb d_M_thin_72 hl (by decide) rfl (fun ls hl => ?_)
            refine lv_iload hx hb d_M_thin_74 (lv_at hl 1 rfl) ?_
            refine lv_iload hx hb d_M_thin_76 (lv_at hl 0 rfl) ?_
            obtain ⟨J17, eJ17, hf⟩ := jn_some hf
            have hJ17 : ∀ (tJ17 : Int32) (H : Heap) (locs : List Loc) (ls : Array Slot), va_P D vwCl (wG K ad σ16) H → va_S (GA ad) s.heap H locs → lv_has ls 10 [(0, .ref (ad 63)), (1, .int x1), (2, .int x2), (3, .int x3), (4, .int r6), (5, .int v5_10), (6, .int v6_10)] → J17 tJ17 = some z0 → W p l e (rmd 6) s m args below meth c H locs 0 0 (MQ below (QI D K ad z0.1 z0.2) args s 0 0 (GA ad)) (F0 m 88 ls [.int tJ17]) := by
              clear hf
              intro tJ17 H locs ls hP hS hl hf
              rw [eJ17] at hf
              try dsimp only at hf
              refine lv_istore (lv' := [(9, .int tJ17), (0, .ref (ad 63)), (1, .int x1), (2, .int x2), (3, .int x3), (4, .int r6), (5, .int v5_10), (6, .int v6_10)]) hx hb d_M_thin_88 hl (by decide) rfl (fun ls hl => ?_)
              refine lv_iload hx hb d_M_thin_90 (lv_at hl 0 rfl) ?_
              refine lv_iload hx hb d_M_thin_92 (lv_at hl 6 rfl) ?_
              refine lv_icmp_le (tgt := 102) hx hb d_M_thin_94 (by decide) (fun hc18 => ?_) (fun hc18 => ?_)
              · rw [if_pos hc18] at hf
                refine lv_iload hx hb d_M_thin_102 (lv_at hl 6 rfl) ?_
                refine lv_istore (lv' := [(5, .int v5_10), (9, .int tJ17), (0, .ref (ad 63)), (1, .int x1), (2, .int x2), (3, .int x3), (4, .int r6), (6, .int v6_10)]) hx hb d_M_thin_104 hl (by decide) rfl (fun ls hl => ?_)
                refine lv_iinc (v := v6_10 + 1) (lv' := [(6, .int (v6_10 + 1)), (5, .int v5_10), (9, .int tJ17), (0, .ref (ad 63)), (1, .int x1), (2, .int x2), (3, .int x3), (4, .int r6)]) hx hb d_M_thin_106 hl (k := 7) rfl rfl (by decide) rfl (fun ls hl => ?_)
                refine lv_goto (tgt := 45) hx hb d_M_thin_109 (by decide) ?_
                exact ih _ _ _ _ _ _ hP hS (lv_sub hl [3, 4, 5, 6, 7, 1, 0] rfl) hf
              · rw [if_neg hc18] at hf
                refine lv_iload hx hb d_M_thin_97 (lv_at hl 0 rfl) ?_
                refine lv_goto (tgt := 104) hx hb d_M_thin_99 (by decide) ?_
                refine lv_istore (lv' := [(5, .int tJ17), (9, .int tJ17), (0, .ref (ad 63)), (1, .int x1), (2, .int x2), (3, .int x3), (4, .int r6), (6, .int v6_10)]) hx hb d_M_thin_104 hl (by decide) rfl (fun ls hl => ?_)
                refine lv_iinc (v := v6_10 + 1) (lv' := [(6, .int (v6_10 + 1)), (5, .int tJ17), (9, .int tJ17), (0, .ref (ad 63)), (1, .int x1), (2, .int x2), (3, .int x3), (4, .int r6)]) hx hb d_M_thin_106 hl (k := 7) rfl rfl (by decide) rfl (fun ls hl => ?_)
                refine lv_goto (tgt := 45) hx hb d_M_thin_109 (by decide) ?_
                exact ih _ _ _ _ _ _ hP hS (lv_sub hl [3, 4, 5, 6, 7, 1, 0] rfl) hf
            clear eJ17
            refine lv_icmp_ge (tgt := 86) hx hb d_M_thin_78 (by decide) (fun hc19 => ?_) (fun hc19 => ?_)
            · rw [if_pos hc19] at hf
              refine lv_iload hx hb d_M_thin_86 (lv_at hl 0 rfl) ?_
              exact hJ17 _ _ _ _ hP hS (lv_sub hl [2, 3, 4, 5, 6, 7, 8] rfl) hf
            · rw [if_neg hc19] at hf
              refine lv_iload hx hb d_M_thin_81 (lv_at hl 1 rfl) ?_
              refine lv_goto (tgt := 88) hx hb d_M_thin_83 (by decide) ?_
              exact hJ17 _ _ _ _ hP hS (lv_sub hl [2, 3, 4, 5, 6, 7, 8] rfl) hf
      exact hL10 _ _ _ _ _ _ _ hP hS (lv_sub hl [3, 4, 5, 6, 2, 1, 0] rfl) hf
    · rw [if_pos hc21] at hf
      refine lv_iconst (v := (-1 : Int32)) hx hb d_M_thin_15 (by decide) ?_
      cases hf
      exact g_iret hC rfl hP hS d_M_thin_16
set_option maxHeartbeats 4000000 in
set_option maxRecDepth 100000 in
theorem c_M_without {l : Launch} {D : va_G} {K : Nat → ClassId} {ad : Nat → Nat} (hj : inj ad)   {x0 : Int32} {x1 : Int32} {σ : GS} {z0 : Int64} (hf : F_M_without x0 x1 = some z0) : CT l D K ad y_M_without b_M_without 15 (some .long) 0 [.int x0, .int x1] σ (QL D K ad z0 σ) := by
  refine CT.intro hj (by decide) (Nat.le_of_ble_eq_true rfl) ?_
  intro p e s m args below meth c ls hC hP hS hl
  obtain ⟨hx, hb, -, hown, hts, -⟩ := id hC
  have hl : lv_has ls 15 [(0, .int x0), (1, .int x1)] := hl
  rw [F_M_without] at hf
  refine lv_lconst (v := (0 : Int64)) hx hb d_M_without_0 (by decide) ?_
  refine lv_lstore_n (lv' := [(2, .long (0 : Int64)), (0, .int x0), (1, .int x1)]) hx hb d_M_without_1 rfl hl (by decide) rfl (fun ls hl => ?_)
  refine lv_lconst (v := (0 : Int64)) hx hb d_M_without_2 (by decide) ?_
  refine lv_lstore (lv' := [(4, .long (0 : Int64)), (2, .long (0 : Int64)), (0, .int x0), (1, .int x1)]) hx hb d_M_without_3 hl (by decide) rfl (fun ls hl => ?_)
  refine lv_lconst (v := (0 : Int64)) hx hb d_M_without_5 (by decide) ?_
  refine lv_lstore (lv' := [(6, .long (0 : Int64)), (4, .long (0 : Int64)), (2, .long (0 : Int64)), (0, .int x0), (1, .int x1)]) hx hb d_M_without_6 hl (by decide) rfl (fun ls hl => ?_)
  refine lv_lconst (v := (0 : Int64)) hx hb d_M_without_8 (by decide) ?_
  refine lv_lstore (lv' := [(8, .long (0 : Int64)), (6, .long (0 : Int64)), (4, .long (0 : Int64)), (2, .long (0 : Int64)), (0, .int x0), (1, .int x1)]) hx hb d_M_without_9 hl (by decide) rfl (fun ls hl => ?_)
  refine lv_iconst (v := (0 : Int32)) hx hb d_M_without_11 (by decide) ?_
  refine lv_istore (lv' := [(10, .int (0 : Int32)), (8, .long (0 : Int64)), (6, .long (0 : Int64)), (4, .long (0 : Int64)), (2, .long (0 : Int64)), (0, .int x0), (1, .int x1)]) hx hb d_M_without_12 hl (by decide) rfl (fun ls hl => ?_)
  obtain ⟨KL1_120, eKL1_120, hf⟩ := jn_some hf
  have hKL1_120 : ∀ (v2_1 : Int64) (v4_1 : Int64) (v6_1 : Int64) (v8_1 : Int64) (v10_1 : Int32) (H : Heap) (locs : List Loc) (ls : Array Slot), va_P D vwCl (wG K ad σ) H → va_S (GA ad) s.heap H locs → lv_has ls 15 [(4, .long v4_1)] → KL1_120 v2_1 v4_1 v6_1 v8_1 v10_1 = some z0 → W p l e (rmd 0) s m args below meth c H locs 0 0 (MQ below (QL D K ad z0 σ) args s 0 0 (GA ad)) (F0 m 120 ls []) := by
    clear hf
    intro v2_1 v4_1 v6_1 v8_1 v10_1 H locs ls hP hS hl hf
    rw [eKL1_120] at hf
    try dsimp only at hf
    refine lv_lload hx hb d_M_without_120 (lv_at hl 0 rfl) ?_
    cases hf
    exact g_lret hC rfl hP hS d_M_without_122
  clear eKL1_120
  have hL1 : ∀ (n : Nat) (v2_1 : Int64) (v4_1 : Int64) (v6_1 : Int64) (v8_1 : Int64) (v10_1 : Int32) (H : Heap) (locs : List Loc) (ls : Array Slot), va_P D vwCl (wG K ad σ) H → va_S (GA ad) s.heap H locs → lv_has ls 15 [(0, .int x0), (1, .int x1), (2, .long v2_1), (4, .long v4_1), (6, .long v6_1), (8, .long v8_1), (10, .int v10_1)] → F_M_without_14 x0 x1 KL1_120 n v2_1 v4_1 v6_1 v8_1 v10_1 = some z0 → W p l e (rmd 0) s m args below meth c H locs 0 0 (MQ below (QL D K ad z0 σ) args s 0 0 (GA ad)) (F0 m 14 ls []) := by
    clear hf
    intro n
    induction n with
    | zero =>
      intro v2_1 v4_1 v6_1 v8_1 v10_1 H locs ls hP hS hl hf
      rw [F_M_without_14.eq_1] at hf
      cases hf
    | succ n ih =>
      intro v2_1 v4_1 v6_1 v8_1 v10_1 H locs ls hP hS hl hf
      rw [F_M_without_14.eq_2] at hf
      refine lv_iload hx hb d_M_without_14 (lv_at hl 6 rfl) ?_
      refine lv_iload_n hx hb d_M_without_16 rfl (lv_at hl 1 rfl) ?_
      refine lv_icmp_gt (tgt := 120) hx hb d_M_without_17 (by decide) (fun hc9 => ?_) (fun hc9 => ?_)
      · rw [if_pos hc9] at hf
        exact hKL1_120 _ _ _ _ _ _ _ _ hP hS (lv_sub hl [3] rfl) hf
      · rw [if_neg hc9] at hf
        refine lv_iload hx hb d_M_without_20 (lv_at hl 6 rfl) ?_
        obtain ⟨J2, eJ2, hf⟩ := jn_some hf
        have hJ2 : ∀ (tJ2 : Int64) (H : Heap) (locs : List Loc) (ls : Array Slot), va_P D vwCl (wG K ad σ) H → va_S (GA ad) s.heap H locs → lv_has ls 15 [(0, .int x0), (1, .int x1), (2, .long v2_1), (4, .long v4_1), (8, .long v8_1), (10, .int v10_1)] → J2 tJ2 = some z0 → W p l e (rmd 0) s m args below meth c H locs 0 0 (MQ below (QL D K ad z0 σ) args s 0 0 (GA ad)) (F0 m 62 ls [.long tJ2]) := by
          clear hf
          intro tJ2 H locs ls hP hS hl hf
          rw [eJ2] at hf
          try dsimp only at hf
          refine lv_lstore (lv' := [(11, .long tJ2), (0, .int x0), (1, .int x1), (2, .long v2_1), (4, .long v4_1), (8, .long v8_1), (10, .int v10_1)]) hx hb d_M_without_62 hl (by decide) rfl (fun ls hl => ?_)
          refine lv_lload hx hb d_M_without_64 (lv_at hl 5 rfl) ?_
          refine lv_lstore (lv' := [(6, .long v8_1), (11, .long tJ2), (0, .int x0), (1, .int x1), (2, .long v2_1), (4, .long v4_1), (8, .long v8_1), (10, .int v10_1)]) hx hb d_M_without_66 hl (by decide) rfl (fun ls hl => ?_)
          refine lv_lload hx hb d_M_without_68 (lv_at hl 1 rfl) ?_
          refine lv_lstore (lv' := [(8, .long tJ2), (6, .long v8_1), (11, .long tJ2), (0, .int x0), (1, .int x1), (2, .long v2_1), (4, .long v4_1), (10, .int v10_1)]) hx hb d_M_without_70 hl (by decide) rfl (fun ls hl => ?_)
          refine lv_iload_n hx hb d_M_without_72 rfl (lv_at hl 3 rfl) ?_
          obtain ⟨J3, eJ3, hf⟩ := jn_some hf
          have hJ3 : ∀ (tJ3 : Int64) (H : Heap) (locs : List Loc) (ls : Array Slot), va_P D vwCl (wG K ad σ) H → va_S (GA ad) s.heap H locs → lv_has ls 15 [(0, .int x0), (1, .int x1), (4, .long v4_1), (6, .long v8_1), (8, .long tJ2), (10, .int v10_1)] → J3 tJ3 = some z0 → W p l e (rmd 0) s m args below meth c H locs 0 0 (MQ below (QL D K ad z0 σ) args s 0 0 (GA ad)) (F0 m 105 ls [.long tJ3]) := by
            clear hf
            intro tJ3 H locs ls hP hS hl hf
            rw [eJ3] at hf
            try dsimp only at hf
            refine lv_lstore (lv' := [(13, .long tJ3), (0, .int x0), (1, .int x1), (4, .long v4_1), (6, .long v8_1), (8, .long tJ2), (10, .int v10_1)]) hx hb d_M_without_105 hl (by decide) rfl (fun ls hl => ?_)
            refine lv_lload hx hb d_M_without_107 (lv_at hl 3 rfl) ?_
            refine lv_lstore_n (lv' := [(2, .long v4_1), (13, .long tJ3), (0, .int x0), (1, .int x1), (4, .long v4_1), (6, .long v8_1), (8, .long tJ2), (10, .int v10_1)]) hx hb d_M_without_109 rfl hl (by decide) rfl (fun ls hl => ?_)
            refine lv_lload hx hb d_M_without_110 (lv_at hl 1 rfl) ?_
            refine lv_lstore (lv' := [(4, .long tJ3), (2, .long v4_1), (13, .long tJ3), (0, .int x0), (1, .int x1), (6, .long v8_1), (8, .long tJ2), (10, .int v10_1)]) hx hb d_M_without_112 hl (by decide) rfl (fun ls hl => ?_)
            refine lv_iinc (v := v10_1 + 1) (lv' := [(10, .int (v10_1 + 1)), (4, .long tJ3), (2, .long v4_1), (13, .long tJ3), (0, .int x0), (1, .int x1), (6, .long v8_1), (8, .long tJ2)]) hx hb d_M_without_114 hl (k := 7) rfl rfl (by decide) rfl (fun ls hl => ?_)
            refine lv_goto (tgt := 14) hx hb d_M_without_117 (by decide) ?_
            exact ih _ _ _ _ _ _ _ _ hP hS (lv_sub hl [4, 5, 2, 1, 6, 7, 0] rfl) hf
          clear eJ3
          refine lv_if_ne (tgt := 81) hx hb d_M_without_73 (by decide) (fun hc5 => ?_) (fun hc5 => ?_)
          · rw [if_neg hc5] at hf
            refine lv_iload_n hx hb d_M_without_81 rfl (lv_at hl 3 rfl) ?_
            refine lv_iconst (v := (1 : Int32)) hx hb d_M_without_82 (by decide) ?_
            refine lv_icmp_ne (tgt := 94) hx hb d_M_without_83 (by decide) (fun hc4 => ?_) (fun hc4 => ?_)
            · rw [if_neg hc4] at hf
              refine lv_lload hx hb d_M_without_94 (lv_at hl 0 rfl) ?_
              refine lv_ldc2 hx hb hown (hts _ cn_M_221) d_M_without_96 ?_
              refine lv_lload hx hb d_M_without_99 (lv_at hl 6 rfl) ?_
              refine lv_lmul hx hb d_M_without_101 ?_
              refine lv_lsub hx hb d_M_without_102 ?_
              refine lv_lload_n hx hb d_M_without_103 rfl (lv_at hl 5 rfl) ?_
              refine lv_lsub hx hb d_M_without_104 ?_
              exact hJ3 _ _ _ _ hP hS (lv_sub hl [3, 4, 6, 1, 0, 7] rfl) hf
            · rw [if_pos hc4] at hf
              refine lv_lload hx hb d_M_without_86 (lv_at hl 0 rfl) ?_
              refine lv_lload hx hb d_M_without_88 (lv_at hl 6 rfl) ?_
              refine lv_lsub hx hb d_M_without_90 ?_
              refine lv_goto (tgt := 105) hx hb d_M_without_91 (by decide) ?_
              exact hJ3 _ _ _ _ hP hS (lv_sub hl [3, 4, 6, 1, 0, 7] rfl) hf
          · rw [if_pos hc5] at hf
            refine lv_lload hx hb d_M_without_76 (lv_at hl 0 rfl) ?_
            refine lv_goto (tgt := 105) hx hb d_M_without_78 (by decide) ?_
            exact hJ3 _ _ _ _ hP hS (lv_sub hl [3, 4, 6, 1, 0, 7] rfl) hf
        clear eJ2
        refine lv_if_ne (tgt := 29) hx hb d_M_without_22 (by decide) (fun hc8 => ?_) (fun hc8 => ?_)
        · rw [if_neg hc8] at hf
          refine lv_iload hx hb d_M_without_29 (lv_at hl 6 rfl) ?_
          refine lv_iconst (v := (1 : Int32)) hx hb d_M_without_31 (by decide) ?_
          refine lv_icmp_ne (tgt := 41) hx hb d_M_without_32 (by decide) (fun hc7 => ?_) (fun hc7 => ?_)
          · rw [if_neg hc7] at hf
            refine lv_iload hx hb d_M_without_41 (lv_at hl 6 rfl) ?_
            refine lv_iconst (v := (2 : Int32)) hx hb d_M_without_43 (by decide) ?_
            refine lv_icmp_ne (tgt := 53) hx hb d_M_without_44 (by decide) (fun hc6 => ?_) (fun hc6 => ?_)
            · rw [if_neg hc6] at hf
              refine lv_ldc2 hx hb hown (hts _ cn_M_104) d_M_without_53 ?_
              refine lv_lload hx hb d_M_without_56 (lv_at hl 5 rfl) ?_
              refine lv_lmul hx hb d_M_without_58 ?_
              refine lv_lload hx hb d_M_without_59 (lv_at hl 4 rfl) ?_
              refine lv_lsub hx hb d_M_without_61 ?_
              exact hJ2 _ _ _ _ hP hS (lv_sub hl [0, 1, 2, 3, 5, 6] rfl) hf
            · rw [if_pos hc6] at hf
              refine lv_ldc2 hx hb hown (hts _ cn_M_247) d_M_without_47 ?_
              refine lv_goto (tgt := 62) hx hb d_M_without_50 (by decide) ?_
              exact hJ2 _ _ _ _ hP hS (lv_sub hl [0, 1, 2, 3, 5, 6] rfl) hf
          · rw [if_pos hc7] at hf
            refine lv_ldc2 hx hb hown (hts _ cn_M_98) d_M_without_35 ?_
            refine lv_goto (tgt := 62) hx hb d_M_without_38 (by decide) ?_
            exact hJ2 _ _ _ _ hP hS (lv_sub hl [0, 1, 2, 3, 5, 6] rfl) hf
        · rw [if_pos hc8] at hf
          refine lv_lconst (v := (1 : Int64)) hx hb d_M_without_25 (by decide) ?_
          refine lv_goto (tgt := 62) hx hb d_M_without_26 (by decide) ?_
          exact hJ2 _ _ _ _ hP hS (lv_sub hl [0, 1, 2, 3, 5, 6] rfl) hf
  exact hL1 _ _ _ _ _ _ _ _ _ hP hS (lv_sub hl [5, 6, 4, 3, 2, 1, 0] rfl) hf
set_option maxHeartbeats 4000000 in
set_option maxRecDepth 100000 in
theorem c_M_ring {l : Launch} {D : va_G} {K : Nat → ClassId} {ad : Nat → Nat} (hj : inj ad)   {x1 : Int32} {σ : GS} {z0 : Int32 × GS} (hf : F_M_ring x1 σ = some z0) : CT l D K ad y_M_ring b_M_ring 2 (some .int) 1 [.ref (ad 63), .int x1] σ (QI D K ad z0.1 z0.2) := by
  refine CT.intro hj (by decide) (Nat.le_of_ble_eq_true rfl) ?_
  intro p e s m args below meth c ls hC hP hS hl
  obtain ⟨hx, hb, -, hown, hts, -⟩ := id hC
  have hl : lv_has ls 2 [(0, .ref (ad 63)), (1, .int x1)] := hl
  rw [F_M_ring] at hf
  refine lv_iload_n hx hb d_M_ring_0 rfl (lv_at hl 1 rfl) ?_
  refine lv_i2l hx hb d_M_ring_1 rfl ?_
  refine lv_lconst (v := (0 : Int64)) hx hb d_M_ring_2 (by decide) ?_
  refine lv_ldc2 hx hb hown (hts _ cn_M_249) d_M_ring_3 ?_
  obtain ⟨r2, hk1, hf⟩ := bp_some hf
  refine g_calli hS (g_runS (As := [.long x1.toInt64, .long (0 : Int64), .long (30 : Int64)]) (rest := []) hC hP (c_M_in hj  hk1) (rk (by decide) (by decide)) nm_M_in cd_M_in it_WideTownModel ml_M_100 sc_M_in rfl hl.1 rfl (Nat.le_of_ble_eq_true rfl) d_M_ring_6 zz) (fun H locs hP hS => ?_)
  refine lv_if_eq (tgt := 25) hx hb d_M_ring_9 (by decide) (fun hc8 => ?_) (fun hc8 => ?_)
  · rw [if_pos hc8] at hf
    refine lv_iconst (v := (-1 : Int32)) hx hb d_M_ring_25 (by decide) ?_
    cases hf
    exact g_iret hC rfl hP hS d_M_ring_26
  · rw [if_neg hc8] at hf
    refine lv_aload_n hx hb d_M_ring_12 rfl (lv_at hl 0 rfl) ?_
    refine lv_iconst (v := (0 : Int32)) hx hb d_M_ring_13 (by decide) ?_
    refine lv_iload_n hx hb d_M_ring_14 rfl (lv_at hl 1 rfl) ?_
    obtain ⟨r4, hk3, hf⟩ := bp_some hf
    refine g_calll hS (g_runS (As := [.int (0 : Int32), .int x1]) (rest := [.ref (ad 63)]) hC hP (c_M_without hj  hk3) (rk (by decide) (by decide)) nm_M_without cd_M_without it_WideTownModel ml_M_251 sc_M_without rfl hl.1 rfl (Nat.le_of_ble_eq_true rfl) d_M_ring_15 zz) (fun H locs hP hS => ?_)
    refine lv_lconst (v := (1 : Int64)) hx hb d_M_ring_18 (by decide) ?_
    obtain ⟨r6, σ7, hk5, hf⟩ := bc_some hf
    refine g_calli hS (g_runV (As := [.long r4, .long (1 : Int64)]) (rest := []) hC hP (c_M_tells hj  hk5) (rk (by decide) (by decide)) nm_M_tells cd_M_tells it_WideTownModel ml_M_236 im_M_tells sl_M_tells o_63 co_M rfl hl.1 rfl (Nat.le_of_ble_eq_true rfl) d_M_ring_19 zz) (fun H locs hP hS => ?_)
    refine lv_goto (tgt := 26) hx hb d_M_ring_22 (by decide) ?_
    cases hf
    exact g_iret hC rfl hP hS d_M_ring_26
set_option maxHeartbeats 4000000 in
set_option maxRecDepth 100000 in
theorem c_M_withinOf {l : Launch} {D : va_G} {K : Nat → ClassId} {ad : Nat → Nat} (hj : inj ad)   {x0 : Int32} {σ : GS} {z0 : Int64} (hf : F_M_withinOf x0 = some z0) : CT l D K ad y_M_withinOf b_M_withinOf 4 (some .long) 1 [.int x0] σ (QL D K ad z0 σ) := by
  refine CT.intro hj (by decide) (Nat.le_of_ble_eq_true rfl) ?_
  intro p e s m args below meth c ls hC hP hS hl
  obtain ⟨hx, hb, -, hown, hts, -⟩ := id hC
  have hl : lv_has ls 4 [(0, .int x0)] := hl
  rw [F_M_withinOf] at hf
  refine lv_lconst (v := (0 : Int64)) hx hb d_M_withinOf_0 (by decide) ?_
  refine lv_lstore_n (lv' := [(1, .long (0 : Int64)), (0, .int x0)]) hx hb d_M_withinOf_1 rfl hl (by decide) rfl (fun ls hl => ?_)
  refine lv_iconst (v := (0 : Int32)) hx hb d_M_withinOf_2 (by decide) ?_
  refine lv_istore_n (lv' := [(3, .int (0 : Int32)), (1, .long (0 : Int64)), (0, .int x0)]) hx hb d_M_withinOf_3 rfl hl (by decide) rfl (fun ls hl => ?_)
  obtain ⟨KL1_23, eKL1_23, hf⟩ := jn_some hf
  have hKL1_23 : ∀ (v1_1 : Int64) (v3_1 : Int32) (H : Heap) (locs : List Loc) (ls : Array Slot), va_P D vwCl (wG K ad σ) H → va_S (GA ad) s.heap H locs → lv_has ls 4 [(1, .long v1_1)] → KL1_23 v1_1 v3_1 = some z0 → W p l e (rmd 1) s m args below meth c H locs 0 0 (MQ below (QL D K ad z0 σ) args s 0 0 (GA ad)) (F0 m 23 ls []) := by
    clear hf
    intro v1_1 v3_1 H locs ls hP hS hl hf
    rw [eKL1_23] at hf
    try dsimp only at hf
    refine lv_lload_n hx hb d_M_withinOf_23 rfl (lv_at hl 0 rfl) ?_
    cases hf
    exact g_lret hC rfl hP hS d_M_withinOf_24
  clear eKL1_23
  have hL1 : ∀ (n : Nat) (v1_1 : Int64) (v3_1 : Int32) (H : Heap) (locs : List Loc) (ls : Array Slot), va_P D vwCl (wG K ad σ) H → va_S (GA ad) s.heap H locs → lv_has ls 4 [(0, .int x0), (1, .long v1_1), (3, .int v3_1)] → F_M_withinOf_4 x0 KL1_23 n v1_1 v3_1 = some z0 → W p l e (rmd 1) s m args below meth c H locs 0 0 (MQ below (QL D K ad z0 σ) args s 0 0 (GA ad)) (F0 m 4 ls []) := by
    clear hf
    intro n
    induction n with
    | zero =>
      intro v1_1 v3_1 H locs ls hP hS hl hf
      rw [F_M_withinOf_4.eq_1] at hf
      cases hf
    | succ n ih =>
      intro v1_1 v3_1 H locs ls hP hS hl hf
      rw [F_M_withinOf_4.eq_2] at hf
      refine lv_iload_n hx hb d_M_withinOf_4 rfl (lv_at hl 2 rfl) ?_
      refine lv_iload_n hx hb d_M_withinOf_5 rfl (lv_at hl 0 rfl) ?_
      refine lv_icmp_gt (tgt := 23) hx hb d_M_withinOf_6 (by decide) (fun hc4 => ?_) (fun hc4 => ?_)
      · rw [if_pos hc4] at hf
        exact hKL1_23 _ _ _ _ _ hP hS (lv_sub hl [1] rfl) hf
      · rw [if_neg hc4] at hf
        refine lv_lload_n hx hb d_M_withinOf_9 rfl (lv_at hl 1 rfl) ?_
        refine lv_iconst (v := (0 : Int32)) hx hb d_M_withinOf_10 (by decide) ?_
        refine lv_iload_n hx hb d_M_withinOf_11 rfl (lv_at hl 2 rfl) ?_
        obtain ⟨r3, hk2, hf⟩ := bp_some hf
        refine g_calll hS (g_runS (As := [.int (0 : Int32), .int v3_1]) (rest := [.long v1_1]) hC hP (c_M_without hj  hk2) (rk (by decide) (by decide)) nm_M_without cd_M_without it_WideTownModel ml_M_251 sc_M_without rfl hl.1 rfl (Nat.le_of_ble_eq_true rfl) d_M_withinOf_12 zz) (fun H locs hP hS => ?_)
        refine lv_ladd hx hb d_M_withinOf_15 ?_
        refine lv_lstore_n (lv' := [(1, .long (v1_1 + r3)), (0, .int x0), (3, .int v3_1)]) hx hb d_M_withinOf_16 rfl hl (by decide) rfl (fun ls hl => ?_)
        refine lv_iinc (v := v3_1 + 1) (lv' := [(3, .int (v3_1 + 1)), (1, .long (v1_1 + r3)), (0, .int x0)]) hx hb d_M_withinOf_17 hl (k := 2) rfl rfl (by decide) rfl (fun ls hl => ?_)
        refine lv_goto (tgt := 4) hx hb d_M_withinOf_20 (by decide) ?_
        exact ih _ _ _ _ _ hP hS (lv_sub hl [2, 1, 0] rfl) hf
  exact hL1 _ _ _ _ _ _ hP hS (lv_sub hl [2, 1, 0] rfl) hf
set_option maxHeartbeats 4000000 in
set_option maxRecDepth 100000 in
theorem c_M_within {l : Launch} {D : va_G} {K : Nat → ClassId} {ad : Nat → Nat} (hj : inj ad)   {x1 : Int32} {σ : GS} {z0 : Int32 × GS} (hf : F_M_within x1 σ = some z0) : CT l D K ad y_M_within b_M_within 2 (some .int) 2 [.ref (ad 63), .int x1] σ (QI D K ad z0.1 z0.2) := by
  refine CT.intro hj (by decide) (Nat.le_of_ble_eq_true rfl) ?_
  intro p e s m args below meth c ls hC hP hS hl
  obtain ⟨hx, hb, -, hown, hts, -⟩ := id hC
  have hl : lv_has ls 2 [(0, .ref (ad 63)), (1, .int x1)] := hl
  rw [F_M_within] at hf
  refine lv_iload_n hx hb d_M_within_0 rfl (lv_at hl 1 rfl) ?_
  refine lv_i2l hx hb d_M_within_1 rfl ?_
  refine lv_lconst (v := (0 : Int64)) hx hb d_M_within_2 (by decide) ?_
  refine lv_ldc2 hx hb hown (hts _ cn_M_249) d_M_within_3 ?_
  obtain ⟨r2, hk1, hf⟩ := bp_some hf
  refine g_calli hS (g_runS (As := [.long x1.toInt64, .long (0 : Int64), .long (30 : Int64)]) (rest := []) hC hP (c_M_in hj  hk1) (rk (by decide) (by decide)) nm_M_in cd_M_in it_WideTownModel ml_M_100 sc_M_in rfl hl.1 rfl (Nat.le_of_ble_eq_true rfl) d_M_within_6 zz) (fun H locs hP hS => ?_)
  refine lv_if_eq (tgt := 24) hx hb d_M_within_9 (by decide) (fun hc8 => ?_) (fun hc8 => ?_)
  · rw [if_pos hc8] at hf
    refine lv_iconst (v := (-1 : Int32)) hx hb d_M_within_24 (by decide) ?_
    cases hf
    exact g_iret hC rfl hP hS d_M_within_25
  · rw [if_neg hc8] at hf
    refine lv_aload_n hx hb d_M_within_12 rfl (lv_at hl 0 rfl) ?_
    refine lv_iload_n hx hb d_M_within_13 rfl (lv_at hl 1 rfl) ?_
    obtain ⟨r4, hk3, hf⟩ := bp_some hf
    refine g_calll hS (g_runS (As := [.int x1]) (rest := [.ref (ad 63)]) hC hP (c_M_withinOf hj  hk3) (rk (by decide) (by decide)) nm_M_withinOf cd_M_withinOf it_WideTownModel ml_M_255 sc_M_withinOf rfl hl.1 rfl (Nat.le_of_ble_eq_true rfl) d_M_within_14 zz) (fun H locs hP hS => ?_)
    refine lv_lconst (v := (1 : Int64)) hx hb d_M_within_17 (by decide) ?_
    obtain ⟨r6, σ7, hk5, hf⟩ := bc_some hf
    refine g_calli hS (g_runV (As := [.long r4, .long (1 : Int64)]) (rest := []) hC hP (c_M_tells hj  hk5) (rk (by decide) (by decide)) nm_M_tells cd_M_tells it_WideTownModel ml_M_236 im_M_tells sl_M_tells o_63 co_M rfl hl.1 rfl (Nat.le_of_ble_eq_true rfl) d_M_within_18 zz) (fun H locs hP hS => ?_)
    refine lv_goto (tgt := 25) hx hb d_M_within_21 (by decide) ?_
    cases hf
    exact g_iret hC rfl hP hS d_M_within_25
set_option maxHeartbeats 4000000 in
set_option maxRecDepth 100000 in
theorem c_M_edge {l : Launch} {D : va_G} {K : Nat → ClassId} {ad : Nat → Nat} (hj : inj ad)   {x1 : Int32} {σ : GS} {z0 : Int32 × GS} (hf : F_M_edge x1 σ = some z0) : CT l D K ad y_M_edge b_M_edge 2 (some .int) 2 [.ref (ad 63), .int x1] σ (QI D K ad z0.1 z0.2) := by
  refine CT.intro hj (by decide) (Nat.le_of_ble_eq_true rfl) ?_
  intro p e s m args below meth c ls hC hP hS hl
  obtain ⟨hx, hb, -, hown, hts, -⟩ := id hC
  have hl : lv_has ls 2 [(0, .ref (ad 63)), (1, .int x1)] := hl
  rw [F_M_edge] at hf
  refine lv_iload_n hx hb d_M_edge_0 rfl (lv_at hl 1 rfl) ?_
  refine lv_i2l hx hb d_M_edge_1 rfl ?_
  refine lv_lconst (v := (0 : Int64)) hx hb d_M_edge_2 (by decide) ?_
  refine lv_ldc2 hx hb hown (hts _ cn_M_249) d_M_edge_3 ?_
  obtain ⟨r2, hk1, hf⟩ := bp_some hf
  refine g_calli hS (g_runS (As := [.long x1.toInt64, .long (0 : Int64), .long (30 : Int64)]) (rest := []) hC hP (c_M_in hj  hk1) (rk (by decide) (by decide)) nm_M_in cd_M_in it_WideTownModel ml_M_100 sc_M_in rfl hl.1 rfl (Nat.le_of_ble_eq_true rfl) d_M_edge_6 zz) (fun H locs hP hS => ?_)
  refine lv_if_eq (tgt := 28) hx hb d_M_edge_9 (by decide) (fun hc10 => ?_) (fun hc10 => ?_)
  · rw [if_pos hc10] at hf
    refine lv_iconst (v := (-1 : Int32)) hx hb d_M_edge_28 (by decide) ?_
    cases hf
    exact g_iret hC rfl hP hS d_M_edge_29
  · rw [if_neg hc10] at hf
    refine lv_aload_n hx hb d_M_edge_12 rfl (lv_at hl 0 rfl) ?_
    refine lv_iconst (v := (0 : Int32)) hx hb d_M_edge_13 (by decide) ?_
    refine lv_iload_n hx hb d_M_edge_14 rfl (lv_at hl 1 rfl) ?_
    obtain ⟨r4, hk3, hf⟩ := bp_some hf
    refine g_calll hS (g_runS (As := [.int (0 : Int32), .int x1]) (rest := [.ref (ad 63)]) hC hP (c_M_without hj  hk3) (rk (by decide) (by decide)) nm_M_without cd_M_without it_WideTownModel ml_M_251 sc_M_without rfl hl.1 rfl (Nat.le_of_ble_eq_true rfl) d_M_edge_15 zz) (fun H locs hP hS => ?_)
    refine lv_iload_n hx hb d_M_edge_18 rfl (lv_at hl 1 rfl) ?_
    obtain ⟨r6, hk5, hf⟩ := bp_some hf
    refine g_calll hS (g_runS (As := [.int x1]) (rest := [.long r4, .ref (ad 63)]) hC hP (c_M_withinOf hj  hk5) (rk (by decide) (by decide)) nm_M_withinOf cd_M_withinOf it_WideTownModel ml_M_255 sc_M_withinOf rfl hl.1 rfl (Nat.le_of_ble_eq_true rfl) d_M_edge_19 zz) (fun H locs hP hS => ?_)
    obtain ⟨r8, σ9, hk7, hf⟩ := bc_some hf
    refine g_calli hS (g_runV (As := [.long r4, .long r6]) (rest := []) hC hP (c_M_tells hj  hk7) (rk (by decide) (by decide)) nm_M_tells cd_M_tells it_WideTownModel ml_M_236 im_M_tells sl_M_tells o_63 co_M rfl hl.1 rfl (Nat.le_of_ble_eq_true rfl) d_M_edge_22 zz) (fun H locs hP hS => ?_)
    refine lv_goto (tgt := 29) hx hb d_M_edge_25 (by decide) ?_
    cases hf
    exact g_iret hC rfl hP hS d_M_edge_29
set_option maxHeartbeats 4000000 in
set_option maxRecDepth 100000 in
theorem c_M_beyond {l : Launch} {D : va_G} {K : Nat → ClassId} {ad : Nat → Nat} (hj : inj ad)   {x1 : Int32} {x2 : Int32} {σ : GS} {z0 : Int32 × GS} (hf : F_M_beyond x1 x2 σ = some z0) : CT l D K ad y_M_beyond b_M_beyond 3 (some .int) 4 [.ref (ad 63), .int x1, .int x2] σ (QI D K ad z0.1 z0.2) := by
  refine CT.intro hj (by decide) (Nat.le_of_ble_eq_true rfl) ?_
  intro p e s m args below meth c ls hC hP hS hl
  obtain ⟨hx, hb, -, hown, hts, -⟩ := id hC
  have hl : lv_has ls 3 [(0, .ref (ad 63)), (1, .int x1), (2, .int x2)] := hl
  rw [F_M_beyond] at hf
  refine lv_iload_n hx hb d_M_beyond_0 rfl (lv_at hl 1 rfl) ?_
  obtain ⟨r2, hk1, hf⟩ := bp_some hf
  refine g_calli hS (g_runS (As := [.int x1]) (rest := []) hC hP (c_M_isCode hj  hk1) (rk (by decide) (by decide)) nm_M_isCode cd_M_isCode it_WideTownModel ml_M_213 sc_M_isCode rfl hl.1 rfl (Nat.le_of_ble_eq_true rfl) d_M_beyond_1 zz) (fun H locs hP hS => ?_)
  refine lv_if_eq (tgt := 39) hx hb d_M_beyond_4 (by decide) (fun hc16 => ?_) (fun hc16 => ?_)
  · rw [if_pos hc16] at hf
    refine lv_iconst (v := (-1 : Int32)) hx hb d_M_beyond_39 (by decide) ?_
    cases hf
    exact g_iret hC rfl hP hS d_M_beyond_40
  · rw [if_neg hc16] at hf
    refine lv_iload_n hx hb d_M_beyond_7 rfl (lv_at hl 2 rfl) ?_
    refine lv_i2l hx hb d_M_beyond_8 rfl ?_
    refine lv_lconst (v := (0 : Int64)) hx hb d_M_beyond_9 (by decide) ?_
    refine lv_ldc2 hx hb hown (hts _ cn_M_219) d_M_beyond_10 ?_
    obtain ⟨r4, hk3, hf⟩ := bp_some hf
    refine g_calli hS (g_runS (As := [.long x2.toInt64, .long (0 : Int64), .long (20 : Int64)]) (rest := []) hC hP (c_M_in hj  hk3) (rk (by decide) (by decide)) nm_M_in cd_M_in it_WideTownModel ml_M_100 sc_M_in rfl hl.1 rfl (Nat.le_of_ble_eq_true rfl) d_M_beyond_13 zz) (fun H locs hP hS => ?_)
    refine lv_if_eq (tgt := 39) hx hb d_M_beyond_16 (by decide) (fun hc15 => ?_) (fun hc15 => ?_)
    · rw [if_pos hc15] at hf
      refine lv_iconst (v := (-1 : Int32)) hx hb d_M_beyond_39 (by decide) ?_
      cases hf
      exact g_iret hC rfl hP hS d_M_beyond_40
    · rw [if_neg hc15] at hf
      refine lv_aload_n hx hb d_M_beyond_19 rfl (lv_at hl 0 rfl) ?_
      refine lv_aload_n hx hb d_M_beyond_20 rfl (lv_at hl 0 rfl) ?_
      refine lv_iload_n hx hb d_M_beyond_21 rfl (lv_at hl 1 rfl) ?_
      obtain ⟨r6, σ7, hk5, hf⟩ := bc_some hf
      refine g_calli hS (g_runV (As := [.int x1]) (rest := [.ref (ad 63)]) hC hP (c_M_endsOf hj  hk5) (rk (by decide) (by decide)) nm_M_endsOf cd_M_endsOf it_WideTownModel ml_M_178 im_M_endsOf sl_M_endsOf o_63 co_M rfl hl.1 rfl (Nat.le_of_ble_eq_true rfl) d_M_beyond_22 zz) (fun H locs hP hS => ?_)
      obtain ⟨r9, hk8, hf⟩ := bp_some hf
      refine g_calli hS (g_runS (As := [.int r6]) (rest := [.ref (ad 63)]) hC hP (c_M_bits hj  hk8) (rk (by decide) (by decide)) nm_M_bits cd_M_bits it_WideTownModel ml_M_207 sc_M_bits rfl hl.1 rfl (Nat.le_of_ble_eq_true rfl) d_M_beyond_25 zz) (fun H locs hP hS => ?_)
      refine lv_iload_n hx hb d_M_beyond_28 rfl (lv_at hl 2 rfl) ?_
      obtain ⟨r11, hk10, hf⟩ := bp_some hf
      refine g_calll hS (g_runS (As := [.int r9, .int x2]) (rest := [.ref (ad 63)]) hC hP (c_M_without hj  hk10) (rk (by decide) (by decide)) nm_M_without cd_M_without it_WideTownModel ml_M_251 sc_M_without rfl hl.1 rfl (Nat.le_of_ble_eq_true rfl) d_M_beyond_29 zz) (fun H locs hP hS => ?_)
      refine lv_lconst (v := (1 : Int64)) hx hb d_M_beyond_32 (by decide) ?_
      obtain ⟨r13, σ14, hk12, hf⟩ := bc_some hf
      refine g_calli hS (g_runV (As := [.long r11, .long (1 : Int64)]) (rest := []) hC hP (c_M_tells hj  hk12) (rk (by decide) (by decide)) nm_M_tells cd_M_tells it_WideTownModel ml_M_236 im_M_tells sl_M_tells o_63 co_M rfl hl.1 rfl (Nat.le_of_ble_eq_true rfl) d_M_beyond_33 zz) (fun H locs hP hS => ?_)
      refine lv_goto (tgt := 40) hx hb d_M_beyond_36 (by decide) ?_
      cases hf
      exact g_iret hC rfl hP hS d_M_beyond_40
set_option maxHeartbeats 4000000 in
set_option maxRecDepth 100000 in
theorem c_M_houses {l : Launch} {D : va_G} {K : Nat → ClassId} {ad : Nat → Nat} (hj : inj ad)   {x1 : Int32} {σ : GS} {z0 : Int32 × GS} (hf : F_M_houses x1 σ = some z0) : CT l D K ad y_M_houses b_M_houses 5 (some .int) 1 [.ref (ad 63), .int x1] σ (QI D K ad z0.1 z0.2) := by
  refine CT.intro hj (by decide) (Nat.le_of_ble_eq_true rfl) ?_
  intro p e s m args below meth c ls hC hP hS hl
  obtain ⟨hx, hb, -, hown, hts, -⟩ := id hC
  have hl : lv_has ls 5 [(0, .ref (ad 63)), (1, .int x1)] := hl
  rw [F_M_houses] at hf
  refine lv_iload_n hx hb d_M_houses_0 rfl (lv_at hl 1 rfl) ?_
  refine lv_i2l hx hb d_M_houses_1 rfl ?_
  refine lv_lconst (v := (0 : Int64)) hx hb d_M_houses_2 (by decide) ?_
  refine lv_ldc2 hx hb hown (hts _ cn_M_219) d_M_houses_3 ?_
  obtain ⟨r2, hk1, hf⟩ := bp_some hf
  refine g_calli hS (g_runS (As := [.long x1.toInt64, .long (0 : Int64), .long (20 : Int64)]) (rest := []) hC hP (c_M_in hj  hk1) (rk (by decide) (by decide)) nm_M_in cd_M_in it_WideTownModel ml_M_100 sc_M_in rfl hl.1 rfl (Nat.le_of_ble_eq_true rfl) d_M_houses_6 zz) (fun H locs hP hS => ?_)
  refine lv_if_ne (tgt := 14) hx hb d_M_houses_9 (by decide) (fun hc10 => ?_) (fun hc10 => ?_)
  · rw [if_neg hc10] at hf
    refine lv_lconst (v := (0 : Int64)) hx hb d_M_houses_14 (by decide) ?_
    refine lv_lstore_n (lv' := [(2, .long (0 : Int64)), (0, .ref (ad 63)), (1, .int x1)]) hx hb d_M_houses_15 rfl hl (by decide) rfl (fun ls hl => ?_)
    refine lv_iconst (v := (0 : Int32)) hx hb d_M_houses_16 (by decide) ?_
    refine lv_istore (lv' := [(4, .int (0 : Int32)), (2, .long (0 : Int64)), (0, .ref (ad 63)), (1, .int x1)]) hx hb d_M_houses_17 hl (by decide) rfl (fun ls hl => ?_)
    obtain ⟨KL3_44, eKL3_44, hf⟩ := jn_some hf
    have hKL3_44 : ∀ (v2_3 : Int64) (v4_3 : Int32) (H : Heap) (locs : List Loc) (ls : Array Slot), va_P D vwCl (wG K ad σ) H → va_S (GA ad) s.heap H locs → lv_has ls 5 [(0, .ref (ad 63)), (2, .long v2_3)] → KL3_44 v2_3 v4_3 = some z0 → W p l e (rmd 1) s m args below meth c H locs 0 0 (MQ below (QI D K ad z0.1 z0.2) args s 0 0 (GA ad)) (F0 m 44 ls []) := by
      clear hf
      intro v2_3 v4_3 H locs ls hP hS hl hf
      rw [eKL3_44] at hf
      try dsimp only at hf
      refine lv_aload_n hx hb d_M_houses_44 rfl (lv_at hl 0 rfl) ?_
      refine lv_lload_n hx hb d_M_houses_45 rfl (lv_at hl 1 rfl) ?_
      refine lv_lconst (v := (1 : Int64)) hx hb d_M_houses_46 (by decide) ?_
      obtain ⟨r5, σ6, hk4, hf⟩ := bc_some hf
      refine g_calli hS (g_runV (As := [.long v2_3, .long (1 : Int64)]) (rest := []) hC hP (c_M_tells hj  hk4) (rk (by decide) (by decide)) nm_M_tells cd_M_tells it_WideTownModel ml_M_236 im_M_tells sl_M_tells o_63 co_M rfl hl.1 rfl (Nat.le_of_ble_eq_true rfl) d_M_houses_47 zz) (fun H locs hP hS => ?_)
      cases hf
      exact g_iret hC rfl hP hS d_M_houses_50
    clear eKL3_44
    have hL3 : ∀ (n : Nat) (v2_3 : Int64) (v4_3 : Int32) (H : Heap) (locs : List Loc) (ls : Array Slot), va_P D vwCl (wG K ad σ) H → va_S (GA ad) s.heap H locs → lv_has ls 5 [(0, .ref (ad 63)), (1, .int x1), (2, .long v2_3), (4, .int v4_3)] → F_M_houses_19 x1 σ KL3_44 n v2_3 v4_3 = some z0 → W p l e (rmd 1) s m args below meth c H locs 0 0 (MQ below (QI D K ad z0.1 z0.2) args s 0 0 (GA ad)) (F0 m 19 ls []) := by
      clear hf
      intro n
      induction n with
      | zero =>
        intro v2_3 v4_3 H locs ls hP hS hl hf
        rw [F_M_houses_19.eq_1] at hf
        cases hf
      | succ n ih =>
        intro v2_3 v4_3 H locs ls hP hS hl hf
        rw [F_M_houses_19.eq_2] at hf
        refine lv_iload hx hb d_M_houses_19 (lv_at hl 3 rfl) ?_
        refine lv_iload_n hx hb d_M_houses_21 rfl (lv_at hl 1 rfl) ?_
        refine lv_icmp_gt (tgt := 44) hx hb d_M_houses_22 (by decide) (fun hc9 => ?_) (fun hc9 => ?_)
        · rw [if_pos hc9] at hf
          exact hKL3_44 _ _ _ _ _ hP hS (lv_sub hl [0, 2] rfl) hf
        · rw [if_neg hc9] at hf
          refine lv_lload_n hx hb d_M_houses_25 rfl (lv_at hl 2 rfl) ?_
          refine lv_ldc2 hx hb hown (hts _ cn_M_98) d_M_houses_26 ?_
          refine lv_iconst (v := (2 : Int32)) hx hb d_M_houses_29 (by decide) ?_
          refine lv_iload hx hb d_M_houses_30 (lv_at hl 3 rfl) ?_
          obtain ⟨r8, hk7, hf⟩ := bp_some hf
          refine g_calll hS (g_runS (As := [.int (2 : Int32), .int v4_3]) (rest := [.long (5 : Int64), .long v2_3]) hC hP (c_M_without hj  hk7) (rk (by decide) (by decide)) nm_M_without cd_M_without it_WideTownModel ml_M_251 sc_M_without rfl hl.1 rfl (Nat.le_of_ble_eq_true rfl) d_M_houses_32 zz) (fun H locs hP hS => ?_)
          refine lv_lmul hx hb d_M_houses_35 ?_
          refine lv_ladd hx hb d_M_houses_36 ?_
          refine lv_lstore_n (lv' := [(2, .long (v2_3 + ((5 : Int64) * r8))), (0, .ref (ad 63)), (1, .int x1), (4, .int v4_3)]) hx hb d_M_houses_37 rfl hl (by decide) rfl (fun ls hl => ?_)
          refine lv_iinc (v := v4_3 + 1) (lv' := [(4, .int (v4_3 + 1)), (2, .long (v2_3 + ((5 : Int64) * r8))), (0, .ref (ad 63)), (1, .int x1)]) hx hb d_M_houses_38 hl (k := 3) rfl rfl (by decide) rfl (fun ls hl => ?_)
          refine lv_goto (tgt := 19) hx hb d_M_houses_41 (by decide) ?_
          exact ih _ _ _ _ _ hP hS (lv_sub hl [2, 3, 1, 0] rfl) hf
    exact hL3 _ _ _ _ _ _ hP hS (lv_sub hl [2, 3, 1, 0] rfl) hf
  · rw [if_pos hc10] at hf
    refine lv_iconst (v := (-1 : Int32)) hx hb d_M_houses_12 (by decide) ?_
    cases hf
    exact g_iret hC rfl hP hS d_M_houses_13
set_option maxHeartbeats 4000000 in
set_option maxRecDepth 100000 in
theorem c_M_noStreets {l : Launch} {D : va_G} {K : Nat → ClassId} {ad : Nat → Nat} (hj : inj ad)   {x1 : Int32} {σ : GS} {z0 : Int32 × GS} (hf : F_M_noStreets x1 σ = some z0) : CT l D K ad y_M_noStreets b_M_noStreets 4 (some .int) 2 [.ref (ad 63), .int x1] σ (QI D K ad z0.1 z0.2) := by
  refine CT.intro hj (by decide) (Nat.le_of_ble_eq_true rfl) ?_
  intro p e s m args below meth c ls hC hP hS hl
  obtain ⟨hx, hb, -, hown, hts, -⟩ := id hC
  have hl : lv_has ls 4 [(0, .ref (ad 63)), (1, .int x1)] := hl
  rw [F_M_noStreets] at hf
  refine lv_iload_n hx hb d_M_noStreets_0 rfl (lv_at hl 1 rfl) ?_
  obtain ⟨r2, hk1, hf⟩ := bp_some hf
  refine g_calli hS (g_runS (As := [.int x1]) (rest := []) hC hP (c_M_isRow hj  hk1) (rk (by decide) (by decide)) nm_M_isRow cd_M_isRow it_WideTownModel ml_M_106 sc_M_isRow rfl hl.1 rfl (Nat.le_of_ble_eq_true rfl) d_M_noStreets_1 zz) (fun H locs hP hS => ?_)
  refine lv_if_ne (tgt := 9) hx hb d_M_noStreets_4 (by decide) (fun hc20 => ?_) (fun hc20 => ?_)
  · rw [if_neg hc20] at hf
    refine lv_aload_n hx hb d_M_noStreets_9 rfl (lv_at hl 0 rfl) ?_
    refine g_get (v := .ref (ad 64)) hC hP o_63 co_M 0 (by decide) rfl fl_M_7 rfl d_M_noStreets_10 ?_
    refine lv_iload_n hx hb d_M_noStreets_13 rfl (lv_at hl 1 rfl) ?_
    obtain ⟨hg3, hf⟩ := gd_some hf
    refine g_iald2 (j := x1.toNatClampNeg) hC hP a_64 hg3 rfl d_M_noStreets_14 ?_
    refine lv_if_ge (tgt := 24) hx hb d_M_noStreets_15 (by decide) (fun hc19 => ?_) (fun hc19 => ?_)
    · rw [if_pos hc19] at hf
      refine lv_iconst (v := (1 : Int32)) hx hb d_M_noStreets_24 (by decide) ?_
      refine lv_istore_n (lv' := [(2, .int (1 : Int32)), (0, .ref (ad 63)), (1, .int x1)]) hx hb d_M_noStreets_25 rfl hl (by decide) rfl (fun ls hl => ?_)
      refine lv_iconst (v := (0 : Int32)) hx hb d_M_noStreets_26 (by decide) ?_
      refine lv_istore_n (lv' := [(3, .int (0 : Int32)), (2, .int (1 : Int32)), (0, .ref (ad 63)), (1, .int x1)]) hx hb d_M_noStreets_27 rfl hl (by decide) rfl (fun ls hl => ?_)
      obtain ⟨KL4_71, eKL4_71, hf⟩ := jn_some hf
      have hKL4_71 : ∀ (v2_4 : Int32) (v3_4 : Int32) (H : Heap) (locs : List Loc) (ls : Array Slot), va_P D vwCl (wG K ad σ) H → va_S (GA ad) s.heap H locs → lv_has ls 4 [(0, .ref (ad 63)), (2, .int v2_4)] → KL4_71 v2_4 v3_4 = some z0 → W p l e (rmd 2) s m args below meth c H locs 0 0 (MQ below (QI D K ad z0.1 z0.2) args s 0 0 (GA ad)) (F0 m 71 ls []) := by
        clear hf
        intro v2_4 v3_4 H locs ls hP hS hl hf
        rw [eKL4_71] at hf
        try dsimp only at hf
        refine lv_iload_n hx hb d_M_noStreets_71 rfl (lv_at hl 1 rfl) ?_
        refine lv_if_eq (tgt := 79) hx hb d_M_noStreets_72 (by decide) (fun hc8 => ?_) (fun hc8 => ?_)
        · rw [if_pos hc8] at hf
          refine lv_aload_n hx hb d_M_noStreets_79 rfl (lv_at hl 0 rfl) ?_
          refine lv_iconst (v := (3 : Int32)) hx hb d_M_noStreets_80 (by decide) ?_
          obtain ⟨r6, σ7, hk5, hf⟩ := bc_some hf
          refine g_calli hS (g_runV (As := [.int (3 : Int32)]) (rest := []) hC hP (c_M_found hj  hk5) (rk (by decide) (by decide)) nm_M_found cd_M_found it_WideTownModel ml_M_110 im_M_found sl_M_found o_63 co_M rfl hl.1 rfl (Nat.le_of_ble_eq_true rfl) d_M_noStreets_81 zz) (fun H locs hP hS => ?_)
          cases hf
          exact g_iret hC rfl hP hS d_M_noStreets_84
        · rw [if_neg hc8] at hf
          refine lv_iconst (v := (0 : Int32)) hx hb d_M_noStreets_75 (by decide) ?_
          refine lv_goto (tgt := 84) hx hb d_M_noStreets_76 (by decide) ?_
          cases hf
          exact g_iret hC rfl hP hS d_M_noStreets_84
      clear eKL4_71
      have hL4 : ∀ (n : Nat) (v2_4 : Int32) (v3_4 : Int32) (H : Heap) (locs : List Loc) (ls : Array Slot), va_P D vwCl (wG K ad σ) H → va_S (GA ad) s.heap H locs → lv_has ls 4 [(0, .ref (ad 63)), (1, .int x1), (2, .int v2_4), (3, .int v3_4)] → F_M_noStreets_28 x1 σ KL4_71 n v2_4 v3_4 = some z0 → W p l e (rmd 2) s m args below meth c H locs 0 0 (MQ below (QI D K ad z0.1 z0.2) args s 0 0 (GA ad)) (F0 m 28 ls []) := by
        clear hf
        intro n
        induction n with
        | zero =>
          intro v2_4 v3_4 H locs ls hP hS hl hf
          rw [F_M_noStreets_28.eq_1] at hf
          cases hf
        | succ n ih =>
          intro v2_4 v3_4 H locs ls hP hS hl hf
          rw [F_M_noStreets_28.eq_2] at hf
          refine lv_iload_n hx hb d_M_noStreets_28 rfl (lv_at hl 3 rfl) ?_
          refine lv_aload_n hx hb d_M_noStreets_29 rfl (lv_at hl 0 rfl) ?_
          refine g_get (v := .ref (ad 64)) hC hP o_63 co_M 0 (by decide) rfl fl_M_7 rfl d_M_noStreets_30 ?_
          refine lv_iload_n hx hb d_M_noStreets_33 rfl (lv_at hl 1 rfl) ?_
          obtain ⟨hg9, hf⟩ := gd_some hf
          refine g_iald2 (j := x1.toNatClampNeg) hC hP a_64 hg9 rfl d_M_noStreets_34 ?_
          refine lv_icmp_ge (tgt := 71) hx hb d_M_noStreets_35 (by decide) (fun hc15 => ?_) (fun hc15 => ?_)
          · rw [if_pos hc15] at hf
            exact hKL4_71 _ _ _ _ _ hP hS (lv_sub hl [0, 2] rfl) hf
          · rw [if_neg hc15] at hf
            refine lv_iload_n hx hb d_M_noStreets_38 rfl (lv_at hl 2 rfl) ?_
            refine lv_if_eq (tgt := 63) hx hb d_M_noStreets_39 (by decide) (fun hc14 => ?_) (fun hc14 => ?_)
            · rw [if_pos hc14] at hf
              refine lv_iconst (v := (0 : Int32)) hx hb d_M_noStreets_63 (by decide) ?_
              refine lv_istore_n (lv' := [(2, .int (0 : Int32)), (0, .ref (ad 63)), (1, .int x1), (3, .int v3_4)]) hx hb d_M_noStreets_64 rfl hl (by decide) rfl (fun ls hl => ?_)
              refine lv_iinc (v := v3_4 + 1) (lv' := [(3, .int (v3_4 + 1)), (2, .int (0 : Int32)), (0, .ref (ad 63)), (1, .int x1)]) hx hb d_M_noStreets_65 hl (k := 3) rfl rfl (by decide) rfl (fun ls hl => ?_)
              refine lv_goto (tgt := 28) hx hb d_M_noStreets_68 (by decide) ?_
              exact ih _ _ _ _ _ hP hS (lv_sub hl [2, 3, 1, 0] rfl) hf
            · rw [if_neg hc14] at hf
              refine lv_aload_n hx hb d_M_noStreets_42 rfl (lv_at hl 0 rfl) ?_
              refine g_get (v := .ref (ad 65)) hC hP o_63 co_M 1 (by decide) rfl fl_M_13 rfl d_M_noStreets_43 ?_
              refine lv_bipush (v := (40 : Int32)) hx hb d_M_noStreets_46 (by decide) ?_
              refine lv_iload_n hx hb d_M_noStreets_48 rfl (lv_at hl 1 rfl) ?_
              refine lv_imul hx hb d_M_noStreets_49 ?_
              refine lv_iload_n hx hb d_M_noStreets_50 rfl (lv_at hl 3 rfl) ?_
              refine lv_iadd hx hb d_M_noStreets_51 ?_
              obtain ⟨hg10, hf⟩ := gd_some hf
              refine g_iald2 (j := (((40 : Int32) * x1) + v3_4).toNatClampNeg) hC hP a_65 hg10 rfl d_M_noStreets_52 ?_
              obtain ⟨r12, hk11, hf⟩ := bp_some hf
              refine g_calli hS (g_runS (As := [.int (σ.1 65 (((40 : Int32) * x1) + v3_4).toNatClampNeg)]) (rest := []) hC hP (c_M_isStreet hj  hk11) (rk (by decide) (by decide)) nm_M_isStreet cd_M_isStreet it_WideTownModel ml_M_131 sc_M_isStreet rfl hl.1 rfl (Nat.le_of_ble_eq_true rfl) d_M_noStreets_53 zz) (fun H locs hP hS => ?_)
              refine lv_if_eq (tgt := 63) hx hb d_M_noStreets_56 (by decide) (fun hc13 => ?_) (fun hc13 => ?_)
              · rw [if_pos hc13] at hf
                refine lv_iconst (v := (0 : Int32)) hx hb d_M_noStreets_63 (by decide) ?_
                refine lv_istore_n (lv' := [(2, .int (0 : Int32)), (0, .ref (ad 63)), (1, .int x1), (3, .int v3_4)]) hx hb d_M_noStreets_64 rfl hl (by decide) rfl (fun ls hl => ?_)
                refine lv_iinc (v := v3_4 + 1) (lv' := [(3, .int (v3_4 + 1)), (2, .int (0 : Int32)), (0, .ref (ad 63)), (1, .int x1)]) hx hb d_M_noStreets_65 hl (k := 3) rfl rfl (by decide) rfl (fun ls hl => ?_)
                refine lv_goto (tgt := 28) hx hb d_M_noStreets_68 (by decide) ?_
                exact ih _ _ _ _ _ hP hS (lv_sub hl [2, 3, 1, 0] rfl) hf
              · rw [if_neg hc13] at hf
                refine lv_iconst (v := (1 : Int32)) hx hb d_M_noStreets_59 (by decide) ?_
                refine lv_goto (tgt := 64) hx hb d_M_noStreets_60 (by decide) ?_
                refine lv_istore_n (lv' := [(2, .int (1 : Int32)), (0, .ref (ad 63)), (1, .int x1), (3, .int v3_4)]) hx hb d_M_noStreets_64 rfl hl (by decide) rfl (fun ls hl => ?_)
                refine lv_iinc (v := v3_4 + 1) (lv' := [(3, .int (v3_4 + 1)), (2, .int (1 : Int32)), (0, .ref (ad 63)), (1, .int x1)]) hx hb d_M_noStreets_65 hl (k := 3) rfl rfl (by decide) rfl (fun ls hl => ?_)
                refine lv_goto (tgt := 28) hx hb d_M_noStreets_68 (by decide) ?_
                exact ih _ _ _ _ _ hP hS (lv_sub hl [2, 3, 1, 0] rfl) hf
      exact hL4 _ _ _ _ _ _ hP hS (lv_sub hl [2, 3, 1, 0] rfl) hf
    · rw [if_neg hc19] at hf
      refine lv_aload_n hx hb d_M_noStreets_18 rfl (lv_at hl 0 rfl) ?_
      refine lv_iconst (v := (1 : Int32)) hx hb d_M_noStreets_19 (by decide) ?_
      obtain ⟨r17, σ18, hk16, hf⟩ := bc_some hf
      refine g_calli hS (g_runV (As := [.int (1 : Int32)]) (rest := []) hC hP (c_M_found hj  hk16) (rk (by decide) (by decide)) nm_M_found cd_M_found it_WideTownModel ml_M_110 im_M_found sl_M_found o_63 co_M rfl hl.1 rfl (Nat.le_of_ble_eq_true rfl) d_M_noStreets_20 zz) (fun H locs hP hS => ?_)
      cases hf
      exact g_iret hC rfl hP hS d_M_noStreets_23
  · rw [if_pos hc20] at hf
    refine lv_iconst (v := (-1 : Int32)) hx hb d_M_noStreets_7 (by decide) ?_
    cases hf
    exact g_iret hC rfl hP hS d_M_noStreets_8
set_option maxHeartbeats 4000000 in
set_option maxRecDepth 100000 in
theorem c_M_walk {l : Launch} {D : va_G} {K : Nat → ClassId} {ad : Nat → Nat} (hj : inj ad)   {x1 : Int32} {σ : GS} {z0 : Int32 × GS} (hf : F_M_walk x1 σ = some z0) : CT l D K ad y_M_walk b_M_walk 5 (some .int) 4 [.ref (ad 63), .int x1] σ (QI D K ad z0.1 z0.2) := by
  refine CT.intro hj (by decide) (Nat.le_of_ble_eq_true rfl) ?_
  intro p e s m args below meth c ls hC hP hS hl
  obtain ⟨hx, hb, -, hown, hts, -⟩ := id hC
  have hl : lv_has ls 5 [(0, .ref (ad 63)), (1, .int x1)] := hl
  rw [F_M_walk] at hf
  refine lv_aload_n hx hb d_M_walk_0 rfl (lv_at hl 0 rfl) ?_
  refine lv_iload_n hx hb d_M_walk_1 rfl (lv_at hl 1 rfl) ?_
  obtain ⟨r2, σ3, hk1, hf⟩ := bc_some hf
  refine g_calli hS (g_runV (As := [.int x1]) (rest := []) hC hP (c_M_noStreets hj  hk1) (rk (by decide) (by decide)) nm_M_noStreets cd_M_noStreets it_WideTownModel ml_M_259 im_M_noStreets sl_M_noStreets o_63 co_M rfl hl.1 rfl (Nat.le_of_ble_eq_true rfl) d_M_walk_2 zz) (fun H locs hP hS => ?_)
  refine lv_istore_n (lv' := [(2, .int r2), (0, .ref (ad 63)), (1, .int x1)]) hx hb d_M_walk_5 rfl hl (by decide) rfl (fun ls hl => ?_)
  refine lv_iload_n hx hb d_M_walk_6 rfl (lv_at hl 0 rfl) ?_
  refine lv_if_ge (tgt := 12) hx hb d_M_walk_7 (by decide) (fun hc19 => ?_) (fun hc19 => ?_)
  · rw [if_pos hc19] at hf
    refine lv_iconst (v := (0 : Int32)) hx hb d_M_walk_12 (by decide) ?_
    refine lv_istore_n (lv' := [(3, .int (0 : Int32)), (2, .int r2), (0, .ref (ad 63)), (1, .int x1)]) hx hb d_M_walk_13 rfl hl (by decide) rfl (fun ls hl => ?_)
    refine lv_iconst (v := (0 : Int32)) hx hb d_M_walk_14 (by decide) ?_
    refine lv_istore (lv' := [(4, .int (0 : Int32)), (3, .int (0 : Int32)), (2, .int r2), (0, .ref (ad 63)), (1, .int x1)]) hx hb d_M_walk_15 hl (by decide) rfl (fun ls hl => ?_)
    obtain ⟨KL4_55, eKL4_55, hf⟩ := jn_some hf
    have hKL4_55 : ∀ (v3_4 : Int32) (v4_4 : Int32) (σL4 : GS) (H : Heap) (locs : List Loc) (ls : Array Slot), va_P D vwCl (wG K ad σL4) H → va_S (GA ad) s.heap H locs → lv_has ls 5 [(0, .ref (ad 63)), (1, .int x1), (3, .int v3_4)] → KL4_55 v3_4 v4_4 σL4 = some z0 → W p l e (rmd 4) s m args below meth c H locs 0 0 (MQ below (QI D K ad z0.1 z0.2) args s 0 0 (GA ad)) (F0 m 55 ls []) := by
      clear hf
      intro v3_4 v4_4 σL4 H locs ls hP hS hl hf
      rw [eKL4_55] at hf
      try dsimp only at hf
      refine lv_iload_n hx hb d_M_walk_55 rfl (lv_at hl 2 rfl) ?_
      refine lv_bipush (v := (9 : Int32)) hx hb d_M_walk_56 (by decide) ?_
      refine lv_icmp_le (tgt := 64) hx hb d_M_walk_58 (by decide) (fun hc12 => ?_) (fun hc12 => ?_)
      · rw [if_pos hc12] at hf
        refine lv_aload_n hx hb d_M_walk_64 rfl (lv_at hl 0 rfl) ?_
        refine lv_aload_n hx hb d_M_walk_65 rfl (lv_at hl 0 rfl) ?_
        refine g_get (v := .ref (ad 64)) hC hP o_63 co_M 0 (by decide) rfl fl_M_7 rfl d_M_walk_66 ?_
        refine lv_iload_n hx hb d_M_walk_69 rfl (lv_at hl 1 rfl) ?_
        obtain ⟨hg5, hf⟩ := gd_some hf
        refine g_iald2 (j := x1.toNatClampNeg) hC hP a_64 hg5 rfl d_M_walk_70 ?_
        refine lv_iload_n hx hb d_M_walk_71 rfl (lv_at hl 2 rfl) ?_
        refine lv_isub hx hb d_M_walk_72 ?_
        obtain ⟨r7, σ8, hk6, hf⟩ := bc_some hf
        refine g_calli hS (g_runV (As := [.int ((σL4.1 64 x1.toNatClampNeg) - v3_4)]) (rest := []) hC hP (c_M_tell hj  hk6) (rk (by decide) (by decide)) nm_M_tell cd_M_tell it_WideTownModel ml_M_114 im_M_tell sl_M_tell o_63 co_M rfl hl.1 rfl (Nat.le_of_ble_eq_true rfl) d_M_walk_73 zz) (fun H locs hP hS => ?_)
        refine lv_istore (lv' := [(4, .int r7), (0, .ref (ad 63)), (1, .int x1), (3, .int v3_4)]) hx hb d_M_walk_76 hl (by decide) rfl (fun ls hl => ?_)
        refine lv_aload_n hx hb d_M_walk_78 rfl (lv_at hl 1 rfl) ?_
        refine lv_aload_n hx hb d_M_walk_79 rfl (lv_at hl 1 rfl) ?_
        refine g_get (v := .ref (ad 75)) hC hP o_63 co_M 16 (by decide) rfl fl_M_48 rfl d_M_walk_80 ?_
        refine lv_iload_n hx hb d_M_walk_83 rfl (lv_at hl 3 rfl) ?_
        obtain ⟨r10, σ11, hk9, hf⟩ := bc_some hf
        refine g_calli hS (g_runV (As := [.ref (ad 75), .int v3_4]) (rest := []) hC hP (c_M_codeOf hj a_75 hk9) (rk (by decide) (by decide)) nm_M_codeOf cd_M_codeOf it_WideTownModel ml_M_138 im_M_codeOf sl_M_codeOf o_63 co_M rfl hl.1 rfl (Nat.le_of_ble_eq_true rfl) d_M_walk_84 zz) (fun H locs hP hS => ?_)
        cases hf
        exact g_iret hC rfl hP hS d_M_walk_87
      · rw [if_neg hc12] at hf
        refine lv_bipush (v := (-6 : Int32)) hx hb d_M_walk_61 (by decide) ?_
        cases hf
        exact g_iret hC rfl hP hS d_M_walk_63
    clear eKL4_55
    have hL4 : ∀ (n : Nat) (v3_4 : Int32) (v4_4 : Int32) (σL4 : GS) (H : Heap) (locs : List Loc) (ls : Array Slot), va_P D vwCl (wG K ad σL4) H → va_S (GA ad) s.heap H locs → lv_has ls 5 [(0, .ref (ad 63)), (1, .int x1), (3, .int v3_4), (4, .int v4_4)] → F_M_walk_17 x1 KL4_55 n v3_4 v4_4 σL4 = some z0 → W p l e (rmd 4) s m args below meth c H locs 0 0 (MQ below (QI D K ad z0.1 z0.2) args s 0 0 (GA ad)) (F0 m 17 ls []) := by
      clear hf
      intro n
      induction n with
      | zero =>
        intro v3_4 v4_4 σL4 H locs ls hP hS hl hf
        rw [F_M_walk_17.eq_1] at hf
        cases hf
      | succ n ih =>
        intro v3_4 v4_4 σL4 H locs ls hP hS hl hf
        rw [F_M_walk_17.eq_2] at hf
        refine lv_iload hx hb d_M_walk_17 (lv_at hl 3 rfl) ?_
        refine lv_aload_n hx hb d_M_walk_19 rfl (lv_at hl 0 rfl) ?_
        refine g_get (v := .ref (ad 64)) hC hP o_63 co_M 0 (by decide) rfl fl_M_7 rfl d_M_walk_20 ?_
        refine lv_iload_n hx hb d_M_walk_23 rfl (lv_at hl 1 rfl) ?_
        obtain ⟨hg13, hf⟩ := gd_some hf
        refine g_iald2 (j := x1.toNatClampNeg) hC hP a_64 hg13 rfl d_M_walk_24 ?_
        refine lv_icmp_ge (tgt := 55) hx hb d_M_walk_25 (by decide) (fun hc18 => ?_) (fun hc18 => ?_)
        · rw [if_pos hc18] at hf
          exact hKL4_55 _ _ _ _ _ _ hP hS (lv_sub hl [0, 1, 2] rfl) hf
        · rw [if_neg hc18] at hf
          refine lv_aload_n hx hb d_M_walk_28 rfl (lv_at hl 0 rfl) ?_
          refine g_get (v := .ref (ad 75)) hC hP o_63 co_M 16 (by decide) rfl fl_M_48 rfl d_M_walk_29 ?_
          refine lv_iload_n hx hb d_M_walk_32 rfl (lv_at hl 2 rfl) ?_
          refine lv_aload_n hx hb d_M_walk_33 rfl (lv_at hl 0 rfl) ?_
          refine g_get (v := .ref (ad 65)) hC hP o_63 co_M 1 (by decide) rfl fl_M_13 rfl d_M_walk_34 ?_
          refine lv_bipush (v := (40 : Int32)) hx hb d_M_walk_37 (by decide) ?_
          refine lv_iload_n hx hb d_M_walk_39 rfl (lv_at hl 1 rfl) ?_
          refine lv_imul hx hb d_M_walk_40 ?_
          refine lv_iload hx hb d_M_walk_41 (lv_at hl 3 rfl) ?_
          refine lv_iadd hx hb d_M_walk_43 ?_
          obtain ⟨hg14, hf⟩ := gd_some hf
          refine g_iald2 (j := (((40 : Int32) * x1) + v4_4).toNatClampNeg) hC hP a_65 hg14 rfl d_M_walk_44 ?_
          obtain ⟨r16, σ17, hk15, hf⟩ := bc_some hf
          refine g_calli hS (g_runS (As := [.ref (ad 75), .int v3_4, .int (σL4.1 65 (((40 : Int32) * x1) + v4_4).toNatClampNeg)]) (rest := []) hC hP (c_M_times hj a_75 hk15) (rk (by decide) (by decide)) nm_M_times cd_M_times it_WideTownModel ml_M_134 sc_M_times rfl hl.1 rfl (Nat.le_of_ble_eq_true rfl) d_M_walk_45 zz) (fun H locs hP hS => ?_)
          refine lv_istore_n (lv' := [(3, .int r16), (0, .ref (ad 63)), (1, .int x1), (4, .int v4_4)]) hx hb d_M_walk_48 rfl hl (by decide) rfl (fun ls hl => ?_)
          refine lv_iinc (v := v4_4 + 1) (lv' := [(4, .int (v4_4 + 1)), (3, .int r16), (0, .ref (ad 63)), (1, .int x1)]) hx hb d_M_walk_49 hl (k := 3) rfl rfl (by decide) rfl (fun ls hl => ?_)
          refine lv_goto (tgt := 17) hx hb d_M_walk_52 (by decide) ?_
          exact ih _ _ _ _ _ _ hP hS (lv_sub hl [2, 3, 1, 0] rfl) hf
    exact hL4 _ _ _ _ _ _ _ hP hS (lv_sub hl [3, 4, 1, 0] rfl) hf
  · rw [if_neg hc19] at hf
    refine lv_iload_n hx hb d_M_walk_10 rfl (lv_at hl 0 rfl) ?_
    cases hf
    exact g_iret hC rfl hP hS d_M_walk_11
set_option maxHeartbeats 4000000 in
set_option maxRecDepth 100000 in
theorem c_M_reaches {l : Launch} {D : va_G} {K : Nat → ClassId} {ad : Nat → Nat} (hj : inj ad)   {x1 : Int32} {σ : GS} {z0 : Int32 × GS} (hf : F_M_reaches x1 σ = some z0) : CT l D K ad y_M_reaches b_M_reaches 7 (some .int) 3 [.ref (ad 63), .int x1] σ (QI D K ad z0.1 z0.2) := by
  refine CT.intro hj (by decide) (Nat.le_of_ble_eq_true rfl) ?_
  intro p e s m args below meth c ls hC hP hS hl
  obtain ⟨hx, hb, -, hown, hts, -⟩ := id hC
  have hl : lv_has ls 7 [(0, .ref (ad 63)), (1, .int x1)] := hl
  rw [F_M_reaches] at hf
  refine lv_aload_n hx hb d_M_reaches_0 rfl (lv_at hl 0 rfl) ?_
  refine lv_iload_n hx hb d_M_reaches_1 rfl (lv_at hl 1 rfl) ?_
  obtain ⟨r2, σ3, hk1, hf⟩ := bc_some hf
  refine g_calli hS (g_runV (As := [.int x1]) (rest := []) hC hP (c_M_noStreets hj  hk1) (rk (by decide) (by decide)) nm_M_noStreets cd_M_noStreets it_WideTownModel ml_M_259 im_M_noStreets sl_M_noStreets o_63 co_M rfl hl.1 rfl (Nat.le_of_ble_eq_true rfl) d_M_reaches_2 zz) (fun H locs hP hS => ?_)
  refine lv_istore_n (lv' := [(2, .int r2), (0, .ref (ad 63)), (1, .int x1)]) hx hb d_M_reaches_5 rfl hl (by decide) rfl (fun ls hl => ?_)
  refine lv_iload_n hx hb d_M_reaches_6 rfl (lv_at hl 0 rfl) ?_
  refine lv_if_ge (tgt := 12) hx hb d_M_reaches_7 (by decide) (fun hc15 => ?_) (fun hc15 => ?_)
  · rw [if_pos hc15] at hf
    refine lv_iconst (v := (0 : Int32)) hx hb d_M_reaches_12 (by decide) ?_
    refine lv_istore_n (lv' := [(3, .int (0 : Int32)), (2, .int r2), (0, .ref (ad 63)), (1, .int x1)]) hx hb d_M_reaches_13 rfl hl (by decide) rfl (fun ls hl => ?_)
    refine lv_iconst (v := (0 : Int32)) hx hb d_M_reaches_14 (by decide) ?_
    refine lv_istore (lv' := [(4, .int (0 : Int32)), (3, .int (0 : Int32)), (2, .int r2), (0, .ref (ad 63)), (1, .int x1)]) hx hb d_M_reaches_15 hl (by decide) rfl (fun ls hl => ?_)
    refine lv_iconst (v := (0 : Int32)) hx hb d_M_reaches_17 (by decide) ?_
    refine lv_istore (lv' := [(5, .int (0 : Int32)), (4, .int (0 : Int32)), (3, .int (0 : Int32)), (2, .int r2), (0, .ref (ad 63)), (1, .int x1)]) hx hb d_M_reaches_18 hl (by decide) rfl (fun ls hl => ?_)
    refine lv_iconst (v := (0 : Int32)) hx hb d_M_reaches_20 (by decide) ?_
    refine lv_istore (lv' := [(6, .int (0 : Int32)), (5, .int (0 : Int32)), (4, .int (0 : Int32)), (3, .int (0 : Int32)), (2, .int r2), (0, .ref (ad 63)), (1, .int x1)]) hx hb d_M_reaches_21 hl (by decide) rfl (fun ls hl => ?_)
    obtain ⟨KL4_76, eKL4_76, hf⟩ := jn_some hf
    have hKL4_76 : ∀ (v3_4 : Int32) (v4_4 : Int32) (v5_4 : Int32) (v6_4 : Int32) (σL4 : GS) (H : Heap) (locs : List Loc) (ls : Array Slot), va_P D vwCl (wG K ad σL4) H → va_S (GA ad) s.heap H locs → lv_has ls 7 [(0, .ref (ad 63)), (4, .int v4_4), (5, .int v5_4)] → KL4_76 v3_4 v4_4 v5_4 v6_4 σL4 = some z0 → W p l e (rmd 3) s m args below meth c H locs 0 0 (MQ below (QI D K ad z0.1 z0.2) args s 0 0 (GA ad)) (F0 m 76 ls []) := by
      clear hf
      intro v3_4 v4_4 v5_4 v6_4 σL4 H locs ls hP hS hl hf
      rw [eKL4_76] at hf
      try dsimp only at hf
      refine lv_aload_n hx hb d_M_reaches_76 rfl (lv_at hl 0 rfl) ?_
      refine lv_iload hx hb d_M_reaches_77 (lv_at hl 2 rfl) ?_
      obtain ⟨r6, σ7, hk5, hf⟩ := bc_some hf
      refine g_calli hS (g_runV (As := [.int v5_4]) (rest := []) hC hP (c_M_tell hj  hk5) (rk (by decide) (by decide)) nm_M_tell cd_M_tell it_WideTownModel ml_M_114 im_M_tell sl_M_tell o_63 co_M rfl hl.1 rfl (Nat.le_of_ble_eq_true rfl) d_M_reaches_79 zz) (fun H locs hP hS => ?_)
      refine lv_istore (lv' := [(6, .int r6), (0, .ref (ad 63)), (4, .int v4_4), (5, .int v5_4)]) hx hb d_M_reaches_82 hl (by decide) rfl (fun ls hl => ?_)
      refine lv_iload hx hb d_M_reaches_84 (lv_at hl 2 rfl) ?_
      cases hf
      exact g_iret hC rfl hP hS d_M_reaches_86
    clear eKL4_76
    have hL4 : ∀ (n : Nat) (v3_4 : Int32) (v4_4 : Int32) (v5_4 : Int32) (v6_4 : Int32) (σL4 : GS) (H : Heap) (locs : List Loc) (ls : Array Slot), va_P D vwCl (wG K ad σL4) H → va_S (GA ad) s.heap H locs → lv_has ls 7 [(0, .ref (ad 63)), (1, .int x1), (3, .int v3_4), (4, .int v4_4), (5, .int v5_4), (6, .int v6_4)] → F_M_reaches_23 x1 KL4_76 n v3_4 v4_4 v5_4 v6_4 σL4 = some z0 → W p l e (rmd 3) s m args below meth c H locs 0 0 (MQ below (QI D K ad z0.1 z0.2) args s 0 0 (GA ad)) (F0 m 23 ls []) := by
      clear hf
      intro n
      induction n with
      | zero =>
        intro v3_4 v4_4 v5_4 v6_4 σL4 H locs ls hP hS hl hf
        rw [F_M_reaches_23.eq_1] at hf
        cases hf
      | succ n ih =>
        intro v3_4 v4_4 v5_4 v6_4 σL4 H locs ls hP hS hl hf
        rw [F_M_reaches_23.eq_2] at hf
        refine lv_iload hx hb d_M_reaches_23 (lv_at hl 5 rfl) ?_
        refine lv_aload_n hx hb d_M_reaches_25 rfl (lv_at hl 0 rfl) ?_
        refine g_get (v := .ref (ad 64)) hC hP o_63 co_M 0 (by decide) rfl fl_M_7 rfl d_M_reaches_26 ?_
        refine lv_iload_n hx hb d_M_reaches_29 rfl (lv_at hl 1 rfl) ?_
        obtain ⟨hg8, hf⟩ := gd_some hf
        refine g_iald2 (j := x1.toNatClampNeg) hC hP a_64 hg8 rfl d_M_reaches_30 ?_
        refine lv_icmp_ge (tgt := 76) hx hb d_M_reaches_31 (by decide) (fun hc14 => ?_) (fun hc14 => ?_)
        · rw [if_pos hc14] at hf
          exact hKL4_76 _ _ _ _ _ _ _ _ hP hS (lv_sub hl [0, 3, 4] rfl) hf
        · rw [if_neg hc14] at hf
          refine lv_aload_n hx hb d_M_reaches_34 rfl (lv_at hl 0 rfl) ?_
          refine g_get (v := .ref (ad 75)) hC hP o_63 co_M 16 (by decide) rfl fl_M_48 rfl d_M_reaches_35 ?_
          refine lv_iload_n hx hb d_M_reaches_38 rfl (lv_at hl 2 rfl) ?_
          refine lv_aload_n hx hb d_M_reaches_39 rfl (lv_at hl 0 rfl) ?_
          refine g_get (v := .ref (ad 65)) hC hP o_63 co_M 1 (by decide) rfl fl_M_13 rfl d_M_reaches_40 ?_
          refine lv_bipush (v := (40 : Int32)) hx hb d_M_reaches_43 (by decide) ?_
          refine lv_iload_n hx hb d_M_reaches_45 rfl (lv_at hl 1 rfl) ?_
          refine lv_imul hx hb d_M_reaches_46 ?_
          refine lv_iload hx hb d_M_reaches_47 (lv_at hl 5 rfl) ?_
          refine lv_iadd hx hb d_M_reaches_49 ?_
          obtain ⟨hg9, hf⟩ := gd_some hf
          refine g_iald2 (j := (((40 : Int32) * x1) + v6_4).toNatClampNeg) hC hP a_65 hg9 rfl d_M_reaches_50 ?_
          obtain ⟨r11, σ12, hk10, hf⟩ := bc_some hf
          refine g_calli hS (g_runS (As := [.ref (ad 75), .int v3_4, .int (σL4.1 65 (((40 : Int32) * x1) + v6_4).toNatClampNeg)]) (rest := []) hC hP (c_M_times hj a_75 hk10) (rk (by decide) (by decide)) nm_M_times cd_M_times it_WideTownModel ml_M_134 sc_M_times rfl hl.1 rfl (Nat.le_of_ble_eq_true rfl) d_M_reaches_51 zz) (fun H locs hP hS => ?_)
          refine lv_istore_n (lv' := [(3, .int r11), (0, .ref (ad 63)), (1, .int x1), (4, .int v4_4), (5, .int v5_4), (6, .int v6_4)]) hx hb d_M_reaches_54 rfl hl (by decide) rfl (fun ls hl => ?_)
          refine lv_iload_n hx hb d_M_reaches_55 rfl (lv_at hl 0 rfl) ?_
          refine lv_iload hx hb d_M_reaches_56 (lv_at hl 3 rfl) ?_
          refine lv_icmp_le (tgt := 70) hx hb d_M_reaches_58 (by decide) (fun hc13 => ?_) (fun hc13 => ?_)
          · rw [if_pos hc13] at hf
            refine lv_iinc (v := v6_4 + 1) (lv' := [(6, .int (v6_4 + 1)), (3, .int r11), (0, .ref (ad 63)), (1, .int x1), (4, .int v4_4), (5, .int v5_4)]) hx hb d_M_reaches_70 hl (k := 5) rfl rfl (by decide) rfl (fun ls hl => ?_)
            refine lv_goto (tgt := 23) hx hb d_M_reaches_73 (by decide) ?_
            exact ih _ _ _ _ _ _ _ _ hP hS (lv_sub hl [2, 3, 1, 4, 5, 0] rfl) hf
          · rw [if_neg hc13] at hf
            refine lv_iload_n hx hb d_M_reaches_61 rfl (lv_at hl 0 rfl) ?_
            refine lv_istore (lv' := [(4, .int r11), (3, .int r11), (0, .ref (ad 63)), (1, .int x1), (5, .int v5_4), (6, .int v6_4)]) hx hb d_M_reaches_62 hl (by decide) rfl (fun ls hl => ?_)
            refine lv_iload hx hb d_M_reaches_64 (lv_at hl 5 rfl) ?_
            refine lv_iconst (v := (1 : Int32)) hx hb d_M_reaches_66 (by decide) ?_
            refine lv_iadd hx hb d_M_reaches_67 ?_
            refine lv_istore (lv' := [(5, .int (v6_4 + (1 : Int32))), (4, .int r11), (3, .int r11), (0, .ref (ad 63)), (1, .int x1), (6, .int v6_4)]) hx hb d_M_reaches_68 hl (by decide) rfl (fun ls hl => ?_)
            refine lv_iinc (v := v6_4 + 1) (lv' := [(6, .int (v6_4 + 1)), (5, .int (v6_4 + (1 : Int32))), (4, .int r11), (3, .int r11), (0, .ref (ad 63)), (1, .int x1)]) hx hb d_M_reaches_70 hl (k := 5) rfl rfl (by decide) rfl (fun ls hl => ?_)
            refine lv_goto (tgt := 23) hx hb d_M_reaches_73 (by decide) ?_
            exact ih _ _ _ _ _ _ _ _ hP hS (lv_sub hl [4, 5, 3, 2, 1, 0] rfl) hf
    exact hL4 _ _ _ _ _ _ _ _ _ hP hS (lv_sub hl [5, 6, 3, 2, 1, 0] rfl) hf
  · rw [if_neg hc15] at hf
    refine lv_iload_n hx hb d_M_reaches_10 rfl (lv_at hl 0 rfl) ?_
    cases hf
    exact g_iret hC rfl hP hS d_M_reaches_11
set_option maxHeartbeats 4000000 in
set_option maxRecDepth 100000 in
theorem c_M_sees {l : Launch} {D : va_G} {K : Nat → ClassId} {ad : Nat → Nat} (hj : inj ad)   {x1 : Int32} {σ : GS} {z0 : Int32 × GS} (hf : F_M_sees x1 σ = some z0) : CT l D K ad y_M_sees b_M_sees 8 (some .int) 3 [.ref (ad 63), .int x1] σ (QI D K ad z0.1 z0.2) := by
  refine CT.intro hj (by decide) (Nat.le_of_ble_eq_true rfl) ?_
  intro p e s m args below meth c ls hC hP hS hl
  obtain ⟨hx, hb, -, hown, hts, -⟩ := id hC
  have hl : lv_has ls 8 [(0, .ref (ad 63)), (1, .int x1)] := hl
  rw [F_M_sees] at hf
  refine lv_aload_n hx hb d_M_sees_0 rfl (lv_at hl 0 rfl) ?_
  refine lv_iload_n hx hb d_M_sees_1 rfl (lv_at hl 1 rfl) ?_
  obtain ⟨r2, σ3, hk1, hf⟩ := bc_some hf
  refine g_calli hS (g_runV (As := [.int x1]) (rest := []) hC hP (c_M_noStreets hj  hk1) (rk (by decide) (by decide)) nm_M_noStreets cd_M_noStreets it_WideTownModel ml_M_259 im_M_noStreets sl_M_noStreets o_63 co_M rfl hl.1 rfl (Nat.le_of_ble_eq_true rfl) d_M_sees_2 zz) (fun H locs hP hS => ?_)
  refine lv_istore_n (lv' := [(2, .int r2), (0, .ref (ad 63)), (1, .int x1)]) hx hb d_M_sees_5 rfl hl (by decide) rfl (fun ls hl => ?_)
  refine lv_iload_n hx hb d_M_sees_6 rfl (lv_at hl 0 rfl) ?_
  refine lv_if_ge (tgt := 12) hx hb d_M_sees_7 (by decide) (fun hc16 => ?_) (fun hc16 => ?_)
  · rw [if_pos hc16] at hf
    refine lv_iconst (v := (0 : Int32)) hx hb d_M_sees_12 (by decide) ?_
    refine lv_istore_n (lv' := [(3, .int (0 : Int32)), (2, .int r2), (0, .ref (ad 63)), (1, .int x1)]) hx hb d_M_sees_13 rfl hl (by decide) rfl (fun ls hl => ?_)
    refine lv_iconst (v := (0 : Int32)) hx hb d_M_sees_14 (by decide) ?_
    refine lv_istore (lv' := [(4, .int (0 : Int32)), (3, .int (0 : Int32)), (2, .int r2), (0, .ref (ad 63)), (1, .int x1)]) hx hb d_M_sees_15 hl (by decide) rfl (fun ls hl => ?_)
    obtain ⟨KL4_110, eKL4_110, hf⟩ := jn_some hf
    have hKL4_110 : ∀ (v3_4 : Int32) (v4_4 : Int32) (σL4 : GS) (H : Heap) (locs : List Loc) (ls : Array Slot), va_P D vwCl (wG K ad σL4) H → va_S (GA ad) s.heap H locs → lv_has ls 8 [(3, .int v3_4)] → KL4_110 v3_4 v4_4 σL4 = some z0 → W p l e (rmd 3) s m args below meth c H locs 0 0 (MQ below (QI D K ad z0.1 z0.2) args s 0 0 (GA ad)) (F0 m 110 ls []) := by
      clear hf
      intro v3_4 v4_4 σL4 H locs ls hP hS hl hf
      rw [eKL4_110] at hf
      try dsimp only at hf
      refine lv_iload_n hx hb d_M_sees_110 rfl (lv_at hl 0 rfl) ?_
      cases hf
      exact g_iret hC rfl hP hS d_M_sees_111
    clear eKL4_110
    have hL4 : ∀ (n : Nat) (v3_4 : Int32) (v4_4 : Int32) (σL4 : GS) (H : Heap) (locs : List Loc) (ls : Array Slot), va_P D vwCl (wG K ad σL4) H → va_S (GA ad) s.heap H locs → lv_has ls 8 [(0, .ref (ad 63)), (1, .int x1), (3, .int v3_4), (4, .int v4_4)] → F_M_sees_17 x1 KL4_110 n v3_4 v4_4 σL4 = some z0 → W p l e (rmd 3) s m args below meth c H locs 0 0 (MQ below (QI D K ad z0.1 z0.2) args s 0 0 (GA ad)) (F0 m 17 ls []) := by
      clear hf
      intro n
      induction n with
      | zero =>
        intro v3_4 v4_4 σL4 H locs ls hP hS hl hf
        rw [F_M_sees_17.eq_1] at hf
        cases hf
      | succ n ih =>
        intro v3_4 v4_4 σL4 H locs ls hP hS hl hf
        rw [F_M_sees_17.eq_2] at hf
        refine lv_iload hx hb d_M_sees_17 (lv_at hl 3 rfl) ?_
        refine lv_aload_n hx hb d_M_sees_19 rfl (lv_at hl 0 rfl) ?_
        refine g_get (v := .ref (ad 64)) hC hP o_63 co_M 0 (by decide) rfl fl_M_7 rfl d_M_sees_20 ?_
        refine lv_iload_n hx hb d_M_sees_23 rfl (lv_at hl 1 rfl) ?_
        obtain ⟨hg5, hf⟩ := gd_some hf
        refine g_iald2 (j := x1.toNatClampNeg) hC hP a_64 hg5 rfl d_M_sees_24 ?_
        refine lv_icmp_gt (tgt := 110) hx hb d_M_sees_25 (by decide) (fun hc15 => ?_) (fun hc15 => ?_)
        · rw [if_pos hc15] at hf
          exact hKL4_110 _ _ _ _ _ _ hP hS (lv_sub hl [2] rfl) hf
        · rw [if_neg hc15] at hf
          refine lv_iconst (v := (1 : Int32)) hx hb d_M_sees_28 (by decide) ?_
          refine lv_istore (lv' := [(5, .int (1 : Int32)), (0, .ref (ad 63)), (1, .int x1), (3, .int v3_4), (4, .int v4_4)]) hx hb d_M_sees_29 hl (by decide) rfl (fun ls hl => ?_)
          refine lv_iconst (v := (0 : Int32)) hx hb d_M_sees_31 (by decide) ?_
          refine lv_istore (lv' := [(6, .int (0 : Int32)), (5, .int (1 : Int32)), (0, .ref (ad 63)), (1, .int x1), (3, .int v3_4), (4, .int v4_4)]) hx hb d_M_sees_32 hl (by decide) rfl (fun ls hl => ?_)
          refine lv_iload hx hb d_M_sees_34 (lv_at hl 5 rfl) ?_
          refine lv_iconst (v := (1 : Int32)) hx hb d_M_sees_36 (by decide) ?_
          refine lv_isub hx hb d_M_sees_37 ?_
          refine lv_istore (lv' := [(7, .int (v4_4 - (1 : Int32))), (6, .int (0 : Int32)), (5, .int (1 : Int32)), (0, .ref (ad 63)), (1, .int x1), (3, .int v3_4), (4, .int v4_4)]) hx hb d_M_sees_38 hl (by decide) rfl (fun ls hl => ?_)
          obtain ⟨KL6_91, eKL6_91, hf⟩ := jn_some hf
          have hKL6_91 : ∀ (v5_6 : Int32) (v6_6 : Int32) (v7_6 : Int32) (σL6 : GS) (H : Heap) (locs : List Loc) (ls : Array Slot), va_P D vwCl (wG K ad σL6) H → va_S (GA ad) s.heap H locs → lv_has ls 8 [(0, .ref (ad 63)), (1, .int x1), (3, .int v3_4), (4, .int v4_4), (5, .int v5_6)] → KL6_91 v5_6 v6_6 v7_6 σL6 = some z0 → W p l e (rmd 3) s m args below meth c H locs 0 0 (MQ below (QI D K ad z0.1 z0.2) args s 0 0 (GA ad)) (F0 m 91 ls []) := by
            clear hf
            intro v5_6 v6_6 v7_6 σL6 H locs ls hP hS hl hf
            rw [eKL6_91] at hf
            try dsimp only at hf
            refine lv_iload_n hx hb d_M_sees_91 rfl (lv_at hl 2 rfl) ?_
            refine lv_iload hx hb d_M_sees_92 (lv_at hl 4 rfl) ?_
            refine lv_if_eq (tgt := 101) hx hb d_M_sees_94 (by decide) (fun hc7 => ?_) (fun hc7 => ?_)
            · rw [if_pos hc7] at hf
              refine lv_iconst (v := (0 : Int32)) hx hb d_M_sees_101 (by decide) ?_
              refine lv_iadd hx hb d_M_sees_102 ?_
              refine lv_istore_n (lv' := [(3, .int (v3_4 + (0 : Int32))), (0, .ref (ad 63)), (1, .int x1), (4, .int v4_4), (5, .int v5_6)]) hx hb d_M_sees_103 rfl hl (by decide) rfl (fun ls hl => ?_)
              refine lv_iinc (v := v4_4 + 1) (lv' := [(4, .int (v4_4 + 1)), (3, .int (v3_4 + (0 : Int32))), (0, .ref (ad 63)), (1, .int x1), (5, .int v5_6)]) hx hb d_M_sees_104 hl (k := 3) rfl rfl (by decide) rfl (fun ls hl => ?_)
              refine lv_goto (tgt := 17) hx hb d_M_sees_107 (by decide) ?_
              exact ih _ _ _ _ _ _ hP hS (lv_sub hl [2, 3, 1, 0] rfl) hf
            · rw [if_neg hc7] at hf
              refine lv_iconst (v := (1 : Int32)) hx hb d_M_sees_97 (by decide) ?_
              refine lv_goto (tgt := 102) hx hb d_M_sees_98 (by decide) ?_
              refine lv_iadd hx hb d_M_sees_102 ?_
              refine lv_istore_n (lv' := [(3, .int (v3_4 + (1 : Int32))), (0, .ref (ad 63)), (1, .int x1), (4, .int v4_4), (5, .int v5_6)]) hx hb d_M_sees_103 rfl hl (by decide) rfl (fun ls hl => ?_)
              refine lv_iinc (v := v4_4 + 1) (lv' := [(4, .int (v4_4 + 1)), (3, .int (v3_4 + (1 : Int32))), (0, .ref (ad 63)), (1, .int x1), (5, .int v5_6)]) hx hb d_M_sees_104 hl (k := 3) rfl rfl (by decide) rfl (fun ls hl => ?_)
              refine lv_goto (tgt := 17) hx hb d_M_sees_107 (by decide) ?_
              exact ih _ _ _ _ _ _ hP hS (lv_sub hl [2, 3, 1, 0] rfl) hf
          clear eKL6_91
          have hL6 : ∀ (n : Nat) (v5_6 : Int32) (v6_6 : Int32) (v7_6 : Int32) (σL6 : GS) (H : Heap) (locs : List Loc) (ls : Array Slot), va_P D vwCl (wG K ad σL6) H → va_S (GA ad) s.heap H locs → lv_has ls 8 [(0, .ref (ad 63)), (1, .int x1), (3, .int v3_4), (4, .int v4_4), (5, .int v5_6), (6, .int v6_6), (7, .int v7_6)] → F_M_sees_40 x1 v3_4 v4_4 KL6_91 n v5_6 v6_6 v7_6 σL6 = some z0 → W p l e (rmd 3) s m args below meth c H locs 0 0 (MQ below (QI D K ad z0.1 z0.2) args s 0 0 (GA ad)) (F0 m 40 ls []) := by
            clear hf
            intro n
            induction n with
            | zero =>
              intro v5_6 v6_6 v7_6 σL6 H locs ls hP hS hl hf
              rw [F_M_sees_40.eq_1] at hf
              cases hf
            | succ n ih =>
              intro v5_6 v6_6 v7_6 σL6 H locs ls hP hS hl hf
              rw [F_M_sees_40.eq_2] at hf
              refine lv_iload hx hb d_M_sees_40 (lv_at hl 6 rfl) ?_
              refine lv_if_lt (tgt := 91) hx hb d_M_sees_42 (by decide) (fun hc14 => ?_) (fun hc14 => ?_)
              · rw [if_pos hc14] at hf
                exact hKL6_91 _ _ _ _ _ _ _ hP hS (lv_sub hl [0, 1, 2, 3, 4] rfl) hf
              · rw [if_neg hc14] at hf
                refine lv_aload_n hx hb d_M_sees_45 rfl (lv_at hl 0 rfl) ?_
                refine g_get (v := .ref (ad 75)) hC hP o_63 co_M 16 (by decide) rfl fl_M_48 rfl d_M_sees_46 ?_
                refine lv_iload hx hb d_M_sees_49 (lv_at hl 5 rfl) ?_
                refine lv_aload_n hx hb d_M_sees_51 rfl (lv_at hl 0 rfl) ?_
                refine g_get (v := .ref (ad 65)) hC hP o_63 co_M 1 (by decide) rfl fl_M_13 rfl d_M_sees_52 ?_
                refine lv_bipush (v := (40 : Int32)) hx hb d_M_sees_55 (by decide) ?_
                refine lv_iload_n hx hb d_M_sees_57 rfl (lv_at hl 1 rfl) ?_
                refine lv_imul hx hb d_M_sees_58 ?_
                refine lv_iload hx hb d_M_sees_59 (lv_at hl 6 rfl) ?_
                refine lv_iadd hx hb d_M_sees_61 ?_
                obtain ⟨hg8, hf⟩ := gd_some hf
                refine g_iald2 (j := (((40 : Int32) * x1) + v7_6).toNatClampNeg) hC hP a_65 hg8 rfl d_M_sees_62 ?_
                obtain ⟨r10, σ11, hk9, hf⟩ := bc_some hf
                refine g_calli hS (g_runS (As := [.ref (ad 75), .int v6_6, .int (σL6.1 65 (((40 : Int32) * x1) + v7_6).toNatClampNeg)]) (rest := []) hC hP (c_M_times hj a_75 hk9) (rk (by decide) (by decide)) nm_M_times cd_M_times it_WideTownModel ml_M_134 sc_M_times rfl hl.1 rfl (Nat.le_of_ble_eq_true rfl) d_M_sees_63 zz) (fun H locs hP hS => ?_)
                refine lv_istore (lv' := [(6, .int r10), (0, .ref (ad 63)), (1, .int x1), (3, .int v3_4), (4, .int v4_4), (5, .int v5_6), (7, .int v7_6)]) hx hb d_M_sees_66 hl (by decide) rfl (fun ls hl => ?_)
                refine lv_iload hx hb d_M_sees_68 (lv_at hl 5 rfl) ?_
                refine lv_if_eq (tgt := 82) hx hb d_M_sees_70 (by decide) (fun hc13 => ?_) (fun hc13 => ?_)
                · rw [if_pos hc13] at hf
                  refine lv_iconst (v := (0 : Int32)) hx hb d_M_sees_82 (by decide) ?_
                  refine lv_istore (lv' := [(5, .int (0 : Int32)), (6, .int r10), (0, .ref (ad 63)), (1, .int x1), (3, .int v3_4), (4, .int v4_4), (7, .int v7_6)]) hx hb d_M_sees_83 hl (by decide) rfl (fun ls hl => ?_)
                  refine lv_iinc (v := v7_6 + (-1)) (lv' := [(7, .int (v7_6 + (-1))), (5, .int (0 : Int32)), (6, .int r10), (0, .ref (ad 63)), (1, .int x1), (3, .int v3_4), (4, .int v4_4)]) hx hb d_M_sees_85 hl (k := 6) rfl rfl (by decide) rfl (fun ls hl => ?_)
                  refine lv_goto (tgt := 40) hx hb d_M_sees_88 (by decide) ?_
                  exact ih _ _ _ _ _ _ _ hP hS (lv_sub hl [3, 4, 5, 6, 1, 2, 0] rfl) hf
                · rw [if_neg hc13] at hf
                  refine lv_iload hx hb d_M_sees_73 (lv_at hl 0 rfl) ?_
                  refine lv_if_le (tgt := 82) hx hb d_M_sees_75 (by decide) (fun hc12 => ?_) (fun hc12 => ?_)
                  · rw [if_pos hc12] at hf
                    refine lv_iconst (v := (0 : Int32)) hx hb d_M_sees_82 (by decide) ?_
                    refine lv_istore (lv' := [(5, .int (0 : Int32)), (6, .int r10), (0, .ref (ad 63)), (1, .int x1), (3, .int v3_4), (4, .int v4_4), (7, .int v7_6)]) hx hb d_M_sees_83 hl (by decide) rfl (fun ls hl => ?_)
                    refine lv_iinc (v := v7_6 + (-1)) (lv' := [(7, .int (v7_6 + (-1))), (5, .int (0 : Int32)), (6, .int r10), (0, .ref (ad 63)), (1, .int x1), (3, .int v3_4), (4, .int v4_4)]) hx hb d_M_sees_85 hl (k := 6) rfl rfl (by decide) rfl (fun ls hl => ?_)
                    refine lv_goto (tgt := 40) hx hb d_M_sees_88 (by decide) ?_
                    exact ih _ _ _ _ _ _ _ hP hS (lv_sub hl [3, 4, 5, 6, 1, 2, 0] rfl) hf
                  · rw [if_neg hc12] at hf
                    refine lv_iconst (v := (1 : Int32)) hx hb d_M_sees_78 (by decide) ?_
                    refine lv_goto (tgt := 83) hx hb d_M_sees_79 (by decide) ?_
                    refine lv_istore (lv' := [(5, .int (1 : Int32)), (6, .int r10), (0, .ref (ad 63)), (1, .int x1), (3, .int v3_4), (4, .int v4_4), (7, .int v7_6)]) hx hb d_M_sees_83 hl (by decide) rfl (fun ls hl => ?_)
                    refine lv_iinc (v := v7_6 + (-1)) (lv' := [(7, .int (v7_6 + (-1))), (5, .int (1 : Int32)), (6, .int r10), (0, .ref (ad 63)), (1, .int x1), (3, .int v3_4), (4, .int v4_4)]) hx hb d_M_sees_85 hl (k := 6) rfl rfl (by decide) rfl (fun ls hl => ?_)
                    refine lv_goto (tgt := 40) hx hb d_M_sees_88 (by decide) ?_
                    exact ih _ _ _ _ _ _ _ hP hS (lv_sub hl [3, 4, 5, 6, 1, 2, 0] rfl) hf
          exact hL6 _ _ _ _ _ _ _ _ hP hS (lv_sub hl [3, 4, 5, 6, 2, 1, 0] rfl) hf
    exact hL4 _ _ _ _ _ _ _ hP hS (lv_sub hl [3, 4, 1, 0] rfl) hf
  · rw [if_neg hc16] at hf
    refine lv_iload_n hx hb d_M_sees_10 rfl (lv_at hl 0 rfl) ?_
    cases hf
    exact g_iret hC rfl hP hS d_M_sees_11
set_option maxHeartbeats 4000000 in
set_option maxRecDepth 100000 in
theorem c_M_noCodes {l : Launch} {D : va_G} {K : Nat → ClassId} {ad : Nat → Nat} (hj : inj ad)   {x1 : Int32} {x2 : Int32} {σ : GS} {z0 : Int32 × GS} (hf : F_M_noCodes x1 x2 σ = some z0) : CT l D K ad y_M_noCodes b_M_noCodes 5 (some .int) 2 [.ref (ad 63), .int x1, .int x2] σ (QI D K ad z0.1 z0.2) := by
  refine CT.intro hj (by decide) (Nat.le_of_ble_eq_true rfl) ?_
  intro p e s m args below meth c ls hC hP hS hl
  obtain ⟨hx, hb, -, hown, hts, -⟩ := id hC
  have hl : lv_has ls 5 [(0, .ref (ad 63)), (1, .int x1), (2, .int x2)] := hl
  rw [F_M_noCodes] at hf
  refine lv_iload_n hx hb d_M_noCodes_0 rfl (lv_at hl 1 rfl) ?_
  obtain ⟨r2, hk1, hf⟩ := bp_some hf
  refine g_calli hS (g_runS (As := [.int x1]) (rest := []) hC hP (c_M_isRow hj  hk1) (rk (by decide) (by decide)) nm_M_isRow cd_M_isRow it_WideTownModel ml_M_106 sc_M_isRow rfl hl.1 rfl (Nat.le_of_ble_eq_true rfl) d_M_noCodes_1 zz) (fun H locs hP hS => ?_)
  refine lv_if_ne (tgt := 9) hx hb d_M_noCodes_4 (by decide) (fun hc25 => ?_) (fun hc25 => ?_)
  · rw [if_neg hc25] at hf
    refine lv_aload_n hx hb d_M_noCodes_9 rfl (lv_at hl 0 rfl) ?_
    refine g_get (v := .ref (ad 64)) hC hP o_63 co_M 0 (by decide) rfl fl_M_7 rfl d_M_noCodes_10 ?_
    refine lv_iload_n hx hb d_M_noCodes_13 rfl (lv_at hl 1 rfl) ?_
    obtain ⟨hg3, hf⟩ := gd_some hf
    refine g_iald2 (j := x1.toNatClampNeg) hC hP a_64 hg3 rfl d_M_noCodes_14 ?_
    refine lv_if_ge (tgt := 24) hx hb d_M_noCodes_15 (by decide) (fun hc24 => ?_) (fun hc24 => ?_)
    · rw [if_pos hc24] at hf
      refine lv_aload_n hx hb d_M_noCodes_24 rfl (lv_at hl 0 rfl) ?_
      refine g_get (v := .ref (ad 64)) hC hP o_63 co_M 0 (by decide) rfl fl_M_7 rfl d_M_noCodes_25 ?_
      refine lv_iload_n hx hb d_M_noCodes_28 rfl (lv_at hl 1 rfl) ?_
      obtain ⟨hg4, hf⟩ := gd_some hf
      refine g_iald2 (j := x1.toNatClampNeg) hC hP a_64 hg4 rfl d_M_noCodes_29 ?_
      refine lv_iload_n hx hb d_M_noCodes_30 rfl (lv_at hl 2 rfl) ?_
      refine lv_icmp_le (tgt := 40) hx hb d_M_noCodes_31 (by decide) (fun hc20 => ?_) (fun hc20 => ?_)
      · rw [if_pos hc20] at hf
        refine lv_iconst (v := (1 : Int32)) hx hb d_M_noCodes_40 (by decide) ?_
        refine lv_istore_n (lv' := [(3, .int (1 : Int32)), (0, .ref (ad 63)), (1, .int x1), (2, .int x2)]) hx hb d_M_noCodes_41 rfl hl (by decide) rfl (fun ls hl => ?_)
        refine lv_iconst (v := (0 : Int32)) hx hb d_M_noCodes_42 (by decide) ?_
        refine lv_istore (lv' := [(4, .int (0 : Int32)), (3, .int (1 : Int32)), (0, .ref (ad 63)), (1, .int x1), (2, .int x2)]) hx hb d_M_noCodes_43 hl (by decide) rfl (fun ls hl => ?_)
        obtain ⟨KL5_90, eKL5_90, hf⟩ := jn_some hf
        have hKL5_90 : ∀ (v3_5 : Int32) (v4_5 : Int32) (H : Heap) (locs : List Loc) (ls : Array Slot), va_P D vwCl (wG K ad σ) H → va_S (GA ad) s.heap H locs → lv_has ls 5 [(0, .ref (ad 63)), (3, .int v3_5)] → KL5_90 v3_5 v4_5 = some z0 → W p l e (rmd 2) s m args below meth c H locs 0 0 (MQ below (QI D K ad z0.1 z0.2) args s 0 0 (GA ad)) (F0 m 90 ls []) := by
          clear hf
          intro v3_5 v4_5 H locs ls hP hS hl hf
          rw [eKL5_90] at hf
          try dsimp only at hf
          refine lv_iload_n hx hb d_M_noCodes_90 rfl (lv_at hl 1 rfl) ?_
          refine lv_if_eq (tgt := 98) hx hb d_M_noCodes_91 (by decide) (fun hc9 => ?_) (fun hc9 => ?_)
          · rw [if_pos hc9] at hf
            refine lv_aload_n hx hb d_M_noCodes_98 rfl (lv_at hl 0 rfl) ?_
            refine lv_iconst (v := (3 : Int32)) hx hb d_M_noCodes_99 (by decide) ?_
            obtain ⟨r7, σ8, hk6, hf⟩ := bc_some hf
            refine g_calli hS (g_runV (As := [.int (3 : Int32)]) (rest := []) hC hP (c_M_found hj  hk6) (rk (by decide) (by decide)) nm_M_found cd_M_found it_WideTownModel ml_M_110 im_M_found sl_M_found o_63 co_M rfl hl.1 rfl (Nat.le_of_ble_eq_true rfl) d_M_noCodes_100 zz) (fun H locs hP hS => ?_)
            cases hf
            exact g_iret hC rfl hP hS d_M_noCodes_103
          · rw [if_neg hc9] at hf
            refine lv_iconst (v := (0 : Int32)) hx hb d_M_noCodes_94 (by decide) ?_
            refine lv_goto (tgt := 103) hx hb d_M_noCodes_95 (by decide) ?_
            cases hf
            exact g_iret hC rfl hP hS d_M_noCodes_103
        clear eKL5_90
        have hL5 : ∀ (n : Nat) (v3_5 : Int32) (v4_5 : Int32) (H : Heap) (locs : List Loc) (ls : Array Slot), va_P D vwCl (wG K ad σ) H → va_S (GA ad) s.heap H locs → lv_has ls 5 [(0, .ref (ad 63)), (1, .int x1), (3, .int v3_5), (4, .int v4_5)] → F_M_noCodes_45 x1 σ KL5_90 n v3_5 v4_5 = some z0 → W p l e (rmd 2) s m args below meth c H locs 0 0 (MQ below (QI D K ad z0.1 z0.2) args s 0 0 (GA ad)) (F0 m 45 ls []) := by
          clear hf
          intro n
          induction n with
          | zero =>
            intro v3_5 v4_5 H locs ls hP hS hl hf
            rw [F_M_noCodes_45.eq_1] at hf
            cases hf
          | succ n ih =>
            intro v3_5 v4_5 H locs ls hP hS hl hf
            rw [F_M_noCodes_45.eq_2] at hf
            refine lv_iload hx hb d_M_noCodes_45 (lv_at hl 3 rfl) ?_
            refine lv_aload_n hx hb d_M_noCodes_47 rfl (lv_at hl 0 rfl) ?_
            refine g_get (v := .ref (ad 64)) hC hP o_63 co_M 0 (by decide) rfl fl_M_7 rfl d_M_noCodes_48 ?_
            refine lv_iload_n hx hb d_M_noCodes_51 rfl (lv_at hl 1 rfl) ?_
            obtain ⟨hg10, hf⟩ := gd_some hf
            refine g_iald2 (j := x1.toNatClampNeg) hC hP a_64 hg10 rfl d_M_noCodes_52 ?_
            refine lv_icmp_ge (tgt := 90) hx hb d_M_noCodes_53 (by decide) (fun hc16 => ?_) (fun hc16 => ?_)
            · rw [if_pos hc16] at hf
              exact hKL5_90 _ _ _ _ _ hP hS (lv_sub hl [0, 2] rfl) hf
            · rw [if_neg hc16] at hf
              refine lv_iload_n hx hb d_M_noCodes_56 rfl (lv_at hl 2 rfl) ?_
              refine lv_if_eq (tgt := 82) hx hb d_M_noCodes_57 (by decide) (fun hc15 => ?_) (fun hc15 => ?_)
              · rw [if_pos hc15] at hf
                refine lv_iconst (v := (0 : Int32)) hx hb d_M_noCodes_82 (by decide) ?_
                refine lv_istore_n (lv' := [(3, .int (0 : Int32)), (0, .ref (ad 63)), (1, .int x1), (4, .int v4_5)]) hx hb d_M_noCodes_83 rfl hl (by decide) rfl (fun ls hl => ?_)
                refine lv_iinc (v := v4_5 + 1) (lv' := [(4, .int (v4_5 + 1)), (3, .int (0 : Int32)), (0, .ref (ad 63)), (1, .int x1)]) hx hb d_M_noCodes_84 hl (k := 3) rfl rfl (by decide) rfl (fun ls hl => ?_)
                refine lv_goto (tgt := 45) hx hb d_M_noCodes_87 (by decide) ?_
                exact ih _ _ _ _ _ hP hS (lv_sub hl [2, 3, 1, 0] rfl) hf
              · rw [if_neg hc15] at hf
                refine lv_aload_n hx hb d_M_noCodes_60 rfl (lv_at hl 0 rfl) ?_
                refine g_get (v := .ref (ad 65)) hC hP o_63 co_M 1 (by decide) rfl fl_M_13 rfl d_M_noCodes_61 ?_
                refine lv_bipush (v := (40 : Int32)) hx hb d_M_noCodes_64 (by decide) ?_
                refine lv_iload_n hx hb d_M_noCodes_66 rfl (lv_at hl 1 rfl) ?_
                refine lv_imul hx hb d_M_noCodes_67 ?_
                refine lv_iload hx hb d_M_noCodes_68 (lv_at hl 3 rfl) ?_
                refine lv_iadd hx hb d_M_noCodes_70 ?_
                obtain ⟨hg11, hf⟩ := gd_some hf
                refine g_iald2 (j := (((40 : Int32) * x1) + v4_5).toNatClampNeg) hC hP a_65 hg11 rfl d_M_noCodes_71 ?_
                obtain ⟨r13, hk12, hf⟩ := bp_some hf
                refine g_calli hS (g_runS (As := [.int (σ.1 65 (((40 : Int32) * x1) + v4_5).toNatClampNeg)]) (rest := []) hC hP (c_M_isCode hj  hk12) (rk (by decide) (by decide)) nm_M_isCode cd_M_isCode it_WideTownModel ml_M_213 sc_M_isCode rfl hl.1 rfl (Nat.le_of_ble_eq_true rfl) d_M_noCodes_72 zz) (fun H locs hP hS => ?_)
                refine lv_if_eq (tgt := 82) hx hb d_M_noCodes_75 (by decide) (fun hc14 => ?_) (fun hc14 => ?_)
                · rw [if_pos hc14] at hf
                  refine lv_iconst (v := (0 : Int32)) hx hb d_M_noCodes_82 (by decide) ?_
                  refine lv_istore_n (lv' := [(3, .int (0 : Int32)), (0, .ref (ad 63)), (1, .int x1), (4, .int v4_5)]) hx hb d_M_noCodes_83 rfl hl (by decide) rfl (fun ls hl => ?_)
                  refine lv_iinc (v := v4_5 + 1) (lv' := [(4, .int (v4_5 + 1)), (3, .int (0 : Int32)), (0, .ref (ad 63)), (1, .int x1)]) hx hb d_M_noCodes_84 hl (k := 3) rfl rfl (by decide) rfl (fun ls hl => ?_)
                  refine lv_goto (tgt := 45) hx hb d_M_noCodes_87 (by decide) ?_
                  exact ih _ _ _ _ _ hP hS (lv_sub hl [2, 3, 1, 0] rfl) hf
                · rw [if_neg hc14] at hf
                  refine lv_iconst (v := (1 : Int32)) hx hb d_M_noCodes_78 (by decide) ?_
                  refine lv_goto (tgt := 83) hx hb d_M_noCodes_79 (by decide) ?_
                  refine lv_istore_n (lv' := [(3, .int (1 : Int32)), (0, .ref (ad 63)), (1, .int x1), (4, .int v4_5)]) hx hb d_M_noCodes_83 rfl hl (by decide) rfl (fun ls hl => ?_)
                  refine lv_iinc (v := v4_5 + 1) (lv' := [(4, .int (v4_5 + 1)), (3, .int (1 : Int32)), (0, .ref (ad 63)), (1, .int x1)]) hx hb d_M_noCodes_84 hl (k := 3) rfl rfl (by decide) rfl (fun ls hl => ?_)
                  refine lv_goto (tgt := 45) hx hb d_M_noCodes_87 (by decide) ?_
                  exact ih _ _ _ _ _ hP hS (lv_sub hl [2, 3, 1, 0] rfl) hf
        exact hL5 _ _ _ _ _ _ hP hS (lv_sub hl [2, 3, 1, 0] rfl) hf
      · rw [if_neg hc20] at hf
        refine lv_aload_n hx hb d_M_noCodes_34 rfl (lv_at hl 0 rfl) ?_
        refine lv_iconst (v := (5 : Int32)) hx hb d_M_noCodes_35 (by decide) ?_
        obtain ⟨r18, σ19, hk17, hf⟩ := bc_some hf
        refine g_calli hS (g_runV (As := [.int (5 : Int32)]) (rest := []) hC hP (c_M_found hj  hk17) (rk (by decide) (by decide)) nm_M_found cd_M_found it_WideTownModel ml_M_110 im_M_found sl_M_found o_63 co_M rfl hl.1 rfl (Nat.le_of_ble_eq_true rfl) d_M_noCodes_36 zz) (fun H locs hP hS => ?_)
        cases hf
        exact g_iret hC rfl hP hS d_M_noCodes_39
    · rw [if_neg hc24] at hf
      refine lv_aload_n hx hb d_M_noCodes_18 rfl (lv_at hl 0 rfl) ?_
      refine lv_iconst (v := (1 : Int32)) hx hb d_M_noCodes_19 (by decide) ?_
      obtain ⟨r22, σ23, hk21, hf⟩ := bc_some hf
      refine g_calli hS (g_runV (As := [.int (1 : Int32)]) (rest := []) hC hP (c_M_found hj  hk21) (rk (by decide) (by decide)) nm_M_found cd_M_found it_WideTownModel ml_M_110 im_M_found sl_M_found o_63 co_M rfl hl.1 rfl (Nat.le_of_ble_eq_true rfl) d_M_noCodes_20 zz) (fun H locs hP hS => ?_)
      cases hf
      exact g_iret hC rfl hP hS d_M_noCodes_23
  · rw [if_pos hc25] at hf
    refine lv_iconst (v := (-1 : Int32)) hx hb d_M_noCodes_7 (by decide) ?_
    cases hf
    exact g_iret hC rfl hP hS d_M_noCodes_8
set_option maxHeartbeats 4000000 in
set_option maxRecDepth 100000 in
theorem c_M_round {l : Launch} {D : va_G} {K : Nat → ClassId} {ad : Nat → Nat} (hj : inj ad)   {x1 : Int32} {x2 : Int32} {σ : GS} {z0 : Int32 × GS} (hf : F_M_round x1 x2 σ = some z0) : CT l D K ad y_M_round b_M_round 13 (some .int) 5 [.ref (ad 63), .int x1, .int x2] σ (QI D K ad z0.1 z0.2) := by
  refine CT.intro hj (by decide) (Nat.le_of_ble_eq_true rfl) ?_
  intro p e s m args below meth c ls hC hP hS hl
  obtain ⟨hx, hb, -, hown, hts, -⟩ := id hC
  have hl : lv_has ls 13 [(0, .ref (ad 63)), (1, .int x1), (2, .int x2)] := hl
  rw [F_M_round] at hf
  refine lv_iload_n hx hb d_M_round_0 rfl (lv_at hl 2 rfl) ?_
  obtain ⟨r2, hk1, hf⟩ := bp_some hf
  refine g_calli hS (g_runS (As := [.int x2]) (rest := []) hC hP (c_M_isRow hj  hk1) (rk (by decide) (by decide)) nm_M_isRow cd_M_isRow it_WideTownModel ml_M_106 sc_M_isRow rfl hl.1 rfl (Nat.le_of_ble_eq_true rfl) d_M_round_1 zz) (fun H locs hP hS => ?_)
  refine lv_if_ne (tgt := 9) hx hb d_M_round_4 (by decide) (fun hc46 => ?_) (fun hc46 => ?_)
  · rw [if_neg hc46] at hf
    refine lv_aload_n hx hb d_M_round_9 rfl (lv_at hl 0 rfl) ?_
    refine lv_iload_n hx hb d_M_round_10 rfl (lv_at hl 1 rfl) ?_
    refine lv_bipush (v := (6 : Int32)) hx hb d_M_round_11 (by decide) ?_
    obtain ⟨r4, σ5, hk3, hf⟩ := bc_some hf
    refine g_calli hS (g_runV (As := [.int x1, .int (6 : Int32)]) (rest := []) hC hP (c_M_noCodes hj  hk3) (rk (by decide) (by decide)) nm_M_noCodes cd_M_noCodes it_WideTownModel ml_M_262 im_M_noCodes sl_M_noCodes o_63 co_M rfl hl.1 rfl (Nat.le_of_ble_eq_true rfl) d_M_round_13 zz) (fun H locs hP hS => ?_)
    refine lv_istore_n (lv' := [(3, .int r4), (0, .ref (ad 63)), (1, .int x1), (2, .int x2)]) hx hb d_M_round_16 rfl hl (by decide) rfl (fun ls hl => ?_)
    refine lv_iload_n hx hb d_M_round_17 rfl (lv_at hl 0 rfl) ?_
    refine lv_if_ge (tgt := 23) hx hb d_M_round_18 (by decide) (fun hc45 => ?_) (fun hc45 => ?_)
    · rw [if_pos hc45] at hf
      refine lv_aload_n hx hb d_M_round_23 rfl (lv_at hl 1 rfl) ?_
      refine g_get (v := .ref (ad 64)) hC hP o_63 co_M 0 (by decide) rfl fl_M_7 rfl d_M_round_24 ?_
      refine lv_iload_n hx hb d_M_round_27 rfl (lv_at hl 2 rfl) ?_
      obtain ⟨hg6, hf⟩ := gd_some hf
      refine g_iald2 (j := x1.toNatClampNeg) hC hP a_64 hg6 rfl d_M_round_28 ?_
      refine lv_istore (lv' := [(4, .int (σ5.1 64 x1.toNatClampNeg)), (3, .int r4), (0, .ref (ad 63)), (1, .int x1), (2, .int x2)]) hx hb d_M_round_29 hl (by decide) rfl (fun ls hl => ?_)
      refine lv_iconst (v := (1 : Int32)) hx hb d_M_round_31 (by decide) ?_
      refine lv_istore (lv' := [(5, .int (1 : Int32)), (4, .int (σ5.1 64 x1.toNatClampNeg)), (3, .int r4), (0, .ref (ad 63)), (1, .int x1), (2, .int x2)]) hx hb d_M_round_32 hl (by decide) rfl (fun ls hl => ?_)
      refine lv_iconst (v := (0 : Int32)) hx hb d_M_round_34 (by decide) ?_
      refine lv_istore (lv' := [(6, .int (0 : Int32)), (5, .int (1 : Int32)), (4, .int (σ5.1 64 x1.toNatClampNeg)), (3, .int r4), (0, .ref (ad 63)), (1, .int x1), (2, .int x2)]) hx hb d_M_round_35 hl (by decide) rfl (fun ls hl => ?_)
      obtain ⟨u4_7, eu4_7, hf⟩ := jn_some hf
      have hl : lv_has ls 13 [(6, .int (0 : Int32)), (5, .int (1 : Int32)), (4, .int u4_7), (3, .int r4), (0, .ref (ad 63)), (1, .int x1), (2, .int x2)] := by rw [eu4_7]; exact hl
      obtain ⟨KL8_57, eKL8_57, hf⟩ := jn_some hf
      have hKL8_57 : ∀ (v5_8 : Int32) (v6_8 : Int32) (H : Heap) (locs : List Loc) (ls : Array Slot), va_P D vwCl (wG K ad σ5) H → va_S (GA ad) s.heap H locs → lv_has ls 13 [(0, .ref (ad 63)), (1, .int x1), (2, .int x2), (4, .int u4_7), (5, .int v5_8)] → KL8_57 v5_8 v6_8 = some z0 → W p l e (rmd 5) s m args below meth c H locs 0 0 (MQ below (QI D K ad z0.1 z0.2) args s 0 0 (GA ad)) (F0 m 57 ls []) := by
        clear hf
        intro v5_8 v6_8 H locs ls hP hS hl hf
        rw [eKL8_57] at hf
        try dsimp only at hf
        refine lv_sipush (v := (9999 : Int32)) hx hb d_M_round_57 (by decide) ?_
        refine lv_istore (lv' := [(6, .int (9999 : Int32)), (0, .ref (ad 63)), (1, .int x1), (2, .int x2), (4, .int u4_7), (5, .int v5_8)]) hx hb d_M_round_60 hl (by decide) rfl (fun ls hl => ?_)
        refine lv_iconst (v := (0 : Int32)) hx hb d_M_round_62 (by decide) ?_
        refine lv_istore (lv' := [(7, .int (0 : Int32)), (6, .int (9999 : Int32)), (0, .ref (ad 63)), (1, .int x1), (2, .int x2), (4, .int u4_7), (5, .int v5_8)]) hx hb d_M_round_63 hl (by decide) rfl (fun ls hl => ?_)
        obtain ⟨KL9_270, eKL9_270, hf⟩ := jn_some hf
        have hKL9_270 : ∀ (v6_9 : Int32) (v7_9 : Int32) (σL9 : GS) (H : Heap) (locs : List Loc) (ls : Array Slot), va_P D vwCl (wG K ad σL9) H → va_S (GA ad) s.heap H locs → lv_has ls 13 [(0, .ref (ad 63)), (2, .int x2), (4, .int u4_7), (6, .int v6_9)] → KL9_270 v6_9 v7_9 σL9 = some z0 → W p l e (rmd 5) s m args below meth c H locs 0 0 (MQ below (QI D K ad z0.1 z0.2) args s 0 0 (GA ad)) (F0 m 270 ls []) := by
          clear hf
          intro v6_9 v7_9 σL9 H locs ls hP hS hl hf
          rw [eKL9_270] at hf
          try dsimp only at hf
          refine lv_aload_n hx hb d_M_round_270 rfl (lv_at hl 0 rfl) ?_
          refine lv_iload_n hx hb d_M_round_271 rfl (lv_at hl 1 rfl) ?_
          refine lv_iload hx hb d_M_round_272 (lv_at hl 2 rfl) ?_
          obtain ⟨r11, σ12, hk10, hf⟩ := bc_some hf
          refine g_calli hS (g_runV (As := [.int x2, .int u4_7]) (rest := []) hC hP (c_M_row hj  hk10) (rk (by decide) (by decide)) nm_M_row cd_M_row it_WideTownModel ml_M_240 im_M_row sl_M_row o_63 co_M rfl hl.1 rfl (Nat.le_of_ble_eq_true rfl) d_M_round_274 zz) (fun H locs hP hS => ?_)
          refine lv_istore (lv' := [(7, .int r11), (0, .ref (ad 63)), (2, .int x2), (4, .int u4_7), (6, .int v6_9)]) hx hb d_M_round_277 hl (by decide) rfl (fun ls hl => ?_)
          refine lv_iconst (v := (0 : Int32)) hx hb d_M_round_279 (by decide) ?_
          refine lv_istore (lv' := [(8, .int (0 : Int32)), (7, .int r11), (0, .ref (ad 63)), (2, .int x2), (4, .int u4_7), (6, .int v6_9)]) hx hb d_M_round_280 hl (by decide) rfl (fun ls hl => ?_)
          obtain ⟨KL13_314, eKL13_314, hf⟩ := jn_some hf
          have hKL13_314 : ∀ (v8_13 : Int32) (σL13 : GS) (H : Heap) (locs : List Loc) (ls : Array Slot), va_P D vwCl (wG K ad σL13) H → va_S (GA ad) s.heap H locs → lv_has ls 13 [(6, .int v6_9)] → KL13_314 v8_13 σL13 = some z0 → W p l e (rmd 5) s m args below meth c H locs 0 0 (MQ below (QI D K ad z0.1 z0.2) args s 0 0 (GA ad)) (F0 m 314 ls []) := by
            clear hf
            intro v8_13 σL13 H locs ls hP hS hl hf
            rw [eKL13_314] at hf
            try dsimp only at hf
            refine lv_iload hx hb d_M_round_314 (lv_at hl 0 rfl) ?_
            cases hf
            exact g_iret hC rfl hP hS d_M_round_316
          clear eKL13_314
          have hL13 : ∀ (n : Nat) (v8_13 : Int32) (σL13 : GS) (H : Heap) (locs : List Loc) (ls : Array Slot), va_P D vwCl (wG K ad σL13) H → va_S (GA ad) s.heap H locs → lv_has ls 13 [(0, .ref (ad 63)), (2, .int x2), (4, .int u4_7), (6, .int v6_9), (8, .int v8_13)] → F_M_round_282 x2 u4_7 v6_9 KL13_314 n v8_13 σL13 = some z0 → W p l e (rmd 5) s m args below meth c H locs 0 0 (MQ below (QI D K ad z0.1 z0.2) args s 0 0 (GA ad)) (F0 m 282 ls []) := by
            clear hf
            intro n
            induction n with
            | zero =>
              intro v8_13 σL13 H locs ls hP hS hl hf
              rw [F_M_round_282.eq_1] at hf
              cases hf
            | succ n ih =>
              intro v8_13 σL13 H locs ls hP hS hl hf
              rw [F_M_round_282.eq_2] at hf
              refine lv_iload hx hb d_M_round_282 (lv_at hl 4 rfl) ?_
              refine lv_iload hx hb d_M_round_284 (lv_at hl 2 rfl) ?_
              refine lv_icmp_ge (tgt := 314) hx hb d_M_round_286 (by decide) (fun hc17 => ?_) (fun hc17 => ?_)
              · rw [if_pos hc17] at hf
                exact hKL13_314 _ _ _ _ _ hP hS (lv_sub hl [3] rfl) hf
              · rw [if_neg hc17] at hf
                refine lv_aload_n hx hb d_M_round_289 rfl (lv_at hl 0 rfl) ?_
                refine g_get (v := .ref (ad 65)) hC hP o_63 co_M 1 (by decide) rfl fl_M_13 rfl d_M_round_290 ?_
                refine lv_bipush (v := (40 : Int32)) hx hb d_M_round_293 (by decide) ?_
                refine lv_iload_n hx hb d_M_round_295 rfl (lv_at hl 1 rfl) ?_
                refine lv_imul hx hb d_M_round_296 ?_
                refine lv_iload hx hb d_M_round_297 (lv_at hl 4 rfl) ?_
                refine lv_iadd hx hb d_M_round_299 ?_
                refine lv_aload_n hx hb d_M_round_300 rfl (lv_at hl 0 rfl) ?_
                refine g_get (v := .ref (ad 85)) hC hP o_63 co_M 27 (by decide) rfl fl_M_79 rfl d_M_round_301 ?_
                refine lv_iload hx hb d_M_round_304 (lv_at hl 4 rfl) ?_
                obtain ⟨hg14, hf⟩ := gd_some hf
                refine g_iald2 (j := v8_13.toNatClampNeg) hC hP a_85 hg14 rfl d_M_round_306 ?_
                obtain ⟨hg15, hf⟩ := gd_some hf
                obtain ⟨σ16, eσ16, hf⟩ := jn_some hf
                refine g_iast2 (j := (((40 : Int32) * x2) + v8_13).toNatClampNeg) hC hP hS a_65 hg15 rfl d_M_round_307 (fun H locs hP hS => ?_)
                rw [← eσ16] at hP
                refine lv_iinc (v := v8_13 + 1) (lv' := [(8, .int (v8_13 + 1)), (0, .ref (ad 63)), (2, .int x2), (4, .int u4_7), (6, .int v6_9)]) hx hb d_M_round_308 hl (k := 4) rfl rfl (by decide) rfl (fun ls hl => ?_)
                refine lv_goto (tgt := 282) hx hb d_M_round_311 (by decide) ?_
                exact ih _ _ _ _ _ hP hS (lv_sub hl [1, 2, 3, 4, 0] rfl) hf
          exact hL13 _ _ _ _ _ _ hP hS (lv_sub hl [2, 3, 4, 5, 0] rfl) hf
        clear eKL9_270
        have hL9 : ∀ (n : Nat) (v6_9 : Int32) (v7_9 : Int32) (σL9 : GS) (H : Heap) (locs : List Loc) (ls : Array Slot), va_P D vwCl (wG K ad σL9) H → va_S (GA ad) s.heap H locs → lv_has ls 13 [(0, .ref (ad 63)), (1, .int x1), (2, .int x2), (4, .int u4_7), (5, .int v5_8), (6, .int v6_9), (7, .int v7_9)] → F_M_round_65 x1 x2 u4_7 v5_8 KL9_270 n v6_9 v7_9 σL9 = some z0 → W p l e (rmd 5) s m args below meth c H locs 0 0 (MQ below (QI D K ad z0.1 z0.2) args s 0 0 (GA ad)) (F0 m 65 ls []) := by
          clear hf
          intro n
          induction n with
          | zero =>
            intro v6_9 v7_9 σL9 H locs ls hP hS hl hf
            rw [F_M_round_65.eq_1] at hf
            cases hf
          | succ n ih =>
            intro v6_9 v7_9 σL9 H locs ls hP hS hl hf
            rw [F_M_round_65.eq_2] at hf
            refine lv_iload hx hb d_M_round_65 (lv_at hl 6 rfl) ?_
            refine lv_iload hx hb d_M_round_67 (lv_at hl 4 rfl) ?_
            refine lv_icmp_ge (tgt := 270) hx hb d_M_round_69 (by decide) (fun hc43 => ?_) (fun hc43 => ?_)
            · rw [if_pos hc43] at hf
              exact hKL9_270 _ _ _ _ _ _ hP hS (lv_sub hl [0, 2, 3, 5] rfl) hf
            · rw [if_neg hc43] at hf
              refine lv_iload hx hb d_M_round_72 (lv_at hl 6 rfl) ?_
              refine lv_istore (lv' := [(8, .int v7_9), (0, .ref (ad 63)), (1, .int x1), (2, .int x2), (4, .int u4_7), (5, .int v5_8), (6, .int v6_9), (7, .int v7_9)]) hx hb d_M_round_74 hl (by decide) rfl (fun ls hl => ?_)
              refine lv_iconst (v := (0 : Int32)) hx hb d_M_round_76 (by decide) ?_
              refine lv_istore (lv' := [(9, .int (0 : Int32)), (8, .int v7_9), (0, .ref (ad 63)), (1, .int x1), (2, .int x2), (4, .int u4_7), (5, .int v5_8), (6, .int v6_9), (7, .int v7_9)]) hx hb d_M_round_77 hl (by decide) rfl (fun ls hl => ?_)
              refine lv_iload hx hb d_M_round_79 (lv_at hl 5 rfl) ?_
              refine lv_iconst (v := (1 : Int32)) hx hb d_M_round_81 (by decide) ?_
              refine lv_isub hx hb d_M_round_82 ?_
              refine lv_istore (lv' := [(10, .int (u4_7 - (1 : Int32))), (9, .int (0 : Int32)), (8, .int v7_9), (0, .ref (ad 63)), (1, .int x1), (2, .int x2), (4, .int u4_7), (5, .int v5_8), (6, .int v6_9), (7, .int v7_9)]) hx hb d_M_round_83 hl (by decide) rfl (fun ls hl => ?_)
              obtain ⟨KL18_129, eKL18_129, hf⟩ := jn_some hf
              have hKL18_129 : ∀ (v8_18 : Int32) (v9_18 : Int32) (v10_18 : Int32) (σL18 : GS) (H : Heap) (locs : List Loc) (ls : Array Slot), va_P D vwCl (wG K ad σL18) H → va_S (GA ad) s.heap H locs → lv_has ls 13 [(0, .ref (ad 63)), (1, .int x1), (2, .int x2), (4, .int u4_7), (5, .int v5_8), (6, .int v6_9), (7, .int v7_9), (9, .int v9_18)] → KL18_129 v8_18 v9_18 v10_18 σL18 = some z0 → W p l e (rmd 5) s m args below meth c H locs 0 0 (MQ below (QI D K ad z0.1 z0.2) args s 0 0 (GA ad)) (F0 m 129 ls []) := by
                clear hf
                intro v8_18 v9_18 v10_18 σL18 H locs ls hP hS hl hf
                rw [eKL18_129] at hf
                try dsimp only at hf
                refine lv_iload hx hb d_M_round_129 (lv_at hl 7 rfl) ?_
                refine lv_iconst (v := (1 : Int32)) hx hb d_M_round_131 (by decide) ?_
                refine lv_iload hx hb d_M_round_132 (lv_at hl 3 rfl) ?_
                refine lv_ishl hx hb d_M_round_134 ?_
                refine lv_iconst (v := (1 : Int32)) hx hb d_M_round_135 (by decide) ?_
                refine lv_isub hx hb d_M_round_136 ?_
                refine lv_icmp_eq (tgt := 143) hx hb d_M_round_137 (by decide) (fun hc38 => ?_) (fun hc38 => ?_)
                · rw [if_pos hc38] at hf
                  refine lv_iconst (v := (0 : Int32)) hx hb d_M_round_143 (by decide) ?_
                  refine lv_istore (lv' := [(10, .int (0 : Int32)), (0, .ref (ad 63)), (1, .int x1), (2, .int x2), (4, .int u4_7), (5, .int v5_8), (6, .int v6_9), (7, .int v7_9), (9, .int v9_18)]) hx hb d_M_round_144 hl (by decide) rfl (fun ls hl => ?_)
                  refine lv_iconst (v := (0 : Int32)) hx hb d_M_round_146 (by decide) ?_
                  refine lv_istore (lv' := [(11, .int (0 : Int32)), (10, .int (0 : Int32)), (0, .ref (ad 63)), (1, .int x1), (2, .int x2), (4, .int u4_7), (5, .int v5_8), (6, .int v6_9), (7, .int v7_9), (9, .int v9_18)]) hx hb d_M_round_147 hl (by decide) rfl (fun ls hl => ?_)
                  refine lv_iconst (v := (0 : Int32)) hx hb d_M_round_149 (by decide) ?_
                  refine lv_istore (lv' := [(12, .int (0 : Int32)), (11, .int (0 : Int32)), (10, .int (0 : Int32)), (0, .ref (ad 63)), (1, .int x1), (2, .int x2), (4, .int u4_7), (5, .int v5_8), (6, .int v6_9), (7, .int v7_9), (9, .int v9_18)]) hx hb d_M_round_150 hl (by decide) rfl (fun ls hl => ?_)
                  obtain ⟨KL19_212, eKL19_212, hf⟩ := jn_some hf
                  have hKL19_212 : ∀ (v10_19 : Int32) (v11_19 : Int32) (v12_19 : Int32) (σL19 : GS) (H : Heap) (locs : List Loc) (ls : Array Slot), va_P D vwCl (wG K ad σL19) H → va_S (GA ad) s.heap H locs → lv_has ls 13 [(0, .ref (ad 63)), (1, .int x1), (2, .int x2), (4, .int u4_7), (5, .int v5_8), (6, .int v6_9), (7, .int v7_9), (10, .int v10_19), (11, .int v11_19)] → KL19_212 v10_19 v11_19 v12_19 σL19 = some z0 → W p l e (rmd 5) s m args below meth c H locs 0 0 (MQ below (QI D K ad z0.1 z0.2) args s 0 0 (GA ad)) (F0 m 212 ls []) := by
                    clear hf
                    intro v10_19 v11_19 v12_19 σL19 H locs ls hP hS hl hf
                    rw [eKL19_212] at hf
                    try dsimp only at hf
                    refine lv_iload hx hb d_M_round_212 (lv_at hl 7 rfl) ?_
                    refine lv_aload_n hx hb d_M_round_214 rfl (lv_at hl 0 rfl) ?_
                    refine lv_iload hx hb d_M_round_215 (lv_at hl 8 rfl) ?_
                    obtain ⟨r21, σ22, hk20, hf⟩ := bc_some hf
                    refine g_calli hS (g_runV (As := [.int v11_19]) (rest := [.int v10_19]) hC hP (c_M_lengthOf hj  hk20) (rk (by decide) (by decide)) nm_M_lengthOf cd_M_lengthOf it_WideTownModel ml_M_265 im_M_lengthOf sl_M_lengthOf o_63 co_M rfl hl.1 rfl (Nat.le_of_ble_eq_true rfl) d_M_round_217 zz) (fun H locs hP hS => ?_)
                    refine lv_iadd hx hb d_M_round_220 ?_
                    refine lv_istore (lv' := [(10, .int (v10_19 + r21)), (0, .ref (ad 63)), (1, .int x1), (2, .int x2), (4, .int u4_7), (5, .int v5_8), (6, .int v6_9), (7, .int v7_9), (11, .int v11_19)]) hx hb d_M_round_221 hl (by decide) rfl (fun ls hl => ?_)
                    refine lv_iload hx hb d_M_round_223 (lv_at hl 0 rfl) ?_
                    refine lv_iload hx hb d_M_round_225 (lv_at hl 6 rfl) ?_
                    refine lv_icmp_ge (tgt := 264) hx hb d_M_round_227 (by decide) (fun hc29 => ?_) (fun hc29 => ?_)
                    · rw [if_pos hc29] at hf
                      refine lv_iinc (v := v7_9 + 1) (lv' := [(7, .int (v7_9 + 1)), (10, .int (v10_19 + r21)), (0, .ref (ad 63)), (1, .int x1), (2, .int x2), (4, .int u4_7), (5, .int v5_8), (6, .int v6_9), (11, .int v11_19)]) hx hb d_M_round_264 hl (k := 7) rfl rfl (by decide) rfl (fun ls hl => ?_)
                      refine lv_goto (tgt := 65) hx hb d_M_round_267 (by decide) ?_
                      exact ih _ _ _ _ _ _ hP hS (lv_sub hl [2, 3, 4, 5, 6, 7, 0] rfl) hf
                    · rw [if_neg hc29] at hf
                      refine lv_iload hx hb d_M_round_230 (lv_at hl 0 rfl) ?_
                      refine lv_istore (lv' := [(6, .int (v10_19 + r21)), (10, .int (v10_19 + r21)), (0, .ref (ad 63)), (1, .int x1), (2, .int x2), (4, .int u4_7), (5, .int v5_8), (7, .int v7_9), (11, .int v11_19)]) hx hb d_M_round_232 hl (by decide) rfl (fun ls hl => ?_)
                      refine lv_iconst (v := (0 : Int32)) hx hb d_M_round_234 (by decide) ?_
                      refine lv_istore (lv' := [(12, .int (0 : Int32)), (6, .int (v10_19 + r21)), (10, .int (v10_19 + r21)), (0, .ref (ad 63)), (1, .int x1), (2, .int x2), (4, .int u4_7), (5, .int v5_8), (7, .int v7_9), (11, .int v11_19)]) hx hb d_M_round_235 hl (by decide) rfl (fun ls hl => ?_)
                      obtain ⟨u6_23, eu6_23, hf⟩ := jn_some hf
                      have hl : lv_has ls 13 [(12, .int (0 : Int32)), (6, .int u6_23), (10, .int (v10_19 + r21)), (0, .ref (ad 63)), (1, .int x1), (2, .int x2), (4, .int u4_7), (5, .int v5_8), (7, .int v7_9), (11, .int v11_19)] := by rw [eu6_23]; exact hl
                      obtain ⟨KL24_264, eKL24_264, hf⟩ := jn_some hf
                      have hKL24_264 : ∀ (v12_24 : Int32) (σL24 : GS) (H : Heap) (locs : List Loc) (ls : Array Slot), va_P D vwCl (wG K ad σL24) H → va_S (GA ad) s.heap H locs → lv_has ls 13 [(0, .ref (ad 63)), (1, .int x1), (2, .int x2), (4, .int u4_7), (5, .int v5_8), (6, .int u6_23), (7, .int v7_9)] → KL24_264 v12_24 σL24 = some z0 → W p l e (rmd 5) s m args below meth c H locs 0 0 (MQ below (QI D K ad z0.1 z0.2) args s 0 0 (GA ad)) (F0 m 264 ls []) := by
                        clear hf
                        intro v12_24 σL24 H locs ls hP hS hl hf
                        rw [eKL24_264] at hf
                        try dsimp only at hf
                        refine lv_iinc (v := v7_9 + 1) (lv' := [(7, .int (v7_9 + 1)), (0, .ref (ad 63)), (1, .int x1), (2, .int x2), (4, .int u4_7), (5, .int v5_8), (6, .int u6_23)]) hx hb d_M_round_264 hl (k := 6) rfl rfl (by decide) rfl (fun ls hl => ?_)
                        refine lv_goto (tgt := 65) hx hb d_M_round_267 (by decide) ?_
                        exact ih _ _ _ _ _ _ hP hS (lv_sub hl [1, 2, 3, 4, 5, 6, 0] rfl) hf
                      clear eKL24_264
                      have hL24 : ∀ (n : Nat) (v12_24 : Int32) (σL24 : GS) (H : Heap) (locs : List Loc) (ls : Array Slot), va_P D vwCl (wG K ad σL24) H → va_S (GA ad) s.heap H locs → lv_has ls 13 [(0, .ref (ad 63)), (1, .int x1), (2, .int x2), (4, .int u4_7), (5, .int v5_8), (6, .int u6_23), (7, .int v7_9), (12, .int v12_24)] → F_M_round_237 x1 x2 u4_7 v5_8 u6_23 v7_9 KL24_264 n v12_24 σL24 = some z0 → W p l e (rmd 5) s m args below meth c H locs 0 0 (MQ below (QI D K ad z0.1 z0.2) args s 0 0 (GA ad)) (F0 m 237 ls []) := by
                        clear hf
                        intro n
                        induction n with
                        | zero =>
                          intro v12_24 σL24 H locs ls hP hS hl hf
                          rw [F_M_round_237.eq_1] at hf
                          cases hf
                        | succ n ih =>
                          intro v12_24 σL24 H locs ls hP hS hl hf
                          rw [F_M_round_237.eq_2] at hf
                          refine lv_iload hx hb d_M_round_237 (lv_at hl 7 rfl) ?_
                          refine lv_iload hx hb d_M_round_239 (lv_at hl 3 rfl) ?_
                          refine lv_icmp_ge (tgt := 264) hx hb d_M_round_241 (by decide) (fun hc28 => ?_) (fun hc28 => ?_)
                          · rw [if_pos hc28] at hf
                            exact hKL24_264 _ _ _ _ _ hP hS (lv_sub hl [0, 1, 2, 3, 4, 5, 6] rfl) hf
                          · rw [if_neg hc28] at hf
                            refine lv_aload_n hx hb d_M_round_244 rfl (lv_at hl 0 rfl) ?_
                            refine g_get (v := .ref (ad 85)) hC hP o_63 co_M 27 (by decide) rfl fl_M_79 rfl d_M_round_245 ?_
                            refine lv_iload hx hb d_M_round_248 (lv_at hl 7 rfl) ?_
                            refine lv_aload_n hx hb d_M_round_250 rfl (lv_at hl 0 rfl) ?_
                            refine g_get (v := .ref (ad 84)) hC hP o_63 co_M 26 (by decide) rfl fl_M_76 rfl d_M_round_251 ?_
                            refine lv_iload hx hb d_M_round_254 (lv_at hl 7 rfl) ?_
                            obtain ⟨hg25, hf⟩ := gd_some hf
                            refine g_iald2 (j := v12_24.toNatClampNeg) hC hP a_84 hg25 rfl d_M_round_256 ?_
                            obtain ⟨hg26, hf⟩ := gd_some hf
                            obtain ⟨σ27, eσ27, hf⟩ := jn_some hf
                            refine g_iast2 (j := v12_24.toNatClampNeg) hC hP hS a_85 hg26 rfl d_M_round_257 (fun H locs hP hS => ?_)
                            rw [← eσ27] at hP
                            refine lv_iinc (v := v12_24 + 1) (lv' := [(12, .int (v12_24 + 1)), (0, .ref (ad 63)), (1, .int x1), (2, .int x2), (4, .int u4_7), (5, .int v5_8), (6, .int u6_23), (7, .int v7_9)]) hx hb d_M_round_258 hl (k := 7) rfl rfl (by decide) rfl (fun ls hl => ?_)
                            refine lv_goto (tgt := 237) hx hb d_M_round_261 (by decide) ?_
                            exact ih _ _ _ _ _ hP hS (lv_sub hl [1, 2, 3, 4, 5, 6, 7, 0] rfl) hf
                      exact hL24 _ _ _ _ _ _ hP hS (lv_sub hl [3, 4, 5, 6, 7, 1, 8, 0] rfl) hf
                  clear eKL19_212
                  have hL19 : ∀ (n : Nat) (v10_19 : Int32) (v11_19 : Int32) (v12_19 : Int32) (σL19 : GS) (H : Heap) (locs : List Loc) (ls : Array Slot), va_P D vwCl (wG K ad σL19) H → va_S (GA ad) s.heap H locs → lv_has ls 13 [(0, .ref (ad 63)), (1, .int x1), (2, .int x2), (4, .int u4_7), (5, .int v5_8), (6, .int v6_9), (7, .int v7_9), (10, .int v10_19), (11, .int v11_19), (12, .int v12_19)] → F_M_round_152 x1 x2 u4_7 v5_8 v6_9 v7_9 KL19_212 n v10_19 v11_19 v12_19 σL19 = some z0 → W p l e (rmd 5) s m args below meth c H locs 0 0 (MQ below (QI D K ad z0.1 z0.2) args s 0 0 (GA ad)) (F0 m 152 ls []) := by
                    clear hf
                    intro n
                    induction n with
                    | zero =>
                      intro v10_19 v11_19 v12_19 σL19 H locs ls hP hS hl hf
                      rw [F_M_round_152.eq_1] at hf
                      cases hf
                    | succ n ih =>
                      intro v10_19 v11_19 v12_19 σL19 H locs ls hP hS hl hf
                      rw [F_M_round_152.eq_2] at hf
                      refine lv_iload hx hb d_M_round_152 (lv_at hl 9 rfl) ?_
                      refine lv_iload hx hb d_M_round_154 (lv_at hl 3 rfl) ?_
                      refine lv_icmp_ge (tgt := 212) hx hb d_M_round_156 (by decide) (fun hc37 => ?_) (fun hc37 => ?_)
                      · rw [if_pos hc37] at hf
                        exact hKL19_212 _ _ _ _ _ _ _ hP hS (lv_sub hl [0, 1, 2, 3, 4, 5, 6, 7, 8] rfl) hf
                      · rw [if_neg hc37] at hf
                        refine lv_iload hx hb d_M_round_159 (lv_at hl 7 rfl) ?_
                        refine lv_aload_n hx hb d_M_round_161 rfl (lv_at hl 0 rfl) ?_
                        refine lv_iload hx hb d_M_round_162 (lv_at hl 8 rfl) ?_
                        refine lv_aload_n hx hb d_M_round_164 rfl (lv_at hl 0 rfl) ?_
                        refine g_get (v := .ref (ad 65)) hC hP o_63 co_M 1 (by decide) rfl fl_M_13 rfl d_M_round_165 ?_
                        refine lv_bipush (v := (40 : Int32)) hx hb d_M_round_168 (by decide) ?_
                        refine lv_iload_n hx hb d_M_round_170 rfl (lv_at hl 1 rfl) ?_
                        refine lv_imul hx hb d_M_round_171 ?_
                        refine lv_aload_n hx hb d_M_round_172 rfl (lv_at hl 0 rfl) ?_
                        refine g_get (v := .ref (ad 84)) hC hP o_63 co_M 26 (by decide) rfl fl_M_76 rfl d_M_round_173 ?_
                        refine lv_iload hx hb d_M_round_176 (lv_at hl 9 rfl) ?_
                        obtain ⟨hg30, hf⟩ := gd_some hf
                        refine g_iald2 (j := v12_19.toNatClampNeg) hC hP a_84 hg30 rfl d_M_round_178 ?_
                        refine lv_iadd hx hb d_M_round_179 ?_
                        obtain ⟨hg31, hf⟩ := gd_some hf
                        refine g_iald2 (j := (((40 : Int32) * x1) + (σL19.1 84 v12_19.toNatClampNeg)).toNatClampNeg) hC hP a_65 hg31 rfl d_M_round_180 ?_
                        obtain ⟨r33, σ34, hk32, hf⟩ := bc_some hf
                        refine g_calli hS (g_runV (As := [.int v11_19, .int (σL19.1 65 (((40 : Int32) * x1) + (σL19.1 84 v12_19.toNatClampNeg)).toNatClampNeg)]) (rest := [.int v10_19]) hC hP (c_M_farOf hj  hk32) (rk (by decide) (by decide)) nm_M_farOf cd_M_farOf it_WideTownModel ml_M_204 im_M_farOf sl_M_farOf o_63 co_M rfl hl.1 rfl (Nat.le_of_ble_eq_true rfl) d_M_round_181 zz) (fun H locs hP hS => ?_)
                        refine lv_iadd hx hb d_M_round_184 ?_
                        refine lv_istore (lv' := [(10, .int (v10_19 + r33)), (0, .ref (ad 63)), (1, .int x1), (2, .int x2), (4, .int u4_7), (5, .int v5_8), (6, .int v6_9), (7, .int v7_9), (11, .int v11_19), (12, .int v12_19)]) hx hb d_M_round_185 hl (by decide) rfl (fun ls hl => ?_)
                        refine lv_aload_n hx hb d_M_round_187 rfl (lv_at hl 1 rfl) ?_
                        refine g_get (v := .ref (ad 65)) hC hP o_63 co_M 1 (by decide) rfl fl_M_13 rfl d_M_round_188 ?_
                        refine lv_bipush (v := (40 : Int32)) hx hb d_M_round_191 (by decide) ?_
                        refine lv_iload_n hx hb d_M_round_193 rfl (lv_at hl 2 rfl) ?_
                        refine lv_imul hx hb d_M_round_194 ?_
                        refine lv_aload_n hx hb d_M_round_195 rfl (lv_at hl 1 rfl) ?_
                        refine g_get (v := .ref (ad 84)) hC hP o_63 co_M 26 (by decide) rfl fl_M_76 rfl d_M_round_196 ?_
                        refine lv_iload hx hb d_M_round_199 (lv_at hl 9 rfl) ?_
                        obtain ⟨hg35, hf⟩ := gd_some hf
                        refine g_iald2 (j := v12_19.toNatClampNeg) hC hP a_84 hg35 rfl d_M_round_201 ?_
                        refine lv_iadd hx hb d_M_round_202 ?_
                        obtain ⟨hg36, hf⟩ := gd_some hf
                        refine g_iald2 (j := (((40 : Int32) * x1) + (σ34.1 84 v12_19.toNatClampNeg)).toNatClampNeg) hC hP a_65 hg36 rfl d_M_round_203 ?_
                        refine lv_istore (lv' := [(11, .int (σ34.1 65 (((40 : Int32) * x1) + (σ34.1 84 v12_19.toNatClampNeg)).toNatClampNeg)), (10, .int (v10_19 + r33)), (0, .ref (ad 63)), (1, .int x1), (2, .int x2), (4, .int u4_7), (5, .int v5_8), (6, .int v6_9), (7, .int v7_9), (12, .int v12_19)]) hx hb d_M_round_204 hl (by decide) rfl (fun ls hl => ?_)
                        refine lv_iinc (v := v12_19 + 1) (lv' := [(12, .int (v12_19 + 1)), (11, .int (σ34.1 65 (((40 : Int32) * x1) + (σ34.1 84 v12_19.toNatClampNeg)).toNatClampNeg)), (10, .int (v10_19 + r33)), (0, .ref (ad 63)), (1, .int x1), (2, .int x2), (4, .int u4_7), (5, .int v5_8), (6, .int v6_9), (7, .int v7_9)]) hx hb d_M_round_206 hl (k := 9) rfl rfl (by decide) rfl (fun ls hl => ?_)
                        refine lv_goto (tgt := 152) hx hb d_M_round_209 (by decide) ?_
                        exact ih _ _ _ _ _ _ _ hP hS (lv_sub hl [3, 4, 5, 6, 7, 8, 9, 2, 1, 0] rfl) hf
                  exact hL19 _ _ _ _ _ _ _ _ hP hS (lv_sub hl [3, 4, 5, 6, 7, 8, 9, 2, 1, 0] rfl) hf
                · rw [if_neg hc38] at hf
                  refine lv_goto (tgt := 264) hx hb d_M_round_140 (by decide) ?_
                  refine lv_iinc (v := v7_9 + 1) (lv' := [(7, .int (v7_9 + 1)), (0, .ref (ad 63)), (1, .int x1), (2, .int x2), (4, .int u4_7), (5, .int v5_8), (6, .int v6_9), (9, .int v9_18)]) hx hb d_M_round_264 hl (k := 6) rfl rfl (by decide) rfl (fun ls hl => ?_)
                  refine lv_goto (tgt := 65) hx hb d_M_round_267 (by decide) ?_
                  exact ih _ _ _ _ _ _ hP hS (lv_sub hl [1, 2, 3, 4, 5, 6, 0] rfl) hf
              clear eKL18_129
              have hL18 : ∀ (n : Nat) (v8_18 : Int32) (v9_18 : Int32) (v10_18 : Int32) (σL18 : GS) (H : Heap) (locs : List Loc) (ls : Array Slot), va_P D vwCl (wG K ad σL18) H → va_S (GA ad) s.heap H locs → lv_has ls 13 [(0, .ref (ad 63)), (1, .int x1), (2, .int x2), (4, .int u4_7), (5, .int v5_8), (6, .int v6_9), (7, .int v7_9), (8, .int v8_18), (9, .int v9_18), (10, .int v10_18)] → F_M_round_85 x1 x2 u4_7 v5_8 v6_9 v7_9 KL18_129 n v8_18 v9_18 v10_18 σL18 = some z0 → W p l e (rmd 5) s m args below meth c H locs 0 0 (MQ below (QI D K ad z0.1 z0.2) args s 0 0 (GA ad)) (F0 m 85 ls []) := by
                clear hf
                intro n
                induction n with
                | zero =>
                  intro v8_18 v9_18 v10_18 σL18 H locs ls hP hS hl hf
                  rw [F_M_round_85.eq_1] at hf
                  cases hf
                | succ n ih =>
                  intro v8_18 v9_18 v10_18 σL18 H locs ls hP hS hl hf
                  rw [F_M_round_85.eq_2] at hf
                  refine lv_iload hx hb d_M_round_85 (lv_at hl 9 rfl) ?_
                  refine lv_if_lt (tgt := 129) hx hb d_M_round_87 (by decide) (fun hc42 => ?_) (fun hc42 => ?_)
                  · rw [if_pos hc42] at hf
                    exact hKL18_129 _ _ _ _ _ _ _ hP hS (lv_sub hl [0, 1, 2, 3, 4, 5, 6, 8] rfl) hf
                  · rw [if_neg hc42] at hf
                    refine lv_aload_n hx hb d_M_round_90 rfl (lv_at hl 0 rfl) ?_
                    refine g_get (v := .ref (ad 84)) hC hP o_63 co_M 26 (by decide) rfl fl_M_76 rfl d_M_round_91 ?_
                    refine lv_iload hx hb d_M_round_94 (lv_at hl 9 rfl) ?_
                    refine lv_iload hx hb d_M_round_96 (lv_at hl 7 rfl) ?_
                    refine lv_bipush (v := (6 : Int32)) hx hb d_M_round_98 (by decide) ?_
                    refine lv_irem hx hb d_M_round_100 (by decide) ?_
                    obtain ⟨hg39, hf⟩ := gd_some hf
                    obtain ⟨σ40, eσ40, hf⟩ := jn_some hf
                    refine g_iast2 (j := v10_18.toNatClampNeg) hC hP hS a_84 hg39 rfl d_M_round_101 (fun H locs hP hS => ?_)
                    rw [← eσ40] at hP
                    refine lv_iload hx hb d_M_round_102 (lv_at hl 7 rfl) ?_
                    refine lv_bipush (v := (6 : Int32)) hx hb d_M_round_104 (by decide) ?_
                    refine lv_idiv hx hb d_M_round_106 (by decide) ?_
                    refine lv_istore (lv' := [(8, .int (v8_18 / (6 : Int32))), (0, .ref (ad 63)), (1, .int x1), (2, .int x2), (4, .int u4_7), (5, .int v5_8), (6, .int v6_9), (7, .int v7_9), (9, .int v9_18), (10, .int v10_18)]) hx hb d_M_round_107 hl (by decide) rfl (fun ls hl => ?_)
                    refine lv_iload hx hb d_M_round_109 (lv_at hl 8 rfl) ?_
                    refine lv_iconst (v := (1 : Int32)) hx hb d_M_round_111 (by decide) ?_
                    refine lv_aload_n hx hb d_M_round_112 rfl (lv_at hl 1 rfl) ?_
                    refine g_get (v := .ref (ad 84)) hC hP o_63 co_M 26 (by decide) rfl fl_M_76 rfl d_M_round_113 ?_
                    refine lv_iload hx hb d_M_round_116 (lv_at hl 9 rfl) ?_
                    obtain ⟨hg41, hf⟩ := gd_some hf
                    refine g_iald2 (j := v10_18.toNatClampNeg) hC hP a_84 hg41 rfl d_M_round_118 ?_
                    refine lv_ishl hx hb d_M_round_119 ?_
                    refine lv_ior hx hb d_M_round_120 ?_
                    refine lv_istore (lv' := [(9, .int (v9_18 ||| ((1 : Int32) <<< ((σ40.1 84 v10_18.toNatClampNeg) &&& 31)))), (8, .int (v8_18 / (6 : Int32))), (0, .ref (ad 63)), (1, .int x1), (2, .int x2), (4, .int u4_7), (5, .int v5_8), (6, .int v6_9), (7, .int v7_9), (10, .int v10_18)]) hx hb d_M_round_121 hl (by decide) rfl (fun ls hl => ?_)
                    refine lv_iinc (v := v10_18 + (-1)) (lv' := [(10, .int (v10_18 + (-1))), (9, .int (v9_18 ||| ((1 : Int32) <<< ((σ40.1 84 v10_18.toNatClampNeg) &&& 31)))), (8, .int (v8_18 / (6 : Int32))), (0, .ref (ad 63)), (1, .int x1), (2, .int x2), (4, .int u4_7), (5, .int v5_8), (6, .int v6_9), (7, .int v7_9)]) hx hb d_M_round_123 hl (k := 9) rfl rfl (by decide) rfl (fun ls hl => ?_)
                    refine lv_goto (tgt := 85) hx hb d_M_round_126 (by decide) ?_
                    exact ih _ _ _ _ _ _ _ hP hS (lv_sub hl [3, 4, 5, 6, 7, 8, 9, 2, 1, 0] rfl) hf
              exact hL18 _ _ _ _ _ _ _ _ hP hS (lv_sub hl [3, 4, 5, 6, 7, 8, 9, 2, 1, 0] rfl) hf
        exact hL9 _ _ _ _ _ _ _ hP hS (lv_sub hl [2, 3, 4, 5, 6, 1, 0] rfl) hf
      clear eKL8_57
      have hL8 : ∀ (n : Nat) (v5_8 : Int32) (v6_8 : Int32) (H : Heap) (locs : List Loc) (ls : Array Slot), va_P D vwCl (wG K ad σ5) H → va_S (GA ad) s.heap H locs → lv_has ls 13 [(0, .ref (ad 63)), (1, .int x1), (2, .int x2), (4, .int u4_7), (5, .int v5_8), (6, .int v6_8)] → F_M_round_37 x1 x2 u4_7 σ5 KL8_57 n v5_8 v6_8 = some z0 → W p l e (rmd 5) s m args below meth c H locs 0 0 (MQ below (QI D K ad z0.1 z0.2) args s 0 0 (GA ad)) (F0 m 37 ls []) := by
        clear hf
        intro n
        induction n with
        | zero =>
          intro v5_8 v6_8 H locs ls hP hS hl hf
          rw [F_M_round_37.eq_1] at hf
          cases hf
        | succ n ih =>
          intro v5_8 v6_8 H locs ls hP hS hl hf
          rw [F_M_round_37.eq_2] at hf
          refine lv_iload hx hb d_M_round_37 (lv_at hl 5 rfl) ?_
          refine lv_iload hx hb d_M_round_39 (lv_at hl 3 rfl) ?_
          refine lv_icmp_ge (tgt := 57) hx hb d_M_round_41 (by decide) (fun hc44 => ?_) (fun hc44 => ?_)
          · rw [if_pos hc44] at hf
            exact hKL8_57 _ _ _ _ _ hP hS (lv_sub hl [0, 1, 2, 3, 4] rfl) hf
          · rw [if_neg hc44] at hf
            refine lv_iload hx hb d_M_round_44 (lv_at hl 4 rfl) ?_
            refine lv_bipush (v := (6 : Int32)) hx hb d_M_round_46 (by decide) ?_
            refine lv_imul hx hb d_M_round_48 ?_
            refine lv_istore (lv' := [(5, .int (v5_8 * (6 : Int32))), (0, .ref (ad 63)), (1, .int x1), (2, .int x2), (4, .int u4_7), (6, .int v6_8)]) hx hb d_M_round_49 hl (by decide) rfl (fun ls hl => ?_)
            refine lv_iinc (v := v6_8 + 1) (lv' := [(6, .int (v6_8 + 1)), (5, .int (v5_8 * (6 : Int32))), (0, .ref (ad 63)), (1, .int x1), (2, .int x2), (4, .int u4_7)]) hx hb d_M_round_51 hl (k := 5) rfl rfl (by decide) rfl (fun ls hl => ?_)
            refine lv_goto (tgt := 37) hx hb d_M_round_54 (by decide) ?_
            exact ih _ _ _ _ _ hP hS (lv_sub hl [2, 3, 4, 5, 1, 0] rfl) hf
      exact hL8 _ _ _ _ _ _ hP hS (lv_sub hl [4, 5, 6, 2, 1, 0] rfl) hf
    · rw [if_neg hc45] at hf
      refine lv_iload_n hx hb d_M_round_21 rfl (lv_at hl 0 rfl) ?_
      cases hf
      exact g_iret hC rfl hP hS d_M_round_22
  · rw [if_pos hc46] at hf
    refine lv_iconst (v := (-1 : Int32)) hx hb d_M_round_7 (by decide) ?_
    cases hf
    exact g_iret hC rfl hP hS d_M_round_8
set_option maxHeartbeats 4000000 in
set_option maxRecDepth 100000 in
theorem c_M_post {l : Launch} {D : va_G} {K : Nat → ClassId} {ad : Nat → Nat} (hj : inj ad)   {x1 : Int32} {σ : GS} {z0 : Int32 × GS} (hf : F_M_post x1 σ = some z0) : CT l D K ad y_M_post b_M_post 8 (some .int) 5 [.ref (ad 63), .int x1] σ (QI D K ad z0.1 z0.2) := by
  refine CT.intro hj (by decide) (Nat.le_of_ble_eq_true rfl) ?_
  intro p e s m args below meth c ls hC hP hS hl
  obtain ⟨hx, hb, -, hown, hts, -⟩ := id hC
  have hl : lv_has ls 8 [(0, .ref (ad 63)), (1, .int x1)] := hl
  rw [F_M_post] at hf
  refine lv_aload_n hx hb d_M_post_0 rfl (lv_at hl 0 rfl) ?_
  refine lv_iload_n hx hb d_M_post_1 rfl (lv_at hl 1 rfl) ?_
  refine lv_bipush (v := (20 : Int32)) hx hb d_M_post_2 (by decide) ?_
  obtain ⟨r2, σ3, hk1, hf⟩ := bc_some hf
  refine g_calli hS (g_runV (As := [.int x1, .int (20 : Int32)]) (rest := []) hC hP (c_M_noCodes hj  hk1) (rk (by decide) (by decide)) nm_M_noCodes cd_M_noCodes it_WideTownModel ml_M_262 im_M_noCodes sl_M_noCodes o_63 co_M rfl hl.1 rfl (Nat.le_of_ble_eq_true rfl) d_M_post_4 zz) (fun H locs hP hS => ?_)
  refine lv_istore_n (lv' := [(2, .int r2), (0, .ref (ad 63)), (1, .int x1)]) hx hb d_M_post_7 rfl hl (by decide) rfl (fun ls hl => ?_)
  refine lv_iload_n hx hb d_M_post_8 rfl (lv_at hl 0 rfl) ?_
  refine lv_if_ge (tgt := 14) hx hb d_M_post_9 (by decide) (fun hc26 => ?_) (fun hc26 => ?_)
  · rw [if_pos hc26] at hf
    refine lv_iconst (v := (0 : Int32)) hx hb d_M_post_14 (by decide) ?_
    refine lv_istore_n (lv' := [(3, .int (0 : Int32)), (2, .int r2), (0, .ref (ad 63)), (1, .int x1)]) hx hb d_M_post_15 rfl hl (by decide) rfl (fun ls hl => ?_)
    refine lv_iconst (v := (-1 : Int32)) hx hb d_M_post_16 (by decide) ?_
    refine lv_istore (lv' := [(4, .int (-1 : Int32)), (3, .int (0 : Int32)), (2, .int r2), (0, .ref (ad 63)), (1, .int x1)]) hx hb d_M_post_17 hl (by decide) rfl (fun ls hl => ?_)
    refine lv_iconst (v := (0 : Int32)) hx hb d_M_post_19 (by decide) ?_
    refine lv_istore (lv' := [(5, .int (0 : Int32)), (4, .int (-1 : Int32)), (3, .int (0 : Int32)), (2, .int r2), (0, .ref (ad 63)), (1, .int x1)]) hx hb d_M_post_20 hl (by decide) rfl (fun ls hl => ?_)
    obtain ⟨KL4_123, eKL4_123, hf⟩ := jn_some hf
    have hKL4_123 : ∀ (v3_4 : Int32) (v4_4 : Int32) (v5_4 : Int32) (σL4 : GS) (H : Heap) (locs : List Loc) (ls : Array Slot), va_P D vwCl (wG K ad σL4) H → va_S (GA ad) s.heap H locs → lv_has ls 8 [(0, .ref (ad 63)), (3, .int v3_4), (4, .int v4_4)] → KL4_123 v3_4 v4_4 v5_4 σL4 = some z0 → W p l e (rmd 5) s m args below meth c H locs 0 0 (MQ below (QI D K ad z0.1 z0.2) args s 0 0 (GA ad)) (F0 m 123 ls []) := by
      clear hf
      intro v3_4 v4_4 v5_4 σL4 H locs ls hP hS hl hf
      rw [eKL4_123] at hf
      try dsimp only at hf
      refine lv_aload_n hx hb d_M_post_123 rfl (lv_at hl 0 rfl) ?_
      refine lv_iload hx hb d_M_post_124 (lv_at hl 2 rfl) ?_
      obtain ⟨r6, σ7, hk5, hf⟩ := bc_some hf
      refine g_calli hS (g_runV (As := [.int v4_4]) (rest := []) hC hP (c_M_tell hj  hk5) (rk (by decide) (by decide)) nm_M_tell cd_M_tell it_WideTownModel ml_M_114 im_M_tell sl_M_tell o_63 co_M rfl hl.1 rfl (Nat.le_of_ble_eq_true rfl) d_M_post_126 zz) (fun H locs hP hS => ?_)
      refine lv_istore (lv' := [(5, .int r6), (0, .ref (ad 63)), (3, .int v3_4), (4, .int v4_4)]) hx hb d_M_post_129 hl (by decide) rfl (fun ls hl => ?_)
      refine lv_iload_n hx hb d_M_post_131 rfl (lv_at hl 2 rfl) ?_
      cases hf
      exact g_iret hC rfl hP hS d_M_post_132
    clear eKL4_123
    have hL4 : ∀ (n : Nat) (v3_4 : Int32) (v4_4 : Int32) (v5_4 : Int32) (σL4 : GS) (H : Heap) (locs : List Loc) (ls : Array Slot), va_P D vwCl (wG K ad σL4) H → va_S (GA ad) s.heap H locs → lv_has ls 8 [(0, .ref (ad 63)), (1, .int x1), (3, .int v3_4), (4, .int v4_4), (5, .int v5_4)] → F_M_post_22 x1 KL4_123 n v3_4 v4_4 v5_4 σL4 = some z0 → W p l e (rmd 5) s m args below meth c H locs 0 0 (MQ below (QI D K ad z0.1 z0.2) args s 0 0 (GA ad)) (F0 m 22 ls []) := by
      clear hf
      intro n
      induction n with
      | zero =>
        intro v3_4 v4_4 v5_4 σL4 H locs ls hP hS hl hf
        rw [F_M_post_22.eq_1] at hf
        cases hf
      | succ n ih =>
        intro v3_4 v4_4 v5_4 σL4 H locs ls hP hS hl hf
        rw [F_M_post_22.eq_2] at hf
        refine lv_iload hx hb d_M_post_22 (lv_at hl 4 rfl) ?_
        refine lv_sipush (v := (556 : Int32)) hx hb d_M_post_24 (by decide) ?_
        refine lv_icmp_ge (tgt := 123) hx hb d_M_post_27 (by decide) (fun hc25 => ?_) (fun hc25 => ?_)
        · rw [if_pos hc25] at hf
          exact hKL4_123 _ _ _ _ _ _ _ hP hS (lv_sub hl [0, 2, 3] rfl) hf
        · rw [if_neg hc25] at hf
          refine lv_iload hx hb d_M_post_30 (lv_at hl 4 rfl) ?_
          obtain ⟨r9, hk8, hf⟩ := bp_some hf
          refine g_calli hS (g_runS (As := [.int v5_4]) (rest := []) hC hP (c_M_isCode hj  hk8) (rk (by decide) (by decide)) nm_M_isCode cd_M_isCode it_WideTownModel ml_M_213 sc_M_isCode rfl hl.1 rfl (Nat.le_of_ble_eq_true rfl) d_M_post_32 zz) (fun H locs hP hS => ?_)
          refine lv_if_eq (tgt := 117) hx hb d_M_post_35 (by decide) (fun hc24 => ?_) (fun hc24 => ?_)
          · rw [if_pos hc24] at hf
            refine lv_iinc (v := v5_4 + 1) (lv' := [(5, .int (v5_4 + 1)), (0, .ref (ad 63)), (1, .int x1), (3, .int v3_4), (4, .int v4_4)]) hx hb d_M_post_117 hl (k := 4) rfl rfl (by decide) rfl (fun ls hl => ?_)
            refine lv_goto (tgt := 22) hx hb d_M_post_120 (by decide) ?_
            exact ih _ _ _ _ _ _ _ hP hS (lv_sub hl [1, 2, 3, 4, 0] rfl) hf
          · rw [if_neg hc24] at hf
            refine lv_aload_n hx hb d_M_post_38 rfl (lv_at hl 0 rfl) ?_
            refine lv_iload hx hb d_M_post_39 (lv_at hl 4 rfl) ?_
            obtain ⟨r11, σ12, hk10, hf⟩ := bc_some hf
            refine g_calli hS (g_runV (As := [.int v5_4]) (rest := []) hC hP (c_M_plainOf hj  hk10) (rk (by decide) (by decide)) nm_M_plainOf cd_M_plainOf it_WideTownModel ml_M_216 im_M_plainOf sl_M_plainOf o_63 co_M rfl hl.1 rfl (Nat.le_of_ble_eq_true rfl) d_M_post_41 zz) (fun H locs hP hS => ?_)
            refine lv_iload hx hb d_M_post_44 (lv_at hl 4 rfl) ?_
            refine lv_icmp_eq (tgt := 52) hx hb d_M_post_46 (by decide) (fun hc23 => ?_) (fun hc23 => ?_)
            · rw [if_pos hc23] at hf
              refine lv_iconst (v := (0 : Int32)) hx hb d_M_post_52 (by decide) ?_
              refine lv_istore (lv' := [(6, .int (0 : Int32)), (0, .ref (ad 63)), (1, .int x1), (3, .int v3_4), (4, .int v4_4), (5, .int v5_4)]) hx hb d_M_post_53 hl (by decide) rfl (fun ls hl => ?_)
              refine lv_iconst (v := (0 : Int32)) hx hb d_M_post_55 (by decide) ?_
              refine lv_istore (lv' := [(7, .int (0 : Int32)), (6, .int (0 : Int32)), (0, .ref (ad 63)), (1, .int x1), (3, .int v3_4), (4, .int v4_4), (5, .int v5_4)]) hx hb d_M_post_56 hl (by decide) rfl (fun ls hl => ?_)
              obtain ⟨KL13_98, eKL13_98, hf⟩ := jn_some hf
              have hKL13_98 : ∀ (v6_13 : Int32) (v7_13 : Int32) (σL13 : GS) (H : Heap) (locs : List Loc) (ls : Array Slot), va_P D vwCl (wG K ad σL13) H → va_S (GA ad) s.heap H locs → lv_has ls 8 [(0, .ref (ad 63)), (1, .int x1), (3, .int v3_4), (4, .int v4_4), (5, .int v5_4), (6, .int v6_13)] → KL13_98 v6_13 v7_13 σL13 = some z0 → W p l e (rmd 5) s m args below meth c H locs 0 0 (MQ below (QI D K ad z0.1 z0.2) args s 0 0 (GA ad)) (F0 m 98 ls []) := by
                clear hf
                intro v6_13 v7_13 σL13 H locs ls hP hS hl hf
                rw [eKL13_98] at hf
                try dsimp only at hf
                refine lv_iload hx hb d_M_post_98 (lv_at hl 3 rfl) ?_
                obtain ⟨J14, eJ14, hf⟩ := jn_some hf
                have hJ14 : ∀ (dJ14 : Unit) (H : Heap) (locs : List Loc) (ls : Array Slot), va_P D vwCl (wG K ad σL13) H → va_S (GA ad) s.heap H locs → lv_has ls 8 [(0, .ref (ad 63)), (1, .int x1), (5, .int v5_4), (6, .int v6_13)] → J14 dJ14 = some z0 → W p l e (rmd 5) s m args below meth c H locs 0 0 (MQ below (QI D K ad z0.1 z0.2) args s 0 0 (GA ad)) (F0 m 110 ls []) := by
                  clear hf
                  intro dJ14 H locs ls hP hS hl hf
                  rw [eJ14] at hf
                  try dsimp only at hf
                  refine lv_iload hx hb d_M_post_110 (lv_at hl 2 rfl) ?_
                  refine lv_istore_n (lv' := [(3, .int v5_4), (0, .ref (ad 63)), (1, .int x1), (5, .int v5_4), (6, .int v6_13)]) hx hb d_M_post_112 rfl hl (by decide) rfl (fun ls hl => ?_)
                  refine lv_iload hx hb d_M_post_113 (lv_at hl 4 rfl) ?_
                  refine lv_istore (lv' := [(4, .int v6_13), (3, .int v5_4), (0, .ref (ad 63)), (1, .int x1), (5, .int v5_4), (6, .int v6_13)]) hx hb d_M_post_115 hl (by decide) rfl (fun ls hl => ?_)
                  refine lv_iinc (v := v5_4 + 1) (lv' := [(5, .int (v5_4 + 1)), (4, .int v6_13), (3, .int v5_4), (0, .ref (ad 63)), (1, .int x1), (6, .int v6_13)]) hx hb d_M_post_117 hl (k := 4) rfl rfl (by decide) rfl (fun ls hl => ?_)
                  refine lv_goto (tgt := 22) hx hb d_M_post_120 (by decide) ?_
                  exact ih _ _ _ _ _ _ _ hP hS (lv_sub hl [3, 4, 2, 1, 0] rfl) hf
                clear eJ14
                refine lv_if_lt (tgt := 110) hx hb d_M_post_100 (by decide) (fun hc16 => ?_) (fun hc16 => ?_)
                · rw [if_pos hc16] at hf
                  exact hJ14 _ _ _ _ hP hS (lv_sub hl [0, 1, 4, 5] rfl) hf
                · rw [if_neg hc16] at hf
                  refine lv_iload hx hb d_M_post_103 (lv_at hl 5 rfl) ?_
                  refine lv_iload hx hb d_M_post_105 (lv_at hl 3 rfl) ?_
                  refine lv_icmp_ge (tgt := 117) hx hb d_M_post_107 (by decide) (fun hc15 => ?_) (fun hc15 => ?_)
                  · rw [if_pos hc15] at hf
                    refine lv_iinc (v := v5_4 + 1) (lv' := [(5, .int (v5_4 + 1)), (0, .ref (ad 63)), (1, .int x1), (3, .int v3_4), (4, .int v4_4), (6, .int v6_13)]) hx hb d_M_post_117 hl (k := 4) rfl rfl (by decide) rfl (fun ls hl => ?_)
                    refine lv_goto (tgt := 22) hx hb d_M_post_120 (by decide) ?_
                    exact ih _ _ _ _ _ _ _ hP hS (lv_sub hl [1, 2, 3, 4, 0] rfl) hf
                  · rw [if_neg hc15] at hf
                    exact hJ14 _ _ _ _ hP hS (lv_sub hl [0, 1, 4, 5] rfl) hf
              clear eKL13_98
              have hL13 : ∀ (n : Nat) (v6_13 : Int32) (v7_13 : Int32) (σL13 : GS) (H : Heap) (locs : List Loc) (ls : Array Slot), va_P D vwCl (wG K ad σL13) H → va_S (GA ad) s.heap H locs → lv_has ls 8 [(0, .ref (ad 63)), (1, .int x1), (3, .int v3_4), (4, .int v4_4), (5, .int v5_4), (6, .int v6_13), (7, .int v7_13)] → F_M_post_58 x1 v3_4 v4_4 v5_4 KL13_98 n v6_13 v7_13 σL13 = some z0 → W p l e (rmd 5) s m args below meth c H locs 0 0 (MQ below (QI D K ad z0.1 z0.2) args s 0 0 (GA ad)) (F0 m 58 ls []) := by
                clear hf
                intro n
                induction n with
                | zero =>
                  intro v6_13 v7_13 σL13 H locs ls hP hS hl hf
                  rw [F_M_post_58.eq_1] at hf
                  cases hf
                | succ n ih =>
                  intro v6_13 v7_13 σL13 H locs ls hP hS hl hf
                  rw [F_M_post_58.eq_2] at hf
                  refine lv_iload hx hb d_M_post_58 (lv_at hl 6 rfl) ?_
                  refine lv_aload_n hx hb d_M_post_60 rfl (lv_at hl 0 rfl) ?_
                  refine g_get (v := .ref (ad 64)) hC hP o_63 co_M 0 (by decide) rfl fl_M_7 rfl d_M_post_61 ?_
                  refine lv_iload_n hx hb d_M_post_64 rfl (lv_at hl 1 rfl) ?_
                  obtain ⟨hg17, hf⟩ := gd_some hf
                  refine g_iald2 (j := x1.toNatClampNeg) hC hP a_64 hg17 rfl d_M_post_65 ?_
                  refine lv_icmp_ge (tgt := 98) hx hb d_M_post_66 (by decide) (fun hc22 => ?_) (fun hc22 => ?_)
                  · rw [if_pos hc22] at hf
                    exact hKL13_98 _ _ _ _ _ _ hP hS (lv_sub hl [0, 1, 2, 3, 4, 5] rfl) hf
                  · rw [if_neg hc22] at hf
                    refine lv_iload hx hb d_M_post_69 (lv_at hl 5 rfl) ?_
                    refine lv_aload_n hx hb d_M_post_71 rfl (lv_at hl 0 rfl) ?_
                    refine lv_iload hx hb d_M_post_72 (lv_at hl 4 rfl) ?_
                    refine lv_aload_n hx hb d_M_post_74 rfl (lv_at hl 0 rfl) ?_
                    refine g_get (v := .ref (ad 65)) hC hP o_63 co_M 1 (by decide) rfl fl_M_13 rfl d_M_post_75 ?_
                    refine lv_bipush (v := (40 : Int32)) hx hb d_M_post_78 (by decide) ?_
                    refine lv_iload_n hx hb d_M_post_80 rfl (lv_at hl 1 rfl) ?_
                    refine lv_imul hx hb d_M_post_81 ?_
                    refine lv_iload hx hb d_M_post_82 (lv_at hl 6 rfl) ?_
                    refine lv_iadd hx hb d_M_post_84 ?_
                    obtain ⟨hg18, hf⟩ := gd_some hf
                    refine g_iald2 (j := (((40 : Int32) * x1) + v7_13).toNatClampNeg) hC hP a_65 hg18 rfl d_M_post_85 ?_
                    obtain ⟨r20, σ21, hk19, hf⟩ := bc_some hf
                    refine g_calli hS (g_runV (As := [.int v5_4, .int (σL13.1 65 (((40 : Int32) * x1) + v7_13).toNatClampNeg)]) (rest := [.int v6_13]) hC hP (c_M_farOf hj  hk19) (rk (by decide) (by decide)) nm_M_farOf cd_M_farOf it_WideTownModel ml_M_204 im_M_farOf sl_M_farOf o_63 co_M rfl hl.1 rfl (Nat.le_of_ble_eq_true rfl) d_M_post_86 zz) (fun H locs hP hS => ?_)
                    refine lv_iadd hx hb d_M_post_89 ?_
                    refine lv_istore (lv' := [(6, .int (v6_13 + r20)), (0, .ref (ad 63)), (1, .int x1), (3, .int v3_4), (4, .int v4_4), (5, .int v5_4), (7, .int v7_13)]) hx hb d_M_post_90 hl (by decide) rfl (fun ls hl => ?_)
                    refine lv_iinc (v := v7_13 + 1) (lv' := [(7, .int (v7_13 + 1)), (6, .int (v6_13 + r20)), (0, .ref (ad 63)), (1, .int x1), (3, .int v3_4), (4, .int v4_4), (5, .int v5_4)]) hx hb d_M_post_92 hl (k := 6) rfl rfl (by decide) rfl (fun ls hl => ?_)
                    refine lv_goto (tgt := 58) hx hb d_M_post_95 (by decide) ?_
                    exact ih _ _ _ _ _ _ hP hS (lv_sub hl [2, 3, 4, 5, 6, 1, 0] rfl) hf
              exact hL13 _ _ _ _ _ _ _ hP hS (lv_sub hl [2, 3, 4, 5, 6, 1, 0] rfl) hf
            · rw [if_neg hc23] at hf
              refine lv_goto (tgt := 117) hx hb d_M_post_49 (by decide) ?_
              refine lv_iinc (v := v5_4 + 1) (lv' := [(5, .int (v5_4 + 1)), (0, .ref (ad 63)), (1, .int x1), (3, .int v3_4), (4, .int v4_4)]) hx hb d_M_post_117 hl (k := 4) rfl rfl (by decide) rfl (fun ls hl => ?_)
              refine lv_goto (tgt := 22) hx hb d_M_post_120 (by decide) ?_
              exact ih _ _ _ _ _ _ _ hP hS (lv_sub hl [1, 2, 3, 4, 0] rfl) hf
    exact hL4 _ _ _ _ _ _ _ _ hP hS (lv_sub hl [4, 5, 2, 1, 0] rfl) hf
  · rw [if_neg hc26] at hf
    refine lv_iload_n hx hb d_M_post_12 rfl (lv_at hl 0 rfl) ?_
    cases hf
    exact g_iret hC rfl hP hS d_M_post_13
