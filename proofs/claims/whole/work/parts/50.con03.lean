set_option maxHeartbeats 4000000 in
set_option maxRecDepth 100000 in
theorem c_X_mean {l : Launch} {D : va_G} {K : Nat → ClassId} {ad : Nat → Nat} (hj : inj ad)   {x1 : Int32} {σ : GS} {z0 : Int32 × GS} (hf : F_X_mean x1 σ = some z0) : CT l D K ad y_X_mean b_X_mean 7 (some .int) 2 [.ref (ad 0), .int x1] σ (QI D K ad z0.1 z0.2) := by
  refine CT.intro hj (by decide) (Nat.le_of_ble_eq_true rfl) ?_
  intro p e s m args below meth c ls hC hP hS hl
  obtain ⟨hx, hb, -, hown, hts, -⟩ := id hC
  have hl : lv_has ls 7 [(0, .ref (ad 0)), (1, .int x1)] := hl
  rw [F_X_mean] at hf
  refine lv_aload_n hx hb d_X_mean_0 rfl (lv_at hl 0 rfl) ?_
  refine lv_iload_n hx hb d_X_mean_1 rfl (lv_at hl 1 rfl) ?_
  obtain ⟨r2, σ3, hk1, hf⟩ := bc_some hf
  refine g_calli hS (g_runV (As := [.int x1]) (rest := []) hC hP (c_X_rowRefusal hj  hk1) (rk (by decide) (by decide)) nm_X_rowRefusal cd_X_rowRefusal it_WideTown ml_X_128 im_X_rowRefusal sl_X_rowRefusal o_0 co_X rfl hl.1 rfl (Nat.le_of_ble_eq_true rfl) d_X_mean_2 zz) (fun H locs hP hS => ?_)
  refine lv_istore_n (lv' := [(2, .int r2), (0, .ref (ad 0)), (1, .int x1)]) hx hb d_X_mean_5 rfl hl (by decide) rfl (fun ls hl => ?_)
  refine lv_iload_n hx hb d_X_mean_6 rfl (lv_at hl 0 rfl) ?_
  refine lv_if_eq (tgt := 12) hx hb d_X_mean_7 (by decide) (fun hc15 => ?_) (fun hc15 => ?_)
  · rw [if_pos hc15] at hf
    refine lv_aload_n hx hb d_X_mean_12 rfl (lv_at hl 1 rfl) ?_
    refine g_get (v := .ref (ad 8)) hC hP o_0 co_X 1 (by decide) rfl fl_X_14 rfl d_X_mean_13 ?_
    refine lv_iload_n hx hb d_X_mean_16 rfl (lv_at hl 2 rfl) ?_
    obtain ⟨hg4, hf⟩ := gd_some hf
    refine g_iald2 (j := x1.toNatClampNeg) hC hP a_8 hg4 rfl d_X_mean_17 ?_
    refine lv_istore_n (lv' := [(3, .int (σ3.1 8 x1.toNatClampNeg)), (2, .int r2), (0, .ref (ad 0)), (1, .int x1)]) hx hb d_X_mean_18 rfl hl (by decide) rfl (fun ls hl => ?_)
    refine lv_iload_n hx hb d_X_mean_19 rfl (lv_at hl 0 rfl) ?_
    refine lv_if_ne (tgt := 29) hx hb d_X_mean_20 (by decide) (fun hc14 => ?_) (fun hc14 => ?_)
    · rw [if_neg hc14] at hf
      refine lv_lconst (v := (0 : Int64)) hx hb d_X_mean_29 (by decide) ?_
      refine lv_lstore (lv' := [(4, .long (0 : Int64)), (3, .int (σ3.1 8 x1.toNatClampNeg)), (2, .int r2), (0, .ref (ad 0)), (1, .int x1)]) hx hb d_X_mean_30 hl (by decide) rfl (fun ls hl => ?_)
      refine lv_iconst (v := (0 : Int32)) hx hb d_X_mean_32 (by decide) ?_
      refine lv_istore (lv' := [(6, .int (0 : Int32)), (4, .long (0 : Int64)), (3, .int (σ3.1 8 x1.toNatClampNeg)), (2, .int r2), (0, .ref (ad 0)), (1, .int x1)]) hx hb d_X_mean_33 hl (by decide) rfl (fun ls hl => ?_)
      obtain ⟨u3_5, eu3_5, hf⟩ := jn_some hf
      have hl : lv_has ls 7 [(6, .int (0 : Int32)), (4, .long (0 : Int64)), (3, .int u3_5), (2, .int r2), (0, .ref (ad 0)), (1, .int x1)] := by rw [eu3_5]; exact hl
      obtain ⟨KL6_62, eKL6_62, hf⟩ := jn_some hf
      have hKL6_62 : ∀ (v4_6 : Int64) (v6_6 : Int32) (H : Heap) (locs : List Loc) (ls : Array Slot), va_P D vwCl (wG K ad σ3) H → va_S (GA ad) s.heap H locs → lv_has ls 7 [(0, .ref (ad 0)), (3, .int u3_5), (4, .long v4_6)] → KL6_62 v4_6 v6_6 = some z0 → W p l e (rmd 2) s m args below meth c H locs 0 0 (MQ below (QI D K ad z0.1 z0.2) args s 0 0 (GA ad)) (F0 m 62 ls []) := by
        clear hf
        intro v4_6 v6_6 H locs ls hP hS hl hf
        rw [eKL6_62] at hf
        try dsimp only at hf
        refine lv_aload_n hx hb d_X_mean_62 rfl (lv_at hl 0 rfl) ?_
        refine lv_lload hx hb d_X_mean_63 (lv_at hl 2 rfl) ?_
        refine lv_iload_n hx hb d_X_mean_65 rfl (lv_at hl 1 rfl) ?_
        refine lv_i2l hx hb d_X_mean_66 rfl ?_
        obtain ⟨hg, hf⟩ := gd_some hf
        refine lv_ldiv hx hb d_X_mean_67 (zL_in hg) ?_
        refine lv_l2i hx hb d_X_mean_68 rfl ?_
        obtain ⟨σ7, eσ7, hf⟩ := jn_some hf
        refine g_puti hC hP hS o_0 co_X 16 (by decide) rfl fl_X_96 rfl (to_X 16 (by decide)) (Nat.le_of_ble_eq_true rfl) rfl d_X_mean_69 (fun H locs hP hS => ?_)
        rw [← eσ7] at hP
        refine lv_iconst (v := (1 : Int32)) hx hb d_X_mean_72 (by decide) ?_
        cases hf
        exact g_iret hC rfl hP hS d_X_mean_73
      clear eKL6_62
      have hL6 : ∀ (n : Nat) (v4_6 : Int64) (v6_6 : Int32) (H : Heap) (locs : List Loc) (ls : Array Slot), va_P D vwCl (wG K ad σ3) H → va_S (GA ad) s.heap H locs → lv_has ls 7 [(0, .ref (ad 0)), (1, .int x1), (3, .int u3_5), (4, .long v4_6), (6, .int v6_6)] → F_X_mean_35 x1 u3_5 σ3 KL6_62 n v4_6 v6_6 = some z0 → W p l e (rmd 2) s m args below meth c H locs 0 0 (MQ below (QI D K ad z0.1 z0.2) args s 0 0 (GA ad)) (F0 m 35 ls []) := by
        clear hf
        intro n
        induction n with
        | zero =>
          intro v4_6 v6_6 H locs ls hP hS hl hf
          rw [F_X_mean_35.eq_1] at hf
          cases hf
        | succ n ih =>
          intro v4_6 v6_6 H locs ls hP hS hl hf
          rw [F_X_mean_35.eq_2] at hf
          refine lv_iload hx hb d_X_mean_35 (lv_at hl 4 rfl) ?_
          refine lv_iload_n hx hb d_X_mean_37 rfl (lv_at hl 2 rfl) ?_
          refine lv_icmp_ge (tgt := 62) hx hb d_X_mean_38 (by decide) (fun hc10 => ?_) (fun hc10 => ?_)
          · rw [if_pos hc10] at hf
            exact hKL6_62 _ _ _ _ _ hP hS (lv_sub hl [0, 2, 3] rfl) hf
          · rw [if_neg hc10] at hf
            refine lv_lload hx hb d_X_mean_41 (lv_at hl 3 rfl) ?_
            refine lv_aload_n hx hb d_X_mean_43 rfl (lv_at hl 0 rfl) ?_
            refine g_get (v := .ref (ad 1)) hC hP o_0 co_X 0 (by decide) rfl fl_X_11 rfl d_X_mean_44 ?_
            refine lv_iload_n hx hb d_X_mean_47 rfl (lv_at hl 1 rfl) ?_
            obtain ⟨hg8, hf⟩ := gd_some hf
            refine g_aald hC hP r_1 rfl rfl hg8 d_X_mean_48 ?_
            refine lv_iload hx hb d_X_mean_49 (lv_at hl 4 rfl) ?_
            obtain ⟨hg9, hf⟩ := gd_some hf
            refine g_iald2 (j := v6_6.toNatClampNeg) hC hP (rowA hg8) hg9 rfl d_X_mean_51 ?_
            refine lv_i2l hx hb d_X_mean_52 rfl ?_
            refine lv_ladd hx hb d_X_mean_53 ?_
            refine lv_lstore (lv' := [(4, .long (v4_6 + ((σ3.1 (2 + x1.toNatClampNeg) v6_6.toNatClampNeg).toInt64))), (0, .ref (ad 0)), (1, .int x1), (3, .int u3_5), (6, .int v6_6)]) hx hb d_X_mean_54 hl (by decide) rfl (fun ls hl => ?_)
            refine lv_iinc (v := v6_6 + 1) (lv' := [(6, .int (v6_6 + 1)), (4, .long (v4_6 + ((σ3.1 (2 + x1.toNatClampNeg) v6_6.toNatClampNeg).toInt64))), (0, .ref (ad 0)), (1, .int x1), (3, .int u3_5)]) hx hb d_X_mean_56 hl (k := 4) rfl rfl (by decide) rfl (fun ls hl => ?_)
            refine lv_goto (tgt := 35) hx hb d_X_mean_59 (by decide) ?_
            exact ih _ _ _ _ _ hP hS (lv_sub hl [2, 3, 4, 1, 0] rfl) hf
      exact hL6 _ _ _ _ _ _ hP hS (lv_sub hl [4, 5, 2, 1, 0] rfl) hf
    · rw [if_pos hc14] at hf
      refine lv_aload_n hx hb d_X_mean_23 rfl (lv_at hl 2 rfl) ?_
      refine lv_iconst (v := (4 : Int32)) hx hb d_X_mean_24 (by decide) ?_
      obtain ⟨r12, σ13, hk11, hf⟩ := bc_some hf
      refine g_calli hS (g_runV (As := [.int (4 : Int32)]) (rest := []) hC hP (c_X_found hj  hk11) (rk (by decide) (by decide)) nm_X_found cd_X_found it_WideTown ml_X_116 im_X_found sl_X_found o_0 co_X rfl hl.1 rfl (Nat.le_of_ble_eq_true rfl) d_X_mean_25 zz) (fun H locs hP hS => ?_)
      cases hf
      exact g_iret hC rfl hP hS d_X_mean_28
  · rw [if_neg hc15] at hf
    refine lv_iload_n hx hb d_X_mean_10 rfl (lv_at hl 0 rfl) ?_
    cases hf
    exact g_iret hC rfl hP hS d_X_mean_11
set_option maxHeartbeats 4000000 in
set_option maxRecDepth 100000 in
theorem c_X_isText {l : Launch} {D : va_G} {K : Nat → ClassId} {ad : Nat → Nat} (hj : inj ad)   {x0 : Int32} {σ : GS} {z0 : Int32} (hf : F_X_isText x0 = some z0) : CT l D K ad y_X_isText b_X_isText 1 (some .boolean) 0 [.int x0] σ (QI D K ad z0 σ) := by
  refine CT.intro hj (by decide) (Nat.le_of_ble_eq_true rfl) ?_
  intro p e s m args below meth c ls hC hP hS hl
  obtain ⟨hx, hb, -, hown, hts, -⟩ := id hC
  have hl : lv_has ls 1 [(0, .int x0)] := hl
  rw [F_X_isText] at hf
  refine lv_iload_n hx hb d_X_isText_0 rfl (lv_at hl 0 rfl) ?_
  refine lv_if_lt (tgt := 13) hx hb d_X_isText_1 (by decide) (fun hc2 => ?_) (fun hc2 => ?_)
  · rw [if_pos hc2] at hf
    refine lv_iconst (v := (0 : Int32)) hx hb d_X_isText_13 (by decide) ?_
    cases hf
    exact g_zret hC rfl (by decide) hP hS d_X_isText_14
  · rw [if_neg hc2] at hf
    refine lv_iload_n hx hb d_X_isText_4 rfl (lv_at hl 0 rfl) ?_
    refine lv_iconst (v := (4 : Int32)) hx hb d_X_isText_5 (by decide) ?_
    refine lv_icmp_ge (tgt := 13) hx hb d_X_isText_6 (by decide) (fun hc1 => ?_) (fun hc1 => ?_)
    · rw [if_pos hc1] at hf
      refine lv_iconst (v := (0 : Int32)) hx hb d_X_isText_13 (by decide) ?_
      cases hf
      exact g_zret hC rfl (by decide) hP hS d_X_isText_14
    · rw [if_neg hc1] at hf
      refine lv_iconst (v := (1 : Int32)) hx hb d_X_isText_9 (by decide) ?_
      refine lv_goto (tgt := 14) hx hb d_X_isText_10 (by decide) ?_
      cases hf
      exact g_zret hC rfl (by decide) hP hS d_X_isText_14
set_option maxHeartbeats 4000000 in
set_option maxRecDepth 100000 in
theorem c_J_fillB {l : Launch} {D : va_G} {K : Nat → ClassId} {ad : Nat → Nat} (hj : inj ad) {q0 : Nat} {n0 : Nat} (h_q0 : isA K ad q0 2 n0) {x1 : Int32} {σ : GS} {z0 : GS} (hf : F_J_fillB q0 n0 x1 σ = some z0) : CT l D K ad y_J_fillB b_J_fillB 4 none 0 [.ref (ad q0), .int x1] σ (QV D K ad z0) := by
  refine CT.intro hj (by decide) (Nat.le_of_ble_eq_true rfl) ?_
  intro p e s m args below meth c ls hC hP hS hl
  obtain ⟨hx, hb, -, hown, hts, -⟩ := id hC
  have hl : lv_has ls 4 [(0, .ref (ad q0)), (1, .int x1)] := hl
  rw [F_J_fillB] at hf
  refine lv_iconst (v := (0 : Int32)) hx hb d_J_fillB_0 (by decide) ?_
  refine lv_istore_n (lv' := [(2, .int (0 : Int32)), (0, .ref (ad q0)), (1, .int x1)]) hx hb d_J_fillB_1 rfl hl (by decide) rfl (fun ls hl => ?_)
  refine lv_aload_n hx hb d_J_fillB_2 rfl (lv_at hl 1 rfl) ?_
  refine g_alen (v := Int32.ofNat n0) hC hP h_q0 rfl rfl d_J_fillB_3 ?_
  refine lv_istore_n (lv' := [(3, .int (Int32.ofNat n0)), (2, .int (0 : Int32)), (0, .ref (ad q0)), (1, .int x1)]) hx hb d_J_fillB_4 rfl hl (by decide) rfl (fun ls hl => ?_)
  obtain ⟨u3_1, eu3_1, hf⟩ := jn_some hf
  have hl : lv_has ls 4 [(3, .int u3_1), (2, .int (0 : Int32)), (0, .ref (ad q0)), (1, .int x1)] := by rw [eu3_1]; exact hl
  obtain ⟨KL2_20, eKL2_20, hf⟩ := jn_some hf
  have hKL2_20 : ∀ (v2_2 : Int32) (σL2 : GS) (H : Heap) (locs : List Loc) (ls : Array Slot), va_P D vwCl (wG K ad σL2) H → va_S (GA ad) s.heap H locs → lv_has ls 4 [] → KL2_20 v2_2 σL2 = some z0 → W p l e (rmd 0) s m args below meth c H locs 0 0 (MQ below (QV D K ad z0) args s 0 0 (GA ad)) (F0 m 20 ls []) := by
    clear hf
    intro v2_2 σL2 H locs ls hP hS hl hf
    rw [eKL2_20] at hf
    try dsimp only at hf
    cases hf
    exact g_vret hC rfl hP hS d_J_fillB_20
  clear eKL2_20
  have hL2 : ∀ (n : Nat) (v2_2 : Int32) (σL2 : GS) (H : Heap) (locs : List Loc) (ls : Array Slot), va_P D vwCl (wG K ad σL2) H → va_S (GA ad) s.heap H locs → lv_has ls 4 [(0, .ref (ad q0)), (1, .int x1), (2, .int v2_2), (3, .int u3_1)] → F_J_fillB_5 q0 n0 x1 u3_1 KL2_20 n v2_2 σL2 = some z0 → W p l e (rmd 0) s m args below meth c H locs 0 0 (MQ below (QV D K ad z0) args s 0 0 (GA ad)) (F0 m 5 ls []) := by
    clear hf
    intro n
    induction n with
    | zero =>
      intro v2_2 σL2 H locs ls hP hS hl hf
      rw [F_J_fillB_5.eq_1] at hf
      cases hf
    | succ n ih =>
      intro v2_2 σL2 H locs ls hP hS hl hf
      rw [F_J_fillB_5.eq_2] at hf
      refine lv_iload_n hx hb d_J_fillB_5 rfl (lv_at hl 2 rfl) ?_
      refine lv_iload_n hx hb d_J_fillB_6 rfl (lv_at hl 3 rfl) ?_
      refine lv_icmp_ge (tgt := 20) hx hb d_J_fillB_7 (by decide) (fun hc5 => ?_) (fun hc5 => ?_)
      · rw [if_pos hc5] at hf
        exact hKL2_20 _ _ _ _ _ hP hS (lv_sub hl [] rfl) hf
      · rw [if_neg hc5] at hf
        refine lv_aload_n hx hb d_J_fillB_10 rfl (lv_at hl 0 rfl) ?_
        refine lv_iload_n hx hb d_J_fillB_11 rfl (lv_at hl 2 rfl) ?_
        refine lv_iload_n hx hb d_J_fillB_12 rfl (lv_at hl 1 rfl) ?_
        obtain ⟨hg3, hf⟩ := gd_some hf
        obtain ⟨σ4, eσ4, hf⟩ := jn_some hf
        refine g_bast2 (j := v2_2.toNatClampNeg) hC hP hS h_q0 hg3 rfl d_J_fillB_13 (fun H locs hP hS => ?_)
        rw [← eσ4] at hP
        refine lv_iinc (v := v2_2 + 1) (lv' := [(2, .int (v2_2 + 1)), (0, .ref (ad q0)), (1, .int x1), (3, .int u3_1)]) hx hb d_J_fillB_14 hl (k := 2) rfl rfl (by decide) rfl (fun ls hl => ?_)
        refine lv_goto (tgt := 5) hx hb d_J_fillB_17 (by decide) ?_
        exact ih _ _ _ _ _ hP hS (lv_sub hl [1, 2, 0, 3] rfl) hf
  exact hL2 _ _ _ _ _ _ hP hS (lv_sub hl [2, 3, 1, 0] rfl) hf
set_option maxHeartbeats 4000000 in
set_option maxRecDepth 100000 in
theorem c_X_text {l : Launch} {D : va_G} {K : Nat → ClassId} {ad : Nat → Nat} (hj : inj ad)   {x1 : Int32} {x2 : Int32} {σ : GS} {z0 : Int32 × GS} (hf : F_X_text x1 x2 σ = some z0) : CT l D K ad y_X_text b_X_text 3 (some .int) 1 [.ref (ad 0), .int x1, .int x2] σ (QI D K ad z0.1 z0.2) := by
  refine CT.intro hj (by decide) (Nat.le_of_ble_eq_true rfl) ?_
  intro p e s m args below meth c ls hC hP hS hl
  obtain ⟨hx, hb, -, hown, hts, -⟩ := id hC
  have hl : lv_has ls 3 [(0, .ref (ad 0)), (1, .int x1), (2, .int x2)] := hl
  rw [F_X_text] at hf
  refine lv_iload_n hx hb d_X_text_0 rfl (lv_at hl 1 rfl) ?_
  obtain ⟨r2, hk1, hf⟩ := bp_some hf
  refine g_calli hS (g_runS (As := [.int x1]) (rest := []) hC hP (c_X_isText hj  hk1) (rk (by decide) (by decide)) nm_X_isText cd_X_isText it_WideTown ml_X_141 sc_X_isText rfl hl.1 rfl (Nat.le_of_ble_eq_true rfl) d_X_text_1 zz) (fun H locs hP hS => ?_)
  refine lv_if_eq (tgt := 13) hx hb d_X_text_4 (by decide) (fun hc13 => ?_) (fun hc13 => ?_)
  · rw [if_pos hc13] at hf
    refine lv_iconst (v := (-1 : Int32)) hx hb d_X_text_13 (by decide) ?_
    cases hf
    exact g_iret hC rfl hP hS d_X_text_14
  · rw [if_neg hc13] at hf
    refine lv_iload_n hx hb d_X_text_7 rfl (lv_at hl 2 rfl) ?_
    refine lv_bipush (v := (80 : Int32)) hx hb d_X_text_8 (by decide) ?_
    refine lv_icmp_le (tgt := 15) hx hb d_X_text_10 (by decide) (fun hc12 => ?_) (fun hc12 => ?_)
    · rw [if_pos hc12] at hf
      refine lv_iload_n hx hb d_X_text_15 rfl (lv_at hl 2 rfl) ?_
      refine lv_if_ge (tgt := 25) hx hb d_X_text_16 (by decide) (fun hc11 => ?_) (fun hc11 => ?_)
      · rw [if_pos hc11] at hf
        refine lv_aload_n hx hb d_X_text_25 rfl (lv_at hl 0 rfl) ?_
        refine g_get (v := .ref (ad 14)) hC hP o_0 co_X 3 (by decide) rfl fl_X_23 rfl d_X_text_26 ?_
        refine lv_iload_n hx hb d_X_text_29 rfl (lv_at hl 1 rfl) ?_
        refine lv_iload_n hx hb d_X_text_30 rfl (lv_at hl 2 rfl) ?_
        obtain ⟨hg3, hf⟩ := gd_some hf
        obtain ⟨σ4, eσ4, hf⟩ := jn_some hf
        refine g_iast2 (j := x1.toNatClampNeg) hC hP hS a_14 hg3 rfl d_X_text_31 (fun H locs hP hS => ?_)
        rw [← eσ4] at hP
        refine lv_aload_n hx hb d_X_text_32 rfl (lv_at hl 0 rfl) ?_
        refine g_get (v := .ref (ad 9)) hC hP o_0 co_X 2 (by decide) rfl fl_X_20 rfl d_X_text_33 ?_
        refine lv_iload_n hx hb d_X_text_36 rfl (lv_at hl 1 rfl) ?_
        obtain ⟨hg5, hf⟩ := gd_some hf
        refine g_aald hC hP r_9 rfl rfl hg5 d_X_text_37 ?_
        refine lv_bipush (v := (32 : Int32)) hx hb d_X_text_38 (by decide) ?_
        obtain ⟨σ7, hk6, hf⟩ := bv_some hf
        refine g_callv hS (g_runS (As := [.ref (ad (10 + x1.toNatClampNeg)), .int (32 : Int32)]) (rest := []) hC hP (c_J_fillB hj (txtA hg5) hk6) (rk (by decide) (by decide)) nm_J_fillB cd_J_fillB it_java_util_Arrays ml_X_144 sc_J_fillB rfl hl.1 rfl (Nat.le_of_ble_eq_true rfl) d_X_text_40 zz) (fun H locs hP hS => ?_)
        refine lv_iload_n hx hb d_X_text_43 rfl (lv_at hl 2 rfl) ?_
        cases hf
        exact g_iret hC rfl hP hS d_X_text_44
      · rw [if_neg hc11] at hf
        refine lv_aload_n hx hb d_X_text_19 rfl (lv_at hl 0 rfl) ?_
        refine lv_iconst (v := (5 : Int32)) hx hb d_X_text_20 (by decide) ?_
        obtain ⟨r9, σ10, hk8, hf⟩ := bc_some hf
        refine g_calli hS (g_runV (As := [.int (5 : Int32)]) (rest := []) hC hP (c_X_found hj  hk8) (rk (by decide) (by decide)) nm_X_found cd_X_found it_WideTown ml_X_116 im_X_found sl_X_found o_0 co_X rfl hl.1 rfl (Nat.le_of_ble_eq_true rfl) d_X_text_21 zz) (fun H locs hP hS => ?_)
        cases hf
        exact g_iret hC rfl hP hS d_X_text_24
    · rw [if_neg hc12] at hf
      refine lv_iconst (v := (-1 : Int32)) hx hb d_X_text_13 (by decide) ?_
      cases hf
      exact g_iret hC rfl hP hS d_X_text_14
set_option maxHeartbeats 4000000 in
set_option maxRecDepth 100000 in
theorem c_X_textRefusal {l : Launch} {D : va_G} {K : Nat → ClassId} {ad : Nat → Nat} (hj : inj ad)   {x1 : Int32} {σ : GS} {z0 : Int32 × GS} (hf : F_X_textRefusal x1 σ = some z0) : CT l D K ad y_X_textRefusal b_X_textRefusal 2 (some .int) 1 [.ref (ad 0), .int x1] σ (QI D K ad z0.1 z0.2) := by
  refine CT.intro hj (by decide) (Nat.le_of_ble_eq_true rfl) ?_
  intro p e s m args below meth c ls hC hP hS hl
  obtain ⟨hx, hb, -, hown, hts, -⟩ := id hC
  have hl : lv_has ls 2 [(0, .ref (ad 0)), (1, .int x1)] := hl
  rw [F_X_textRefusal] at hf
  refine lv_iload_n hx hb d_X_textRefusal_0 rfl (lv_at hl 1 rfl) ?_
  obtain ⟨r2, hk1, hf⟩ := bp_some hf
  refine g_calli hS (g_runS (As := [.int x1]) (rest := []) hC hP (c_X_isText hj  hk1) (rk (by decide) (by decide)) nm_X_isText cd_X_isText it_WideTown ml_X_141 sc_X_isText rfl hl.1 rfl (Nat.le_of_ble_eq_true rfl) d_X_textRefusal_1 zz) (fun H locs hP hS => ?_)
  refine lv_if_ne (tgt := 9) hx hb d_X_textRefusal_4 (by decide) (fun hc8 => ?_) (fun hc8 => ?_)
  · rw [if_neg hc8] at hf
    refine lv_aload_n hx hb d_X_textRefusal_9 rfl (lv_at hl 0 rfl) ?_
    refine g_get (v := .ref (ad 14)) hC hP o_0 co_X 3 (by decide) rfl fl_X_23 rfl d_X_textRefusal_10 ?_
    refine lv_iload_n hx hb d_X_textRefusal_13 rfl (lv_at hl 1 rfl) ?_
    obtain ⟨hg3, hf⟩ := gd_some hf
    refine g_iald2 (j := x1.toNatClampNeg) hC hP a_14 hg3 rfl d_X_textRefusal_14 ?_
    refine lv_if_ge (tgt := 26) hx hb d_X_textRefusal_15 (by decide) (fun hc7 => ?_) (fun hc7 => ?_)
    · rw [if_pos hc7] at hf
      refine lv_iconst (v := (0 : Int32)) hx hb d_X_textRefusal_26 (by decide) ?_
      cases hf
      exact g_iret hC rfl hP hS d_X_textRefusal_27
    · rw [if_neg hc7] at hf
      refine lv_aload_n hx hb d_X_textRefusal_18 rfl (lv_at hl 0 rfl) ?_
      refine lv_iconst (v := (1 : Int32)) hx hb d_X_textRefusal_19 (by decide) ?_
      obtain ⟨r5, σ6, hk4, hf⟩ := bc_some hf
      refine g_calli hS (g_runV (As := [.int (1 : Int32)]) (rest := []) hC hP (c_X_found hj  hk4) (rk (by decide) (by decide)) nm_X_found cd_X_found it_WideTown ml_X_116 im_X_found sl_X_found o_0 co_X rfl hl.1 rfl (Nat.le_of_ble_eq_true rfl) d_X_textRefusal_20 zz) (fun H locs hP hS => ?_)
      refine lv_goto (tgt := 27) hx hb d_X_textRefusal_23 (by decide) ?_
      cases hf
      exact g_iret hC rfl hP hS d_X_textRefusal_27
  · rw [if_pos hc8] at hf
    refine lv_iconst (v := (-1 : Int32)) hx hb d_X_textRefusal_7 (by decide) ?_
    cases hf
    exact g_iret hC rfl hP hS d_X_textRefusal_8
set_option maxHeartbeats 4000000 in
set_option maxRecDepth 100000 in
theorem c_X_put {l : Launch} {D : va_G} {K : Nat → ClassId} {ad : Nat → Nat} (hj : inj ad)   {x1 : Int32} {x2 : Int32} {x3 : Int32} {σ : GS} {z0 : Int32 × GS} (hf : F_X_put x1 x2 x3 σ = some z0) : CT l D K ad y_X_put b_X_put 6 (some .int) 2 [.ref (ad 0), .int x1, .int x2, .int x3] σ (QI D K ad z0.1 z0.2) := by
  refine CT.intro hj (by decide) (Nat.le_of_ble_eq_true rfl) ?_
  intro p e s m args below meth c ls hC hP hS hl
  obtain ⟨hx, hb, -, hown, hts, -⟩ := id hC
  have hl : lv_has ls 6 [(0, .ref (ad 0)), (1, .int x1), (2, .int x2), (3, .int x3)] := hl
  rw [F_X_put] at hf
  refine lv_aload_n hx hb d_X_put_0 rfl (lv_at hl 0 rfl) ?_
  refine lv_iload_n hx hb d_X_put_1 rfl (lv_at hl 1 rfl) ?_
  obtain ⟨r2, σ3, hk1, hf⟩ := bc_some hf
  refine g_calli hS (g_runV (As := [.int x1]) (rest := []) hC hP (c_X_textRefusal hj  hk1) (rk (by decide) (by decide)) nm_X_textRefusal cd_X_textRefusal it_WideTown ml_X_147 im_X_textRefusal sl_X_textRefusal o_0 co_X rfl hl.1 rfl (Nat.le_of_ble_eq_true rfl) d_X_put_2 zz) (fun H locs hP hS => ?_)
  refine lv_istore (lv' := [(4, .int r2), (0, .ref (ad 0)), (1, .int x1), (2, .int x2), (3, .int x3)]) hx hb d_X_put_5 hl (by decide) rfl (fun ls hl => ?_)
  refine lv_iload hx hb d_X_put_7 (lv_at hl 0 rfl) ?_
  refine lv_if_eq (tgt := 15) hx hb d_X_put_9 (by decide) (fun hc18 => ?_) (fun hc18 => ?_)
  · rw [if_pos hc18] at hf
    refine lv_iload_n hx hb d_X_put_15 rfl (lv_at hl 3 rfl) ?_
    refine lv_if_lt (tgt := 29) hx hb d_X_put_16 (by decide) (fun hc17 => ?_) (fun hc17 => ?_)
    · rw [if_pos hc17] at hf
      refine lv_aload_n hx hb d_X_put_29 rfl (lv_at hl 1 rfl) ?_
      refine lv_iconst (v := (2 : Int32)) hx hb d_X_put_30 (by decide) ?_
      obtain ⟨r5, σ6, hk4, hf⟩ := bc_some hf
      refine g_calli hS (g_runV (As := [.int (2 : Int32)]) (rest := []) hC hP (c_X_found hj  hk4) (rk (by decide) (by decide)) nm_X_found cd_X_found it_WideTown ml_X_116 im_X_found sl_X_found o_0 co_X rfl hl.1 rfl (Nat.le_of_ble_eq_true rfl) d_X_put_31 zz) (fun H locs hP hS => ?_)
      cases hf
      exact g_iret hC rfl hP hS d_X_put_34
    · rw [if_neg hc17] at hf
      refine lv_iload_n hx hb d_X_put_19 rfl (lv_at hl 3 rfl) ?_
      refine lv_aload_n hx hb d_X_put_20 rfl (lv_at hl 1 rfl) ?_
      refine g_get (v := .ref (ad 14)) hC hP o_0 co_X 3 (by decide) rfl fl_X_23 rfl d_X_put_21 ?_
      refine lv_iload_n hx hb d_X_put_24 rfl (lv_at hl 2 rfl) ?_
      obtain ⟨hg7, hf⟩ := gd_some hf
      refine g_iald2 (j := x1.toNatClampNeg) hC hP a_14 hg7 rfl d_X_put_25 ?_
      refine lv_icmp_lt (tgt := 35) hx hb d_X_put_26 (by decide) (fun hc16 => ?_) (fun hc16 => ?_)
      · rw [if_pos hc16] at hf
        refine lv_aload_n hx hb d_X_put_35 rfl (lv_at hl 1 rfl) ?_
        refine g_get (v := .ref (ad 9)) hC hP o_0 co_X 2 (by decide) rfl fl_X_20 rfl d_X_put_36 ?_
        refine lv_iload_n hx hb d_X_put_39 rfl (lv_at hl 2 rfl) ?_
        obtain ⟨hg8, hf⟩ := gd_some hf
        refine g_aald hC hP r_9 rfl rfl hg8 d_X_put_40 ?_
        refine lv_iload_n hx hb d_X_put_41 rfl (lv_at hl 3 rfl) ?_
        obtain ⟨hg9, hf⟩ := gd_some hf
        refine g_bald2 (j := x2.toNatClampNeg) hC hP (txtA hg8) hg9 rfl d_X_put_42 ?_
        refine lv_istore (lv' := [(5, .int (σ3.1 (10 + x1.toNatClampNeg) x2.toNatClampNeg)), (4, .int r2), (0, .ref (ad 0)), (1, .int x1), (2, .int x2), (3, .int x3)]) hx hb d_X_put_43 hl (by decide) rfl (fun ls hl => ?_)
        refine lv_aload_n hx hb d_X_put_45 rfl (lv_at hl 2 rfl) ?_
        refine g_get (v := .ref (ad 9)) hC hP o_0 co_X 2 (by decide) rfl fl_X_20 rfl d_X_put_46 ?_
        refine lv_iload_n hx hb d_X_put_49 rfl (lv_at hl 3 rfl) ?_
        obtain ⟨hg10, hf⟩ := gd_some hf
        refine g_aald hC hP r_9 rfl rfl hg10 d_X_put_50 ?_
        refine lv_iload_n hx hb d_X_put_51 rfl (lv_at hl 4 rfl) ?_
        refine lv_iload_n hx hb d_X_put_52 rfl (lv_at hl 5 rfl) ?_
        refine lv_i2b hx hb d_X_put_53 rfl ?_
        obtain ⟨hg11, hf⟩ := gd_some hf
        obtain ⟨σ12, eσ12, hf⟩ := jn_some hf
        refine g_bast2 (j := x2.toNatClampNeg) hC hP hS (txtA hg10) hg11 rfl d_X_put_54 (fun H locs hP hS => ?_)
        rw [← eσ12] at hP
        refine lv_iload hx hb d_X_put_55 (lv_at hl 0 rfl) ?_
        refine lv_sipush (v := (1000 : Int32)) hx hb d_X_put_57 (by decide) ?_
        refine lv_iadd hx hb d_X_put_60 ?_
        cases hf
        exact g_iret hC rfl hP hS d_X_put_61
      · rw [if_neg hc16] at hf
        refine lv_aload_n hx hb d_X_put_29 rfl (lv_at hl 1 rfl) ?_
        refine lv_iconst (v := (2 : Int32)) hx hb d_X_put_30 (by decide) ?_
        obtain ⟨r14, σ15, hk13, hf⟩ := bc_some hf
        refine g_calli hS (g_runV (As := [.int (2 : Int32)]) (rest := []) hC hP (c_X_found hj  hk13) (rk (by decide) (by decide)) nm_X_found cd_X_found it_WideTown ml_X_116 im_X_found sl_X_found o_0 co_X rfl hl.1 rfl (Nat.le_of_ble_eq_true rfl) d_X_put_31 zz) (fun H locs hP hS => ?_)
        cases hf
        exact g_iret hC rfl hP hS d_X_put_34
  · rw [if_neg hc18] at hf
    refine lv_iload hx hb d_X_put_12 (lv_at hl 0 rfl) ?_
    cases hf
    exact g_iret hC rfl hP hS d_X_put_14
set_option maxHeartbeats 4000000 in
set_option maxRecDepth 100000 in
theorem c_X_fault {l : Launch} {D : va_G} {K : Nat → ClassId} {ad : Nat → Nat} (hj : inj ad)   {x1 : Int32} {σ : GS} {z0 : Int32 × GS} (hf : F_X_fault x1 σ = some z0) : CT l D K ad y_X_fault b_X_fault 3 (some .int) 4 [.ref (ad 0), .int x1] σ (QI D K ad z0.1 z0.2) := by
  refine CT.intro hj (by decide) (Nat.le_of_ble_eq_true rfl) ?_
  intro p e s m args below meth c ls hC hP hS hl
  obtain ⟨hx, hb, -, hown, hts, -⟩ := id hC
  have hl : lv_has ls 3 [(0, .ref (ad 0)), (1, .int x1)] := hl
  rw [F_X_fault] at hf
  refine lv_aload_n hx hb d_X_fault_0 rfl (lv_at hl 0 rfl) ?_
  refine lv_iload_n hx hb d_X_fault_1 rfl (lv_at hl 1 rfl) ?_
  obtain ⟨r2, σ3, hk1, hf⟩ := bc_some hf
  refine g_calli hS (g_runV (As := [.int x1]) (rest := []) hC hP (c_X_textRefusal hj  hk1) (rk (by decide) (by decide)) nm_X_textRefusal cd_X_textRefusal it_WideTown ml_X_147 im_X_textRefusal sl_X_textRefusal o_0 co_X rfl hl.1 rfl (Nat.le_of_ble_eq_true rfl) d_X_fault_2 zz) (fun H locs hP hS => ?_)
  refine lv_istore_n (lv' := [(2, .int r2), (0, .ref (ad 0)), (1, .int x1)]) hx hb d_X_fault_5 rfl hl (by decide) rfl (fun ls hl => ?_)
  refine lv_iload_n hx hb d_X_fault_6 rfl (lv_at hl 0 rfl) ?_
  refine lv_if_eq (tgt := 12) hx hb d_X_fault_7 (by decide) (fun hc9 => ?_) (fun hc9 => ?_)
  · rw [if_pos hc9] at hf
    refine lv_aload_n hx hb d_X_fault_12 rfl (lv_at hl 1 rfl) ?_
    refine g_get (v := .ref (ad 15)) hC hP o_0 co_X 4 (by decide) rfl fl_X_29 rfl d_X_fault_13 ?_
    refine lv_aload_n hx hb d_X_fault_16 rfl (lv_at hl 1 rfl) ?_
    refine g_get (v := .ref (ad 9)) hC hP o_0 co_X 2 (by decide) rfl fl_X_20 rfl d_X_fault_17 ?_
    refine lv_iload_n hx hb d_X_fault_20 rfl (lv_at hl 2 rfl) ?_
    obtain ⟨hg4, hf⟩ := gd_some hf
    refine g_aald hC hP r_9 rfl rfl hg4 d_X_fault_21 ?_
    refine lv_aload_n hx hb d_X_fault_22 rfl (lv_at hl 1 rfl) ?_
    refine g_get (v := .ref (ad 14)) hC hP o_0 co_X 3 (by decide) rfl fl_X_23 rfl d_X_fault_23 ?_
    refine lv_iload_n hx hb d_X_fault_26 rfl (lv_at hl 2 rfl) ?_
    obtain ⟨hg5, hf⟩ := gd_some hf
    refine g_iald2 (j := x1.toNatClampNeg) hC hP a_14 hg5 rfl d_X_fault_27 ?_
    obtain ⟨r7, σ8, hk6, hf⟩ := bc_some hf
    refine g_calli hS (g_runV (As := [.ref (ad (10 + x1.toNatClampNeg)), .int (σ3.1 14 x1.toNatClampNeg)]) (rest := []) hC hP (c_Rd_read hj (txtA hg4) hk6) (rk (by decide) (by decide)) nm_Rd_read cd_Rd_read it_WideTown_Reader ml_X_150 im_Rd_read sl_Rd_read o_15 co_Rd rfl hl.1 rfl (Nat.le_of_ble_eq_true rfl) d_X_fault_28 zz) (fun H locs hP hS => ?_)
    cases hf
    exact g_iret hC rfl hP hS d_X_fault_31
  · rw [if_neg hc9] at hf
    refine lv_iload_n hx hb d_X_fault_10 rfl (lv_at hl 0 rfl) ?_
    cases hf
    exact g_iret hC rfl hP hS d_X_fault_11
set_option maxHeartbeats 4000000 in
set_option maxRecDepth 100000 in
theorem c_X_town {l : Launch} {D : va_G} {K : Nat → ClassId} {ad : Nat → Nat} (hj : inj ad)   {x1 : Int32} {σ : GS} {z0 : Int32 × GS} (hf : F_X_town x1 σ = some z0) : CT l D K ad y_X_town b_X_town 4 (some .int) 5 [.ref (ad 0), .int x1] σ (QI D K ad z0.1 z0.2) := by
  refine CT.intro hj (by decide) (Nat.le_of_ble_eq_true rfl) ?_
  intro p e s m args below meth c ls hC hP hS hl
  obtain ⟨hx, hb, -, hown, hts, -⟩ := id hC
  have hl : lv_has ls 4 [(0, .ref (ad 0)), (1, .int x1)] := hl
  rw [F_X_town] at hf
  refine lv_aload_n hx hb d_X_town_0 rfl (lv_at hl 0 rfl) ?_
  refine lv_iload_n hx hb d_X_town_1 rfl (lv_at hl 1 rfl) ?_
  obtain ⟨r2, σ3, hk1, hf⟩ := bc_some hf
  refine g_calli hS (g_runV (As := [.int x1]) (rest := []) hC hP (c_X_textRefusal hj  hk1) (rk (by decide) (by decide)) nm_X_textRefusal cd_X_textRefusal it_WideTown ml_X_147 im_X_textRefusal sl_X_textRefusal o_0 co_X rfl hl.1 rfl (Nat.le_of_ble_eq_true rfl) d_X_town_2 zz) (fun H locs hP hS => ?_)
  refine lv_istore_n (lv' := [(2, .int r2), (0, .ref (ad 0)), (1, .int x1)]) hx hb d_X_town_5 rfl hl (by decide) rfl (fun ls hl => ?_)
  refine lv_iload_n hx hb d_X_town_6 rfl (lv_at hl 0 rfl) ?_
  refine lv_if_eq (tgt := 12) hx hb d_X_town_7 (by decide) (fun hc16 => ?_) (fun hc16 => ?_)
  · rw [if_pos hc16] at hf
    refine lv_aload_n hx hb d_X_town_12 rfl (lv_at hl 1 rfl) ?_
    refine g_get (v := .ref (ad 15)) hC hP o_0 co_X 4 (by decide) rfl fl_X_29 rfl d_X_town_13 ?_
    refine lv_aload_n hx hb d_X_town_16 rfl (lv_at hl 1 rfl) ?_
    refine g_get (v := .ref (ad 9)) hC hP o_0 co_X 2 (by decide) rfl fl_X_20 rfl d_X_town_17 ?_
    refine lv_iload_n hx hb d_X_town_20 rfl (lv_at hl 2 rfl) ?_
    obtain ⟨hg4, hf⟩ := gd_some hf
    refine g_aald hC hP r_9 rfl rfl hg4 d_X_town_21 ?_
    refine lv_aload_n hx hb d_X_town_22 rfl (lv_at hl 1 rfl) ?_
    refine g_get (v := .ref (ad 14)) hC hP o_0 co_X 3 (by decide) rfl fl_X_23 rfl d_X_town_23 ?_
    refine lv_iload_n hx hb d_X_town_26 rfl (lv_at hl 2 rfl) ?_
    obtain ⟨hg5, hf⟩ := gd_some hf
    refine g_iald2 (j := x1.toNatClampNeg) hC hP a_14 hg5 rfl d_X_town_27 ?_
    obtain ⟨r7, σ8, hk6, hf⟩ := bc_some hf
    refine g_calli hS (g_runV (As := [.ref (ad (10 + x1.toNatClampNeg)), .int (σ3.1 14 x1.toNatClampNeg)]) (rest := []) hC hP (c_Rd_read hj (txtA hg4) hk6) (rk (by decide) (by decide)) nm_Rd_read cd_Rd_read it_WideTown_Reader ml_X_150 im_Rd_read sl_Rd_read o_15 co_Rd rfl hl.1 rfl (Nat.le_of_ble_eq_true rfl) d_X_town_28 zz) (fun H locs hP hS => ?_)
    refine lv_bipush (v := (-9 : Int32)) hx hb d_X_town_31 (by decide) ?_
    refine lv_icmp_eq (tgt := 39) hx hb d_X_town_33 (by decide) (fun hc15 => ?_) (fun hc15 => ?_)
    · rw [if_pos hc15] at hf
      refine lv_aload_n hx hb d_X_town_39 rfl (lv_at hl 1 rfl) ?_
      refine g_get (v := .ref (ad 19)) hC hP o_0 co_X 5 (by decide) rfl fl_X_36 rfl d_X_town_40 ?_
      refine lv_aload_n hx hb d_X_town_43 rfl (lv_at hl 1 rfl) ?_
      refine g_get (v := .ref (ad 15)) hC hP o_0 co_X 4 (by decide) rfl fl_X_29 rfl d_X_town_44 ?_
      refine lv_aload_n hx hb d_X_town_47 rfl (lv_at hl 1 rfl) ?_
      refine g_get (v := .ref (ad 32)) hC hP o_0 co_X 7 (by decide) rfl fl_X_47 rfl d_X_town_48 ?_
      obtain ⟨σ10, hk9, hf⟩ := bv_some hf
      refine g_callv hS (g_runV (As := [.ref (ad 15), .ref (ad 32)]) (rest := []) hC hP (c_Tn_settle hj  hk9) (rk (by decide) (by decide)) nm_Tn_settle cd_Tn_settle it_WideTown_Town ml_X_154 im_Tn_settle sl_Tn_settle o_19 co_Tn rfl hl.1 rfl (Nat.le_of_ble_eq_true rfl) d_X_town_51 zz) (fun H locs hP hS => ?_)
      refine lv_iconst (v := (0 : Int32)) hx hb d_X_town_54 (by decide) ?_
      refine lv_istore_n (lv' := [(3, .int (0 : Int32)), (2, .int r2), (0, .ref (ad 0)), (1, .int x1)]) hx hb d_X_town_55 rfl hl (by decide) rfl (fun ls hl => ?_)
      obtain ⟨KL11_77, eKL11_77, hf⟩ := jn_some hf
      have hKL11_77 : ∀ (v3_11 : Int32) (σL11 : GS) (H : Heap) (locs : List Loc) (ls : Array Slot), va_P D vwCl (wG K ad σL11) H → va_S (GA ad) s.heap H locs → lv_has ls 4 [(0, .ref (ad 0))] → KL11_77 v3_11 σL11 = some z0 → W p l e (rmd 5) s m args below meth c H locs 0 0 (MQ below (QI D K ad z0.1 z0.2) args s 0 0 (GA ad)) (F0 m 77 ls []) := by
        clear hf
        intro v3_11 σL11 H locs ls hP hS hl hf
        rw [eKL11_77] at hf
        try dsimp only at hf
        refine lv_aload_n hx hb d_X_town_77 rfl (lv_at hl 0 rfl) ?_
        refine g_get (v := .ref (ad 19)) hC hP o_0 co_X 5 (by decide) rfl fl_X_36 rfl d_X_town_78 ?_
        refine g_get (v := .int (σL11.1 19 2)) hC hP o_19 co_Tn 2 (by decide) rfl fl_X_158 rfl d_X_town_81 ?_
        cases hf
        exact g_iret hC rfl hP hS d_X_town_84
      clear eKL11_77
      have hL11 : ∀ (n : Nat) (v3_11 : Int32) (σL11 : GS) (H : Heap) (locs : List Loc) (ls : Array Slot), va_P D vwCl (wG K ad σL11) H → va_S (GA ad) s.heap H locs → lv_has ls 4 [(0, .ref (ad 0)), (3, .int v3_11)] → F_X_town_56 KL11_77 n v3_11 σL11 = some z0 → W p l e (rmd 5) s m args below meth c H locs 0 0 (MQ below (QI D K ad z0.1 z0.2) args s 0 0 (GA ad)) (F0 m 56 ls []) := by
        clear hf
        intro n
        induction n with
        | zero =>
          intro v3_11 σL11 H locs ls hP hS hl hf
          rw [F_X_town_56.eq_1] at hf
          cases hf
        | succ n ih =>
          intro v3_11 σL11 H locs ls hP hS hl hf
          rw [F_X_town_56.eq_2] at hf
          refine lv_iload_n hx hb d_X_town_56 rfl (lv_at hl 1 rfl) ?_
          refine lv_iconst (v := (3 : Int32)) hx hb d_X_town_57 (by decide) ?_
          refine lv_icmp_ge (tgt := 77) hx hb d_X_town_58 (by decide) (fun hc14 => ?_) (fun hc14 => ?_)
          · rw [if_pos hc14] at hf
            exact hKL11_77 _ _ _ _ _ hP hS (lv_sub hl [0] rfl) hf
          · rw [if_neg hc14] at hf
            refine lv_aload_n hx hb d_X_town_61 rfl (lv_at hl 0 rfl) ?_
            refine g_get (v := .ref (ad 22)) hC hP o_0 co_X 6 (by decide) rfl fl_X_40 rfl d_X_town_62 ?_
            refine lv_iload_n hx hb d_X_town_65 rfl (lv_at hl 1 rfl) ?_
            obtain ⟨hg12, hf⟩ := gd_some hf
            refine g_aald hC hP r_22 rfl rfl hg12 d_X_town_66 ?_
            refine lv_iconst (v := (0 : Int32)) hx hb d_X_town_67 (by decide) ?_
            obtain ⟨σ13, eσ13, hf⟩ := jn_some hf
            refine g_puti hC hP hS (kepT hg12).1 co_Tn 2 (by decide) rfl fl_X_158 rfl (to_Tn 2 (by decide)) (Nat.le_of_ble_eq_true rfl) rfl d_X_town_68 (fun H locs hP hS => ?_)
            rw [← eσ13] at hP
            refine lv_iinc (v := v3_11 + 1) (lv' := [(3, .int (v3_11 + 1)), (0, .ref (ad 0))]) hx hb d_X_town_71 hl (k := 1) rfl rfl (by decide) rfl (fun ls hl => ?_)
            refine lv_goto (tgt := 56) hx hb d_X_town_74 (by decide) ?_
            exact ih _ _ _ _ _ hP hS (lv_sub hl [1, 0] rfl) hf
      exact hL11 _ _ _ _ _ _ hP hS (lv_sub hl [2, 0] rfl) hf
    · rw [if_neg hc15] at hf
      refine lv_bipush (v := (-4 : Int32)) hx hb d_X_town_36 (by decide) ?_
      cases hf
      exact g_iret hC rfl hP hS d_X_town_38
  · rw [if_neg hc16] at hf
    refine lv_iload_n hx hb d_X_town_10 rfl (lv_at hl 0 rfl) ?_
    cases hf
    exact g_iret hC rfl hP hS d_X_town_11
set_option maxHeartbeats 4000000 in
set_option maxRecDepth 100000 in
theorem c_X_isWalker {l : Launch} {D : va_G} {K : Nat → ClassId} {ad : Nat → Nat} (hj : inj ad)   {x1 : Int32} {σ : GS} {z0 : Int32} (hf : F_X_isWalker x1 σ = some z0) : CT l D K ad y_X_isWalker b_X_isWalker 2 (some .boolean) 0 [.ref (ad 0), .int x1] σ (QI D K ad z0 σ) := by
  refine CT.intro hj (by decide) (Nat.le_of_ble_eq_true rfl) ?_
  intro p e s m args below meth c ls hC hP hS hl
  obtain ⟨hx, hb, -, hown, hts, -⟩ := id hC
  have hl : lv_has ls 2 [(0, .ref (ad 0)), (1, .int x1)] := hl
  rw [F_X_isWalker] at hf
  refine lv_iload_n hx hb d_X_isWalker_0 rfl (lv_at hl 1 rfl) ?_
  refine lv_if_lt (tgt := 19) hx hb d_X_isWalker_1 (by decide) (fun hc2 => ?_) (fun hc2 => ?_)
  · rw [if_pos hc2] at hf
    refine lv_iconst (v := (0 : Int32)) hx hb d_X_isWalker_19 (by decide) ?_
    cases hf
    exact g_zret hC rfl (by decide) hP hS d_X_isWalker_20
  · rw [if_neg hc2] at hf
    refine lv_iload_n hx hb d_X_isWalker_4 rfl (lv_at hl 1 rfl) ?_
    refine lv_aload_n hx hb d_X_isWalker_5 rfl (lv_at hl 0 rfl) ?_
    refine g_get (v := .ref (ad 19)) hC hP o_0 co_X 5 (by decide) rfl fl_X_36 rfl d_X_isWalker_6 ?_
    refine g_get (v := .int (σ.1 19 2)) hC hP o_19 co_Tn 2 (by decide) rfl fl_X_158 rfl d_X_isWalker_9 ?_
    refine lv_icmp_ge (tgt := 19) hx hb d_X_isWalker_12 (by decide) (fun hc1 => ?_) (fun hc1 => ?_)
    · rw [if_pos hc1] at hf
      refine lv_iconst (v := (0 : Int32)) hx hb d_X_isWalker_19 (by decide) ?_
      cases hf
      exact g_zret hC rfl (by decide) hP hS d_X_isWalker_20
    · rw [if_neg hc1] at hf
      refine lv_iconst (v := (1 : Int32)) hx hb d_X_isWalker_15 (by decide) ?_
      refine lv_goto (tgt := 20) hx hb d_X_isWalker_16 (by decide) ?_
      cases hf
      exact g_zret hC rfl (by decide) hP hS d_X_isWalker_20
set_option maxHeartbeats 4000000 in
set_option maxRecDepth 100000 in
theorem c_X_factOf {l : Launch} {D : va_G} {K : Nat → ClassId} {ad : Nat → Nat} (hj : inj ad)   {x1 : Int32} {x2 : Int32} {σ : GS} {z0 : Int32 × GS} (hf : F_X_factOf x1 x2 σ = some z0) : CT l D K ad y_X_factOf b_X_factOf 3 (some .int) 4 [.ref (ad 0), .int x1, .int x2] σ (QI D K ad z0.1 z0.2) := by
  refine CT.intro hj (by decide) (Nat.le_of_ble_eq_true rfl) ?_
  intro p e s m args below meth c ls hC hP hS hl
  obtain ⟨hx, hb, -, hown, hts, -⟩ := id hC
  have hl : lv_has ls 3 [(0, .ref (ad 0)), (1, .int x1), (2, .int x2)] := hl
  rw [F_X_factOf] at hf
  refine lv_aload_n hx hb d_X_factOf_0 rfl (lv_at hl 0 rfl) ?_
  refine g_get (v := .ref (ad 19)) hC hP o_0 co_X 5 (by decide) rfl fl_X_36 rfl d_X_factOf_1 ?_
  refine lv_iload_n hx hb d_X_factOf_4 rfl (lv_at hl 1 rfl) ?_
  refine lv_aload_n hx hb d_X_factOf_5 rfl (lv_at hl 0 rfl) ?_
  refine g_get (v := .ref (ad 34)) hC hP o_0 co_X 8 (by decide) rfl fl_X_54 rfl d_X_factOf_6 ?_
  obtain ⟨σ2, hk1, hf⟩ := bv_some hf
  refine g_callv hS (g_runV (As := [.int x1, .ref (ad 34)]) (rest := []) hC hP (c_Tn_load hj o_34 hk1) (rk (by decide) (by decide)) nm_Tn_load cd_Tn_load it_WideTown_Town ml_X_167 im_Tn_load sl_Tn_load o_19 co_Tn rfl hl.1 rfl (Nat.le_of_ble_eq_true rfl) d_X_factOf_9 zz) (fun H locs hP hS => ?_)
  refine lv_iload_n hx hb d_X_factOf_12 rfl (lv_at hl 2 rfl) ?_
  by_cases h_s0 : x2 = 0
  · rw [if_pos h_s0] at hf
    refine lv_tableIn (off := 31) (tgt := 44) hx hb d_X_factOf_13 (by rw [h_s0]; decide) (by rw [h_s0]; decide) (by rw [h_s0]; decide) (by decide) ?_
    refine lv_aload_n hx hb d_X_factOf_44 rfl (lv_at hl 0 rfl) ?_
    refine g_get (v := .ref (ad 34)) hC hP o_0 co_X 8 (by decide) rfl fl_X_54 rfl d_X_factOf_45 ?_
    refine g_get (v := .int (σ2.1 34 0)) hC hP o_34 co_Wk 0 (by decide) rfl fl_X_368 rfl d_X_factOf_48 ?_
    cases hf
    exact g_iret hC rfl hP hS d_X_factOf_51
  · rw [if_neg h_s0] at hf
    by_cases h_s1 : x2 = 1
    · rw [if_pos h_s1] at hf
      refine lv_tableIn (off := 39) (tgt := 52) hx hb d_X_factOf_13 (by rw [h_s1]; decide) (by rw [h_s1]; decide) (by rw [h_s1]; decide) (by decide) ?_
      refine lv_aload_n hx hb d_X_factOf_52 rfl (lv_at hl 0 rfl) ?_
      refine g_get (v := .ref (ad 34)) hC hP o_0 co_X 8 (by decide) rfl fl_X_54 rfl d_X_factOf_53 ?_
      refine g_get (v := .int (σ2.1 34 1)) hC hP o_34 co_Wk 1 (by decide) rfl fl_X_184 rfl d_X_factOf_56 ?_
      cases hf
      exact g_iret hC rfl hP hS d_X_factOf_59
    · rw [if_neg h_s1] at hf
      by_cases h_s2 : x2 = 2
      · rw [if_pos h_s2] at hf
        refine lv_tableIn (off := 47) (tgt := 60) hx hb d_X_factOf_13 (by rw [h_s2]; decide) (by rw [h_s2]; decide) (by rw [h_s2]; decide) (by decide) ?_
        refine lv_aload_n hx hb d_X_factOf_60 rfl (lv_at hl 0 rfl) ?_
        refine g_get (v := .ref (ad 34)) hC hP o_0 co_X 8 (by decide) rfl fl_X_54 rfl d_X_factOf_61 ?_
        refine g_get (v := .int (σ2.1 34 2)) hC hP o_34 co_Wk 2 (by decide) rfl fl_X_177 rfl d_X_factOf_64 ?_
        cases hf
        exact g_iret hC rfl hP hS d_X_factOf_67
      · rw [if_neg h_s2] at hf
        by_cases h_s3 : x2 = 3
        · rw [if_pos h_s3] at hf
          refine lv_tableIn (off := 55) (tgt := 68) hx hb d_X_factOf_13 (by rw [h_s3]; decide) (by rw [h_s3]; decide) (by rw [h_s3]; decide) (by decide) ?_
          refine lv_aload_n hx hb d_X_factOf_68 rfl (lv_at hl 0 rfl) ?_
          refine g_get (v := .ref (ad 34)) hC hP o_0 co_X 8 (by decide) rfl fl_X_54 rfl d_X_factOf_69 ?_
          refine g_get (v := .int (σ2.1 34 4)) hC hP o_34 co_Wk 4 (by decide) rfl fl_X_371 rfl d_X_factOf_72 ?_
          cases hf
          exact g_iret hC rfl hP hS d_X_factOf_75
        · rw [if_neg h_s3] at hf
          refine lv_tableOut (tgt := 76) hx hb d_X_factOf_13 (sw_out 0 3 (by intro k h1 h2; rcases (show k = 0 ∨ k = 1 ∨ k = 2 ∨ k = 3 by omega) with rfl | rfl | rfl | rfl <;> first | exact lv_neT h_s0 (by decide) | exact lv_neT h_s1 (by decide) | exact lv_neT h_s2 (by decide) | exact lv_neT h_s3 (by decide))) (by decide) ?_
          refine lv_aload_n hx hb d_X_factOf_76 rfl (lv_at hl 0 rfl) ?_
          refine g_get (v := .ref (ad 32)) hC hP o_0 co_X 7 (by decide) rfl fl_X_47 rfl d_X_factOf_77 ?_
          refine lv_aload_n hx hb d_X_factOf_80 rfl (lv_at hl 0 rfl) ?_
          refine g_get (v := .ref (ad 34)) hC hP o_0 co_X 8 (by decide) rfl fl_X_54 rfl d_X_factOf_81 ?_
          refine g_get (v := .int (σ2.1 34 1)) hC hP o_34 co_Wk 1 (by decide) rfl fl_X_184 rfl d_X_factOf_84 ?_
          obtain ⟨σ4, hk3, hf⟩ := bv_some hf
          refine g_callv hS (g_runV (As := [.int (σ2.1 34 1)]) (rest := []) hC hP (c_Wd_becomes hj ⟨o_32, a_33⟩ hk3) (rk (by decide) (by decide)) nm_Wd_becomes cd_Wd_becomes it_WideTown_Word ml_X_187 im_Wd_becomes sl_Wd_becomes o_32 co_Wd rfl hl.1 rfl (Nat.le_of_ble_eq_true rfl) d_X_factOf_87 zz) (fun H locs hP hS => ?_)
          refine lv_aload_n hx hb d_X_factOf_90 rfl (lv_at hl 0 rfl) ?_
          refine g_get (v := .ref (ad 32)) hC hP o_0 co_X 7 (by decide) rfl fl_X_47 rfl d_X_factOf_91 ?_
          refine g_get (v := .int (σ4.1 32 1)) hC hP o_32 co_Wd 1 (by decide) rfl fl_X_204 rfl d_X_factOf_94 ?_
          cases hf
          exact g_iret hC rfl hP hS d_X_factOf_97
set_option maxHeartbeats 4000000 in
set_option maxRecDepth 100000 in
theorem c_X_walker {l : Launch} {D : va_G} {K : Nat → ClassId} {ad : Nat → Nat} (hj : inj ad)   {x1 : Int32} {x2 : Int32} {σ : GS} {z0 : Int32 × GS} (hf : F_X_walker x1 x2 σ = some z0) : CT l D K ad y_X_walker b_X_walker 3 (some .int) 5 [.ref (ad 0), .int x1, .int x2] σ (QI D K ad z0.1 z0.2) := by
  refine CT.intro hj (by decide) (Nat.le_of_ble_eq_true rfl) ?_
  intro p e s m args below meth c ls hC hP hS hl
  obtain ⟨hx, hb, -, hown, hts, -⟩ := id hC
  have hl : lv_has ls 3 [(0, .ref (ad 0)), (1, .int x1), (2, .int x2)] := hl
  rw [F_X_walker] at hf
  refine lv_aload_n hx hb d_X_walker_0 rfl (lv_at hl 0 rfl) ?_
  refine lv_iload_n hx hb d_X_walker_1 rfl (lv_at hl 1 rfl) ?_
  obtain ⟨r2, hk1, hf⟩ := bp_some hf
  refine g_calli hS (g_runV (As := [.int x1]) (rest := []) hC hP (c_X_isWalker hj  hk1) (rk (by decide) (by decide)) nm_X_isWalker cd_X_isWalker it_WideTown ml_X_161 im_X_isWalker sl_X_isWalker o_0 co_X rfl hl.1 rfl (Nat.le_of_ble_eq_true rfl) d_X_walker_2 zz) (fun H locs hP hS => ?_)
  refine lv_if_eq (tgt := 17) hx hb d_X_walker_5 (by decide) (fun hc9 => ?_) (fun hc9 => ?_)
  · rw [if_pos hc9] at hf
    refine lv_iconst (v := (-1 : Int32)) hx hb d_X_walker_17 (by decide) ?_
    cases hf
    exact g_iret hC rfl hP hS d_X_walker_18
  · rw [if_neg hc9] at hf
    refine lv_iload_n hx hb d_X_walker_8 rfl (lv_at hl 2 rfl) ?_
    refine lv_if_lt (tgt := 17) hx hb d_X_walker_9 (by decide) (fun hc8 => ?_) (fun hc8 => ?_)
    · rw [if_pos hc8] at hf
      refine lv_iconst (v := (-1 : Int32)) hx hb d_X_walker_17 (by decide) ?_
      cases hf
      exact g_iret hC rfl hP hS d_X_walker_18
    · rw [if_neg hc8] at hf
      refine lv_iload_n hx hb d_X_walker_12 rfl (lv_at hl 2 rfl) ?_
      refine lv_iconst (v := (4 : Int32)) hx hb d_X_walker_13 (by decide) ?_
      refine lv_icmp_le (tgt := 19) hx hb d_X_walker_14 (by decide) (fun hc7 => ?_) (fun hc7 => ?_)
      · rw [if_pos hc7] at hf
        refine lv_aload_n hx hb d_X_walker_19 rfl (lv_at hl 0 rfl) ?_
        refine lv_aload_n hx hb d_X_walker_20 rfl (lv_at hl 0 rfl) ?_
        refine lv_iload_n hx hb d_X_walker_21 rfl (lv_at hl 1 rfl) ?_
        refine lv_iload_n hx hb d_X_walker_22 rfl (lv_at hl 2 rfl) ?_
        obtain ⟨r4, σ5, hk3, hf⟩ := bc_some hf
        refine g_calli hS (g_runV (As := [.int x1, .int x2]) (rest := [.ref (ad 0)]) hC hP (c_X_factOf hj  hk3) (rk (by decide) (by decide)) nm_X_factOf cd_X_factOf it_WideTown ml_X_164 im_X_factOf sl_X_factOf o_0 co_X rfl hl.1 rfl (Nat.le_of_ble_eq_true rfl) d_X_walker_23 zz) (fun H locs hP hS => ?_)
        obtain ⟨σ6, eσ6, hf⟩ := jn_some hf
        refine g_puti hC hP hS o_0 co_X 16 (by decide) rfl fl_X_96 rfl (to_X 16 (by decide)) (Nat.le_of_ble_eq_true rfl) rfl d_X_walker_26 (fun H locs hP hS => ?_)
        rw [← eσ6] at hP
        refine lv_iconst (v := (1 : Int32)) hx hb d_X_walker_29 (by decide) ?_
        cases hf
        exact g_iret hC rfl hP hS d_X_walker_30
      · rw [if_neg hc7] at hf
        refine lv_iconst (v := (-1 : Int32)) hx hb d_X_walker_17 (by decide) ?_
        cases hf
        exact g_iret hC rfl hP hS d_X_walker_18
set_option maxHeartbeats 4000000 in
set_option maxRecDepth 100000 in
theorem c_X_gap {l : Launch} {D : va_G} {K : Nat → ClassId} {ad : Nat → Nat} (hj : inj ad)   {x1 : Int32} {x2 : Int32} {σ : GS} {z0 : Int32 × GS} (hf : F_X_gap x1 x2 σ = some z0) : CT l D K ad y_X_gap b_X_gap 3 (some .int) 4 [.ref (ad 0), .int x1, .int x2] σ (QI D K ad z0.1 z0.2) := by
  refine CT.intro hj (by decide) (Nat.le_of_ble_eq_true rfl) ?_
  intro p e s m args below meth c ls hC hP hS hl
  obtain ⟨hx, hb, -, hown, hts, -⟩ := id hC
  have hl : lv_has ls 3 [(0, .ref (ad 0)), (1, .int x1), (2, .int x2)] := hl
  rw [F_X_gap] at hf
  refine lv_aload_n hx hb d_X_gap_0 rfl (lv_at hl 0 rfl) ?_
  refine g_get (v := .ref (ad 32)) hC hP o_0 co_X 7 (by decide) rfl fl_X_47 rfl d_X_gap_1 ?_
  refine lv_iload_n hx hb d_X_gap_4 rfl (lv_at hl 1 rfl) ?_
  refine lv_iload_n hx hb d_X_gap_5 rfl (lv_at hl 2 rfl) ?_
  obtain ⟨σ2, hk1, hf⟩ := bv_some hf
  refine g_callv hS (g_runV (As := [.int x1, .int x2]) (rest := []) hC hP (c_Wd_becomesWay hj ⟨o_32, a_33⟩ hk1) (rk (by decide) (by decide)) nm_Wd_becomesWay cd_Wd_becomesWay it_WideTown_Word ml_X_250 im_Wd_becomesWay sl_Wd_becomesWay o_32 co_Wd rfl hl.1 rfl (Nat.le_of_ble_eq_true rfl) d_X_gap_6 zz) (fun H locs hP hS => ?_)
  refine lv_aload_n hx hb d_X_gap_9 rfl (lv_at hl 0 rfl) ?_
  refine g_get (v := .ref (ad 32)) hC hP o_0 co_X 7 (by decide) rfl fl_X_47 rfl d_X_gap_10 ?_
  refine g_get (v := .int (σ2.1 32 1)) hC hP o_32 co_Wd 1 (by decide) rfl fl_X_204 rfl d_X_gap_13 ?_
  cases hf
  exact g_iret hC rfl hP hS d_X_gap_16
set_option maxHeartbeats 4000000 in
set_option maxRecDepth 100000 in
theorem c_X_driftOf {l : Launch} {D : va_G} {K : Nat → ClassId} {ad : Nat → Nat} (hj : inj ad)    {σ : GS} {z0 : Int32 × GS} (hf : F_X_driftOf σ = some z0) : CT l D K ad y_X_driftOf b_X_driftOf 4 (some .int) 5 [.ref (ad 0), .ref (ad 34)] σ (QI D K ad z0.1 z0.2) := by
  refine CT.intro hj (by decide) (Nat.le_of_ble_eq_true rfl) ?_
  intro p e s m args below meth c ls hC hP hS hl
  obtain ⟨hx, hb, -, hown, hts, -⟩ := id hC
  have hl : lv_has ls 4 [(0, .ref (ad 0)), (1, .ref (ad 34))] := hl
  rw [F_X_driftOf] at hf
  refine lv_aload_n hx hb d_X_driftOf_0 rfl (lv_at hl 1 rfl) ?_
  refine g_get (v := .int (σ.1 34 1)) hC hP o_34 co_Wk 1 (by decide) rfl fl_X_184 rfl d_X_driftOf_1 ?_
  refine lv_istore_n (lv' := [(2, .int (σ.1 34 1)), (0, .ref (ad 0)), (1, .ref (ad 34))]) hx hb d_X_driftOf_4 rfl hl (by decide) rfl (fun ls hl => ?_)
  refine lv_iconst (v := (0 : Int32)) hx hb d_X_driftOf_5 (by decide) ?_
  refine lv_istore_n (lv' := [(3, .int (0 : Int32)), (2, .int (σ.1 34 1)), (0, .ref (ad 0)), (1, .ref (ad 34))]) hx hb d_X_driftOf_6 rfl hl (by decide) rfl (fun ls hl => ?_)
  obtain ⟨u2_1, eu2_1, hf⟩ := jn_some hf
  have hl : lv_has ls 4 [(3, .int (0 : Int32)), (2, .int u2_1), (0, .ref (ad 0)), (1, .ref (ad 34))] := by rw [eu2_1]; exact hl
  obtain ⟨KL2_26, eKL2_26, hf⟩ := jn_some hf
  have hKL2_26 : ∀ (v3_2 : Int32) (σL2 : GS) (H : Heap) (locs : List Loc) (ls : Array Slot), va_P D vwCl (wG K ad σL2) H → va_S (GA ad) s.heap H locs → lv_has ls 4 [(0, .ref (ad 0)), (1, .ref (ad 34)), (2, .int u2_1)] → KL2_26 v3_2 σL2 = some z0 → W p l e (rmd 5) s m args below meth c H locs 0 0 (MQ below (QI D K ad z0.1 z0.2) args s 0 0 (GA ad)) (F0 m 26 ls []) := by
    clear hf
    intro v3_2 σL2 H locs ls hP hS hl hf
    rw [eKL2_26] at hf
    try dsimp only at hf
    refine lv_aload_n hx hb d_X_driftOf_26 rfl (lv_at hl 0 rfl) ?_
    refine lv_iload_n hx hb d_X_driftOf_27 rfl (lv_at hl 2 rfl) ?_
    refine lv_aload_n hx hb d_X_driftOf_28 rfl (lv_at hl 1 rfl) ?_
    refine g_get (v := .int (σL2.1 34 1)) hC hP o_34 co_Wk 1 (by decide) rfl fl_X_184 rfl d_X_driftOf_29 ?_
    obtain ⟨r4, σ5, hk3, hf⟩ := bc_some hf
    refine g_calli hS (g_runV (As := [.int u2_1, .int (σL2.1 34 1)]) (rest := []) hC hP (c_X_gap hj  hk3) (rk (by decide) (by decide)) nm_X_gap cd_X_gap it_WideTown ml_X_247 im_X_gap sl_X_gap o_0 co_X rfl hl.1 rfl (Nat.le_of_ble_eq_true rfl) d_X_driftOf_32 zz) (fun H locs hP hS => ?_)
    cases hf
    exact g_iret hC rfl hP hS d_X_driftOf_35
  clear eKL2_26
  have hL2 : ∀ (n : Nat) (v3_2 : Int32) (σL2 : GS) (H : Heap) (locs : List Loc) (ls : Array Slot), va_P D vwCl (wG K ad σL2) H → va_S (GA ad) s.heap H locs → lv_has ls 4 [(0, .ref (ad 0)), (1, .ref (ad 34)), (2, .int u2_1), (3, .int v3_2)] → F_X_driftOf_7 u2_1 KL2_26 n v3_2 σL2 = some z0 → W p l e (rmd 5) s m args below meth c H locs 0 0 (MQ below (QI D K ad z0.1 z0.2) args s 0 0 (GA ad)) (F0 m 7 ls []) := by
    clear hf
    intro n
    induction n with
    | zero =>
      intro v3_2 σL2 H locs ls hP hS hl hf
      rw [F_X_driftOf_7.eq_1] at hf
      cases hf
    | succ n ih =>
      intro v3_2 σL2 H locs ls hP hS hl hf
      rw [F_X_driftOf_7.eq_2] at hf
      refine lv_iload_n hx hb d_X_driftOf_7 rfl (lv_at hl 3 rfl) ?_
      refine lv_iconst (v := (4 : Int32)) hx hb d_X_driftOf_8 (by decide) ?_
      refine lv_icmp_ge (tgt := 26) hx hb d_X_driftOf_9 (by decide) (fun hc8 => ?_) (fun hc8 => ?_)
      · rw [if_pos hc8] at hf
        exact hKL2_26 _ _ _ _ _ hP hS (lv_sub hl [0, 1, 2] rfl) hf
      · rw [if_neg hc8] at hf
        refine lv_aload_n hx hb d_X_driftOf_12 rfl (lv_at hl 1 rfl) ?_
        refine lv_aload_n hx hb d_X_driftOf_13 rfl (lv_at hl 0 rfl) ?_
        refine g_get (v := .ref (ad 32)) hC hP o_0 co_X 7 (by decide) rfl fl_X_47 rfl d_X_driftOf_14 ?_
        obtain ⟨σ7, hk6, hf⟩ := bv_some hf
        refine g_callv hS (g_runV (As := [.ref (ad 32)]) (rest := []) hC hP (c_Wk_passStreet hj o_34 hk6) (rk (by decide) (by decide)) nm_Wk_passStreet cd_Wk_passStreet it_WideTown_Walker ml_X_374 im_Wk_passStreet sl_Wk_passStreet o_34 co_Wk rfl hl.1 rfl (Nat.le_of_ble_eq_true rfl) d_X_driftOf_17 zz) (fun H locs hP hS => ?_)
        refine lv_iinc (v := v3_2 + 1) (lv' := [(3, .int (v3_2 + 1)), (0, .ref (ad 0)), (1, .ref (ad 34)), (2, .int u2_1)]) hx hb d_X_driftOf_20 hl (k := 3) rfl rfl (by decide) rfl (fun ls hl => ?_)
        refine lv_goto (tgt := 7) hx hb d_X_driftOf_23 (by decide) ?_
        exact ih _ _ _ _ _ hP hS (lv_sub hl [1, 2, 3, 0] rfl) hf
  exact hL2 _ _ _ _ _ _ hP hS (lv_sub hl [2, 3, 1, 0] rfl) hf
set_option maxHeartbeats 4000000 in
set_option maxRecDepth 100000 in
theorem c_J_bitCount {l : Launch} {D : va_G} {K : Nat → ClassId} {ad : Nat → Nat} (hj : inj ad)   {x0 : Int32} {σ : GS} {z0 : Int32} (hf : F_J_bitCount x0 = some z0) : CT l D K ad y_J_bitCount b_J_bitCount 1 (some .int) 0 [.int x0] σ (QI D K ad z0 σ) := by
  refine CT.intro hj (by decide) (Nat.le_of_ble_eq_true rfl) ?_
  intro p e s m args below meth c ls hC hP hS hl
  obtain ⟨hx, hb, -, hown, hts, -⟩ := id hC
  have hl : lv_has ls 1 [(0, .int x0)] := hl
  rw [F_J_bitCount] at hf
  refine lv_iload_n hx hb d_J_bitCount_0 rfl (lv_at hl 0 rfl) ?_
  refine lv_iload_n hx hb d_J_bitCount_1 rfl (lv_at hl 0 rfl) ?_
  refine lv_iconst (v := (1 : Int32)) hx hb d_J_bitCount_2 (by decide) ?_
  refine lv_iushr hx hb d_J_bitCount_3 rfl ?_
  refine lv_ldcw hx hb hown (hts _ cn_Integer_265) d_J_bitCount_4 ?_
  refine lv_iand hx hb d_J_bitCount_7 ?_
  refine lv_isub hx hb d_J_bitCount_8 ?_
  refine lv_istore_n (lv' := [(0, .int (x0 - (((x0.toUInt32 >>> ((1 : Int32).toUInt32 &&& Int32.toUInt32 31)).toInt32) &&& (1431655765 : Int32))))]) hx hb d_J_bitCount_9 rfl hl (by decide) rfl (fun ls hl => ?_)
  refine lv_iload_n hx hb d_J_bitCount_10 rfl (lv_at hl 0 rfl) ?_
  refine lv_ldcw hx hb hown (hts _ cn_Integer_266) d_J_bitCount_11 ?_
  refine lv_iand hx hb d_J_bitCount_14 ?_
  refine lv_iload_n hx hb d_J_bitCount_15 rfl (lv_at hl 0 rfl) ?_
  refine lv_iconst (v := (2 : Int32)) hx hb d_J_bitCount_16 (by decide) ?_
  refine lv_iushr hx hb d_J_bitCount_17 rfl ?_
  refine lv_ldcw hx hb hown (hts _ cn_Integer_266) d_J_bitCount_18 ?_
  refine lv_iand hx hb d_J_bitCount_21 ?_
  refine lv_iadd hx hb d_J_bitCount_22 ?_
  refine lv_istore_n (lv' := [(0, .int (((x0 - (((x0.toUInt32 >>> ((1 : Int32).toUInt32 &&& Int32.toUInt32 31)).toInt32) &&& (1431655765 : Int32))) &&& (858993459 : Int32)) + ((((x0 - (((x0.toUInt32 >>> ((1 : Int32).toUInt32 &&& Int32.toUInt32 31)).toInt32) &&& (1431655765 : Int32))).toUInt32 >>> ((2 : Int32).toUInt32 &&& Int32.toUInt32 31)).toInt32) &&& (858993459 : Int32))))]) hx hb d_J_bitCount_23 rfl hl (by decide) rfl (fun ls hl => ?_)
  refine lv_iload_n hx hb d_J_bitCount_24 rfl (lv_at hl 0 rfl) ?_
  refine lv_iload_n hx hb d_J_bitCount_25 rfl (lv_at hl 0 rfl) ?_
  refine lv_iconst (v := (4 : Int32)) hx hb d_J_bitCount_26 (by decide) ?_
  refine lv_iushr hx hb d_J_bitCount_27 rfl ?_
  refine lv_iadd hx hb d_J_bitCount_28 ?_
  refine lv_ldcw hx hb hown (hts _ cn_Integer_267) d_J_bitCount_29 ?_
  refine lv_iand hx hb d_J_bitCount_32 ?_
  refine lv_istore_n (lv' := [(0, .int (((((x0 - (((x0.toUInt32 >>> ((1 : Int32).toUInt32 &&& Int32.toUInt32 31)).toInt32) &&& (1431655765 : Int32))) &&& (858993459 : Int32)) + ((((x0 - (((x0.toUInt32 >>> ((1 : Int32).toUInt32 &&& Int32.toUInt32 31)).toInt32) &&& (1431655765 : Int32))).toUInt32 >>> ((2 : Int32).toUInt32 &&& Int32.toUInt32 31)).toInt32) &&& (858993459 : Int32))) + (((((x0 - (((x0.toUInt32 >>> ((1 : Int32).toUInt32 &&& Int32.toUInt32 31)).toInt32) &&& (1431655765 : Int32))) &&& (858993459 : Int32)) + ((((x0 - (((x0.toUInt32 >>> ((1 : Int32).toUInt32 &&& Int32.toUInt32 31)).toInt32) &&& (1431655765 : Int32))).toUInt32 >>> ((2 : Int32).toUInt32 &&& Int32.toUInt32 31)).toInt32) &&& (858993459 : Int32))).toUInt32 >>> ((4 : Int32).toUInt32 &&& Int32.toUInt32 31)).toInt32)) &&& (252645135 : Int32)))]) hx hb d_J_bitCount_33 rfl hl (by decide) rfl (fun ls hl => ?_)
  refine lv_iload_n hx hb d_J_bitCount_34 rfl (lv_at hl 0 rfl) ?_
  refine lv_iload_n hx hb d_J_bitCount_35 rfl (lv_at hl 0 rfl) ?_
  refine lv_bipush (v := (8 : Int32)) hx hb d_J_bitCount_36 (by decide) ?_
  refine lv_iushr hx hb d_J_bitCount_38 rfl ?_
  refine lv_iadd hx hb d_J_bitCount_39 ?_
  refine lv_istore_n (lv' := [(0, .int ((((((x0 - (((x0.toUInt32 >>> ((1 : Int32).toUInt32 &&& Int32.toUInt32 31)).toInt32) &&& (1431655765 : Int32))) &&& (858993459 : Int32)) + ((((x0 - (((x0.toUInt32 >>> ((1 : Int32).toUInt32 &&& Int32.toUInt32 31)).toInt32) &&& (1431655765 : Int32))).toUInt32 >>> ((2 : Int32).toUInt32 &&& Int32.toUInt32 31)).toInt32) &&& (858993459 : Int32))) + (((((x0 - (((x0.toUInt32 >>> ((1 : Int32).toUInt32 &&& Int32.toUInt32 31)).toInt32) &&& (1431655765 : Int32))) &&& (858993459 : Int32)) + ((((x0 - (((x0.toUInt32 >>> ((1 : Int32).toUInt32 &&& Int32.toUInt32 31)).toInt32) &&& (1431655765 : Int32))).toUInt32 >>> ((2 : Int32).toUInt32 &&& Int32.toUInt32 31)).toInt32) &&& (858993459 : Int32))).toUInt32 >>> ((4 : Int32).toUInt32 &&& Int32.toUInt32 31)).toInt32)) &&& (252645135 : Int32)) + (((((((x0 - (((x0.toUInt32 >>> ((1 : Int32).toUInt32 &&& Int32.toUInt32 31)).toInt32) &&& (1431655765 : Int32))) &&& (858993459 : Int32)) + ((((x0 - (((x0.toUInt32 >>> ((1 : Int32).toUInt32 &&& Int32.toUInt32 31)).toInt32) &&& (1431655765 : Int32))).toUInt32 >>> ((2 : Int32).toUInt32 &&& Int32.toUInt32 31)).toInt32) &&& (858993459 : Int32))) + (((((x0 - (((x0.toUInt32 >>> ((1 : Int32).toUInt32 &&& Int32.toUInt32 31)).toInt32) &&& (1431655765 : Int32))) &&& (858993459 : Int32)) + ((((x0 - (((x0.toUInt32 >>> ((1 : Int32).toUInt32 &&& Int32.toUInt32 31)).toInt32) &&& (1431655765 : Int32))).toUInt32 >>> ((2 : Int32).toUInt32 &&& Int32.toUInt32 31)).toInt32) &&& (858993459 : Int32))).toUInt32 >>> ((4 : Int32).toUInt32 &&& Int32.toUInt32 31)).toInt32)) &&& (252645135 : Int32)).toUInt32 >>> ((8 : Int32).toUInt32 &&& Int32.toUInt32 31)).toInt32)))]) hx hb d_J_bitCount_40 rfl hl (by decide) rfl (fun ls hl => ?_)
  refine lv_iload_n hx hb d_J_bitCount_41 rfl (lv_at hl 0 rfl) ?_
  refine lv_iload_n hx hb d_J_bitCount_42 rfl (lv_at hl 0 rfl) ?_
  refine lv_bipush (v := (16 : Int32)) hx hb d_J_bitCount_43 (by decide) ?_
  refine lv_iushr hx hb d_J_bitCount_45 rfl ?_
  refine lv_iadd hx hb d_J_bitCount_46 ?_
  refine lv_istore_n (lv' := [(0, .int (((((((x0 - (((x0.toUInt32 >>> ((1 : Int32).toUInt32 &&& Int32.toUInt32 31)).toInt32) &&& (1431655765 : Int32))) &&& (858993459 : Int32)) + ((((x0 - (((x0.toUInt32 >>> ((1 : Int32).toUInt32 &&& Int32.toUInt32 31)).toInt32) &&& (1431655765 : Int32))).toUInt32 >>> ((2 : Int32).toUInt32 &&& Int32.toUInt32 31)).toInt32) &&& (858993459 : Int32))) + (((((x0 - (((x0.toUInt32 >>> ((1 : Int32).toUInt32 &&& Int32.toUInt32 31)).toInt32) &&& (1431655765 : Int32))) &&& (858993459 : Int32)) + ((((x0 - (((x0.toUInt32 >>> ((1 : Int32).toUInt32 &&& Int32.toUInt32 31)).toInt32) &&& (1431655765 : Int32))).toUInt32 >>> ((2 : Int32).toUInt32 &&& Int32.toUInt32 31)).toInt32) &&& (858993459 : Int32))).toUInt32 >>> ((4 : Int32).toUInt32 &&& Int32.toUInt32 31)).toInt32)) &&& (252645135 : Int32)) + (((((((x0 - (((x0.toUInt32 >>> ((1 : Int32).toUInt32 &&& Int32.toUInt32 31)).toInt32) &&& (1431655765 : Int32))) &&& (858993459 : Int32)) + ((((x0 - (((x0.toUInt32 >>> ((1 : Int32).toUInt32 &&& Int32.toUInt32 31)).toInt32) &&& (1431655765 : Int32))).toUInt32 >>> ((2 : Int32).toUInt32 &&& Int32.toUInt32 31)).toInt32) &&& (858993459 : Int32))) + (((((x0 - (((x0.toUInt32 >>> ((1 : Int32).toUInt32 &&& Int32.toUInt32 31)).toInt32) &&& (1431655765 : Int32))) &&& (858993459 : Int32)) + ((((x0 - (((x0.toUInt32 >>> ((1 : Int32).toUInt32 &&& Int32.toUInt32 31)).toInt32) &&& (1431655765 : Int32))).toUInt32 >>> ((2 : Int32).toUInt32 &&& Int32.toUInt32 31)).toInt32) &&& (858993459 : Int32))).toUInt32 >>> ((4 : Int32).toUInt32 &&& Int32.toUInt32 31)).toInt32)) &&& (252645135 : Int32)).toUInt32 >>> ((8 : Int32).toUInt32 &&& Int32.toUInt32 31)).toInt32)) + ((((((((x0 - (((x0.toUInt32 >>> ((1 : Int32).toUInt32 &&& Int32.toUInt32 31)).toInt32) &&& (1431655765 : Int32))) &&& (858993459 : Int32)) + ((((x0 - (((x0.toUInt32 >>> ((1 : Int32).toUInt32 &&& Int32.toUInt32 31)).toInt32) &&& (1431655765 : Int32))).toUInt32 >>> ((2 : Int32).toUInt32 &&& Int32.toUInt32 31)).toInt32) &&& (858993459 : Int32))) + (((((x0 - (((x0.toUInt32 >>> ((1 : Int32).toUInt32 &&& Int32.toUInt32 31)).toInt32) &&& (1431655765 : Int32))) &&& (858993459 : Int32)) + ((((x0 - (((x0.toUInt32 >>> ((1 : Int32).toUInt32 &&& Int32.toUInt32 31)).toInt32) &&& (1431655765 : Int32))).toUInt32 >>> ((2 : Int32).toUInt32 &&& Int32.toUInt32 31)).toInt32) &&& (858993459 : Int32))).toUInt32 >>> ((4 : Int32).toUInt32 &&& Int32.toUInt32 31)).toInt32)) &&& (252645135 : Int32)) + (((((((x0 - (((x0.toUInt32 >>> ((1 : Int32).toUInt32 &&& Int32.toUInt32 31)).toInt32) &&& (1431655765 : Int32))) &&& (858993459 : Int32)) + ((((x0 - (((x0.toUInt32 >>> ((1 : Int32).toUInt32 &&& Int32.toUInt32 31)).toInt32) &&& (1431655765 : Int32))).toUInt32 >>> ((2 : Int32).toUInt32 &&& Int32.toUInt32 31)).toInt32) &&& (858993459 : Int32))) + (((((x0 - (((x0.toUInt32 >>> ((1 : Int32).toUInt32 &&& Int32.toUInt32 31)).toInt32) &&& (1431655765 : Int32))) &&& (858993459 : Int32)) + ((((x0 - (((x0.toUInt32 >>> ((1 : Int32).toUInt32 &&& Int32.toUInt32 31)).toInt32) &&& (1431655765 : Int32))).toUInt32 >>> ((2 : Int32).toUInt32 &&& Int32.toUInt32 31)).toInt32) &&& (858993459 : Int32))).toUInt32 >>> ((4 : Int32).toUInt32 &&& Int32.toUInt32 31)).toInt32)) &&& (252645135 : Int32)).toUInt32 >>> ((8 : Int32).toUInt32 &&& Int32.toUInt32 31)).toInt32)).toUInt32 >>> ((16 : Int32).toUInt32 &&& Int32.toUInt32 31)).toInt32)))]) hx hb d_J_bitCount_47 rfl hl (by decide) rfl (fun ls hl => ?_)
  refine lv_iload_n hx hb d_J_bitCount_48 rfl (lv_at hl 0 rfl) ?_
  refine lv_bipush (v := (63 : Int32)) hx hb d_J_bitCount_49 (by decide) ?_
  refine lv_iand hx hb d_J_bitCount_51 ?_
  cases hf
  exact g_iret hC rfl hP hS d_J_bitCount_52
set_option maxHeartbeats 4000000 in
set_option maxRecDepth 100000 in
theorem c_X_mark {l : Launch} {D : va_G} {K : Nat → ClassId} {ad : Nat → Nat} (hj : inj ad)   {x1 : Int32} {x2 : Int32} {σ : GS} {z0 : Int32 × GS} (hf : F_X_mark x1 x2 σ = some z0) : CT l D K ad y_X_mark b_X_mark 3 (some .int) 6 [.ref (ad 0), .int x1, .int x2] σ (QI D K ad z0.1 z0.2) := by
  refine CT.intro hj (by decide) (Nat.le_of_ble_eq_true rfl) ?_
  intro p e s m args below meth c ls hC hP hS hl
  obtain ⟨hx, hb, -, hown, hts, -⟩ := id hC
  have hl : lv_has ls 3 [(0, .ref (ad 0)), (1, .int x1), (2, .int x2)] := hl
  rw [F_X_mark] at hf
  refine lv_aload_n hx hb d_X_mark_0 rfl (lv_at hl 0 rfl) ?_
  refine lv_iload_n hx hb d_X_mark_1 rfl (lv_at hl 1 rfl) ?_
  obtain ⟨r2, hk1, hf⟩ := bp_some hf
  refine g_calli hS (g_runV (As := [.int x1]) (rest := []) hC hP (c_X_isWalker hj  hk1) (rk (by decide) (by decide)) nm_X_isWalker cd_X_isWalker it_WideTown ml_X_161 im_X_isWalker sl_X_isWalker o_0 co_X rfl hl.1 rfl (Nat.le_of_ble_eq_true rfl) d_X_mark_2 zz) (fun H locs hP hS => ?_)
  refine lv_if_eq (tgt := 17) hx hb d_X_mark_5 (by decide) (fun hc30 => ?_) (fun hc30 => ?_)
  · rw [if_pos hc30] at hf
    refine lv_iconst (v := (-1 : Int32)) hx hb d_X_mark_17 (by decide) ?_
    cases hf
    exact g_iret hC rfl hP hS d_X_mark_18
  · rw [if_neg hc30] at hf
    refine lv_iload_n hx hb d_X_mark_8 rfl (lv_at hl 2 rfl) ?_
    refine lv_if_le (tgt := 17) hx hb d_X_mark_9 (by decide) (fun hc29 => ?_) (fun hc29 => ?_)
    · rw [if_pos hc29] at hf
      refine lv_iconst (v := (-1 : Int32)) hx hb d_X_mark_17 (by decide) ?_
      cases hf
      exact g_iret hC rfl hP hS d_X_mark_18
    · rw [if_neg hc29] at hf
      refine lv_iload_n hx hb d_X_mark_12 rfl (lv_at hl 2 rfl) ?_
      refine lv_iconst (v := (5 : Int32)) hx hb d_X_mark_13 (by decide) ?_
      refine lv_icmp_le (tgt := 19) hx hb d_X_mark_14 (by decide) (fun hc28 => ?_) (fun hc28 => ?_)
      · rw [if_pos hc28] at hf
        refine lv_aload_n hx hb d_X_mark_19 rfl (lv_at hl 0 rfl) ?_
        refine g_get (v := .ref (ad 19)) hC hP o_0 co_X 5 (by decide) rfl fl_X_36 rfl d_X_mark_20 ?_
        refine lv_iload_n hx hb d_X_mark_23 rfl (lv_at hl 1 rfl) ?_
        refine lv_aload_n hx hb d_X_mark_24 rfl (lv_at hl 0 rfl) ?_
        refine g_get (v := .ref (ad 34)) hC hP o_0 co_X 8 (by decide) rfl fl_X_54 rfl d_X_mark_25 ?_
        obtain ⟨σ4, hk3, hf⟩ := bv_some hf
        refine g_callv hS (g_runV (As := [.int x1, .ref (ad 34)]) (rest := []) hC hP (c_Tn_load hj o_34 hk3) (rk (by decide) (by decide)) nm_Tn_load cd_Tn_load it_WideTown_Town ml_X_167 im_Tn_load sl_Tn_load o_19 co_Tn rfl hl.1 rfl (Nat.le_of_ble_eq_true rfl) d_X_mark_28 zz) (fun H locs hP hS => ?_)
        refine lv_aload_n hx hb d_X_mark_31 rfl (lv_at hl 0 rfl) ?_
        refine g_get (v := .ref (ad 34)) hC hP o_0 co_X 8 (by decide) rfl fl_X_54 rfl d_X_mark_32 ?_
        refine lv_iload_n hx hb d_X_mark_35 rfl (lv_at hl 2 rfl) ?_
        obtain ⟨r6, hk5, hf⟩ := bp_some hf
        refine g_calli hS (g_runV (As := [.int x2]) (rest := []) hC hP (c_Wk_is hj o_34 hk5) (rk (by decide) (by decide)) nm_Wk_is cd_Wk_is it_WideTown_Walker ml_X_171 im_Wk_is sl_Wk_is o_34 co_Wk rfl hl.1 rfl (Nat.le_of_ble_eq_true rfl) d_X_mark_36 zz) (fun H locs hP hS => ?_)
        refine lv_if_ne (tgt := 48) hx hb d_X_mark_39 (by decide) (fun hc27 => ?_) (fun hc27 => ?_)
        · rw [if_neg hc27] at hf
          refine lv_iload_n hx hb d_X_mark_48 rfl (lv_at hl 2 rfl) ?_
          by_cases h_s0 : x2 = 1
          · rw [if_pos h_s0] at hf
            refine lv_tableIn (off := 31) (tgt := 80) hx hb d_X_mark_49 (by rw [h_s0]; decide) (by rw [h_s0]; decide) (by rw [h_s0]; decide) (by decide) ?_
            refine lv_aload_n hx hb d_X_mark_80 rfl (lv_at hl 0 rfl) ?_
            refine g_get (v := .ref (ad 34)) hC hP o_0 co_X 8 (by decide) rfl fl_X_54 rfl d_X_mark_81 ?_
            obtain ⟨σ8, hk7, hf⟩ := bv_some hf
            refine g_callv hS (g_runV (As := []) (rest := []) hC hP (c_Wk_turn hj o_34 hk7) (rk (by decide) (by decide)) nm_Wk_turn cd_Wk_turn it_WideTown_Walker ml_X_174 im_Wk_turn sl_Wk_turn o_34 co_Wk rfl hl.1 rfl (Nat.le_of_ble_eq_true rfl) d_X_mark_84 zz) (fun H locs hP hS => ?_)
            refine lv_aload_n hx hb d_X_mark_87 rfl (lv_at hl 0 rfl) ?_
            refine g_get (v := .ref (ad 34)) hC hP o_0 co_X 8 (by decide) rfl fl_X_54 rfl d_X_mark_88 ?_
            refine g_get (v := .int (σ8.1 34 2)) hC hP o_34 co_Wk 2 (by decide) rfl fl_X_177 rfl d_X_mark_91 ?_
            cases hf
            exact g_iret hC rfl hP hS d_X_mark_94
          · rw [if_neg h_s0] at hf
            by_cases h_s1 : x2 = 2
            · rw [if_pos h_s1] at hf
              refine lv_tableIn (off := 46) (tgt := 95) hx hb d_X_mark_49 (by rw [h_s1]; decide) (by rw [h_s1]; decide) (by rw [h_s1]; decide) (by decide) ?_
              refine lv_aload_n hx hb d_X_mark_95 rfl (lv_at hl 0 rfl) ?_
              refine lv_aload_n hx hb d_X_mark_96 rfl (lv_at hl 0 rfl) ?_
              refine g_get (v := .ref (ad 34)) hC hP o_0 co_X 8 (by decide) rfl fl_X_54 rfl d_X_mark_97 ?_
              obtain ⟨r10, σ11, hk9, hf⟩ := bc_some hf
              refine g_calli hS (g_runV (As := [.ref (ad 34)]) (rest := []) hC hP (c_X_driftOf hj  hk9) (rk (by decide) (by decide)) nm_X_driftOf cd_X_driftOf it_WideTown ml_X_180 im_X_driftOf sl_X_driftOf o_0 co_X rfl hl.1 rfl (Nat.le_of_ble_eq_true rfl) d_X_mark_100 zz) (fun H locs hP hS => ?_)
              cases hf
              exact g_iret hC rfl hP hS d_X_mark_103
            · rw [if_neg h_s1] at hf
              by_cases h_s2 : x2 = 3
              · rw [if_pos h_s2] at hf
                refine lv_tableIn (off := 55) (tgt := 104) hx hb d_X_mark_49 (by rw [h_s2]; decide) (by rw [h_s2]; decide) (by rw [h_s2]; decide) (by decide) ?_
                refine lv_aload_n hx hb d_X_mark_104 rfl (lv_at hl 0 rfl) ?_
                refine g_get (v := .ref (ad 32)) hC hP o_0 co_X 7 (by decide) rfl fl_X_47 rfl d_X_mark_105 ?_
                refine lv_aload_n hx hb d_X_mark_108 rfl (lv_at hl 0 rfl) ?_
                refine g_get (v := .ref (ad 34)) hC hP o_0 co_X 8 (by decide) rfl fl_X_54 rfl d_X_mark_109 ?_
                refine g_get (v := .int (σ4.1 34 1)) hC hP o_34 co_Wk 1 (by decide) rfl fl_X_184 rfl d_X_mark_112 ?_
                obtain ⟨σ13, hk12, hf⟩ := bv_some hf
                refine g_callv hS (g_runV (As := [.int (σ4.1 34 1)]) (rest := []) hC hP (c_Wd_becomes hj ⟨o_32, a_33⟩ hk12) (rk (by decide) (by decide)) nm_Wd_becomes cd_Wd_becomes it_WideTown_Word ml_X_187 im_Wd_becomes sl_Wd_becomes o_32 co_Wd rfl hl.1 rfl (Nat.le_of_ble_eq_true rfl) d_X_mark_115 zz) (fun H locs hP hS => ?_)
                refine lv_aload_n hx hb d_X_mark_118 rfl (lv_at hl 0 rfl) ?_
                refine g_get (v := .ref (ad 32)) hC hP o_0 co_X 7 (by decide) rfl fl_X_47 rfl d_X_mark_119 ?_
                obtain ⟨r15, hk14, hf⟩ := bp_some hf
                refine g_calli hS (g_runV (As := []) (rest := []) hC hP (c_Wd_lastStreets hj ⟨o_32, a_33⟩ hk14) (rk (by decide) (by decide)) nm_Wd_lastStreets cd_Wd_lastStreets it_WideTown_Word ml_X_191 im_Wd_lastStreets sl_Wd_lastStreets o_32 co_Wd rfl hl.1 rfl (Nat.le_of_ble_eq_true rfl) d_X_mark_122 zz) (fun H locs hP hS => ?_)
                obtain ⟨r17, hk16, hf⟩ := bp_some hf
                refine g_calli hS (g_runS (As := [.int r15]) (rest := []) hC hP (c_J_bitCount hj  hk16) (rk (by decide) (by decide)) nm_J_bitCount cd_J_bitCount it_java_lang_Integer ml_X_195 sc_J_bitCount rfl hl.1 rfl (Nat.le_of_ble_eq_true rfl) d_X_mark_125 zz) (fun H locs hP hS => ?_)
                cases hf
                exact g_iret hC rfl hP hS d_X_mark_128
              · rw [if_neg h_s2] at hf
                by_cases h_s3 : x2 = 4
                · rw [if_pos h_s3] at hf
                  refine lv_tableIn (off := 80) (tgt := 129) hx hb d_X_mark_49 (by rw [h_s3]; decide) (by rw [h_s3]; decide) (by rw [h_s3]; decide) (by decide) ?_
                  refine lv_aload_n hx hb d_X_mark_129 rfl (lv_at hl 0 rfl) ?_
                  refine g_get (v := .ref (ad 34)) hC hP o_0 co_X 8 (by decide) rfl fl_X_54 rfl d_X_mark_130 ?_
                  refine lv_aload_n hx hb d_X_mark_133 rfl (lv_at hl 0 rfl) ?_
                  refine g_get (v := .ref (ad 32)) hC hP o_0 co_X 7 (by decide) rfl fl_X_47 rfl d_X_mark_134 ?_
                  obtain ⟨σ19, hk18, hf⟩ := bv_some hf
                  refine g_callv hS (g_runV (As := [.ref (ad 32)]) (rest := []) hC hP (c_Wk_passHour hj o_34 hk18) (rk (by decide) (by decide)) nm_Wk_passHour cd_Wk_passHour it_WideTown_Walker ml_X_200 im_Wk_passHour sl_Wk_passHour o_34 co_Wk rfl hl.1 rfl (Nat.le_of_ble_eq_true rfl) d_X_mark_137 zz) (fun H locs hP hS => ?_)
                  refine lv_aload_n hx hb d_X_mark_140 rfl (lv_at hl 0 rfl) ?_
                  refine g_get (v := .ref (ad 32)) hC hP o_0 co_X 7 (by decide) rfl fl_X_47 rfl d_X_mark_141 ?_
                  refine lv_aload_n hx hb d_X_mark_144 rfl (lv_at hl 0 rfl) ?_
                  refine g_get (v := .ref (ad 34)) hC hP o_0 co_X 8 (by decide) rfl fl_X_54 rfl d_X_mark_145 ?_
                  refine g_get (v := .int (σ19.1 34 1)) hC hP o_34 co_Wk 1 (by decide) rfl fl_X_184 rfl d_X_mark_148 ?_
                  obtain ⟨σ21, hk20, hf⟩ := bv_some hf
                  refine g_callv hS (g_runV (As := [.int (σ19.1 34 1)]) (rest := []) hC hP (c_Wd_becomes hj ⟨o_32, a_33⟩ hk20) (rk (by decide) (by decide)) nm_Wd_becomes cd_Wd_becomes it_WideTown_Word ml_X_187 im_Wd_becomes sl_Wd_becomes o_32 co_Wd rfl hl.1 rfl (Nat.le_of_ble_eq_true rfl) d_X_mark_151 zz) (fun H locs hP hS => ?_)
                  refine lv_aload_n hx hb d_X_mark_154 rfl (lv_at hl 0 rfl) ?_
                  refine g_get (v := .ref (ad 32)) hC hP o_0 co_X 7 (by decide) rfl fl_X_47 rfl d_X_mark_155 ?_
                  refine g_get (v := .int (σ21.1 32 1)) hC hP o_32 co_Wd 1 (by decide) rfl fl_X_204 rfl d_X_mark_158 ?_
                  cases hf
                  exact g_iret hC rfl hP hS d_X_mark_161
                · rw [if_neg h_s3] at hf
                  refine lv_tableOut (tgt := 162) hx hb d_X_mark_49 (sw_out 1 4 (by intro k h1 h2; rcases (show k = 1 ∨ k = 2 ∨ k = 3 ∨ k = 4 by omega) with rfl | rfl | rfl | rfl <;> first | exact lv_neT h_s0 (by decide) | exact lv_neT h_s1 (by decide) | exact lv_neT h_s2 (by decide) | exact lv_neT h_s3 (by decide))) (by decide) ?_
                  refine lv_aload_n hx hb d_X_mark_162 rfl (lv_at hl 0 rfl) ?_
                  refine g_get (v := .ref (ad 19)) hC hP o_0 co_X 5 (by decide) rfl fl_X_36 rfl d_X_mark_163 ?_
                  refine lv_iload_n hx hb d_X_mark_166 rfl (lv_at hl 1 rfl) ?_
                  obtain ⟨r23, hk22, hf⟩ := bp_some hf
                  refine g_calli hS (g_runV (As := [.int x1]) (rest := []) hC hP (c_Tn_othersAt hj  hk22) (rk (by decide) (by decide)) nm_Tn_othersAt cd_Tn_othersAt it_WideTown_Town ml_X_205 im_Tn_othersAt sl_Tn_othersAt o_19 co_Tn rfl hl.1 rfl (Nat.le_of_ble_eq_true rfl) d_X_mark_167 zz) (fun H locs hP hS => ?_)
                  cases hf
                  exact g_iret hC rfl hP hS d_X_mark_170
        · rw [if_pos hc27] at hf
          refine lv_aload_n hx hb d_X_mark_42 rfl (lv_at hl 0 rfl) ?_
          refine lv_iconst (v := (3 : Int32)) hx hb d_X_mark_43 (by decide) ?_
          obtain ⟨r25, σ26, hk24, hf⟩ := bc_some hf
          refine g_calli hS (g_runV (As := [.int (3 : Int32)]) (rest := []) hC hP (c_X_found hj  hk24) (rk (by decide) (by decide)) nm_X_found cd_X_found it_WideTown ml_X_116 im_X_found sl_X_found o_0 co_X rfl hl.1 rfl (Nat.le_of_ble_eq_true rfl) d_X_mark_44 zz) (fun H locs hP hS => ?_)
          cases hf
          exact g_iret hC rfl hP hS d_X_mark_47
      · rw [if_neg hc28] at hf
        refine lv_iconst (v := (-1 : Int32)) hx hb d_X_mark_17 (by decide) ?_
        cases hf
        exact g_iret hC rfl hP hS d_X_mark_18
set_option maxHeartbeats 4000000 in
set_option maxRecDepth 100000 in
theorem c_X_isCode {l : Launch} {D : va_G} {K : Nat → ClassId} {ad : Nat → Nat} (hj : inj ad)   {x0 : Int32} {σ : GS} {z0 : Int32} (hf : F_X_isCode x0 = some z0) : CT l D K ad y_X_isCode b_X_isCode 2 (some .boolean) 1 [.int x0] σ (QI D K ad z0 σ) := by
  refine CT.intro hj (by decide) (Nat.le_of_ble_eq_true rfl) ?_
  intro p e s m args below meth c ls hC hP hS hl
  obtain ⟨hx, hb, -, hown, hts, -⟩ := id hC
  have hl : lv_has ls 2 [(0, .int x0)] := hl
  rw [F_X_isCode] at hf
  refine lv_iload_n hx hb d_X_isCode_0 rfl (lv_at hl 0 rfl) ?_
  refine lv_if_lt (tgt := 11) hx hb d_X_isCode_1 (by decide) (fun hc7 => ?_) (fun hc7 => ?_)
  · rw [if_pos hc7] at hf
    refine lv_iconst (v := (0 : Int32)) hx hb d_X_isCode_11 (by decide) ?_
    cases hf
    exact g_zret hC rfl (by decide) hP hS d_X_isCode_12
  · rw [if_neg hc7] at hf
    refine lv_iload_n hx hb d_X_isCode_4 rfl (lv_at hl 0 rfl) ?_
    refine lv_ldcw hx hb hown (hts _ cn_X_363) d_X_isCode_5 ?_
    refine lv_icmp_le (tgt := 13) hx hb d_X_isCode_8 (by decide) (fun hc6 => ?_) (fun hc6 => ?_)
    · rw [if_pos hc6] at hf
      refine lv_iload_n hx hb d_X_isCode_13 rfl (lv_at hl 0 rfl) ?_
      refine lv_istore_n (lv' := [(1, .int x0), (0, .int x0)]) hx hb d_X_isCode_14 rfl hl (by decide) rfl (fun ls hl => ?_)
      obtain ⟨KL1_41, eKL1_41, hf⟩ := jn_some hf
      have hKL1_41 : ∀ (v1_1 : Int32) (H : Heap) (locs : List Loc) (ls : Array Slot), va_P D vwCl (wG K ad σ) H → va_S (GA ad) s.heap H locs → lv_has ls 2 [] → KL1_41 v1_1 = some z0 → W p l e (rmd 1) s m args below meth c H locs 0 0 (MQ below (QI D K ad z0 σ) args s 0 0 (GA ad)) (F0 m 41 ls []) := by
        clear hf
        intro v1_1 H locs ls hP hS hl hf
        rw [eKL1_41] at hf
        try dsimp only at hf
        refine lv_iconst (v := (1 : Int32)) hx hb d_X_isCode_41 (by decide) ?_
        cases hf
        exact g_zret hC rfl (by decide) hP hS d_X_isCode_42
      clear eKL1_41
      have hL1 : ∀ (n : Nat) (v1_1 : Int32) (H : Heap) (locs : List Loc) (ls : Array Slot), va_P D vwCl (wG K ad σ) H → va_S (GA ad) s.heap H locs → lv_has ls 2 [(1, .int v1_1)] → F_X_isCode_15 KL1_41 n v1_1 = some z0 → W p l e (rmd 1) s m args below meth c H locs 0 0 (MQ below (QI D K ad z0 σ) args s 0 0 (GA ad)) (F0 m 15 ls []) := by
        clear hf
        intro n
        induction n with
        | zero =>
          intro v1_1 H locs ls hP hS hl hf
          rw [F_X_isCode_15.eq_1] at hf
          cases hf
        | succ n ih =>
          intro v1_1 H locs ls hP hS hl hf
          rw [F_X_isCode_15.eq_2] at hf
          refine lv_iload_n hx hb d_X_isCode_15 rfl (lv_at hl 0 rfl) ?_
          refine lv_if_le (tgt := 41) hx hb d_X_isCode_16 (by decide) (fun hc5 => ?_) (fun hc5 => ?_)
          · rw [if_pos hc5] at hf
            exact hKL1_41 _ _ _ _ hP hS (lv_sub hl [] rfl) hf
          · rw [if_neg hc5] at hf
            refine lv_iload_n hx hb d_X_isCode_19 rfl (lv_at hl 0 rfl) ?_
            refine lv_bipush (v := (10 : Int32)) hx hb d_X_isCode_20 (by decide) ?_
            refine lv_irem hx hb d_X_isCode_22 (by decide) ?_
            refine lv_iconst (v := (1 : Int32)) hx hb d_X_isCode_23 (by decide) ?_
            refine lv_isub hx hb d_X_isCode_24 ?_
            obtain ⟨r3, hk2, hf⟩ := bp_some hf
            refine g_calli hS (g_runS (As := [.int ((v1_1 - v1_1 / (10 : Int32) * (10 : Int32)) - (1 : Int32))]) (rest := []) hC hP (c_X_isStreet hj  hk2) (rk (by decide) (by decide)) nm_X_isStreet cd_X_isStreet it_WideTown ml_X_217 sc_X_isStreet rfl hl.1 rfl (Nat.le_of_ble_eq_true rfl) d_X_isCode_25 zz) (fun H locs hP hS => ?_)
            refine lv_if_ne (tgt := 33) hx hb d_X_isCode_28 (by decide) (fun hc4 => ?_) (fun hc4 => ?_)
            · rw [if_neg hc4] at hf
              refine lv_iload_n hx hb d_X_isCode_33 rfl (lv_at hl 0 rfl) ?_
              refine lv_bipush (v := (10 : Int32)) hx hb d_X_isCode_34 (by decide) ?_
              refine lv_idiv hx hb d_X_isCode_36 (by decide) ?_
              refine lv_istore_n (lv' := [(1, .int (v1_1 / (10 : Int32)))]) hx hb d_X_isCode_37 rfl hl (by decide) rfl (fun ls hl => ?_)
              refine lv_goto (tgt := 15) hx hb d_X_isCode_38 (by decide) ?_
              exact ih _ _ _ _ hP hS (lv_sub hl [0] rfl) hf
            · rw [if_pos hc4] at hf
              refine lv_iconst (v := (0 : Int32)) hx hb d_X_isCode_31 (by decide) ?_
              cases hf
              exact g_zret hC rfl (by decide) hP hS d_X_isCode_32
      exact hL1 _ _ _ _ _ hP hS (lv_sub hl [0] rfl) hf
    · rw [if_neg hc6] at hf
      refine lv_iconst (v := (0 : Int32)) hx hb d_X_isCode_11 (by decide) ?_
      cases hf
      exact g_zret hC rfl (by decide) hP hS d_X_isCode_12
set_option maxHeartbeats 4000000 in
set_option maxRecDepth 100000 in
theorem c_X_plainOf {l : Launch} {D : va_G} {K : Nat → ClassId} {ad : Nat → Nat} (hj : inj ad)   {x1 : Int32} {σ : GS} {z0 : Int32 × GS} (hf : F_X_plainOf x1 σ = some z0) : CT l D K ad y_X_plainOf b_X_plainOf 2 (some .int) 4 [.ref (ad 0), .int x1] σ (QI D K ad z0.1 z0.2) := by
  refine CT.intro hj (by decide) (Nat.le_of_ble_eq_true rfl) ?_
  intro p e s m args below meth c ls hC hP hS hl
  obtain ⟨hx, hb, -, hown, hts, -⟩ := id hC
  have hl : lv_has ls 2 [(0, .ref (ad 0)), (1, .int x1)] := hl
  rw [F_X_plainOf] at hf
  refine lv_aload_n hx hb d_X_plainOf_0 rfl (lv_at hl 0 rfl) ?_
  refine g_get (v := .ref (ad 32)) hC hP o_0 co_X 7 (by decide) rfl fl_X_47 rfl d_X_plainOf_1 ?_
  refine lv_iload_n hx hb d_X_plainOf_4 rfl (lv_at hl 1 rfl) ?_
  obtain ⟨σ2, hk1, hf⟩ := bv_some hf
  refine g_callv hS (g_runV (As := [.int x1]) (rest := []) hC hP (c_Wd_becomes hj ⟨o_32, a_33⟩ hk1) (rk (by decide) (by decide)) nm_Wd_becomes cd_Wd_becomes it_WideTown_Word ml_X_187 im_Wd_becomes sl_Wd_becomes o_32 co_Wd rfl hl.1 rfl (Nat.le_of_ble_eq_true rfl) d_X_plainOf_5 zz) (fun H locs hP hS => ?_)
  refine lv_aload_n hx hb d_X_plainOf_8 rfl (lv_at hl 0 rfl) ?_
  refine g_get (v := .ref (ad 32)) hC hP o_0 co_X 7 (by decide) rfl fl_X_47 rfl d_X_plainOf_9 ?_
  obtain ⟨r4, hk3, hf⟩ := bp_some hf
  refine g_calli hS (g_runV (As := []) (rest := []) hC hP (c_Wd_code hj ⟨o_32, a_33⟩ hk3) (rk (by decide) (by decide)) nm_Wd_code cd_Wd_code it_WideTown_Word ml_X_238 im_Wd_code sl_Wd_code o_32 co_Wd rfl hl.1 rfl (Nat.le_of_ble_eq_true rfl) d_X_plainOf_12 zz) (fun H locs hP hS => ?_)
  cases hf
  exact g_iret hC rfl hP hS d_X_plainOf_15
set_option maxHeartbeats 4000000 in
set_option maxRecDepth 100000 in
theorem c_X_stand {l : Launch} {D : va_G} {K : Nat → ClassId} {ad : Nat → Nat} (hj : inj ad)   {x1 : Int32} {x2 : Int32} {σ : GS} {z0 : Int32 × GS} (hf : F_X_stand x1 x2 σ = some z0) : CT l D K ad y_X_stand b_X_stand 4 (some .int) 5 [.ref (ad 0), .int x1, .int x2] σ (QI D K ad z0.1 z0.2) := by
  refine CT.intro hj (by decide) (Nat.le_of_ble_eq_true rfl) ?_
  intro p e s m args below meth c ls hC hP hS hl
  obtain ⟨hx, hb, -, hown, hts, -⟩ := id hC
  have hl : lv_has ls 4 [(0, .ref (ad 0)), (1, .int x1), (2, .int x2)] := hl
  rw [F_X_stand] at hf
  refine lv_aload_n hx hb d_X_stand_0 rfl (lv_at hl 0 rfl) ?_
  refine lv_iload_n hx hb d_X_stand_1 rfl (lv_at hl 1 rfl) ?_
  obtain ⟨r2, hk1, hf⟩ := bp_some hf
  refine g_calli hS (g_runV (As := [.int x1]) (rest := []) hC hP (c_X_isWalker hj  hk1) (rk (by decide) (by decide)) nm_X_isWalker cd_X_isWalker it_WideTown ml_X_161 im_X_isWalker sl_X_isWalker o_0 co_X rfl hl.1 rfl (Nat.le_of_ble_eq_true rfl) d_X_stand_2 zz) (fun H locs hP hS => ?_)
  refine lv_if_eq (tgt := 15) hx hb d_X_stand_5 (by decide) (fun hc14 => ?_) (fun hc14 => ?_)
  · rw [if_pos hc14] at hf
    refine lv_iconst (v := (-1 : Int32)) hx hb d_X_stand_15 (by decide) ?_
    cases hf
    exact g_iret hC rfl hP hS d_X_stand_16
  · rw [if_neg hc14] at hf
    refine lv_iload_n hx hb d_X_stand_8 rfl (lv_at hl 2 rfl) ?_
    obtain ⟨r4, hk3, hf⟩ := bp_some hf
    refine g_calli hS (g_runS (As := [.int x2]) (rest := []) hC hP (c_X_isCode hj  hk3) (rk (by decide) (by decide)) nm_X_isCode cd_X_isCode it_WideTown ml_X_208 sc_X_isCode rfl hl.1 rfl (Nat.le_of_ble_eq_true rfl) d_X_stand_9 zz) (fun H locs hP hS => ?_)
    refine lv_if_ne (tgt := 17) hx hb d_X_stand_12 (by decide) (fun hc13 => ?_) (fun hc13 => ?_)
    · rw [if_neg hc13] at hf
      refine lv_aload_n hx hb d_X_stand_17 rfl (lv_at hl 0 rfl) ?_
      refine g_get (v := .ref (ad 19)) hC hP o_0 co_X 5 (by decide) rfl fl_X_36 rfl d_X_stand_18 ?_
      refine lv_iload_n hx hb d_X_stand_21 rfl (lv_at hl 1 rfl) ?_
      refine lv_aload_n hx hb d_X_stand_22 rfl (lv_at hl 0 rfl) ?_
      refine g_get (v := .ref (ad 34)) hC hP o_0 co_X 8 (by decide) rfl fl_X_54 rfl d_X_stand_23 ?_
      obtain ⟨σ6, hk5, hf⟩ := bv_some hf
      refine g_callv hS (g_runV (As := [.int x1, .ref (ad 34)]) (rest := []) hC hP (c_Tn_load hj o_34 hk5) (rk (by decide) (by decide)) nm_Tn_load cd_Tn_load it_WideTown_Town ml_X_167 im_Tn_load sl_Tn_load o_19 co_Tn rfl hl.1 rfl (Nat.le_of_ble_eq_true rfl) d_X_stand_26 zz) (fun H locs hP hS => ?_)
      refine lv_aload_n hx hb d_X_stand_29 rfl (lv_at hl 0 rfl) ?_
      refine g_get (v := .ref (ad 34)) hC hP o_0 co_X 8 (by decide) rfl fl_X_54 rfl d_X_stand_30 ?_
      refine g_get (v := .int (σ6.1 34 1)) hC hP o_34 co_Wk 1 (by decide) rfl fl_X_184 rfl d_X_stand_33 ?_
      refine lv_istore_n (lv' := [(3, .int (σ6.1 34 1)), (0, .ref (ad 0)), (1, .int x1), (2, .int x2)]) hx hb d_X_stand_36 rfl hl (by decide) rfl (fun ls hl => ?_)
      refine lv_aload_n hx hb d_X_stand_37 rfl (lv_at hl 1 rfl) ?_
      refine g_get (v := .ref (ad 34)) hC hP o_0 co_X 8 (by decide) rfl fl_X_54 rfl d_X_stand_38 ?_
      refine lv_aload_n hx hb d_X_stand_41 rfl (lv_at hl 1 rfl) ?_
      refine lv_iload_n hx hb d_X_stand_42 rfl (lv_at hl 3 rfl) ?_
      obtain ⟨r8, σ9, hk7, hf⟩ := bc_some hf
      refine g_calli hS (g_runV (As := [.int x2]) (rest := [.ref (ad 34)]) hC hP (c_X_plainOf hj  hk7) (rk (by decide) (by decide)) nm_X_plainOf cd_X_plainOf it_WideTown ml_X_211 im_X_plainOf sl_X_plainOf o_0 co_X rfl hl.1 rfl (Nat.le_of_ble_eq_true rfl) d_X_stand_43 zz) (fun H locs hP hS => ?_)
      obtain ⟨σ10, eσ10, hf⟩ := jn_some hf
      refine g_puti hC hP hS o_34 co_Wk 1 (by decide) rfl fl_X_184 rfl (to_Wk 1 (by decide)) (Nat.le_of_ble_eq_true rfl) rfl d_X_stand_46 (fun H locs hP hS => ?_)
      rw [← eσ10] at hP
      refine lv_aload_n hx hb d_X_stand_49 rfl (lv_at hl 1 rfl) ?_
      refine g_get (v := .ref (ad 19)) hC hP o_0 co_X 5 (by decide) rfl fl_X_36 rfl d_X_stand_50 ?_
      refine lv_iload_n hx hb d_X_stand_53 rfl (lv_at hl 2 rfl) ?_
      refine lv_aload_n hx hb d_X_stand_54 rfl (lv_at hl 1 rfl) ?_
      refine g_get (v := .ref (ad 34)) hC hP o_0 co_X 8 (by decide) rfl fl_X_54 rfl d_X_stand_55 ?_
      obtain ⟨σ12, hk11, hf⟩ := bv_some hf
      refine g_callv hS (g_runV (As := [.int x1, .ref (ad 34)]) (rest := []) hC hP (c_Tn_store hj o_34 hk11) (rk (by decide) (by decide)) nm_Tn_store cd_Tn_store it_WideTown_Town ml_X_214 im_Tn_store sl_Tn_store o_19 co_Tn rfl hl.1 rfl (Nat.le_of_ble_eq_true rfl) d_X_stand_58 zz) (fun H locs hP hS => ?_)
      refine lv_iload_n hx hb d_X_stand_61 rfl (lv_at hl 0 rfl) ?_
      cases hf
      exact g_iret hC rfl hP hS d_X_stand_62
    · rw [if_pos hc13] at hf
      refine lv_iconst (v := (-1 : Int32)) hx hb d_X_stand_15 (by decide) ?_
      cases hf
      exact g_iret hC rfl hP hS d_X_stand_16
set_option maxHeartbeats 4000000 in
set_option maxRecDepth 100000 in
theorem c_X_head {l : Launch} {D : va_G} {K : Nat → ClassId} {ad : Nat → Nat} (hj : inj ad)   {x1 : Int32} {x2 : Int32} {σ : GS} {z0 : Int32 × GS} (hf : F_X_head x1 x2 σ = some z0) : CT l D K ad y_X_head b_X_head 4 (some .int) 1 [.ref (ad 0), .int x1, .int x2] σ (QI D K ad z0.1 z0.2) := by
  refine CT.intro hj (by decide) (Nat.le_of_ble_eq_true rfl) ?_
  intro p e s m args below meth c ls hC hP hS hl
  obtain ⟨hx, hb, -, hown, hts, -⟩ := id hC
  have hl : lv_has ls 4 [(0, .ref (ad 0)), (1, .int x1), (2, .int x2)] := hl
  rw [F_X_head] at hf
  refine lv_aload_n hx hb d_X_head_0 rfl (lv_at hl 0 rfl) ?_
  refine lv_iload_n hx hb d_X_head_1 rfl (lv_at hl 1 rfl) ?_
  obtain ⟨r2, hk1, hf⟩ := bp_some hf
  refine g_calli hS (g_runV (As := [.int x1]) (rest := []) hC hP (c_X_isWalker hj  hk1) (rk (by decide) (by decide)) nm_X_isWalker cd_X_isWalker it_WideTown ml_X_161 im_X_isWalker sl_X_isWalker o_0 co_X rfl hl.1 rfl (Nat.le_of_ble_eq_true rfl) d_X_head_2 zz) (fun H locs hP hS => ?_)
  refine lv_if_eq (tgt := 15) hx hb d_X_head_5 (by decide) (fun hc12 => ?_) (fun hc12 => ?_)
  · rw [if_pos hc12] at hf
    refine lv_iconst (v := (-1 : Int32)) hx hb d_X_head_15 (by decide) ?_
    cases hf
    exact g_iret hC rfl hP hS d_X_head_16
  · rw [if_neg hc12] at hf
    refine lv_iload_n hx hb d_X_head_8 rfl (lv_at hl 2 rfl) ?_
    obtain ⟨r4, hk3, hf⟩ := bp_some hf
    refine g_calli hS (g_runS (As := [.int x2]) (rest := []) hC hP (c_X_isStreet hj  hk3) (rk (by decide) (by decide)) nm_X_isStreet cd_X_isStreet it_WideTown ml_X_217 sc_X_isStreet rfl hl.1 rfl (Nat.le_of_ble_eq_true rfl) d_X_head_9 zz) (fun H locs hP hS => ?_)
    refine lv_if_ne (tgt := 17) hx hb d_X_head_12 (by decide) (fun hc11 => ?_) (fun hc11 => ?_)
    · rw [if_neg hc11] at hf
      refine lv_aload_n hx hb d_X_head_17 rfl (lv_at hl 0 rfl) ?_
      refine g_get (v := .ref (ad 19)) hC hP o_0 co_X 5 (by decide) rfl fl_X_36 rfl d_X_head_18 ?_
      refine lv_iload_n hx hb d_X_head_21 rfl (lv_at hl 1 rfl) ?_
      refine lv_aload_n hx hb d_X_head_22 rfl (lv_at hl 0 rfl) ?_
      refine g_get (v := .ref (ad 34)) hC hP o_0 co_X 8 (by decide) rfl fl_X_54 rfl d_X_head_23 ?_
      obtain ⟨σ6, hk5, hf⟩ := bv_some hf
      refine g_callv hS (g_runV (As := [.int x1, .ref (ad 34)]) (rest := []) hC hP (c_Tn_load hj o_34 hk5) (rk (by decide) (by decide)) nm_Tn_load cd_Tn_load it_WideTown_Town ml_X_167 im_Tn_load sl_Tn_load o_19 co_Tn rfl hl.1 rfl (Nat.le_of_ble_eq_true rfl) d_X_head_26 zz) (fun H locs hP hS => ?_)
      refine lv_aload_n hx hb d_X_head_29 rfl (lv_at hl 0 rfl) ?_
      refine g_get (v := .ref (ad 34)) hC hP o_0 co_X 8 (by decide) rfl fl_X_54 rfl d_X_head_30 ?_
      refine g_get (v := .int (σ6.1 34 2)) hC hP o_34 co_Wk 2 (by decide) rfl fl_X_177 rfl d_X_head_33 ?_
      refine lv_istore_n (lv' := [(3, .int (σ6.1 34 2)), (0, .ref (ad 0)), (1, .int x1), (2, .int x2)]) hx hb d_X_head_36 rfl hl (by decide) rfl (fun ls hl => ?_)
      refine lv_aload_n hx hb d_X_head_37 rfl (lv_at hl 1 rfl) ?_
      refine g_get (v := .ref (ad 34)) hC hP o_0 co_X 8 (by decide) rfl fl_X_54 rfl d_X_head_38 ?_
      refine lv_iload_n hx hb d_X_head_41 rfl (lv_at hl 3 rfl) ?_
      obtain ⟨σ7, eσ7, hf⟩ := jn_some hf
      refine g_puti hC hP hS o_34 co_Wk 2 (by decide) rfl fl_X_177 rfl (to_Wk 2 (by decide)) (Nat.le_of_ble_eq_true rfl) rfl d_X_head_42 (fun H locs hP hS => ?_)
      rw [← eσ7] at hP
      refine lv_aload_n hx hb d_X_head_45 rfl (lv_at hl 1 rfl) ?_
      refine g_get (v := .ref (ad 34)) hC hP o_0 co_X 8 (by decide) rfl fl_X_54 rfl d_X_head_46 ?_
      refine lv_iconst (v := (0 : Int32)) hx hb d_X_head_49 (by decide) ?_
      obtain ⟨σ8, eσ8, hf⟩ := jn_some hf
      refine g_puti hC hP hS o_34 co_Wk 3 (by decide) rfl fl_X_220 rfl (to_Wk 3 (by decide)) (Nat.le_of_ble_eq_true rfl) rfl d_X_head_50 (fun H locs hP hS => ?_)
      rw [← eσ8] at hP
      refine lv_aload_n hx hb d_X_head_53 rfl (lv_at hl 1 rfl) ?_
      refine g_get (v := .ref (ad 19)) hC hP o_0 co_X 5 (by decide) rfl fl_X_36 rfl d_X_head_54 ?_
      refine lv_iload_n hx hb d_X_head_57 rfl (lv_at hl 2 rfl) ?_
      refine lv_aload_n hx hb d_X_head_58 rfl (lv_at hl 1 rfl) ?_
      refine g_get (v := .ref (ad 34)) hC hP o_0 co_X 8 (by decide) rfl fl_X_54 rfl d_X_head_59 ?_
      obtain ⟨σ10, hk9, hf⟩ := bv_some hf
      refine g_callv hS (g_runV (As := [.int x1, .ref (ad 34)]) (rest := []) hC hP (c_Tn_store hj o_34 hk9) (rk (by decide) (by decide)) nm_Tn_store cd_Tn_store it_WideTown_Town ml_X_214 im_Tn_store sl_Tn_store o_19 co_Tn rfl hl.1 rfl (Nat.le_of_ble_eq_true rfl) d_X_head_62 zz) (fun H locs hP hS => ?_)
      refine lv_iload_n hx hb d_X_head_65 rfl (lv_at hl 0 rfl) ?_
      cases hf
      exact g_iret hC rfl hP hS d_X_head_66
    · rw [if_pos hc11] at hf
      refine lv_iconst (v := (-1 : Int32)) hx hb d_X_head_15 (by decide) ?_
      cases hf
      exact g_iret hC rfl hP hS d_X_head_16
set_option maxHeartbeats 4000000 in
set_option maxRecDepth 100000 in
theorem c_X_hours {l : Launch} {D : va_G} {K : Nat → ClassId} {ad : Nat → Nat} (hj : inj ad)   {x1 : Int32} {σ : GS} {z0 : Int32 × GS} (hf : F_X_hours x1 σ = some z0) : CT l D K ad y_X_hours b_X_hours 3 (some .int) 7 [.ref (ad 0), .int x1] σ (QI D K ad z0.1 z0.2) := by
  refine CT.intro hj (by decide) (Nat.le_of_ble_eq_true rfl) ?_
  intro p e s m args below meth c ls hC hP hS hl
  obtain ⟨hx, hb, -, hown, hts, -⟩ := id hC
  have hl : lv_has ls 3 [(0, .ref (ad 0)), (1, .int x1)] := hl
  rw [F_X_hours] at hf
  refine lv_iload_n hx hb d_X_hours_0 rfl (lv_at hl 1 rfl) ?_
  refine lv_if_lt (tgt := 10) hx hb d_X_hours_1 (by decide) (fun hc8 => ?_) (fun hc8 => ?_)
  · rw [if_pos hc8] at hf
    refine lv_iconst (v := (-1 : Int32)) hx hb d_X_hours_10 (by decide) ?_
    cases hf
    exact g_iret hC rfl hP hS d_X_hours_11
  · rw [if_neg hc8] at hf
    refine lv_iload_n hx hb d_X_hours_4 rfl (lv_at hl 1 rfl) ?_
    refine lv_bipush (v := (20 : Int32)) hx hb d_X_hours_5 (by decide) ?_
    refine lv_icmp_le (tgt := 12) hx hb d_X_hours_7 (by decide) (fun hc7 => ?_) (fun hc7 => ?_)
    · rw [if_pos hc7] at hf
      refine lv_aload_n hx hb d_X_hours_12 rfl (lv_at hl 0 rfl) ?_
      refine g_get (v := .ref (ad 19)) hC hP o_0 co_X 5 (by decide) rfl fl_X_36 rfl d_X_hours_13 ?_
      refine g_get (v := .int (σ.1 19 2)) hC hP o_19 co_Tn 2 (by decide) rfl fl_X_158 rfl d_X_hours_16 ?_
      refine lv_if_ne (tgt := 25) hx hb d_X_hours_19 (by decide) (fun hc6 => ?_) (fun hc6 => ?_)
      · rw [if_neg hc6] at hf
        refine lv_aload_n hx hb d_X_hours_25 rfl (lv_at hl 0 rfl) ?_
        refine g_get (v := .ref (ad 19)) hC hP o_0 co_X 5 (by decide) rfl fl_X_36 rfl d_X_hours_26 ?_
        refine g_get (v := .int (σ.1 19 3)) hC hP o_19 co_Tn 3 (by decide) rfl fl_X_223 rfl d_X_hours_29 ?_
        refine lv_iload_n hx hb d_X_hours_32 rfl (lv_at hl 1 rfl) ?_
        refine lv_iadd hx hb d_X_hours_33 ?_
        refine lv_bipush (v := (60 : Int32)) hx hb d_X_hours_34 (by decide) ?_
        refine lv_icmp_le (tgt := 42) hx hb d_X_hours_36 (by decide) (fun hc5 => ?_) (fun hc5 => ?_)
        · rw [if_pos hc5] at hf
          refine lv_iconst (v := (0 : Int32)) hx hb d_X_hours_42 (by decide) ?_
          refine lv_istore_n (lv' := [(2, .int (0 : Int32)), (0, .ref (ad 0)), (1, .int x1)]) hx hb d_X_hours_43 rfl hl (by decide) rfl (fun ls hl => ?_)
          obtain ⟨KL1_70, eKL1_70, hf⟩ := jn_some hf
          have hKL1_70 : ∀ (v2_1 : Int32) (σL1 : GS) (H : Heap) (locs : List Loc) (ls : Array Slot), va_P D vwCl (wG K ad σL1) H → va_S (GA ad) s.heap H locs → lv_has ls 3 [(0, .ref (ad 0))] → KL1_70 v2_1 σL1 = some z0 → W p l e (rmd 7) s m args below meth c H locs 0 0 (MQ below (QI D K ad z0.1 z0.2) args s 0 0 (GA ad)) (F0 m 70 ls []) := by
            clear hf
            intro v2_1 σL1 H locs ls hP hS hl hf
            rw [eKL1_70] at hf
            try dsimp only at hf
            refine lv_aload_n hx hb d_X_hours_70 rfl (lv_at hl 0 rfl) ?_
            refine g_get (v := .ref (ad 19)) hC hP o_0 co_X 5 (by decide) rfl fl_X_36 rfl d_X_hours_71 ?_
            refine g_get (v := .int (σL1.1 19 3)) hC hP o_19 co_Tn 3 (by decide) rfl fl_X_223 rfl d_X_hours_74 ?_
            cases hf
            exact g_iret hC rfl hP hS d_X_hours_77
          clear eKL1_70
          have hL1 : ∀ (n : Nat) (v2_1 : Int32) (σL1 : GS) (H : Heap) (locs : List Loc) (ls : Array Slot), va_P D vwCl (wG K ad σL1) H → va_S (GA ad) s.heap H locs → lv_has ls 3 [(0, .ref (ad 0)), (1, .int x1), (2, .int v2_1)] → F_X_hours_44 x1 KL1_70 n v2_1 σL1 = some z0 → W p l e (rmd 7) s m args below meth c H locs 0 0 (MQ below (QI D K ad z0.1 z0.2) args s 0 0 (GA ad)) (F0 m 44 ls []) := by
            clear hf
            intro n
            induction n with
            | zero =>
              intro v2_1 σL1 H locs ls hP hS hl hf
              rw [F_X_hours_44.eq_1] at hf
              cases hf
            | succ n ih =>
              intro v2_1 σL1 H locs ls hP hS hl hf
              rw [F_X_hours_44.eq_2] at hf
              refine lv_iload_n hx hb d_X_hours_44 rfl (lv_at hl 2 rfl) ?_
              refine lv_iload_n hx hb d_X_hours_45 rfl (lv_at hl 1 rfl) ?_
              refine lv_icmp_ge (tgt := 70) hx hb d_X_hours_46 (by decide) (fun hc4 => ?_) (fun hc4 => ?_)
              · rw [if_pos hc4] at hf
                exact hKL1_70 _ _ _ _ _ hP hS (lv_sub hl [0] rfl) hf
              · rw [if_neg hc4] at hf
                refine lv_aload_n hx hb d_X_hours_49 rfl (lv_at hl 0 rfl) ?_
                refine g_get (v := .ref (ad 19)) hC hP o_0 co_X 5 (by decide) rfl fl_X_36 rfl d_X_hours_50 ?_
                refine lv_aload_n hx hb d_X_hours_53 rfl (lv_at hl 0 rfl) ?_
                refine g_get (v := .ref (ad 34)) hC hP o_0 co_X 8 (by decide) rfl fl_X_54 rfl d_X_hours_54 ?_
                refine lv_aload_n hx hb d_X_hours_57 rfl (lv_at hl 0 rfl) ?_
                refine g_get (v := .ref (ad 32)) hC hP o_0 co_X 7 (by decide) rfl fl_X_47 rfl d_X_hours_58 ?_
                obtain ⟨σ3, hk2, hf⟩ := bv_some hf
                refine g_callv hS (g_runV (As := [.ref (ad 34), .ref (ad 32)]) (rest := []) hC hP (c_Tn_passHour hj  hk2) (rk (by decide) (by decide)) nm_Tn_passHour cd_Tn_passHour it_WideTown_Town ml_X_226 im_Tn_passHour sl_Tn_passHour o_19 co_Tn rfl hl.1 rfl (Nat.le_of_ble_eq_true rfl) d_X_hours_61 zz) (fun H locs hP hS => ?_)
                refine lv_iinc (v := v2_1 + 1) (lv' := [(2, .int (v2_1 + 1)), (0, .ref (ad 0)), (1, .int x1)]) hx hb d_X_hours_64 hl (k := 2) rfl rfl (by decide) rfl (fun ls hl => ?_)
                refine lv_goto (tgt := 44) hx hb d_X_hours_67 (by decide) ?_
                exact ih _ _ _ _ _ hP hS (lv_sub hl [1, 2, 0] rfl) hf
          exact hL1 _ _ _ _ _ _ hP hS (lv_sub hl [1, 2, 0] rfl) hf
        · rw [if_neg hc5] at hf
          refine lv_bipush (v := (-2 : Int32)) hx hb d_X_hours_39 (by decide) ?_
          cases hf
          exact g_iret hC rfl hP hS d_X_hours_41
      · rw [if_pos hc6] at hf
        refine lv_bipush (v := (-4 : Int32)) hx hb d_X_hours_22 (by decide) ?_
        cases hf
        exact g_iret hC rfl hP hS d_X_hours_24
    · rw [if_neg hc7] at hf
      refine lv_iconst (v := (-1 : Int32)) hx hb d_X_hours_10 (by decide) ?_
      cases hf
      exact g_iret hC rfl hP hS d_X_hours_11
set_option maxHeartbeats 4000000 in
set_option maxRecDepth 100000 in
theorem c_X_undo {l : Launch} {D : va_G} {K : Nat → ClassId} {ad : Nat → Nat} (hj : inj ad)   {x1 : Int32} {σ : GS} {z0 : Int32 × GS} (hf : F_X_undo x1 σ = some z0) : CT l D K ad y_X_undo b_X_undo 3 (some .int) 0 [.ref (ad 0), .int x1] σ (QI D K ad z0.1 z0.2) := by
  refine CT.intro hj (by decide) (Nat.le_of_ble_eq_true rfl) ?_
  intro p e s m args below meth c ls hC hP hS hl
  obtain ⟨hx, hb, -, hown, hts, -⟩ := id hC
  have hl : lv_has ls 3 [(0, .ref (ad 0)), (1, .int x1)] := hl
  rw [F_X_undo] at hf
  refine lv_iload_n hx hb d_X_undo_0 rfl (lv_at hl 1 rfl) ?_
  refine lv_if_lt (tgt := 15) hx hb d_X_undo_1 (by decide) (fun hc3 => ?_) (fun hc3 => ?_)
  · rw [if_pos hc3] at hf
    refine lv_iconst (v := (-1 : Int32)) hx hb d_X_undo_15 (by decide) ?_
    cases hf
    exact g_iret hC rfl hP hS d_X_undo_16
  · rw [if_neg hc3] at hf
    refine lv_iload_n hx hb d_X_undo_4 rfl (lv_at hl 1 rfl) ?_
    refine lv_aload_n hx hb d_X_undo_5 rfl (lv_at hl 0 rfl) ?_
    refine g_get (v := .ref (ad 19)) hC hP o_0 co_X 5 (by decide) rfl fl_X_36 rfl d_X_undo_6 ?_
    refine g_get (v := .int (σ.1 19 3)) hC hP o_19 co_Tn 3 (by decide) rfl fl_X_223 rfl d_X_undo_9 ?_
    refine lv_icmp_le (tgt := 17) hx hb d_X_undo_12 (by decide) (fun hc2 => ?_) (fun hc2 => ?_)
    · rw [if_pos hc2] at hf
      refine lv_aload_n hx hb d_X_undo_17 rfl (lv_at hl 0 rfl) ?_
      refine g_get (v := .ref (ad 19)) hC hP o_0 co_X 5 (by decide) rfl fl_X_36 rfl d_X_undo_18 ?_
      refine g_get (v := .int (σ.1 19 3)) hC hP o_19 co_Tn 3 (by decide) rfl fl_X_223 rfl d_X_undo_21 ?_
      refine lv_iload_n hx hb d_X_undo_24 rfl (lv_at hl 1 rfl) ?_
      refine lv_isub hx hb d_X_undo_25 ?_
      refine lv_istore_n (lv' := [(2, .int ((σ.1 19 3) - x1)), (0, .ref (ad 0)), (1, .int x1)]) hx hb d_X_undo_26 rfl hl (by decide) rfl (fun ls hl => ?_)
      refine lv_aload_n hx hb d_X_undo_27 rfl (lv_at hl 1 rfl) ?_
      refine g_get (v := .ref (ad 19)) hC hP o_0 co_X 5 (by decide) rfl fl_X_36 rfl d_X_undo_28 ?_
      refine lv_iload_n hx hb d_X_undo_31 rfl (lv_at hl 2 rfl) ?_
      obtain ⟨σ1, eσ1, hf⟩ := jn_some hf
      refine g_puti hC hP hS o_19 co_Tn 3 (by decide) rfl fl_X_223 rfl (to_Tn 3 (by decide)) (Nat.le_of_ble_eq_true rfl) rfl d_X_undo_32 (fun H locs hP hS => ?_)
      rw [← eσ1] at hP
      refine lv_iload_n hx hb d_X_undo_35 rfl (lv_at hl 0 rfl) ?_
      cases hf
      exact g_iret hC rfl hP hS d_X_undo_36
    · rw [if_neg hc2] at hf
      refine lv_iconst (v := (-1 : Int32)) hx hb d_X_undo_15 (by decide) ?_
      cases hf
      exact g_iret hC rfl hP hS d_X_undo_16
set_option maxHeartbeats 4000000 in
set_option maxRecDepth 100000 in
theorem c_X_isKeepingPlace {l : Launch} {D : va_G} {K : Nat → ClassId} {ad : Nat → Nat} (hj : inj ad)   {x0 : Int32} {σ : GS} {z0 : Int32} (hf : F_X_isKeepingPlace x0 = some z0) : CT l D K ad y_X_isKeepingPlace b_X_isKeepingPlace 1 (some .boolean) 0 [.int x0] σ (QI D K ad z0 σ) := by
  refine CT.intro hj (by decide) (Nat.le_of_ble_eq_true rfl) ?_
  intro p e s m args below meth c ls hC hP hS hl
  obtain ⟨hx, hb, -, hown, hts, -⟩ := id hC
  have hl : lv_has ls 1 [(0, .int x0)] := hl
  rw [F_X_isKeepingPlace] at hf
  refine lv_iload_n hx hb d_X_isKeepingPlace_0 rfl (lv_at hl 0 rfl) ?_
  refine lv_if_lt (tgt := 13) hx hb d_X_isKeepingPlace_1 (by decide) (fun hc2 => ?_) (fun hc2 => ?_)
  · rw [if_pos hc2] at hf
    refine lv_iconst (v := (0 : Int32)) hx hb d_X_isKeepingPlace_13 (by decide) ?_
    cases hf
    exact g_zret hC rfl (by decide) hP hS d_X_isKeepingPlace_14
  · rw [if_neg hc2] at hf
    refine lv_iload_n hx hb d_X_isKeepingPlace_4 rfl (lv_at hl 0 rfl) ?_
    refine lv_iconst (v := (3 : Int32)) hx hb d_X_isKeepingPlace_5 (by decide) ?_
    refine lv_icmp_ge (tgt := 13) hx hb d_X_isKeepingPlace_6 (by decide) (fun hc1 => ?_) (fun hc1 => ?_)
    · rw [if_pos hc1] at hf
      refine lv_iconst (v := (0 : Int32)) hx hb d_X_isKeepingPlace_13 (by decide) ?_
      cases hf
      exact g_zret hC rfl (by decide) hP hS d_X_isKeepingPlace_14
    · rw [if_neg hc1] at hf
      refine lv_iconst (v := (1 : Int32)) hx hb d_X_isKeepingPlace_9 (by decide) ?_
      refine lv_goto (tgt := 14) hx hb d_X_isKeepingPlace_10 (by decide) ?_
      cases hf
      exact g_zret hC rfl (by decide) hP hS d_X_isKeepingPlace_14
set_option maxHeartbeats 4000000 in
set_option maxRecDepth 100000 in
theorem c_X_keep {l : Launch} {D : va_G} {K : Nat → ClassId} {ad : Nat → Nat} (hj : inj ad)   {x1 : Int32} {σ : GS} {z0 : Int32 × GS} (hf : F_X_keep x1 σ = some z0) : CT l D K ad y_X_keep b_X_keep 2 (some .int) 2 [.ref (ad 0), .int x1] σ (QI D K ad z0.1 z0.2) := by
  refine CT.intro hj (by decide) (Nat.le_of_ble_eq_true rfl) ?_
  intro p e s m args below meth c ls hC hP hS hl
  obtain ⟨hx, hb, -, hown, hts, -⟩ := id hC
  have hl : lv_has ls 2 [(0, .ref (ad 0)), (1, .int x1)] := hl
  rw [F_X_keep] at hf
  refine lv_iload_n hx hb d_X_keep_0 rfl (lv_at hl 1 rfl) ?_
  obtain ⟨r2, hk1, hf⟩ := bp_some hf
  refine g_calli hS (g_runS (As := [.int x1]) (rest := []) hC hP (c_X_isKeepingPlace hj  hk1) (rk (by decide) (by decide)) nm_X_isKeepingPlace cd_X_isKeepingPlace it_WideTown ml_X_229 sc_X_isKeepingPlace rfl hl.1 rfl (Nat.le_of_ble_eq_true rfl) d_X_keep_1 zz) (fun H locs hP hS => ?_)
  refine lv_if_ne (tgt := 9) hx hb d_X_keep_4 (by decide) (fun hc7 => ?_) (fun hc7 => ?_)
  · rw [if_neg hc7] at hf
    refine lv_aload_n hx hb d_X_keep_9 rfl (lv_at hl 0 rfl) ?_
    refine g_get (v := .ref (ad 19)) hC hP o_0 co_X 5 (by decide) rfl fl_X_36 rfl d_X_keep_10 ?_
    refine g_get (v := .int (σ.1 19 2)) hC hP o_19 co_Tn 2 (by decide) rfl fl_X_158 rfl d_X_keep_13 ?_
    refine lv_if_ne (tgt := 22) hx hb d_X_keep_16 (by decide) (fun hc6 => ?_) (fun hc6 => ?_)
    · rw [if_neg hc6] at hf
      refine lv_aload_n hx hb d_X_keep_22 rfl (lv_at hl 0 rfl) ?_
      refine g_get (v := .ref (ad 22)) hC hP o_0 co_X 6 (by decide) rfl fl_X_40 rfl d_X_keep_23 ?_
      refine lv_iload_n hx hb d_X_keep_26 rfl (lv_at hl 1 rfl) ?_
      obtain ⟨hg3, hf⟩ := gd_some hf
      refine g_aald hC hP r_22 rfl rfl hg3 d_X_keep_27 ?_
      refine lv_aload_n hx hb d_X_keep_28 rfl (lv_at hl 0 rfl) ?_
      refine g_get (v := .ref (ad 19)) hC hP o_0 co_X 5 (by decide) rfl fl_X_36 rfl d_X_keep_29 ?_
      obtain ⟨σ5, hk4, hf⟩ := bv_some hf
      refine g_callv hS (g_runV (As := [.ref (ad 19)]) (rest := []) hC hP (c_Tn_becomes hj (kepT hg3) ⟨o_19, a_20, a_21⟩ hk4) (rk (by decide) (by decide)) nm_Tn_becomes cd_Tn_becomes it_WideTown_Town ml_X_232 im_Tn_becomes sl_Tn_becomes (kepT hg3).1 co_Tn rfl hl.1 rfl (Nat.le_of_ble_eq_true rfl) d_X_keep_32 zz) (fun H locs hP hS => ?_)
      refine lv_aload_n hx hb d_X_keep_35 rfl (lv_at hl 0 rfl) ?_
      refine g_get (v := .ref (ad 19)) hC hP o_0 co_X 5 (by decide) rfl fl_X_36 rfl d_X_keep_36 ?_
      refine g_get (v := .int (σ5.1 19 3)) hC hP o_19 co_Tn 3 (by decide) rfl fl_X_223 rfl d_X_keep_39 ?_
      cases hf
      exact g_iret hC rfl hP hS d_X_keep_42
    · rw [if_pos hc6] at hf
      refine lv_bipush (v := (-4 : Int32)) hx hb d_X_keep_19 (by decide) ?_
      cases hf
      exact g_iret hC rfl hP hS d_X_keep_21
  · rw [if_pos hc7] at hf
    refine lv_iconst (v := (-1 : Int32)) hx hb d_X_keep_7 (by decide) ?_
    cases hf
    exact g_iret hC rfl hP hS d_X_keep_8
set_option maxHeartbeats 4000000 in
set_option maxRecDepth 100000 in
theorem c_X_on {l : Launch} {D : va_G} {K : Nat → ClassId} {ad : Nat → Nat} (hj : inj ad)   {x1 : Int32} {σ : GS} {z0 : Int32 × GS} (hf : F_X_on x1 σ = some z0) : CT l D K ad y_X_on b_X_on 2 (some .int) 2 [.ref (ad 0), .int x1] σ (QI D K ad z0.1 z0.2) := by
  refine CT.intro hj (by decide) (Nat.le_of_ble_eq_true rfl) ?_
  intro p e s m args below meth c ls hC hP hS hl
  obtain ⟨hx, hb, -, hown, hts, -⟩ := id hC
  have hl : lv_has ls 2 [(0, .ref (ad 0)), (1, .int x1)] := hl
  rw [F_X_on] at hf
  refine lv_iload_n hx hb d_X_on_0 rfl (lv_at hl 1 rfl) ?_
  obtain ⟨r2, hk1, hf⟩ := bp_some hf
  refine g_calli hS (g_runS (As := [.int x1]) (rest := []) hC hP (c_X_isKeepingPlace hj  hk1) (rk (by decide) (by decide)) nm_X_isKeepingPlace cd_X_isKeepingPlace it_WideTown ml_X_229 sc_X_isKeepingPlace rfl hl.1 rfl (Nat.le_of_ble_eq_true rfl) d_X_on_1 zz) (fun H locs hP hS => ?_)
  refine lv_if_ne (tgt := 9) hx hb d_X_on_4 (by decide) (fun hc11 => ?_) (fun hc11 => ?_)
  · rw [if_neg hc11] at hf
    refine lv_aload_n hx hb d_X_on_9 rfl (lv_at hl 0 rfl) ?_
    refine g_get (v := .ref (ad 22)) hC hP o_0 co_X 6 (by decide) rfl fl_X_40 rfl d_X_on_10 ?_
    refine lv_iload_n hx hb d_X_on_13 rfl (lv_at hl 1 rfl) ?_
    obtain ⟨hg3, hf⟩ := gd_some hf
    refine g_aald hC hP r_22 rfl rfl hg3 d_X_on_14 ?_
    refine g_get (v := .int (σ.1 (23 + 3 * x1.toNatClampNeg) 2)) hC hP (kepT hg3).1 co_Tn 2 (by decide) rfl fl_X_158 rfl d_X_on_15 ?_
    refine lv_if_ne (tgt := 27) hx hb d_X_on_18 (by decide) (fun hc10 => ?_) (fun hc10 => ?_)
    · rw [if_neg hc10] at hf
      refine lv_aload_n hx hb d_X_on_27 rfl (lv_at hl 0 rfl) ?_
      refine g_get (v := .ref (ad 19)) hC hP o_0 co_X 5 (by decide) rfl fl_X_36 rfl d_X_on_28 ?_
      refine lv_aload_n hx hb d_X_on_31 rfl (lv_at hl 0 rfl) ?_
      refine g_get (v := .ref (ad 22)) hC hP o_0 co_X 6 (by decide) rfl fl_X_40 rfl d_X_on_32 ?_
      refine lv_iload_n hx hb d_X_on_35 rfl (lv_at hl 1 rfl) ?_
      obtain ⟨hg4, hf⟩ := gd_some hf
      refine g_aald hC hP r_22 rfl rfl hg4 d_X_on_36 ?_
      obtain ⟨σ6, hk5, hf⟩ := bv_some hf
      refine g_callv hS (g_runV (As := [.ref (ad (23 + 3 * x1.toNatClampNeg))]) (rest := []) hC hP (c_Tn_becomes hj ⟨o_19, a_20, a_21⟩ (kepT hg4) hk5) (rk (by decide) (by decide)) nm_Tn_becomes cd_Tn_becomes it_WideTown_Town ml_X_232 im_Tn_becomes sl_Tn_becomes o_19 co_Tn rfl hl.1 rfl (Nat.le_of_ble_eq_true rfl) d_X_on_37 zz) (fun H locs hP hS => ?_)
      refine lv_aload_n hx hb d_X_on_40 rfl (lv_at hl 0 rfl) ?_
      refine g_get (v := .ref (ad 19)) hC hP o_0 co_X 5 (by decide) rfl fl_X_36 rfl d_X_on_41 ?_
      refine g_get (v := .int (σ6.1 19 3)) hC hP o_19 co_Tn 3 (by decide) rfl fl_X_223 rfl d_X_on_44 ?_
      cases hf
      exact g_iret hC rfl hP hS d_X_on_47
    · rw [if_pos hc10] at hf
      refine lv_aload_n hx hb d_X_on_21 rfl (lv_at hl 0 rfl) ?_
      refine lv_iconst (v := (1 : Int32)) hx hb d_X_on_22 (by decide) ?_
      obtain ⟨r8, σ9, hk7, hf⟩ := bc_some hf
      refine g_calli hS (g_runV (As := [.int (1 : Int32)]) (rest := []) hC hP (c_X_found hj  hk7) (rk (by decide) (by decide)) nm_X_found cd_X_found it_WideTown ml_X_116 im_X_found sl_X_found o_0 co_X rfl hl.1 rfl (Nat.le_of_ble_eq_true rfl) d_X_on_23 zz) (fun H locs hP hS => ?_)
      cases hf
      exact g_iret hC rfl hP hS d_X_on_26
  · rw [if_pos hc11] at hf
    refine lv_iconst (v := (-1 : Int32)) hx hb d_X_on_7 (by decide) ?_
    cases hf
    exact g_iret hC rfl hP hS d_X_on_8
set_option maxHeartbeats 4000000 in
set_option maxRecDepth 100000 in
theorem c_X_plain {l : Launch} {D : va_G} {K : Nat → ClassId} {ad : Nat → Nat} (hj : inj ad)   {x1 : Int32} {σ : GS} {z0 : Int32 × GS} (hf : F_X_plain x1 σ = some z0) : CT l D K ad y_X_plain b_X_plain 2 (some .int) 5 [.ref (ad 0), .int x1] σ (QI D K ad z0.1 z0.2) := by
  refine CT.intro hj (by decide) (Nat.le_of_ble_eq_true rfl) ?_
  intro p e s m args below meth c ls hC hP hS hl
  obtain ⟨hx, hb, -, hown, hts, -⟩ := id hC
  have hl : lv_has ls 2 [(0, .ref (ad 0)), (1, .int x1)] := hl
  rw [F_X_plain] at hf
  refine lv_iload_n hx hb d_X_plain_0 rfl (lv_at hl 1 rfl) ?_
  obtain ⟨r2, hk1, hf⟩ := bp_some hf
  refine g_calli hS (g_runS (As := [.int x1]) (rest := []) hC hP (c_X_isCode hj  hk1) (rk (by decide) (by decide)) nm_X_isCode cd_X_isCode it_WideTown ml_X_208 sc_X_isCode rfl hl.1 rfl (Nat.le_of_ble_eq_true rfl) d_X_plain_1 zz) (fun H locs hP hS => ?_)
  refine lv_if_ne (tgt := 9) hx hb d_X_plain_4 (by decide) (fun hc6 => ?_) (fun hc6 => ?_)
  · rw [if_neg hc6] at hf
    refine lv_aload_n hx hb d_X_plain_9 rfl (lv_at hl 0 rfl) ?_
    refine lv_iload_n hx hb d_X_plain_10 rfl (lv_at hl 1 rfl) ?_
    obtain ⟨r4, σ5, hk3, hf⟩ := bc_some hf
    refine g_calli hS (g_runV (As := [.int x1]) (rest := []) hC hP (c_X_plainOf hj  hk3) (rk (by decide) (by decide)) nm_X_plainOf cd_X_plainOf it_WideTown ml_X_211 im_X_plainOf sl_X_plainOf o_0 co_X rfl hl.1 rfl (Nat.le_of_ble_eq_true rfl) d_X_plain_11 zz) (fun H locs hP hS => ?_)
    cases hf
    exact g_iret hC rfl hP hS d_X_plain_14
  · rw [if_pos hc6] at hf
    refine lv_iconst (v := (-1 : Int32)) hx hb d_X_plain_7 (by decide) ?_
    cases hf
    exact g_iret hC rfl hP hS d_X_plain_8
set_option maxHeartbeats 4000000 in
set_option maxRecDepth 100000 in
theorem c_X_join {l : Launch} {D : va_G} {K : Nat → ClassId} {ad : Nat → Nat} (hj : inj ad)   {x1 : Int32} {x2 : Int32} {σ : GS} {z0 : Int32 × GS} (hf : F_X_join x1 x2 σ = some z0) : CT l D K ad y_X_join b_X_join 3 (some .int) 4 [.ref (ad 0), .int x1, .int x2] σ (QI D K ad z0.1 z0.2) := by
  refine CT.intro hj (by decide) (Nat.le_of_ble_eq_true rfl) ?_
  intro p e s m args below meth c ls hC hP hS hl
  obtain ⟨hx, hb, -, hown, hts, -⟩ := id hC
  have hl : lv_has ls 3 [(0, .ref (ad 0)), (1, .int x1), (2, .int x2)] := hl
  rw [F_X_join] at hf
  refine lv_iload_n hx hb d_X_join_0 rfl (lv_at hl 1 rfl) ?_
  obtain ⟨r2, hk1, hf⟩ := bp_some hf
  refine g_calli hS (g_runS (As := [.int x1]) (rest := []) hC hP (c_X_isCode hj  hk1) (rk (by decide) (by decide)) nm_X_isCode cd_X_isCode it_WideTown ml_X_208 sc_X_isCode rfl hl.1 rfl (Nat.le_of_ble_eq_true rfl) d_X_join_1 zz) (fun H locs hP hS => ?_)
  refine lv_if_eq (tgt := 14) hx hb d_X_join_4 (by decide) (fun hc12 => ?_) (fun hc12 => ?_)
  · rw [if_pos hc12] at hf
    refine lv_iconst (v := (-1 : Int32)) hx hb d_X_join_14 (by decide) ?_
    cases hf
    exact g_iret hC rfl hP hS d_X_join_15
  · rw [if_neg hc12] at hf
    refine lv_iload_n hx hb d_X_join_7 rfl (lv_at hl 2 rfl) ?_
    obtain ⟨r4, hk3, hf⟩ := bp_some hf
    refine g_calli hS (g_runS (As := [.int x2]) (rest := []) hC hP (c_X_isCode hj  hk3) (rk (by decide) (by decide)) nm_X_isCode cd_X_isCode it_WideTown ml_X_208 sc_X_isCode rfl hl.1 rfl (Nat.le_of_ble_eq_true rfl) d_X_join_8 zz) (fun H locs hP hS => ?_)
    refine lv_if_ne (tgt := 16) hx hb d_X_join_11 (by decide) (fun hc11 => ?_) (fun hc11 => ?_)
    · rw [if_neg hc11] at hf
      refine lv_aload_n hx hb d_X_join_16 rfl (lv_at hl 0 rfl) ?_
      refine g_get (v := .ref (ad 32)) hC hP o_0 co_X 7 (by decide) rfl fl_X_47 rfl d_X_join_17 ?_
      refine lv_iload_n hx hb d_X_join_20 rfl (lv_at hl 1 rfl) ?_
      obtain ⟨σ6, hk5, hf⟩ := bv_some hf
      refine g_callv hS (g_runV (As := [.int x1]) (rest := []) hC hP (c_Wd_becomes hj ⟨o_32, a_33⟩ hk5) (rk (by decide) (by decide)) nm_Wd_becomes cd_Wd_becomes it_WideTown_Word ml_X_187 im_Wd_becomes sl_Wd_becomes o_32 co_Wd rfl hl.1 rfl (Nat.le_of_ble_eq_true rfl) d_X_join_21 zz) (fun H locs hP hS => ?_)
      refine lv_aload_n hx hb d_X_join_24 rfl (lv_at hl 0 rfl) ?_
      refine g_get (v := .ref (ad 32)) hC hP o_0 co_X 7 (by decide) rfl fl_X_47 rfl d_X_join_25 ?_
      refine lv_iload_n hx hb d_X_join_28 rfl (lv_at hl 2 rfl) ?_
      obtain ⟨σ8, hk7, hf⟩ := bv_some hf
      refine g_callv hS (g_runV (As := [.int x2]) (rest := []) hC hP (c_Wd_goAlong hj ⟨o_32, a_33⟩ hk7) (rk (by decide) (by decide)) nm_Wd_goAlong cd_Wd_goAlong it_WideTown_Word ml_X_235 im_Wd_goAlong sl_Wd_goAlong o_32 co_Wd rfl hl.1 rfl (Nat.le_of_ble_eq_true rfl) d_X_join_29 zz) (fun H locs hP hS => ?_)
      refine lv_aload_n hx hb d_X_join_32 rfl (lv_at hl 0 rfl) ?_
      refine g_get (v := .ref (ad 32)) hC hP o_0 co_X 7 (by decide) rfl fl_X_47 rfl d_X_join_33 ?_
      obtain ⟨r10, hk9, hf⟩ := bp_some hf
      refine g_calli hS (g_runV (As := []) (rest := []) hC hP (c_Wd_code hj ⟨o_32, a_33⟩ hk9) (rk (by decide) (by decide)) nm_Wd_code cd_Wd_code it_WideTown_Word ml_X_238 im_Wd_code sl_Wd_code o_32 co_Wd rfl hl.1 rfl (Nat.le_of_ble_eq_true rfl) d_X_join_36 zz) (fun H locs hP hS => ?_)
      cases hf
      exact g_iret hC rfl hP hS d_X_join_39
    · rw [if_pos hc11] at hf
      refine lv_iconst (v := (-1 : Int32)) hx hb d_X_join_14 (by decide) ?_
      cases hf
      exact g_iret hC rfl hP hS d_X_join_15
set_option maxHeartbeats 4000000 in
set_option maxRecDepth 100000 in
theorem c_X_back {l : Launch} {D : va_G} {K : Nat → ClassId} {ad : Nat → Nat} (hj : inj ad)   {x1 : Int32} {σ : GS} {z0 : Int32 × GS} (hf : F_X_back x1 σ = some z0) : CT l D K ad y_X_back b_X_back 2 (some .int) 3 [.ref (ad 0), .int x1] σ (QI D K ad z0.1 z0.2) := by
  refine CT.intro hj (by decide) (Nat.le_of_ble_eq_true rfl) ?_
  intro p e s m args below meth c ls hC hP hS hl
  obtain ⟨hx, hb, -, hown, hts, -⟩ := id hC
  have hl : lv_has ls 2 [(0, .ref (ad 0)), (1, .int x1)] := hl
  rw [F_X_back] at hf
  refine lv_iload_n hx hb d_X_back_0 rfl (lv_at hl 1 rfl) ?_
  obtain ⟨r2, hk1, hf⟩ := bp_some hf
  refine g_calli hS (g_runS (As := [.int x1]) (rest := []) hC hP (c_X_isCode hj  hk1) (rk (by decide) (by decide)) nm_X_isCode cd_X_isCode it_WideTown ml_X_208 sc_X_isCode rfl hl.1 rfl (Nat.le_of_ble_eq_true rfl) d_X_back_1 zz) (fun H locs hP hS => ?_)
  refine lv_if_ne (tgt := 9) hx hb d_X_back_4 (by decide) (fun hc9 => ?_) (fun hc9 => ?_)
  · rw [if_neg hc9] at hf
    refine lv_aload_n hx hb d_X_back_9 rfl (lv_at hl 0 rfl) ?_
    refine g_get (v := .ref (ad 32)) hC hP o_0 co_X 7 (by decide) rfl fl_X_47 rfl d_X_back_10 ?_
    obtain ⟨σ4, hk3, hf⟩ := bv_some hf
    refine g_callv hS (g_runV (As := []) (rest := []) hC hP (c_Wd_clear hj ⟨o_32, a_33⟩ hk3) (rk (by decide) (by decide)) nm_Wd_clear cd_Wd_clear it_WideTown_Word ml_X_241 im_Wd_clear sl_Wd_clear o_32 co_Wd rfl hl.1 rfl (Nat.le_of_ble_eq_true rfl) d_X_back_13 zz) (fun H locs hP hS => ?_)
    refine lv_aload_n hx hb d_X_back_16 rfl (lv_at hl 0 rfl) ?_
    refine g_get (v := .ref (ad 32)) hC hP o_0 co_X 7 (by decide) rfl fl_X_47 rfl d_X_back_17 ?_
    refine lv_iload_n hx hb d_X_back_20 rfl (lv_at hl 1 rfl) ?_
    obtain ⟨σ6, hk5, hf⟩ := bv_some hf
    refine g_callv hS (g_runV (As := [.int x1]) (rest := []) hC hP (c_Wd_goBackAlong hj ⟨o_32, a_33⟩ hk5) (rk (by decide) (by decide)) nm_Wd_goBackAlong cd_Wd_goBackAlong it_WideTown_Word ml_X_244 im_Wd_goBackAlong sl_Wd_goBackAlong o_32 co_Wd rfl hl.1 rfl (Nat.le_of_ble_eq_true rfl) d_X_back_21 zz) (fun H locs hP hS => ?_)
    refine lv_aload_n hx hb d_X_back_24 rfl (lv_at hl 0 rfl) ?_
    refine g_get (v := .ref (ad 32)) hC hP o_0 co_X 7 (by decide) rfl fl_X_47 rfl d_X_back_25 ?_
    obtain ⟨r8, hk7, hf⟩ := bp_some hf
    refine g_calli hS (g_runV (As := []) (rest := []) hC hP (c_Wd_code hj ⟨o_32, a_33⟩ hk7) (rk (by decide) (by decide)) nm_Wd_code cd_Wd_code it_WideTown_Word ml_X_238 im_Wd_code sl_Wd_code o_32 co_Wd rfl hl.1 rfl (Nat.le_of_ble_eq_true rfl) d_X_back_28 zz) (fun H locs hP hS => ?_)
    cases hf
    exact g_iret hC rfl hP hS d_X_back_31
  · rw [if_pos hc9] at hf
    refine lv_iconst (v := (-1 : Int32)) hx hb d_X_back_7 (by decide) ?_
    cases hf
    exact g_iret hC rfl hP hS d_X_back_8
set_option maxHeartbeats 4000000 in
set_option maxRecDepth 100000 in
theorem c_X_far {l : Launch} {D : va_G} {K : Nat → ClassId} {ad : Nat → Nat} (hj : inj ad)   {x1 : Int32} {x2 : Int32} {σ : GS} {z0 : Int32 × GS} (hf : F_X_far x1 x2 σ = some z0) : CT l D K ad y_X_far b_X_far 3 (some .int) 5 [.ref (ad 0), .int x1, .int x2] σ (QI D K ad z0.1 z0.2) := by
  refine CT.intro hj (by decide) (Nat.le_of_ble_eq_true rfl) ?_
  intro p e s m args below meth c ls hC hP hS hl
  obtain ⟨hx, hb, -, hown, hts, -⟩ := id hC
  have hl : lv_has ls 3 [(0, .ref (ad 0)), (1, .int x1), (2, .int x2)] := hl
  rw [F_X_far] at hf
  refine lv_iload_n hx hb d_X_far_0 rfl (lv_at hl 1 rfl) ?_
  obtain ⟨r2, hk1, hf⟩ := bp_some hf
  refine g_calli hS (g_runS (As := [.int x1]) (rest := []) hC hP (c_X_isCode hj  hk1) (rk (by decide) (by decide)) nm_X_isCode cd_X_isCode it_WideTown ml_X_208 sc_X_isCode rfl hl.1 rfl (Nat.le_of_ble_eq_true rfl) d_X_far_1 zz) (fun H locs hP hS => ?_)
  refine lv_if_eq (tgt := 14) hx hb d_X_far_4 (by decide) (fun hc9 => ?_) (fun hc9 => ?_)
  · rw [if_pos hc9] at hf
    refine lv_iconst (v := (-1 : Int32)) hx hb d_X_far_14 (by decide) ?_
    cases hf
    exact g_iret hC rfl hP hS d_X_far_15
  · rw [if_neg hc9] at hf
    refine lv_iload_n hx hb d_X_far_7 rfl (lv_at hl 2 rfl) ?_
    obtain ⟨r4, hk3, hf⟩ := bp_some hf
    refine g_calli hS (g_runS (As := [.int x2]) (rest := []) hC hP (c_X_isCode hj  hk3) (rk (by decide) (by decide)) nm_X_isCode cd_X_isCode it_WideTown ml_X_208 sc_X_isCode rfl hl.1 rfl (Nat.le_of_ble_eq_true rfl) d_X_far_8 zz) (fun H locs hP hS => ?_)
    refine lv_if_ne (tgt := 16) hx hb d_X_far_11 (by decide) (fun hc8 => ?_) (fun hc8 => ?_)
    · rw [if_neg hc8] at hf
      refine lv_aload_n hx hb d_X_far_16 rfl (lv_at hl 0 rfl) ?_
      refine lv_iload_n hx hb d_X_far_17 rfl (lv_at hl 1 rfl) ?_
      refine lv_iload_n hx hb d_X_far_18 rfl (lv_at hl 2 rfl) ?_
      obtain ⟨r6, σ7, hk5, hf⟩ := bc_some hf
      refine g_calli hS (g_runV (As := [.int x1, .int x2]) (rest := []) hC hP (c_X_gap hj  hk5) (rk (by decide) (by decide)) nm_X_gap cd_X_gap it_WideTown ml_X_247 im_X_gap sl_X_gap o_0 co_X rfl hl.1 rfl (Nat.le_of_ble_eq_true rfl) d_X_far_19 zz) (fun H locs hP hS => ?_)
      cases hf
      exact g_iret hC rfl hP hS d_X_far_22
    · rw [if_pos hc8] at hf
      refine lv_iconst (v := (-1 : Int32)) hx hb d_X_far_14 (by decide) ?_
      cases hf
      exact g_iret hC rfl hP hS d_X_far_15
set_option maxHeartbeats 4000000 in
set_option maxRecDepth 100000 in
theorem c_X_ends {l : Launch} {D : va_G} {K : Nat → ClassId} {ad : Nat → Nat} (hj : inj ad)   {x1 : Int32} {σ : GS} {z0 : Int32 × GS} (hf : F_X_ends x1 σ = some z0) : CT l D K ad y_X_ends b_X_ends 2 (some .int) 4 [.ref (ad 0), .int x1] σ (QI D K ad z0.1 z0.2) := by
  refine CT.intro hj (by decide) (Nat.le_of_ble_eq_true rfl) ?_
  intro p e s m args below meth c ls hC hP hS hl
  obtain ⟨hx, hb, -, hown, hts, -⟩ := id hC
  have hl : lv_has ls 2 [(0, .ref (ad 0)), (1, .int x1)] := hl
  rw [F_X_ends] at hf
  refine lv_iload_n hx hb d_X_ends_0 rfl (lv_at hl 1 rfl) ?_
  obtain ⟨r2, hk1, hf⟩ := bp_some hf
  refine g_calli hS (g_runS (As := [.int x1]) (rest := []) hC hP (c_X_isCode hj  hk1) (rk (by decide) (by decide)) nm_X_isCode cd_X_isCode it_WideTown ml_X_208 sc_X_isCode rfl hl.1 rfl (Nat.le_of_ble_eq_true rfl) d_X_ends_1 zz) (fun H locs hP hS => ?_)
  refine lv_if_ne (tgt := 9) hx hb d_X_ends_4 (by decide) (fun hc7 => ?_) (fun hc7 => ?_)
  · rw [if_neg hc7] at hf
    refine lv_aload_n hx hb d_X_ends_9 rfl (lv_at hl 0 rfl) ?_
    refine g_get (v := .ref (ad 32)) hC hP o_0 co_X 7 (by decide) rfl fl_X_47 rfl d_X_ends_10 ?_
    refine lv_iload_n hx hb d_X_ends_13 rfl (lv_at hl 1 rfl) ?_
    obtain ⟨σ4, hk3, hf⟩ := bv_some hf
    refine g_callv hS (g_runV (As := [.int x1]) (rest := []) hC hP (c_Wd_becomes hj ⟨o_32, a_33⟩ hk3) (rk (by decide) (by decide)) nm_Wd_becomes cd_Wd_becomes it_WideTown_Word ml_X_187 im_Wd_becomes sl_Wd_becomes o_32 co_Wd rfl hl.1 rfl (Nat.le_of_ble_eq_true rfl) d_X_ends_14 zz) (fun H locs hP hS => ?_)
    refine lv_aload_n hx hb d_X_ends_17 rfl (lv_at hl 0 rfl) ?_
    refine g_get (v := .ref (ad 32)) hC hP o_0 co_X 7 (by decide) rfl fl_X_47 rfl d_X_ends_18 ?_
    obtain ⟨r6, hk5, hf⟩ := bp_some hf
    refine g_calli hS (g_runV (As := []) (rest := []) hC hP (c_Wd_lastStreets hj ⟨o_32, a_33⟩ hk5) (rk (by decide) (by decide)) nm_Wd_lastStreets cd_Wd_lastStreets it_WideTown_Word ml_X_191 im_Wd_lastStreets sl_Wd_lastStreets o_32 co_Wd rfl hl.1 rfl (Nat.le_of_ble_eq_true rfl) d_X_ends_21 zz) (fun H locs hP hS => ?_)
    cases hf
    exact g_iret hC rfl hP hS d_X_ends_24
  · rw [if_pos hc7] at hf
    refine lv_iconst (v := (-1 : Int32)) hx hb d_X_ends_7 (by decide) ?_
    cases hf
    exact g_iret hC rfl hP hS d_X_ends_8
set_option maxHeartbeats 4000000 in
set_option maxRecDepth 100000 in
theorem c_X_begins {l : Launch} {D : va_G} {K : Nat → ClassId} {ad : Nat → Nat} (hj : inj ad)   {x1 : Int32} {σ : GS} {z0 : Int32 × GS} (hf : F_X_begins x1 σ = some z0) : CT l D K ad y_X_begins b_X_begins 2 (some .int) 3 [.ref (ad 0), .int x1] σ (QI D K ad z0.1 z0.2) := by
  refine CT.intro hj (by decide) (Nat.le_of_ble_eq_true rfl) ?_
  intro p e s m args below meth c ls hC hP hS hl
  obtain ⟨hx, hb, -, hown, hts, -⟩ := id hC
  have hl : lv_has ls 2 [(0, .ref (ad 0)), (1, .int x1)] := hl
  rw [F_X_begins] at hf
  refine lv_iload_n hx hb d_X_begins_0 rfl (lv_at hl 1 rfl) ?_
  obtain ⟨r2, hk1, hf⟩ := bp_some hf
  refine g_calli hS (g_runS (As := [.int x1]) (rest := []) hC hP (c_X_isCode hj  hk1) (rk (by decide) (by decide)) nm_X_isCode cd_X_isCode it_WideTown ml_X_208 sc_X_isCode rfl hl.1 rfl (Nat.le_of_ble_eq_true rfl) d_X_begins_1 zz) (fun H locs hP hS => ?_)
  refine lv_if_ne (tgt := 9) hx hb d_X_begins_4 (by decide) (fun hc9 => ?_) (fun hc9 => ?_)
  · rw [if_neg hc9] at hf
    refine lv_aload_n hx hb d_X_begins_9 rfl (lv_at hl 0 rfl) ?_
    refine g_get (v := .ref (ad 32)) hC hP o_0 co_X 7 (by decide) rfl fl_X_47 rfl d_X_begins_10 ?_
    obtain ⟨σ4, hk3, hf⟩ := bv_some hf
    refine g_callv hS (g_runV (As := []) (rest := []) hC hP (c_Wd_clear hj ⟨o_32, a_33⟩ hk3) (rk (by decide) (by decide)) nm_Wd_clear cd_Wd_clear it_WideTown_Word ml_X_241 im_Wd_clear sl_Wd_clear o_32 co_Wd rfl hl.1 rfl (Nat.le_of_ble_eq_true rfl) d_X_begins_13 zz) (fun H locs hP hS => ?_)
    refine lv_aload_n hx hb d_X_begins_16 rfl (lv_at hl 0 rfl) ?_
    refine g_get (v := .ref (ad 32)) hC hP o_0 co_X 7 (by decide) rfl fl_X_47 rfl d_X_begins_17 ?_
    refine lv_iload_n hx hb d_X_begins_20 rfl (lv_at hl 1 rfl) ?_
    obtain ⟨σ6, hk5, hf⟩ := bv_some hf
    refine g_callv hS (g_runV (As := [.int x1]) (rest := []) hC hP (c_Wd_goBackAlong hj ⟨o_32, a_33⟩ hk5) (rk (by decide) (by decide)) nm_Wd_goBackAlong cd_Wd_goBackAlong it_WideTown_Word ml_X_244 im_Wd_goBackAlong sl_Wd_goBackAlong o_32 co_Wd rfl hl.1 rfl (Nat.le_of_ble_eq_true rfl) d_X_begins_21 zz) (fun H locs hP hS => ?_)
    refine lv_aload_n hx hb d_X_begins_24 rfl (lv_at hl 0 rfl) ?_
    refine g_get (v := .ref (ad 32)) hC hP o_0 co_X 7 (by decide) rfl fl_X_47 rfl d_X_begins_25 ?_
    obtain ⟨r8, hk7, hf⟩ := bp_some hf
    refine g_calli hS (g_runV (As := []) (rest := []) hC hP (c_Wd_lastStreets hj ⟨o_32, a_33⟩ hk7) (rk (by decide) (by decide)) nm_Wd_lastStreets cd_Wd_lastStreets it_WideTown_Word ml_X_191 im_Wd_lastStreets sl_Wd_lastStreets o_32 co_Wd rfl hl.1 rfl (Nat.le_of_ble_eq_true rfl) d_X_begins_28 zz) (fun H locs hP hS => ?_)
    cases hf
    exact g_iret hC rfl hP hS d_X_begins_31
  · rw [if_pos hc9] at hf
    refine lv_iconst (v := (-1 : Int32)) hx hb d_X_begins_7 (by decide) ?_
    cases hf
    exact g_iret hC rfl hP hS d_X_begins_8
set_option maxHeartbeats 4000000 in
set_option maxRecDepth 100000 in
theorem c_X_commonDivisor {l : Launch} {D : va_G} {K : Nat → ClassId} {ad : Nat → Nat} (hj : inj ad)   {x0 : Int64} {x2 : Int64} {σ : GS} {z0 : Int64} (hf : F_X_commonDivisor x0 x2 = some z0) : CT l D K ad y_X_commonDivisor b_X_commonDivisor 11 (some .long) 0 [.long x0, .long x2] σ (QL D K ad z0 σ) := by
  refine CT.intro hj (by decide) (Nat.le_of_ble_eq_true rfl) ?_
  intro p e s m args below meth c ls hC hP hS hl
  obtain ⟨hx, hb, -, hown, hts, -⟩ := id hC
  have hl : lv_has ls 11 [(0, .long x0), (2, .long x2)] := hl
  rw [F_X_commonDivisor] at hf
  refine lv_lload_n hx hb d_X_commonDivisor_0 rfl (lv_at hl 0 rfl) ?_
  refine lv_lstore (lv' := [(4, .long x0), (0, .long x0), (2, .long x2)]) hx hb d_X_commonDivisor_1 hl (by decide) rfl (fun ls hl => ?_)
  refine lv_lload_n hx hb d_X_commonDivisor_3 rfl (lv_at hl 2 rfl) ?_
  refine lv_lstore (lv' := [(6, .long x2), (4, .long x0), (0, .long x0), (2, .long x2)]) hx hb d_X_commonDivisor_4 hl (by decide) rfl (fun ls hl => ?_)
  refine lv_iconst (v := (0 : Int32)) hx hb d_X_commonDivisor_6 (by decide) ?_
  refine lv_istore (lv' := [(8, .int (0 : Int32)), (6, .long x2), (4, .long x0), (0, .long x0), (2, .long x2)]) hx hb d_X_commonDivisor_7 hl (by decide) rfl (fun ls hl => ?_)
  obtain ⟨KL1_45, eKL1_45, hf⟩ := jn_some hf
  have hKL1_45 : ∀ (v4_1 : Int64) (v6_1 : Int64) (v8_1 : Int32) (H : Heap) (locs : List Loc) (ls : Array Slot), va_P D vwCl (wG K ad σ) H → va_S (GA ad) s.heap H locs → lv_has ls 11 [(4, .long v4_1)] → KL1_45 v4_1 v6_1 v8_1 = some z0 → W p l e (rmd 0) s m args below meth c H locs 0 0 (MQ below (QL D K ad z0 σ) args s 0 0 (GA ad)) (F0 m 45 ls []) := by
    clear hf
    intro v4_1 v6_1 v8_1 H locs ls hP hS hl hf
    rw [eKL1_45] at hf
    try dsimp only at hf
    refine lv_lload hx hb d_X_commonDivisor_45 (lv_at hl 0 rfl) ?_
    cases hf
    exact g_lret hC rfl hP hS d_X_commonDivisor_47
  clear eKL1_45
  have hL1 : ∀ (n : Nat) (v4_1 : Int64) (v6_1 : Int64) (v8_1 : Int32) (H : Heap) (locs : List Loc) (ls : Array Slot), va_P D vwCl (wG K ad σ) H → va_S (GA ad) s.heap H locs → lv_has ls 11 [(4, .long v4_1), (6, .long v6_1), (8, .int v8_1)] → F_X_commonDivisor_9 KL1_45 n v4_1 v6_1 v8_1 = some z0 → W p l e (rmd 0) s m args below meth c H locs 0 0 (MQ below (QL D K ad z0 σ) args s 0 0 (GA ad)) (F0 m 9 ls []) := by
    clear hf
    intro n
    induction n with
    | zero =>
      intro v4_1 v6_1 v8_1 H locs ls hP hS hl hf
      rw [F_X_commonDivisor_9.eq_1] at hf
      cases hf
    | succ n ih =>
      intro v4_1 v6_1 v8_1 H locs ls hP hS hl hf
      rw [F_X_commonDivisor_9.eq_2] at hf
      refine lv_iload hx hb d_X_commonDivisor_9 (lv_at hl 2 rfl) ?_
      refine lv_sipush (v := (200 : Int32)) hx hb d_X_commonDivisor_11 (by decide) ?_
      refine lv_icmp_ge (tgt := 45) hx hb d_X_commonDivisor_14 (by decide) (fun hc3 => ?_) (fun hc3 => ?_)
      · rw [if_pos hc3] at hf
        exact hKL1_45 _ _ _ _ _ _ hP hS (lv_sub hl [0] rfl) hf
      · rw [if_neg hc3] at hf
        refine lv_lload hx hb d_X_commonDivisor_17 (lv_at hl 1 rfl) ?_
        refine lv_lconst (v := (0 : Int64)) hx hb d_X_commonDivisor_19 (by decide) ?_
        refine W.lcmp hx hb d_X_commonDivisor_20 ?_
        refine lv_if_le (tgt := 45) hx hb d_X_commonDivisor_21 (by decide) (fun hc2 => ?_) (fun hc2 => ?_)
        · rw [if_pos hc2] at hf
          exact hKL1_45 _ _ _ _ _ _ hP hS (lv_sub hl [0] rfl) hf
        · rw [if_neg hc2] at hf
          refine lv_lload hx hb d_X_commonDivisor_24 (lv_at hl 0 rfl) ?_
          refine lv_lload hx hb d_X_commonDivisor_26 (lv_at hl 1 rfl) ?_
          obtain ⟨hg, hf⟩ := gd_some hf
          refine lv_lrem hx hb d_X_commonDivisor_28 (zL_in hg) ?_
          refine lv_lstore (lv' := [(9, .long (v4_1 - v4_1 / v6_1 * v6_1)), (4, .long v4_1), (6, .long v6_1), (8, .int v8_1)]) hx hb d_X_commonDivisor_29 hl (by decide) rfl (fun ls hl => ?_)
          refine lv_lload hx hb d_X_commonDivisor_31 (lv_at hl 2 rfl) ?_
          refine lv_lstore (lv' := [(4, .long v6_1), (9, .long (v4_1 - v4_1 / v6_1 * v6_1)), (6, .long v6_1), (8, .int v8_1)]) hx hb d_X_commonDivisor_33 hl (by decide) rfl (fun ls hl => ?_)
          refine lv_lload hx hb d_X_commonDivisor_35 (lv_at hl 1 rfl) ?_
          refine lv_lstore (lv' := [(6, .long (v4_1 - v4_1 / v6_1 * v6_1)), (4, .long v6_1), (9, .long (v4_1 - v4_1 / v6_1 * v6_1)), (8, .int v8_1)]) hx hb d_X_commonDivisor_37 hl (by decide) rfl (fun ls hl => ?_)
          refine lv_iinc (v := v8_1 + 1) (lv' := [(8, .int (v8_1 + 1)), (6, .long (v4_1 - v4_1 / v6_1 * v6_1)), (4, .long v6_1), (9, .long (v4_1 - v4_1 / v6_1 * v6_1))]) hx hb d_X_commonDivisor_39 hl (k := 3) rfl rfl (by decide) rfl (fun ls hl => ?_)
          refine lv_goto (tgt := 9) hx hb d_X_commonDivisor_42 (by decide) ?_
          exact ih _ _ _ _ _ _ hP hS (lv_sub hl [2, 1, 0] rfl) hf
  exact hL1 _ _ _ _ _ _ _ hP hS (lv_sub hl [2, 1, 0] rfl) hf
