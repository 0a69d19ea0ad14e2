set_option maxHeartbeats 4000000 in
set_option maxRecDepth 100000 in
theorem c_M_reads {l : Launch} {D : va_G} {K : Nat → ClassId} {ad : Nat → Nat} (hj : inj ad)   {x1 : Int32} {σ : GS} {z0 : Int32 × GS} (hf : F_M_reads x1 σ = some z0) : CT l D K ad y_M_reads b_M_reads 3 (some .int) 5 [.ref (ad 63), .int x1] σ (QI D K ad z0.1 z0.2) := by
  refine CT.intro hj (by decide) (Nat.le_of_ble_eq_true rfl) ?_
  intro p e s m args below meth c ls hC hP hS hl
  obtain ⟨hx, hb, -, hown, hts, -⟩ := id hC
  have hl : lv_has ls 3 [(0, .ref (ad 63)), (1, .int x1)] := hl
  rw [F_M_reads] at hf
  refine lv_iconst (v := (0 : Int32)) hx hb d_M_reads_0 (by decide) ?_
  refine lv_istore_n (lv' := [(2, .int (0 : Int32)), (0, .ref (ad 63)), (1, .int x1)]) hx hb d_M_reads_1 rfl hl (by decide) rfl (fun ls hl => ?_)
  obtain ⟨KL1_21, eKL1_21, hf⟩ := jn_some hf
  have hKL1_21 : ∀ (v2_1 : Int32) (σL1 : GS) (H : Heap) (locs : List Loc) (ls : Array Slot), va_P D vwCl (wG K ad σL1) H → va_S (GA ad) s.heap H locs → lv_has ls 3 [(0, .ref (ad 63)), (1, .int x1)] → KL1_21 v2_1 σL1 = some z0 → W p l e (rmd 5) s m args below meth c H locs 0 0 (MQ below (QI D K ad z0.1 z0.2) args s 0 0 (GA ad)) (F0 m 21 ls []) := by
    clear hf
    intro v2_1 σL1 H locs ls hP hS hl hf
    rw [eKL1_21] at hf
    try dsimp only at hf
    refine lv_aload_n hx hb d_M_reads_21 rfl (lv_at hl 0 rfl) ?_
    refine lv_iconst (v := (0 : Int32)) hx hb d_M_reads_22 (by decide) ?_
    obtain ⟨σ2, eσ2, hf⟩ := jn_some hf
    refine g_puti hC hP hS o_63 co_M 15 (by decide) rfl fl_M_122 rfl (to_M 15 (by decide)) (Nat.le_of_ble_eq_true rfl) rfl d_M_reads_23 (fun H locs hP hS => ?_)
    rw [← eσ2] at hP
    obtain ⟨KL3_75, eKL3_75, hf⟩ := jn_some hf
    have hKL3_75 : ∀ (σL3 : GS) (H : Heap) (locs : List Loc) (ls : Array Slot), va_P D vwCl (wG K ad σL3) H → va_S (GA ad) s.heap H locs → lv_has ls 3 [] → KL3_75 σL3 = some z0 → W p l e (rmd 5) s m args below meth c H locs 0 0 (MQ below (QI D K ad z0.1 z0.2) args s 0 0 (GA ad)) (F0 m 75 ls []) := by
      clear hf
      intro σL3 H locs ls hP hS hl hf
      rw [eKL3_75] at hf
      try dsimp only at hf
      refine lv_bipush (v := (-9 : Int32)) hx hb d_M_reads_75 (by decide) ?_
      cases hf
      exact g_iret hC rfl hP hS d_M_reads_77
    clear eKL3_75
    obtain ⟨KL3_70, eKL3_70, hf⟩ := jn_some hf
    have hKL3_70 : ∀ (σL3 : GS) (H : Heap) (locs : List Loc) (ls : Array Slot), va_P D vwCl (wG K ad σL3) H → va_S (GA ad) s.heap H locs → lv_has ls 3 [(0, .ref (ad 63))] → KL3_70 σL3 = some z0 → W p l e (rmd 5) s m args below meth c H locs 0 0 (MQ below (QI D K ad z0.1 z0.2) args s 0 0 (GA ad)) (F0 m 70 ls []) := by
      clear hf
      intro σL3 H locs ls hP hS hl hf
      rw [eKL3_70] at hf
      try dsimp only at hf
      refine lv_aload_n hx hb d_M_reads_70 rfl (lv_at hl 0 rfl) ?_
      refine g_get (v := .int (σL3.1 63 15)) hC hP o_63 co_M 15 (by decide) rfl fl_M_122 rfl d_M_reads_71 ?_
      cases hf
      exact g_iret hC rfl hP hS d_M_reads_74
    clear eKL3_70
    have hL3 : ∀ (n : Nat) (σL3 : GS) (H : Heap) (locs : List Loc) (ls : Array Slot), va_P D vwCl (wG K ad σL3) H → va_S (GA ad) s.heap H locs → lv_has ls 3 [(0, .ref (ad 63)), (1, .int x1)] → F_M_reads_26 x1 KL3_75 KL3_70 n σL3 = some z0 → W p l e (rmd 5) s m args below meth c H locs 0 0 (MQ below (QI D K ad z0.1 z0.2) args s 0 0 (GA ad)) (F0 m 26 ls []) := by
      clear hf
      intro n
      induction n with
      | zero =>
        intro σL3 H locs ls hP hS hl hf
        rw [F_M_reads_26.eq_1] at hf
        cases hf
      | succ n ih =>
        intro σL3 H locs ls hP hS hl hf
        rw [F_M_reads_26.eq_2] at hf
        refine lv_aload_n hx hb d_M_reads_26 rfl (lv_at hl 0 rfl) ?_
        refine g_get (v := .int (σL3.1 63 15)) hC hP o_63 co_M 15 (by decide) rfl fl_M_122 rfl d_M_reads_27 ?_
        refine lv_aload_n hx hb d_M_reads_30 rfl (lv_at hl 0 rfl) ?_
        refine g_get (v := .ref (ad 66)) hC hP o_63 co_M 2 (by decide) rfl fl_M_16 rfl d_M_reads_31 ?_
        refine lv_iload_n hx hb d_M_reads_34 rfl (lv_at hl 1 rfl) ?_
        obtain ⟨hg4, hf⟩ := gd_some hf
        refine g_iald2 (j := x1.toNatClampNeg) hC hP a_66 hg4 rfl d_M_reads_35 ?_
        refine lv_icmp_ge (tgt := 75) hx hb d_M_reads_36 (by decide) (fun hc13 => ?_) (fun hc13 => ?_)
        · rw [if_pos hc13] at hf
          exact hKL3_75 _ _ _ _ hP hS (lv_sub hl [] rfl) hf
        · rw [if_neg hc13] at hf
          refine lv_aload_n hx hb d_M_reads_39 rfl (lv_at hl 0 rfl) ?_
          refine lv_iload_n hx hb d_M_reads_40 rfl (lv_at hl 1 rfl) ?_
          obtain ⟨r6, hk5, hf⟩ := bp_some hf
          refine g_calli hS (g_runV (As := [.int x1]) (rest := []) hC hP (c_M_byteAt hj  hk5) (rk (by decide) (by decide)) nm_M_byteAt cd_M_byteAt it_WideTownModel ml_M_125 im_M_byteAt sl_M_byteAt o_63 co_M rfl hl.1 rfl (Nat.le_of_ble_eq_true rfl) d_M_reads_41 zz) (fun H locs hP hS => ?_)
          refine lv_bipush (v := (32 : Int32)) hx hb d_M_reads_44 (by decide) ?_
          refine lv_icmp_ne (tgt := 62) hx hb d_M_reads_46 (by decide) (fun hc12 => ?_) (fun hc12 => ?_)
          · rw [if_neg hc12] at hf
            refine lv_aload_n hx hb d_M_reads_62 rfl (lv_at hl 0 rfl) ?_
            refine lv_iload_n hx hb d_M_reads_63 rfl (lv_at hl 1 rfl) ?_
            obtain ⟨r8, σ9, hk7, hf⟩ := bc_some hf
            refine g_calli hS (g_runV (As := [.int x1]) (rest := []) hC hP (c_M_takesWalker hj  hk7) (rk (by decide) (by decide)) nm_M_takesWalker cd_M_takesWalker it_WideTownModel ml_M_142 im_M_takesWalker sl_M_takesWalker o_63 co_M rfl hl.1 rfl (Nat.le_of_ble_eq_true rfl) d_M_reads_64 zz) (fun H locs hP hS => ?_)
            refine lv_if_ne (tgt := 26) hx hb d_M_reads_67 (by decide) (fun hc10 => ?_) (fun hc10 => ?_)
            · rw [if_neg hc10] at hf
              exact ih _ _ _ _ hP hS (lv_sub hl [0, 1] rfl) hf
            · rw [if_pos hc10] at hf
              exact hKL3_70 _ _ _ _ hP hS (lv_sub hl [0] rfl) hf
          · rw [if_pos hc12] at hf
            refine lv_aload_n hx hb d_M_reads_49 rfl (lv_at hl 0 rfl) ?_
            refine lv_dup hx hb d_M_reads_50 rfl ?_
            refine g_get (v := .int (σL3.1 63 15)) hC hP o_63 co_M 15 (by decide) rfl fl_M_122 rfl d_M_reads_51 ?_
            refine lv_iconst (v := (1 : Int32)) hx hb d_M_reads_54 (by decide) ?_
            refine lv_iadd hx hb d_M_reads_55 ?_
            obtain ⟨σ11, eσ11, hf⟩ := jn_some hf
            refine g_puti hC hP hS o_63 co_M 15 (by decide) rfl fl_M_122 rfl (to_M 15 (by decide)) (Nat.le_of_ble_eq_true rfl) rfl d_M_reads_56 (fun H locs hP hS => ?_)
            rw [← eσ11] at hP
            refine lv_goto (tgt := 26) hx hb d_M_reads_59 (by decide) ?_
            exact ih _ _ _ _ hP hS (lv_sub hl [0, 1] rfl) hf
    exact hL3 _ _ _ _ _ hP hS (lv_sub hl [0, 1] rfl) hf
  clear eKL1_21
  have hL1 : ∀ (n : Nat) (v2_1 : Int32) (σL1 : GS) (H : Heap) (locs : List Loc) (ls : Array Slot), va_P D vwCl (wG K ad σL1) H → va_S (GA ad) s.heap H locs → lv_has ls 3 [(0, .ref (ad 63)), (1, .int x1), (2, .int v2_1)] → F_M_reads_2 x1 KL1_21 n v2_1 σL1 = some z0 → W p l e (rmd 5) s m args below meth c H locs 0 0 (MQ below (QI D K ad z0.1 z0.2) args s 0 0 (GA ad)) (F0 m 2 ls []) := by
    clear hf
    intro n
    induction n with
    | zero =>
      intro v2_1 σL1 H locs ls hP hS hl hf
      rw [F_M_reads_2.eq_1] at hf
      cases hf
    | succ n ih =>
      intro v2_1 σL1 H locs ls hP hS hl hf
      rw [F_M_reads_2.eq_2] at hf
      refine lv_iload_n hx hb d_M_reads_2 rfl (lv_at hl 2 rfl) ?_
      refine lv_bipush (v := (27 : Int32)) hx hb d_M_reads_3 (by decide) ?_
      refine lv_icmp_ge (tgt := 21) hx hb d_M_reads_5 (by decide) (fun hc16 => ?_) (fun hc16 => ?_)
      · rw [if_pos hc16] at hf
        exact hKL1_21 _ _ _ _ _ hP hS (lv_sub hl [0, 1] rfl) hf
      · rw [if_neg hc16] at hf
        refine lv_aload_n hx hb d_M_reads_8 rfl (lv_at hl 0 rfl) ?_
        refine g_get (v := .ref (ad 74)) hC hP o_63 co_M 14 (by decide) rfl fl_M_45 rfl d_M_reads_9 ?_
        refine lv_iload_n hx hb d_M_reads_12 rfl (lv_at hl 2 rfl) ?_
        refine lv_iconst (v := (0 : Int32)) hx hb d_M_reads_13 (by decide) ?_
        obtain ⟨hg14, hf⟩ := gd_some hf
        obtain ⟨σ15, eσ15, hf⟩ := jn_some hf
        refine g_iast2 (j := v2_1.toNatClampNeg) hC hP hS a_74 hg14 rfl d_M_reads_14 (fun H locs hP hS => ?_)
        rw [← eσ15] at hP
        refine lv_iinc (v := v2_1 + 1) (lv' := [(2, .int (v2_1 + 1)), (0, .ref (ad 63)), (1, .int x1)]) hx hb d_M_reads_15 hl (k := 2) rfl rfl (by decide) rfl (fun ls hl => ?_)
        refine lv_goto (tgt := 2) hx hb d_M_reads_18 (by decide) ?_
        exact ih _ _ _ _ _ hP hS (lv_sub hl [1, 2, 0] rfl) hf
  exact hL1 _ _ _ _ _ _ hP hS (lv_sub hl [1, 2, 0] rfl) hf
set_option maxHeartbeats 4000000 in
set_option maxRecDepth 100000 in
theorem c_M_fault {l : Launch} {D : va_G} {K : Nat → ClassId} {ad : Nat → Nat} (hj : inj ad)   {x1 : Int32} {σ : GS} {z0 : Int32 × GS} (hf : F_M_fault x1 σ = some z0) : CT l D K ad y_M_fault b_M_fault 2 (some .int) 6 [.ref (ad 63), .int x1] σ (QI D K ad z0.1 z0.2) := by
  refine CT.intro hj (by decide) (Nat.le_of_ble_eq_true rfl) ?_
  intro p e s m args below meth c ls hC hP hS hl
  obtain ⟨hx, hb, -, hown, hts, -⟩ := id hC
  have hl : lv_has ls 2 [(0, .ref (ad 63)), (1, .int x1)] := hl
  rw [F_M_fault] at hf
  refine lv_iload_n hx hb d_M_fault_0 rfl (lv_at hl 1 rfl) ?_
  obtain ⟨r2, hk1, hf⟩ := bp_some hf
  refine g_calli hS (g_runS (As := [.int x1]) (rest := []) hC hP (c_M_isText hj  hk1) (rk (by decide) (by decide)) nm_M_isText cd_M_isText it_WideTownModel ml_M_117 sc_M_isText rfl hl.1 rfl (Nat.le_of_ble_eq_true rfl) d_M_fault_1 zz) (fun H locs hP hS => ?_)
  refine lv_if_ne (tgt := 9) hx hb d_M_fault_4 (by decide) (fun hc11 => ?_) (fun hc11 => ?_)
  · rw [if_neg hc11] at hf
    refine lv_aload_n hx hb d_M_fault_9 rfl (lv_at hl 0 rfl) ?_
    refine g_get (v := .ref (ad 66)) hC hP o_63 co_M 2 (by decide) rfl fl_M_16 rfl d_M_fault_10 ?_
    refine lv_iload_n hx hb d_M_fault_13 rfl (lv_at hl 1 rfl) ?_
    obtain ⟨hg3, hf⟩ := gd_some hf
    refine g_iald2 (j := x1.toNatClampNeg) hC hP a_66 hg3 rfl d_M_fault_14 ?_
    refine lv_if_ge (tgt := 26) hx hb d_M_fault_15 (by decide) (fun hc10 => ?_) (fun hc10 => ?_)
    · rw [if_pos hc10] at hf
      refine lv_aload_n hx hb d_M_fault_26 rfl (lv_at hl 0 rfl) ?_
      refine lv_iload_n hx hb d_M_fault_27 rfl (lv_at hl 1 rfl) ?_
      obtain ⟨r5, σ6, hk4, hf⟩ := bc_some hf
      refine g_calli hS (g_runV (As := [.int x1]) (rest := []) hC hP (c_M_reads hj  hk4) (rk (by decide) (by decide)) nm_M_reads cd_M_reads it_WideTownModel ml_M_145 im_M_reads sl_M_reads o_63 co_M rfl hl.1 rfl (Nat.le_of_ble_eq_true rfl) d_M_fault_28 zz) (fun H locs hP hS => ?_)
      cases hf
      exact g_iret hC rfl hP hS d_M_fault_31
    · rw [if_neg hc10] at hf
      refine lv_aload_n hx hb d_M_fault_18 rfl (lv_at hl 0 rfl) ?_
      refine lv_iconst (v := (1 : Int32)) hx hb d_M_fault_19 (by decide) ?_
      obtain ⟨r8, σ9, hk7, hf⟩ := bc_some hf
      refine g_calli hS (g_runV (As := [.int (1 : Int32)]) (rest := []) hC hP (c_M_found hj  hk7) (rk (by decide) (by decide)) nm_M_found cd_M_found it_WideTownModel ml_M_110 im_M_found sl_M_found o_63 co_M rfl hl.1 rfl (Nat.le_of_ble_eq_true rfl) d_M_fault_20 zz) (fun H locs hP hS => ?_)
      refine lv_goto (tgt := 31) hx hb d_M_fault_23 (by decide) ?_
      cases hf
      exact g_iret hC rfl hP hS d_M_fault_31
  · rw [if_pos hc11] at hf
    refine lv_iconst (v := (-1 : Int32)) hx hb d_M_fault_7 (by decide) ?_
    cases hf
    exact g_iret hC rfl hP hS d_M_fault_8
set_option maxHeartbeats 4000000 in
set_option maxRecDepth 100000 in
theorem c_M_town {l : Launch} {D : va_G} {K : Nat → ClassId} {ad : Nat → Nat} (hj : inj ad)   {x1 : Int32} {σ : GS} {z0 : Int32 × GS} (hf : F_M_town x1 σ = some z0) : CT l D K ad y_M_town b_M_town 3 (some .int) 6 [.ref (ad 63), .int x1] σ (QI D K ad z0.1 z0.2) := by
  refine CT.intro hj (by decide) (Nat.le_of_ble_eq_true rfl) ?_
  intro p e s m args below meth c ls hC hP hS hl
  obtain ⟨hx, hb, -, hown, hts, -⟩ := id hC
  have hl : lv_has ls 3 [(0, .ref (ad 63)), (1, .int x1)] := hl
  rw [F_M_town] at hf
  refine lv_iload_n hx hb d_M_town_0 rfl (lv_at hl 1 rfl) ?_
  obtain ⟨r2, hk1, hf⟩ := bp_some hf
  refine g_calli hS (g_runS (As := [.int x1]) (rest := []) hC hP (c_M_isText hj  hk1) (rk (by decide) (by decide)) nm_M_isText cd_M_isText it_WideTownModel ml_M_117 sc_M_isText rfl hl.1 rfl (Nat.le_of_ble_eq_true rfl) d_M_town_1 zz) (fun H locs hP hS => ?_)
  refine lv_if_ne (tgt := 9) hx hb d_M_town_4 (by decide) (fun hc21 => ?_) (fun hc21 => ?_)
  · rw [if_neg hc21] at hf
    refine lv_aload_n hx hb d_M_town_9 rfl (lv_at hl 0 rfl) ?_
    refine g_get (v := .ref (ad 66)) hC hP o_63 co_M 2 (by decide) rfl fl_M_16 rfl d_M_town_10 ?_
    refine lv_iload_n hx hb d_M_town_13 rfl (lv_at hl 1 rfl) ?_
    obtain ⟨hg3, hf⟩ := gd_some hf
    refine g_iald2 (j := x1.toNatClampNeg) hC hP a_66 hg3 rfl d_M_town_14 ?_
    refine lv_if_ge (tgt := 24) hx hb d_M_town_15 (by decide) (fun hc20 => ?_) (fun hc20 => ?_)
    · rw [if_pos hc20] at hf
      refine lv_aload_n hx hb d_M_town_24 rfl (lv_at hl 0 rfl) ?_
      refine lv_iload_n hx hb d_M_town_25 rfl (lv_at hl 1 rfl) ?_
      obtain ⟨r5, σ6, hk4, hf⟩ := bc_some hf
      refine g_calli hS (g_runV (As := [.int x1]) (rest := []) hC hP (c_M_reads hj  hk4) (rk (by decide) (by decide)) nm_M_reads cd_M_reads it_WideTownModel ml_M_145 im_M_reads sl_M_reads o_63 co_M rfl hl.1 rfl (Nat.le_of_ble_eq_true rfl) d_M_town_26 zz) (fun H locs hP hS => ?_)
      refine lv_bipush (v := (-9 : Int32)) hx hb d_M_town_29 (by decide) ?_
      refine lv_icmp_eq (tgt := 37) hx hb d_M_town_31 (by decide) (fun hc16 => ?_) (fun hc16 => ?_)
      · rw [if_pos hc16] at hf
        refine lv_iconst (v := (0 : Int32)) hx hb d_M_town_37 (by decide) ?_
        refine lv_istore_n (lv' := [(2, .int (0 : Int32)), (0, .ref (ad 63)), (1, .int x1)]) hx hb d_M_town_38 rfl hl (by decide) rfl (fun ls hl => ?_)
        obtain ⟨KL7_63, eKL7_63, hf⟩ := jn_some hf
        have hKL7_63 : ∀ (v2_7 : Int32) (σL7 : GS) (H : Heap) (locs : List Loc) (ls : Array Slot), va_P D vwCl (wG K ad σL7) H → va_S (GA ad) s.heap H locs → lv_has ls 3 [(0, .ref (ad 63))] → KL7_63 v2_7 σL7 = some z0 → W p l e (rmd 6) s m args below meth c H locs 0 0 (MQ below (QI D K ad z0.1 z0.2) args s 0 0 (GA ad)) (F0 m 63 ls []) := by
          clear hf
          intro v2_7 σL7 H locs ls hP hS hl hf
          rw [eKL7_63] at hf
          try dsimp only at hf
          refine lv_iconst (v := (0 : Int32)) hx hb d_M_town_63 (by decide) ?_
          refine lv_istore_n (lv' := [(2, .int (0 : Int32)), (0, .ref (ad 63))]) hx hb d_M_town_64 rfl hl (by decide) rfl (fun ls hl => ?_)
          obtain ⟨KL8_83, eKL8_83, hf⟩ := jn_some hf
          have hKL8_83 : ∀ (v2_8 : Int32) (σL8 : GS) (H : Heap) (locs : List Loc) (ls : Array Slot), va_P D vwCl (wG K ad σL8) H → va_S (GA ad) s.heap H locs → lv_has ls 3 [(0, .ref (ad 63))] → KL8_83 v2_8 σL8 = some z0 → W p l e (rmd 6) s m args below meth c H locs 0 0 (MQ below (QI D K ad z0.1 z0.2) args s 0 0 (GA ad)) (F0 m 83 ls []) := by
            clear hf
            intro v2_8 σL8 H locs ls hP hS hl hf
            rw [eKL8_83] at hf
            try dsimp only at hf
            refine lv_aload_n hx hb d_M_town_83 rfl (lv_at hl 0 rfl) ?_
            refine g_get (v := .ref (ad 68)) hC hP o_63 co_M 4 (by decide) rfl fl_M_22 rfl d_M_town_84 ?_
            refine lv_iconst (v := (0 : Int32)) hx hb d_M_town_87 (by decide) ?_
            refine g_iald2 (j := 0) hC hP a_68 (by decide) rfl d_M_town_88 ?_
            cases hf
            exact g_iret hC rfl hP hS d_M_town_89
          clear eKL8_83
          have hL8 : ∀ (n : Nat) (v2_8 : Int32) (σL8 : GS) (H : Heap) (locs : List Loc) (ls : Array Slot), va_P D vwCl (wG K ad σL8) H → va_S (GA ad) s.heap H locs → lv_has ls 3 [(0, .ref (ad 63)), (2, .int v2_8)] → F_M_town_65 KL8_83 n v2_8 σL8 = some z0 → W p l e (rmd 6) s m args below meth c H locs 0 0 (MQ below (QI D K ad z0.1 z0.2) args s 0 0 (GA ad)) (F0 m 65 ls []) := by
            clear hf
            intro n
            induction n with
            | zero =>
              intro v2_8 σL8 H locs ls hP hS hl hf
              rw [F_M_town_65.eq_1] at hf
              cases hf
            | succ n ih =>
              intro v2_8 σL8 H locs ls hP hS hl hf
              rw [F_M_town_65.eq_2] at hf
              refine lv_iload_n hx hb d_M_town_65 rfl (lv_at hl 1 rfl) ?_
              refine lv_iconst (v := (3 : Int32)) hx hb d_M_town_66 (by decide) ?_
              refine lv_icmp_ge (tgt := 83) hx hb d_M_town_67 (by decide) (fun hc11 => ?_) (fun hc11 => ?_)
              · rw [if_pos hc11] at hf
                exact hKL8_83 _ _ _ _ _ hP hS (lv_sub hl [0] rfl) hf
              · rw [if_neg hc11] at hf
                refine lv_aload_n hx hb d_M_town_70 rfl (lv_at hl 0 rfl) ?_
                refine g_get (v := .ref (ad 72)) hC hP o_63 co_M 8 (by decide) rfl fl_M_34 rfl d_M_town_71 ?_
                refine lv_iload_n hx hb d_M_town_74 rfl (lv_at hl 1 rfl) ?_
                refine lv_iconst (v := (0 : Int32)) hx hb d_M_town_75 (by decide) ?_
                obtain ⟨hg9, hf⟩ := gd_some hf
                obtain ⟨σ10, eσ10, hf⟩ := jn_some hf
                refine g_zast2 (j := v2_8.toNatClampNeg) hC hP hS a_72 hg9 rfl d_M_town_76 (fun H locs hP hS => ?_)
                rw [← eσ10] at hP
                refine lv_iinc (v := v2_8 + 1) (lv' := [(2, .int (v2_8 + 1)), (0, .ref (ad 63))]) hx hb d_M_town_77 hl (k := 1) rfl rfl (by decide) rfl (fun ls hl => ?_)
                refine lv_goto (tgt := 65) hx hb d_M_town_80 (by decide) ?_
                exact ih _ _ _ _ _ hP hS (lv_sub hl [1, 0] rfl) hf
          exact hL8 _ _ _ _ _ _ hP hS (lv_sub hl [1, 0] rfl) hf
        clear eKL7_63
        have hL7 : ∀ (n : Nat) (v2_7 : Int32) (σL7 : GS) (H : Heap) (locs : List Loc) (ls : Array Slot), va_P D vwCl (wG K ad σL7) H → va_S (GA ad) s.heap H locs → lv_has ls 3 [(0, .ref (ad 63)), (2, .int v2_7)] → F_M_town_39 KL7_63 n v2_7 σL7 = some z0 → W p l e (rmd 6) s m args below meth c H locs 0 0 (MQ below (QI D K ad z0.1 z0.2) args s 0 0 (GA ad)) (F0 m 39 ls []) := by
          clear hf
          intro n
          induction n with
          | zero =>
            intro v2_7 σL7 H locs ls hP hS hl hf
            rw [F_M_town_39.eq_1] at hf
            cases hf
          | succ n ih =>
            intro v2_7 σL7 H locs ls hP hS hl hf
            rw [F_M_town_39.eq_2] at hf
            refine lv_iload_n hx hb d_M_town_39 rfl (lv_at hl 1 rfl) ?_
            refine lv_bipush (v := (27 : Int32)) hx hb d_M_town_40 (by decide) ?_
            refine lv_icmp_ge (tgt := 63) hx hb d_M_town_42 (by decide) (fun hc15 => ?_) (fun hc15 => ?_)
            · rw [if_pos hc15] at hf
              exact hKL7_63 _ _ _ _ _ hP hS (lv_sub hl [0] rfl) hf
            · rw [if_neg hc15] at hf
              refine lv_aload_n hx hb d_M_town_45 rfl (lv_at hl 0 rfl) ?_
              refine g_get (v := .ref (ad 68)) hC hP o_63 co_M 4 (by decide) rfl fl_M_22 rfl d_M_town_46 ?_
              refine lv_iload_n hx hb d_M_town_49 rfl (lv_at hl 1 rfl) ?_
              refine lv_aload_n hx hb d_M_town_50 rfl (lv_at hl 0 rfl) ?_
              refine g_get (v := .ref (ad 74)) hC hP o_63 co_M 14 (by decide) rfl fl_M_45 rfl d_M_town_51 ?_
              refine lv_iload_n hx hb d_M_town_54 rfl (lv_at hl 1 rfl) ?_
              obtain ⟨hg12, hf⟩ := gd_some hf
              refine g_iald2 (j := v2_7.toNatClampNeg) hC hP a_74 hg12 rfl d_M_town_55 ?_
              obtain ⟨hg13, hf⟩ := gd_some hf
              obtain ⟨σ14, eσ14, hf⟩ := jn_some hf
              refine g_iast2 (j := v2_7.toNatClampNeg) hC hP hS a_68 hg13 rfl d_M_town_56 (fun H locs hP hS => ?_)
              rw [← eσ14] at hP
              refine lv_iinc (v := v2_7 + 1) (lv' := [(2, .int (v2_7 + 1)), (0, .ref (ad 63))]) hx hb d_M_town_57 hl (k := 1) rfl rfl (by decide) rfl (fun ls hl => ?_)
              refine lv_goto (tgt := 39) hx hb d_M_town_60 (by decide) ?_
              exact ih _ _ _ _ _ hP hS (lv_sub hl [1, 0] rfl) hf
        exact hL7 _ _ _ _ _ _ hP hS (lv_sub hl [1, 0] rfl) hf
      · rw [if_neg hc16] at hf
        refine lv_bipush (v := (-4 : Int32)) hx hb d_M_town_34 (by decide) ?_
        cases hf
        exact g_iret hC rfl hP hS d_M_town_36
    · rw [if_neg hc20] at hf
      refine lv_aload_n hx hb d_M_town_18 rfl (lv_at hl 0 rfl) ?_
      refine lv_iconst (v := (1 : Int32)) hx hb d_M_town_19 (by decide) ?_
      obtain ⟨r18, σ19, hk17, hf⟩ := bc_some hf
      refine g_calli hS (g_runV (As := [.int (1 : Int32)]) (rest := []) hC hP (c_M_found hj  hk17) (rk (by decide) (by decide)) nm_M_found cd_M_found it_WideTownModel ml_M_110 im_M_found sl_M_found o_63 co_M rfl hl.1 rfl (Nat.le_of_ble_eq_true rfl) d_M_town_20 zz) (fun H locs hP hS => ?_)
      cases hf
      exact g_iret hC rfl hP hS d_M_town_23
  · rw [if_pos hc21] at hf
    refine lv_iconst (v := (-1 : Int32)) hx hb d_M_town_7 (by decide) ?_
    cases hf
    exact g_iret hC rfl hP hS d_M_town_8
set_option maxHeartbeats 4000000 in
set_option maxRecDepth 100000 in
theorem c_M_isLast {l : Launch} {D : va_G} {K : Nat → ClassId} {ad : Nat → Nat} (hj : inj ad) {q0 : Nat} (h_q0 : isA K ad q0 0 64) {x1 : Int32} {x2 : Int32} {σ : GS} {z0 : Int32} (hf : F_M_isLast q0 x1 x2 σ = some z0) : CT l D K ad y_M_isLast b_M_isLast 5 (some .boolean) 1 [.ref (ad q0), .int x1, .int x2] σ (QI D K ad z0 σ) := by
  refine CT.intro hj (by decide) (Nat.le_of_ble_eq_true rfl) ?_
  intro p e s m args below meth c ls hC hP hS hl
  obtain ⟨hx, hb, -, hown, hts, -⟩ := id hC
  have hl : lv_has ls 5 [(0, .ref (ad q0)), (1, .int x1), (2, .int x2)] := hl
  rw [F_M_isLast] at hf
  refine lv_iconst (v := (1 : Int32)) hx hb d_M_isLast_0 (by decide) ?_
  refine lv_istore_n (lv' := [(3, .int (1 : Int32)), (0, .ref (ad q0)), (1, .int x1), (2, .int x2)]) hx hb d_M_isLast_1 rfl hl (by decide) rfl (fun ls hl => ?_)
  refine lv_iload_n hx hb d_M_isLast_2 rfl (lv_at hl 3 rfl) ?_
  refine lv_iconst (v := (1 : Int32)) hx hb d_M_isLast_3 (by decide) ?_
  refine lv_iadd hx hb d_M_isLast_4 ?_
  refine lv_istore (lv' := [(4, .int (x2 + (1 : Int32))), (3, .int (1 : Int32)), (0, .ref (ad q0)), (1, .int x1), (2, .int x2)]) hx hb d_M_isLast_5 hl (by decide) rfl (fun ls hl => ?_)
  obtain ⟨KL1_42, eKL1_42, hf⟩ := jn_some hf
  have hKL1_42 : ∀ (v3_1 : Int32) (v4_1 : Int32) (H : Heap) (locs : List Loc) (ls : Array Slot), va_P D vwCl (wG K ad σ) H → va_S (GA ad) s.heap H locs → lv_has ls 5 [(3, .int v3_1)] → KL1_42 v3_1 v4_1 = some z0 → W p l e (rmd 1) s m args below meth c H locs 0 0 (MQ below (QI D K ad z0 σ) args s 0 0 (GA ad)) (F0 m 42 ls []) := by
    clear hf
    intro v3_1 v4_1 H locs ls hP hS hl hf
    rw [eKL1_42] at hf
    try dsimp only at hf
    refine lv_iload_n hx hb d_M_isLast_42 rfl (lv_at hl 0 rfl) ?_
    obtain ⟨hz, hf⟩ := gd_some hf
    cases hf
    exact g_zret hC rfl hz hP hS d_M_isLast_43
  clear eKL1_42
  have hL1 : ∀ (n : Nat) (v3_1 : Int32) (v4_1 : Int32) (H : Heap) (locs : List Loc) (ls : Array Slot), va_P D vwCl (wG K ad σ) H → va_S (GA ad) s.heap H locs → lv_has ls 5 [(0, .ref (ad q0)), (1, .int x1), (2, .int x2), (3, .int v3_1), (4, .int v4_1)] → F_M_isLast_7 q0 x1 x2 σ KL1_42 n v3_1 v4_1 = some z0 → W p l e (rmd 1) s m args below meth c H locs 0 0 (MQ below (QI D K ad z0 σ) args s 0 0 (GA ad)) (F0 m 7 ls []) := by
    clear hf
    intro n
    induction n with
    | zero =>
      intro v3_1 v4_1 H locs ls hP hS hl hf
      rw [F_M_isLast_7.eq_1] at hf
      cases hf
    | succ n ih =>
      intro v3_1 v4_1 H locs ls hP hS hl hf
      rw [F_M_isLast_7.eq_2] at hf
      refine lv_iload hx hb d_M_isLast_7 (lv_at hl 4 rfl) ?_
      refine lv_iload_n hx hb d_M_isLast_9 rfl (lv_at hl 1 rfl) ?_
      refine lv_icmp_ge (tgt := 42) hx hb d_M_isLast_10 (by decide) (fun hc8 => ?_) (fun hc8 => ?_)
      · rw [if_pos hc8] at hf
        exact hKL1_42 _ _ _ _ _ hP hS (lv_sub hl [3] rfl) hf
      · rw [if_neg hc8] at hf
        refine lv_iload_n hx hb d_M_isLast_13 rfl (lv_at hl 3 rfl) ?_
        refine lv_if_eq (tgt := 34) hx hb d_M_isLast_14 (by decide) (fun hc7 => ?_) (fun hc7 => ?_)
        · rw [if_pos hc7] at hf
          refine lv_iconst (v := (0 : Int32)) hx hb d_M_isLast_34 (by decide) ?_
          refine lv_istore_n (lv' := [(3, .int (0 : Int32)), (0, .ref (ad q0)), (1, .int x1), (2, .int x2), (4, .int v4_1)]) hx hb d_M_isLast_35 rfl hl (by decide) rfl (fun ls hl => ?_)
          refine lv_iinc (v := v4_1 + 1) (lv' := [(4, .int (v4_1 + 1)), (3, .int (0 : Int32)), (0, .ref (ad q0)), (1, .int x1), (2, .int x2)]) hx hb d_M_isLast_36 hl (k := 4) rfl rfl (by decide) rfl (fun ls hl => ?_)
          refine lv_goto (tgt := 7) hx hb d_M_isLast_39 (by decide) ?_
          exact ih _ _ _ _ _ hP hS (lv_sub hl [2, 3, 4, 1, 0] rfl) hf
        · rw [if_neg hc7] at hf
          refine lv_aload_n hx hb d_M_isLast_17 rfl (lv_at hl 0 rfl) ?_
          refine lv_iload hx hb d_M_isLast_18 (lv_at hl 4 rfl) ?_
          obtain ⟨hg2, hf⟩ := gd_some hf
          refine g_iald2 (j := v4_1.toNatClampNeg) hC hP h_q0 hg2 rfl d_M_isLast_20 ?_
          refine lv_aload_n hx hb d_M_isLast_21 rfl (lv_at hl 0 rfl) ?_
          refine lv_iload_n hx hb d_M_isLast_22 rfl (lv_at hl 2 rfl) ?_
          obtain ⟨hg3, hf⟩ := gd_some hf
          refine g_iald2 (j := x2.toNatClampNeg) hC hP h_q0 hg3 rfl d_M_isLast_23 ?_
          obtain ⟨r5, hk4, hf⟩ := bp_some hf
          refine g_calli hS (g_runS (As := [.int (σ.1 q0 v4_1.toNatClampNeg), .int (σ.1 q0 x2.toNatClampNeg)]) (rest := []) hC hP (c_M_areNeighbours hj  hk4) (rk (by decide) (by decide)) nm_M_areNeighbours cd_M_areNeighbours it_WideTownModel ml_M_148 sc_M_areNeighbours rfl hl.1 rfl (Nat.le_of_ble_eq_true rfl) d_M_isLast_24 zz) (fun H locs hP hS => ?_)
          refine lv_if_eq (tgt := 34) hx hb d_M_isLast_27 (by decide) (fun hc6 => ?_) (fun hc6 => ?_)
          · rw [if_pos hc6] at hf
            refine lv_iconst (v := (0 : Int32)) hx hb d_M_isLast_34 (by decide) ?_
            refine lv_istore_n (lv' := [(3, .int (0 : Int32)), (0, .ref (ad q0)), (1, .int x1), (2, .int x2), (4, .int v4_1)]) hx hb d_M_isLast_35 rfl hl (by decide) rfl (fun ls hl => ?_)
            refine lv_iinc (v := v4_1 + 1) (lv' := [(4, .int (v4_1 + 1)), (3, .int (0 : Int32)), (0, .ref (ad q0)), (1, .int x1), (2, .int x2)]) hx hb d_M_isLast_36 hl (k := 4) rfl rfl (by decide) rfl (fun ls hl => ?_)
            refine lv_goto (tgt := 7) hx hb d_M_isLast_39 (by decide) ?_
            exact ih _ _ _ _ _ hP hS (lv_sub hl [2, 3, 4, 1, 0] rfl) hf
          · rw [if_neg hc6] at hf
            refine lv_iconst (v := (1 : Int32)) hx hb d_M_isLast_30 (by decide) ?_
            refine lv_goto (tgt := 35) hx hb d_M_isLast_31 (by decide) ?_
            refine lv_istore_n (lv' := [(3, .int (1 : Int32)), (0, .ref (ad q0)), (1, .int x1), (2, .int x2), (4, .int v4_1)]) hx hb d_M_isLast_35 rfl hl (by decide) rfl (fun ls hl => ?_)
            refine lv_iinc (v := v4_1 + 1) (lv' := [(4, .int (v4_1 + 1)), (3, .int (1 : Int32)), (0, .ref (ad q0)), (1, .int x1), (2, .int x2)]) hx hb d_M_isLast_36 hl (k := 4) rfl rfl (by decide) rfl (fun ls hl => ?_)
            refine lv_goto (tgt := 7) hx hb d_M_isLast_39 (by decide) ?_
            exact ih _ _ _ _ _ hP hS (lv_sub hl [2, 3, 4, 1, 0] rfl) hf
  exact hL1 _ _ _ _ _ _ hP hS (lv_sub hl [2, 3, 4, 1, 0] rfl) hf
set_option maxHeartbeats 4000000 in
set_option maxRecDepth 100000 in
theorem c_M_isCode {l : Launch} {D : va_G} {K : Nat → ClassId} {ad : Nat → Nat} (hj : inj ad)   {x0 : Int32} {σ : GS} {z0 : Int32} (hf : F_M_isCode x0 = some z0) : CT l D K ad y_M_isCode b_M_isCode 3 (some .boolean) 1 [.int x0] σ (QI D K ad z0 σ) := by
  refine CT.intro hj (by decide) (Nat.le_of_ble_eq_true rfl) ?_
  intro p e s m args below meth c ls hC hP hS hl
  obtain ⟨hx, hb, -, hown, hts, -⟩ := id hC
  have hl : lv_has ls 3 [(0, .int x0)] := hl
  rw [F_M_isCode] at hf
  refine lv_iload_n hx hb d_M_isCode_0 rfl (lv_at hl 0 rfl) ?_
  refine lv_i2l hx hb d_M_isCode_1 rfl ?_
  refine lv_lconst (v := (0 : Int64)) hx hb d_M_isCode_2 (by decide) ?_
  refine lv_ldc2 hx hb hown (hts _ cn_M_160) d_M_isCode_3 ?_
  obtain ⟨r2, hk1, hf⟩ := bp_some hf
  refine g_calli hS (g_runS (As := [.long x0.toInt64, .long (0 : Int64), .long (555555555 : Int64)]) (rest := []) hC hP (c_M_in hj  hk1) (rk (by decide) (by decide)) nm_M_in cd_M_in it_WideTownModel ml_M_100 sc_M_in rfl hl.1 rfl (Nat.le_of_ble_eq_true rfl) d_M_isCode_6 zz) (fun H locs hP hS => ?_)
  refine lv_istore_n (lv' := [(1, .int r2), (0, .int x0)]) hx hb d_M_isCode_9 rfl hl (by decide) rfl (fun ls hl => ?_)
  refine lv_iload_n hx hb d_M_isCode_10 rfl (lv_at hl 1 rfl) ?_
  refine lv_istore_n (lv' := [(2, .int x0), (1, .int r2), (0, .int x0)]) hx hb d_M_isCode_11 rfl hl (by decide) rfl (fun ls hl => ?_)
  obtain ⟨KL3_49, eKL3_49, hf⟩ := jn_some hf
  have hKL3_49 : ∀ (v1_3 : Int32) (v2_3 : Int32) (H : Heap) (locs : List Loc) (ls : Array Slot), va_P D vwCl (wG K ad σ) H → va_S (GA ad) s.heap H locs → lv_has ls 3 [(1, .int v1_3)] → KL3_49 v1_3 v2_3 = some z0 → W p l e (rmd 1) s m args below meth c H locs 0 0 (MQ below (QI D K ad z0 σ) args s 0 0 (GA ad)) (F0 m 49 ls []) := by
    clear hf
    intro v1_3 v2_3 H locs ls hP hS hl hf
    rw [eKL3_49] at hf
    try dsimp only at hf
    refine lv_iload_n hx hb d_M_isCode_49 rfl (lv_at hl 0 rfl) ?_
    obtain ⟨hz, hf⟩ := gd_some hf
    cases hf
    exact g_zret hC rfl hz hP hS d_M_isCode_50
  clear eKL3_49
  have hL3 : ∀ (n : Nat) (v1_3 : Int32) (v2_3 : Int32) (H : Heap) (locs : List Loc) (ls : Array Slot), va_P D vwCl (wG K ad σ) H → va_S (GA ad) s.heap H locs → lv_has ls 3 [(1, .int v1_3), (2, .int v2_3)] → F_M_isCode_12 KL3_49 n v1_3 v2_3 = some z0 → W p l e (rmd 1) s m args below meth c H locs 0 0 (MQ below (QI D K ad z0 σ) args s 0 0 (GA ad)) (F0 m 12 ls []) := by
    clear hf
    intro n
    induction n with
    | zero =>
      intro v1_3 v2_3 H locs ls hP hS hl hf
      rw [F_M_isCode_12.eq_1] at hf
      cases hf
    | succ n ih =>
      intro v1_3 v2_3 H locs ls hP hS hl hf
      rw [F_M_isCode_12.eq_2] at hf
      refine lv_iload_n hx hb d_M_isCode_12 rfl (lv_at hl 1 rfl) ?_
      refine lv_if_le (tgt := 49) hx hb d_M_isCode_13 (by decide) (fun hc10 => ?_) (fun hc10 => ?_)
      · rw [if_pos hc10] at hf
        exact hKL3_49 _ _ _ _ _ hP hS (lv_sub hl [0] rfl) hf
      · rw [if_neg hc10] at hf
        refine lv_iload_n hx hb d_M_isCode_16 rfl (lv_at hl 0 rfl) ?_
        obtain ⟨J4, eJ4, hf⟩ := jn_some hf
        have hJ4 : ∀ (tJ4 : Int32) (H : Heap) (locs : List Loc) (ls : Array Slot), va_P D vwCl (wG K ad σ) H → va_S (GA ad) s.heap H locs → lv_has ls 3 [(2, .int v2_3)] → J4 tJ4 = some z0 → W p l e (rmd 1) s m args below meth c H locs 0 0 (MQ below (QI D K ad z0 σ) args s 0 0 (GA ad)) (F0 m 40 ls [.int tJ4]) := by
          clear hf
          intro tJ4 H locs ls hP hS hl hf
          rw [eJ4] at hf
          try dsimp only at hf
          refine lv_istore_n (lv' := [(1, .int tJ4), (2, .int v2_3)]) hx hb d_M_isCode_40 rfl hl (by decide) rfl (fun ls hl => ?_)
          refine lv_iload_n hx hb d_M_isCode_41 rfl (lv_at hl 1 rfl) ?_
          refine lv_bipush (v := (10 : Int32)) hx hb d_M_isCode_42 (by decide) ?_
          refine lv_idiv hx hb d_M_isCode_44 (by decide) ?_
          refine lv_istore_n (lv' := [(2, .int (v2_3 / (10 : Int32))), (1, .int tJ4)]) hx hb d_M_isCode_45 rfl hl (by decide) rfl (fun ls hl => ?_)
          refine lv_goto (tgt := 12) hx hb d_M_isCode_46 (by decide) ?_
          exact ih _ _ _ _ _ hP hS (lv_sub hl [1, 0] rfl) hf
        clear eJ4
        obtain ⟨J5, eJ5, hf⟩ := jn_some hf
        have hJ5 : ∀ (dJ5 : Unit) (H : Heap) (locs : List Loc) (ls : Array Slot), va_P D vwCl (wG K ad σ) H → va_S (GA ad) s.heap H locs → lv_has ls 3 [(2, .int v2_3)] → J5 dJ5 = some z0 → W p l e (rmd 1) s m args below meth c H locs 0 0 (MQ below (QI D K ad z0 σ) args s 0 0 (GA ad)) (F0 m 39 ls []) := by
          clear hf
          intro dJ5 H locs ls hP hS hl hf
          rw [eJ5] at hf
          try dsimp only at hf
          refine lv_iconst (v := (0 : Int32)) hx hb d_M_isCode_39 (by decide) ?_
          exact hJ4 _ _ _ _ hP hS (lv_sub hl [0] rfl) hf
        clear eJ5
        refine lv_if_eq (tgt := 39) hx hb d_M_isCode_17 (by decide) (fun hc9 => ?_) (fun hc9 => ?_)
        · rw [if_pos hc9] at hf
          exact hJ5 _ _ _ _ hP hS (lv_sub hl [1] rfl) hf
        · rw [if_neg hc9] at hf
          refine lv_iload_n hx hb d_M_isCode_20 rfl (lv_at hl 1 rfl) ?_
          refine lv_bipush (v := (10 : Int32)) hx hb d_M_isCode_21 (by decide) ?_
          refine lv_irem hx hb d_M_isCode_23 (by decide) ?_
          refine lv_i2l hx hb d_M_isCode_24 rfl ?_
          refine lv_lconst (v := (1 : Int64)) hx hb d_M_isCode_25 (by decide) ?_
          refine lv_ldc2 hx hb hown (hts _ cn_M_98) d_M_isCode_26 ?_
          obtain ⟨r7, hk6, hf⟩ := bp_some hf
          refine g_calli hS (g_runS (As := [.long ((v2_3 - v2_3 / (10 : Int32) * (10 : Int32)).toInt64), .long (1 : Int64), .long (5 : Int64)]) (rest := []) hC hP (c_M_in hj  hk6) (rk (by decide) (by decide)) nm_M_in cd_M_in it_WideTownModel ml_M_100 sc_M_in rfl hl.1 rfl (Nat.le_of_ble_eq_true rfl) d_M_isCode_29 zz) (fun H locs hP hS => ?_)
          refine lv_if_eq (tgt := 39) hx hb d_M_isCode_32 (by decide) (fun hc8 => ?_) (fun hc8 => ?_)
          · rw [if_pos hc8] at hf
            exact hJ5 _ _ _ _ hP hS (lv_sub hl [1] rfl) hf
          · rw [if_neg hc8] at hf
            refine lv_iconst (v := (1 : Int32)) hx hb d_M_isCode_35 (by decide) ?_
            refine lv_goto (tgt := 40) hx hb d_M_isCode_36 (by decide) ?_
            exact hJ4 _ _ _ _ hP hS (lv_sub hl [1] rfl) hf
  exact hL3 _ _ _ _ _ _ hP hS (lv_sub hl [1, 0] rfl) hf
set_option maxHeartbeats 4000000 in
set_option maxRecDepth 100000 in
theorem c_M_figures {l : Launch} {D : va_G} {K : Nat → ClassId} {ad : Nat → Nat} (hj : inj ad)   {x0 : Int32} {σ : GS} {z0 : Int32} (hf : F_M_figures x0 = some z0) : CT l D K ad y_M_figures b_M_figures 3 (some .int) 0 [.int x0] σ (QI D K ad z0 σ) := by
  refine CT.intro hj (by decide) (Nat.le_of_ble_eq_true rfl) ?_
  intro p e s m args below meth c ls hC hP hS hl
  obtain ⟨hx, hb, -, hown, hts, -⟩ := id hC
  have hl : lv_has ls 3 [(0, .int x0)] := hl
  rw [F_M_figures] at hf
  refine lv_iconst (v := (0 : Int32)) hx hb d_M_figures_0 (by decide) ?_
  refine lv_istore_n (lv' := [(1, .int (0 : Int32)), (0, .int x0)]) hx hb d_M_figures_1 rfl hl (by decide) rfl (fun ls hl => ?_)
  refine lv_iload_n hx hb d_M_figures_2 rfl (lv_at hl 1 rfl) ?_
  refine lv_istore_n (lv' := [(2, .int x0), (1, .int (0 : Int32)), (0, .int x0)]) hx hb d_M_figures_3 rfl hl (by decide) rfl (fun ls hl => ?_)
  obtain ⟨KL1_19, eKL1_19, hf⟩ := jn_some hf
  have hKL1_19 : ∀ (v1_1 : Int32) (v2_1 : Int32) (H : Heap) (locs : List Loc) (ls : Array Slot), va_P D vwCl (wG K ad σ) H → va_S (GA ad) s.heap H locs → lv_has ls 3 [(1, .int v1_1)] → KL1_19 v1_1 v2_1 = some z0 → W p l e (rmd 0) s m args below meth c H locs 0 0 (MQ below (QI D K ad z0 σ) args s 0 0 (GA ad)) (F0 m 19 ls []) := by
    clear hf
    intro v1_1 v2_1 H locs ls hP hS hl hf
    rw [eKL1_19] at hf
    try dsimp only at hf
    refine lv_iload_n hx hb d_M_figures_19 rfl (lv_at hl 0 rfl) ?_
    cases hf
    exact g_iret hC rfl hP hS d_M_figures_20
  clear eKL1_19
  have hL1 : ∀ (n : Nat) (v1_1 : Int32) (v2_1 : Int32) (H : Heap) (locs : List Loc) (ls : Array Slot), va_P D vwCl (wG K ad σ) H → va_S (GA ad) s.heap H locs → lv_has ls 3 [(1, .int v1_1), (2, .int v2_1)] → F_M_figures_4 KL1_19 n v1_1 v2_1 = some z0 → W p l e (rmd 0) s m args below meth c H locs 0 0 (MQ below (QI D K ad z0 σ) args s 0 0 (GA ad)) (F0 m 4 ls []) := by
    clear hf
    intro n
    induction n with
    | zero =>
      intro v1_1 v2_1 H locs ls hP hS hl hf
      rw [F_M_figures_4.eq_1] at hf
      cases hf
    | succ n ih =>
      intro v1_1 v2_1 H locs ls hP hS hl hf
      rw [F_M_figures_4.eq_2] at hf
      refine lv_iload_n hx hb d_M_figures_4 rfl (lv_at hl 1 rfl) ?_
      refine lv_if_le (tgt := 19) hx hb d_M_figures_5 (by decide) (fun hc2 => ?_) (fun hc2 => ?_)
      · rw [if_pos hc2] at hf
        exact hKL1_19 _ _ _ _ _ hP hS (lv_sub hl [0] rfl) hf
      · rw [if_neg hc2] at hf
        refine lv_iinc (v := v1_1 + 1) (lv' := [(1, .int (v1_1 + 1)), (2, .int v2_1)]) hx hb d_M_figures_8 hl (k := 0) rfl rfl (by decide) rfl (fun ls hl => ?_)
        refine lv_iload_n hx hb d_M_figures_11 rfl (lv_at hl 1 rfl) ?_
        refine lv_bipush (v := (10 : Int32)) hx hb d_M_figures_12 (by decide) ?_
        refine lv_idiv hx hb d_M_figures_14 (by decide) ?_
        refine lv_istore_n (lv' := [(2, .int (v2_1 / (10 : Int32))), (1, .int (v1_1 + 1))]) hx hb d_M_figures_15 rfl hl (by decide) rfl (fun ls hl => ?_)
        refine lv_goto (tgt := 4) hx hb d_M_figures_16 (by decide) ?_
        exact ih _ _ _ _ _ hP hS (lv_sub hl [1, 0] rfl) hf
  exact hL1 _ _ _ _ _ _ hP hS (lv_sub hl [1, 0] rfl) hf
set_option maxHeartbeats 4000000 in
set_option maxRecDepth 100000 in
theorem c_M_follow {l : Launch} {D : va_G} {K : Nat → ClassId} {ad : Nat → Nat} (hj : inj ad) {q0 : Nat} (h_q0 : isA K ad q0 0 64) {x1 : Int32} {x2 : Int32} {σ : GS} {z0 : Int32 × GS} (hf : F_M_follow q0 x1 x2 σ = some z0) : CT l D K ad y_M_follow b_M_follow 6 (some .int) 2 [.ref (ad q0), .int x1, .int x2] σ (QI D K ad z0.1 z0.2) := by
  refine CT.intro hj (by decide) (Nat.le_of_ble_eq_true rfl) ?_
  intro p e s m args below meth c ls hC hP hS hl
  obtain ⟨hx, hb, -, hown, hts, -⟩ := id hC
  have hl : lv_has ls 6 [(0, .ref (ad q0)), (1, .int x1), (2, .int x2)] := hl
  rw [F_M_follow] at hf
  refine lv_iconst (v := (1 : Int32)) hx hb d_M_follow_0 (by decide) ?_
  refine lv_istore_n (lv' := [(3, .int (1 : Int32)), (0, .ref (ad q0)), (1, .int x1), (2, .int x2)]) hx hb d_M_follow_1 rfl hl (by decide) rfl (fun ls hl => ?_)
  refine lv_iconst (v := (1 : Int32)) hx hb d_M_follow_2 (by decide) ?_
  refine lv_istore (lv' := [(4, .int (1 : Int32)), (3, .int (1 : Int32)), (0, .ref (ad q0)), (1, .int x1), (2, .int x2)]) hx hb d_M_follow_3 hl (by decide) rfl (fun ls hl => ?_)
  obtain ⟨KL1_25, eKL1_25, hf⟩ := jn_some hf
  have hKL1_25 : ∀ (v3_1 : Int32) (v4_1 : Int32) (H : Heap) (locs : List Loc) (ls : Array Slot), va_P D vwCl (wG K ad σ) H → va_S (GA ad) s.heap H locs → lv_has ls 6 [(0, .ref (ad q0)), (1, .int x1), (2, .int x2), (3, .int v3_1)] → KL1_25 v3_1 v4_1 = some z0 → W p l e (rmd 2) s m args below meth c H locs 0 0 (MQ below (QI D K ad z0.1 z0.2) args s 0 0 (GA ad)) (F0 m 25 ls []) := by
    clear hf
    intro v3_1 v4_1 H locs ls hP hS hl hf
    rw [eKL1_25] at hf
    try dsimp only at hf
    refine lv_iload_n hx hb d_M_follow_25 rfl (lv_at hl 1 rfl) ?_
    refine lv_istore (lv' := [(4, .int x1), (0, .ref (ad q0)), (1, .int x1), (2, .int x2), (3, .int v3_1)]) hx hb d_M_follow_26 hl (by decide) rfl (fun ls hl => ?_)
    refine lv_iload_n hx hb d_M_follow_28 rfl (lv_at hl 3 rfl) ?_
    refine lv_istore (lv' := [(5, .int x2), (4, .int x1), (0, .ref (ad q0)), (1, .int x1), (2, .int x2), (3, .int v3_1)]) hx hb d_M_follow_29 hl (by decide) rfl (fun ls hl => ?_)
    obtain ⟨KL2_65, eKL2_65, hf⟩ := jn_some hf
    have hKL2_65 : ∀ (v3_2 : Int32) (v4_2 : Int32) (σL2 : GS) (H : Heap) (locs : List Loc) (ls : Array Slot), va_P D vwCl (wG K ad σL2) H → va_S (GA ad) s.heap H locs → lv_has ls 6 [(4, .int v4_2)] → KL2_65 v3_2 v4_2 σL2 = some z0 → W p l e (rmd 2) s m args below meth c H locs 0 0 (MQ below (QI D K ad z0.1 z0.2) args s 0 0 (GA ad)) (F0 m 65 ls []) := by
      clear hf
      intro v3_2 v4_2 σL2 H locs ls hP hS hl hf
      rw [eKL2_65] at hf
      try dsimp only at hf
      refine lv_iload hx hb d_M_follow_65 (lv_at hl 0 rfl) ?_
      cases hf
      exact g_iret hC rfl hP hS d_M_follow_67
    clear eKL2_65
    have hL2 : ∀ (n : Nat) (v3_2 : Int32) (v4_2 : Int32) (σL2 : GS) (H : Heap) (locs : List Loc) (ls : Array Slot), va_P D vwCl (wG K ad σL2) H → va_S (GA ad) s.heap H locs → lv_has ls 6 [(0, .ref (ad q0)), (3, .int v3_2), (4, .int v4_2), (5, .int x2)] → F_M_follow_31 q0 x2 KL2_65 n v3_2 v4_2 σL2 = some z0 → W p l e (rmd 2) s m args below meth c H locs 0 0 (MQ below (QI D K ad z0.1 z0.2) args s 0 0 (GA ad)) (F0 m 31 ls []) := by
      clear hf
      intro n
      induction n with
      | zero =>
        intro v3_2 v4_2 σL2 H locs ls hP hS hl hf
        rw [F_M_follow_31.eq_1] at hf
        cases hf
      | succ n ih =>
        intro v3_2 v4_2 σL2 H locs ls hP hS hl hf
        rw [F_M_follow_31.eq_2] at hf
        refine lv_iload hx hb d_M_follow_31 (lv_at hl 3 rfl) ?_
        refine lv_if_le (tgt := 65) hx hb d_M_follow_33 (by decide) (fun hc7 => ?_) (fun hc7 => ?_)
        · rw [if_pos hc7] at hf
          exact hKL2_65 _ _ _ _ _ _ hP hS (lv_sub hl [2] rfl) hf
        · rw [if_neg hc7] at hf
          refine lv_iload_n hx hb d_M_follow_36 rfl (lv_at hl 1 rfl) ?_
          refine lv_if_le (tgt := 65) hx hb d_M_follow_37 (by decide) (fun hc6 => ?_) (fun hc6 => ?_)
          · rw [if_pos hc6] at hf
            exact hKL2_65 _ _ _ _ _ _ hP hS (lv_sub hl [2] rfl) hf
          · rw [if_neg hc6] at hf
            refine lv_aload_n hx hb d_M_follow_40 rfl (lv_at hl 0 rfl) ?_
            refine lv_iload hx hb d_M_follow_41 (lv_at hl 2 rfl) ?_
            refine lv_iload hx hb d_M_follow_43 (lv_at hl 3 rfl) ?_
            refine lv_iload_n hx hb d_M_follow_45 rfl (lv_at hl 1 rfl) ?_
            obtain ⟨hg, hf⟩ := gd_some hf
            refine lv_idiv hx hb d_M_follow_46 (zB_in hg) ?_
            refine lv_bipush (v := (10 : Int32)) hx hb d_M_follow_47 (by decide) ?_
            refine lv_irem hx hb d_M_follow_49 (by decide) ?_
            refine lv_iconst (v := (1 : Int32)) hx hb d_M_follow_50 (by decide) ?_
            refine lv_isub hx hb d_M_follow_51 ?_
            obtain ⟨r4, σ5, hk3, hf⟩ := bc_some hf
            refine g_calli hS (g_runS (As := [.ref (ad q0), .int v4_2, .int (((x2 / v3_2) - (x2 / v3_2) / (10 : Int32) * (10 : Int32)) - (1 : Int32))]) (rest := []) hC hP (c_M_times hj h_q0 hk3) (rk (by decide) (by decide)) nm_M_times cd_M_times it_WideTownModel ml_M_134 sc_M_times rfl hl.1 rfl (Nat.le_of_ble_eq_true rfl) d_M_follow_52 zz) (fun H locs hP hS => ?_)
            refine lv_istore (lv' := [(4, .int r4), (0, .ref (ad q0)), (3, .int v3_2), (5, .int x2)]) hx hb d_M_follow_55 hl (by decide) rfl (fun ls hl => ?_)
            refine lv_iload_n hx hb d_M_follow_57 rfl (lv_at hl 2 rfl) ?_
            refine lv_bipush (v := (10 : Int32)) hx hb d_M_follow_58 (by decide) ?_
            refine lv_idiv hx hb d_M_follow_60 (by decide) ?_
            refine lv_istore_n (lv' := [(3, .int (v3_2 / (10 : Int32))), (4, .int r4), (0, .ref (ad q0)), (5, .int x2)]) hx hb d_M_follow_61 rfl hl (by decide) rfl (fun ls hl => ?_)
            refine lv_goto (tgt := 31) hx hb d_M_follow_62 (by decide) ?_
            exact ih _ _ _ _ _ _ hP hS (lv_sub hl [2, 0, 1, 3] rfl) hf
    exact hL2 _ _ _ _ _ _ _ hP hS (lv_sub hl [2, 5, 1, 0] rfl) hf
  clear eKL1_25
  have hL1 : ∀ (n : Nat) (v3_1 : Int32) (v4_1 : Int32) (H : Heap) (locs : List Loc) (ls : Array Slot), va_P D vwCl (wG K ad σ) H → va_S (GA ad) s.heap H locs → lv_has ls 6 [(0, .ref (ad q0)), (1, .int x1), (2, .int x2), (3, .int v3_1), (4, .int v4_1)] → F_M_follow_5 q0 x1 x2 σ KL1_25 n v3_1 v4_1 = some z0 → W p l e (rmd 2) s m args below meth c H locs 0 0 (MQ below (QI D K ad z0.1 z0.2) args s 0 0 (GA ad)) (F0 m 5 ls []) := by
    clear hf
    intro n
    induction n with
    | zero =>
      intro v3_1 v4_1 H locs ls hP hS hl hf
      rw [F_M_follow_5.eq_1] at hf
      cases hf
    | succ n ih =>
      intro v3_1 v4_1 H locs ls hP hS hl hf
      rw [F_M_follow_5.eq_2] at hf
      refine lv_iload hx hb d_M_follow_5 (lv_at hl 4 rfl) ?_
      refine lv_iload_n hx hb d_M_follow_7 rfl (lv_at hl 2 rfl) ?_
      obtain ⟨r9, hk8, hf⟩ := bp_some hf
      refine g_calli hS (g_runS (As := [.int x2]) (rest := [.int v4_1]) hC hP (c_M_figures hj  hk8) (rk (by decide) (by decide)) nm_M_figures cd_M_figures it_WideTownModel ml_M_162 sc_M_figures rfl hl.1 rfl (Nat.le_of_ble_eq_true rfl) d_M_follow_8 zz) (fun H locs hP hS => ?_)
      refine lv_icmp_ge (tgt := 25) hx hb d_M_follow_11 (by decide) (fun hc10 => ?_) (fun hc10 => ?_)
      · rw [if_pos hc10] at hf
        exact hKL1_25 _ _ _ _ _ hP hS (lv_sub hl [0, 1, 2, 3] rfl) hf
      · rw [if_neg hc10] at hf
        refine lv_iload_n hx hb d_M_follow_14 rfl (lv_at hl 3 rfl) ?_
        refine lv_bipush (v := (10 : Int32)) hx hb d_M_follow_15 (by decide) ?_
        refine lv_imul hx hb d_M_follow_17 ?_
        refine lv_istore_n (lv' := [(3, .int (v3_1 * (10 : Int32))), (0, .ref (ad q0)), (1, .int x1), (2, .int x2), (4, .int v4_1)]) hx hb d_M_follow_18 rfl hl (by decide) rfl (fun ls hl => ?_)
        refine lv_iinc (v := v4_1 + 1) (lv' := [(4, .int (v4_1 + 1)), (3, .int (v3_1 * (10 : Int32))), (0, .ref (ad q0)), (1, .int x1), (2, .int x2)]) hx hb d_M_follow_19 hl (k := 4) rfl rfl (by decide) rfl (fun ls hl => ?_)
        refine lv_goto (tgt := 5) hx hb d_M_follow_22 (by decide) ?_
        exact ih _ _ _ _ _ hP hS (lv_sub hl [2, 3, 4, 1, 0] rfl) hf
  exact hL1 _ _ _ _ _ _ hP hS (lv_sub hl [2, 3, 4, 1, 0] rfl) hf
set_option maxHeartbeats 4000000 in
set_option maxRecDepth 100000 in
theorem c_M_followBack {l : Launch} {D : va_G} {K : Nat → ClassId} {ad : Nat → Nat} (hj : inj ad) {q0 : Nat} (h_q0 : isA K ad q0 0 64) {x1 : Int32} {x2 : Int32} {σ : GS} {z0 : Int32 × GS} (hf : F_M_followBack q0 x1 x2 σ = some z0) : CT l D K ad y_M_followBack b_M_followBack 5 (some .int) 2 [.ref (ad q0), .int x1, .int x2] σ (QI D K ad z0.1 z0.2) := by
  refine CT.intro hj (by decide) (Nat.le_of_ble_eq_true rfl) ?_
  intro p e s m args below meth c ls hC hP hS hl
  obtain ⟨hx, hb, -, hown, hts, -⟩ := id hC
  have hl : lv_has ls 5 [(0, .ref (ad q0)), (1, .int x1), (2, .int x2)] := hl
  rw [F_M_followBack] at hf
  refine lv_iload_n hx hb d_M_followBack_0 rfl (lv_at hl 1 rfl) ?_
  refine lv_istore_n (lv' := [(3, .int x1), (0, .ref (ad q0)), (1, .int x1), (2, .int x2)]) hx hb d_M_followBack_1 rfl hl (by decide) rfl (fun ls hl => ?_)
  refine lv_iload_n hx hb d_M_followBack_2 rfl (lv_at hl 3 rfl) ?_
  refine lv_istore (lv' := [(4, .int x2), (3, .int x1), (0, .ref (ad q0)), (1, .int x1), (2, .int x2)]) hx hb d_M_followBack_3 hl (by decide) rfl (fun ls hl => ?_)
  obtain ⟨KL1_33, eKL1_33, hf⟩ := jn_some hf
  have hKL1_33 : ∀ (v3_1 : Int32) (v4_1 : Int32) (σL1 : GS) (H : Heap) (locs : List Loc) (ls : Array Slot), va_P D vwCl (wG K ad σL1) H → va_S (GA ad) s.heap H locs → lv_has ls 5 [(3, .int v3_1)] → KL1_33 v3_1 v4_1 σL1 = some z0 → W p l e (rmd 2) s m args below meth c H locs 0 0 (MQ below (QI D K ad z0.1 z0.2) args s 0 0 (GA ad)) (F0 m 33 ls []) := by
    clear hf
    intro v3_1 v4_1 σL1 H locs ls hP hS hl hf
    rw [eKL1_33] at hf
    try dsimp only at hf
    refine lv_iload_n hx hb d_M_followBack_33 rfl (lv_at hl 0 rfl) ?_
    cases hf
    exact g_iret hC rfl hP hS d_M_followBack_34
  clear eKL1_33
  have hL1 : ∀ (n : Nat) (v3_1 : Int32) (v4_1 : Int32) (σL1 : GS) (H : Heap) (locs : List Loc) (ls : Array Slot), va_P D vwCl (wG K ad σL1) H → va_S (GA ad) s.heap H locs → lv_has ls 5 [(0, .ref (ad q0)), (3, .int v3_1), (4, .int v4_1)] → F_M_followBack_5 q0 KL1_33 n v3_1 v4_1 σL1 = some z0 → W p l e (rmd 2) s m args below meth c H locs 0 0 (MQ below (QI D K ad z0.1 z0.2) args s 0 0 (GA ad)) (F0 m 5 ls []) := by
    clear hf
    intro n
    induction n with
    | zero =>
      intro v3_1 v4_1 σL1 H locs ls hP hS hl hf
      rw [F_M_followBack_5.eq_1] at hf
      cases hf
    | succ n ih =>
      intro v3_1 v4_1 σL1 H locs ls hP hS hl hf
      rw [F_M_followBack_5.eq_2] at hf
      refine lv_iload hx hb d_M_followBack_5 (lv_at hl 2 rfl) ?_
      refine lv_if_le (tgt := 33) hx hb d_M_followBack_7 (by decide) (fun hc5 => ?_) (fun hc5 => ?_)
      · rw [if_pos hc5] at hf
        exact hKL1_33 _ _ _ _ _ _ hP hS (lv_sub hl [1] rfl) hf
      · rw [if_neg hc5] at hf
        refine lv_aload_n hx hb d_M_followBack_10 rfl (lv_at hl 0 rfl) ?_
        refine lv_iload_n hx hb d_M_followBack_11 rfl (lv_at hl 1 rfl) ?_
        refine lv_iload hx hb d_M_followBack_12 (lv_at hl 2 rfl) ?_
        refine lv_bipush (v := (10 : Int32)) hx hb d_M_followBack_14 (by decide) ?_
        refine lv_irem hx hb d_M_followBack_16 (by decide) ?_
        refine lv_iconst (v := (1 : Int32)) hx hb d_M_followBack_17 (by decide) ?_
        refine lv_isub hx hb d_M_followBack_18 ?_
        obtain ⟨r3, σ4, hk2, hf⟩ := bc_some hf
        refine g_calli hS (g_runS (As := [.ref (ad q0), .int v3_1, .int ((v4_1 - v4_1 / (10 : Int32) * (10 : Int32)) - (1 : Int32))]) (rest := []) hC hP (c_M_times hj h_q0 hk2) (rk (by decide) (by decide)) nm_M_times cd_M_times it_WideTownModel ml_M_134 sc_M_times rfl hl.1 rfl (Nat.le_of_ble_eq_true rfl) d_M_followBack_19 zz) (fun H locs hP hS => ?_)
        refine lv_istore_n (lv' := [(3, .int r3), (0, .ref (ad q0)), (4, .int v4_1)]) hx hb d_M_followBack_22 rfl hl (by decide) rfl (fun ls hl => ?_)
        refine lv_iload hx hb d_M_followBack_23 (lv_at hl 2 rfl) ?_
        refine lv_bipush (v := (10 : Int32)) hx hb d_M_followBack_25 (by decide) ?_
        refine lv_idiv hx hb d_M_followBack_27 (by decide) ?_
        refine lv_istore (lv' := [(4, .int (v4_1 / (10 : Int32))), (3, .int r3), (0, .ref (ad q0))]) hx hb d_M_followBack_28 hl (by decide) rfl (fun ls hl => ?_)
        refine lv_goto (tgt := 5) hx hb d_M_followBack_30 (by decide) ?_
        exact ih _ _ _ _ _ _ hP hS (lv_sub hl [2, 1, 0] rfl) hf
  exact hL1 _ _ _ _ _ _ _ hP hS (lv_sub hl [2, 1, 0] rfl) hf
set_option maxHeartbeats 4000000 in
set_option maxRecDepth 100000 in
theorem c_M_wordFrom {l : Launch} {D : va_G} {K : Nat → ClassId} {ad : Nat → Nat} (hj : inj ad) {q0 : Nat} (h_q0 : isA K ad q0 0 64) {x1 : Int32} {x2 : Int32} {σ : GS} {z0 : Int32 × GS} (hf : F_M_wordFrom q0 x1 x2 σ = some z0) : CT l D K ad y_M_wordFrom b_M_wordFrom 3 (some .int) 3 [.ref (ad q0), .int x1, .int x2] σ (QI D K ad z0.1 z0.2) := by
  refine CT.intro hj (by decide) (Nat.le_of_ble_eq_true rfl) ?_
  intro p e s m args below meth c ls hC hP hS hl
  obtain ⟨hx, hb, -, hown, hts, -⟩ := id hC
  have hl : lv_has ls 3 [(0, .ref (ad q0)), (1, .int x1), (2, .int x2)] := hl
  rw [F_M_wordFrom] at hf
  refine lv_aload_n hx hb d_M_wordFrom_0 rfl (lv_at hl 0 rfl) ?_
  refine lv_aload_n hx hb d_M_wordFrom_1 rfl (lv_at hl 0 rfl) ?_
  refine lv_iconst (v := (0 : Int32)) hx hb d_M_wordFrom_2 (by decide) ?_
  refine lv_iload_n hx hb d_M_wordFrom_3 rfl (lv_at hl 1 rfl) ?_
  obtain ⟨r2, σ3, hk1, hf⟩ := bc_some hf
  refine g_calli hS (g_runS (As := [.ref (ad q0), .int (0 : Int32), .int x1]) (rest := [.ref (ad q0)]) hC hP (c_M_followBack hj h_q0 hk1) (rk (by decide) (by decide)) nm_M_followBack cd_M_followBack it_WideTownModel ml_M_168 sc_M_followBack rfl hl.1 rfl (Nat.le_of_ble_eq_true rfl) d_M_wordFrom_4 zz) (fun H locs hP hS => ?_)
  refine lv_iload_n hx hb d_M_wordFrom_7 rfl (lv_at hl 2 rfl) ?_
  obtain ⟨r5, σ6, hk4, hf⟩ := bc_some hf
  refine g_calli hS (g_runS (As := [.ref (ad q0), .int r2, .int x2]) (rest := []) hC hP (c_M_follow hj h_q0 hk4) (rk (by decide) (by decide)) nm_M_follow cd_M_follow it_WideTownModel ml_M_171 sc_M_follow rfl hl.1 rfl (Nat.le_of_ble_eq_true rfl) d_M_wordFrom_8 zz) (fun H locs hP hS => ?_)
  cases hf
  exact g_iret hC rfl hP hS d_M_wordFrom_11
set_option maxHeartbeats 4000000 in
set_option maxRecDepth 100000 in
theorem c_M_farOf {l : Launch} {D : va_G} {K : Nat → ClassId} {ad : Nat → Nat} (hj : inj ad)   {x1 : Int32} {x2 : Int32} {σ : GS} {z0 : Int32 × GS} (hf : F_M_farOf x1 x2 σ = some z0) : CT l D K ad y_M_farOf b_M_farOf 3 (some .int) 4 [.ref (ad 63), .int x1, .int x2] σ (QI D K ad z0.1 z0.2) := by
  refine CT.intro hj (by decide) (Nat.le_of_ble_eq_true rfl) ?_
  intro p e s m args below meth c ls hC hP hS hl
  obtain ⟨hx, hb, -, hown, hts, -⟩ := id hC
  have hl : lv_has ls 3 [(0, .ref (ad 63)), (1, .int x1), (2, .int x2)] := hl
  rw [F_M_farOf] at hf
  refine lv_aload_n hx hb d_M_farOf_0 rfl (lv_at hl 0 rfl) ?_
  refine g_get (v := .ref (ad 75)) hC hP o_63 co_M 16 (by decide) rfl fl_M_48 rfl d_M_farOf_1 ?_
  refine lv_iload_n hx hb d_M_farOf_4 rfl (lv_at hl 1 rfl) ?_
  refine lv_iload_n hx hb d_M_farOf_5 rfl (lv_at hl 2 rfl) ?_
  obtain ⟨r2, σ3, hk1, hf⟩ := bc_some hf
  refine g_calli hS (g_runS (As := [.ref (ad 75), .int x1, .int x2]) (rest := []) hC hP (c_M_wordFrom hj a_75 hk1) (rk (by decide) (by decide)) nm_M_wordFrom cd_M_wordFrom it_WideTownModel ml_M_165 sc_M_wordFrom rfl hl.1 rfl (Nat.le_of_ble_eq_true rfl) d_M_farOf_6 zz) (fun H locs hP hS => ?_)
  cases hf
  exact g_iret hC rfl hP hS d_M_farOf_9
set_option maxHeartbeats 4000000 in
set_option maxRecDepth 100000 in
theorem c_M_plainOf {l : Launch} {D : va_G} {K : Nat → ClassId} {ad : Nat → Nat} (hj : inj ad)   {x1 : Int32} {σ : GS} {z0 : Int32 × GS} (hf : F_M_plainOf x1 σ = some z0) : CT l D K ad y_M_plainOf b_M_plainOf 2 (some .int) 4 [.ref (ad 63), .int x1] σ (QI D K ad z0.1 z0.2) := by
  refine CT.intro hj (by decide) (Nat.le_of_ble_eq_true rfl) ?_
  intro p e s m args below meth c ls hC hP hS hl
  obtain ⟨hx, hb, -, hown, hts, -⟩ := id hC
  have hl : lv_has ls 2 [(0, .ref (ad 63)), (1, .int x1)] := hl
  rw [F_M_plainOf] at hf
  refine lv_aload_n hx hb d_M_plainOf_0 rfl (lv_at hl 0 rfl) ?_
  refine lv_aload_n hx hb d_M_plainOf_1 rfl (lv_at hl 0 rfl) ?_
  refine g_get (v := .ref (ad 75)) hC hP o_63 co_M 16 (by decide) rfl fl_M_48 rfl d_M_plainOf_2 ?_
  refine lv_aload_n hx hb d_M_plainOf_5 rfl (lv_at hl 0 rfl) ?_
  refine g_get (v := .ref (ad 75)) hC hP o_63 co_M 16 (by decide) rfl fl_M_48 rfl d_M_plainOf_6 ?_
  refine lv_iconst (v := (0 : Int32)) hx hb d_M_plainOf_9 (by decide) ?_
  refine lv_iload_n hx hb d_M_plainOf_10 rfl (lv_at hl 1 rfl) ?_
  obtain ⟨r2, σ3, hk1, hf⟩ := bc_some hf
  refine g_calli hS (g_runS (As := [.ref (ad 75), .int (0 : Int32), .int x1]) (rest := [.ref (ad 75), .ref (ad 63)]) hC hP (c_M_follow hj a_75 hk1) (rk (by decide) (by decide)) nm_M_follow cd_M_follow it_WideTownModel ml_M_171 sc_M_follow rfl hl.1 rfl (Nat.le_of_ble_eq_true rfl) d_M_plainOf_11 zz) (fun H locs hP hS => ?_)
  obtain ⟨r5, σ6, hk4, hf⟩ := bc_some hf
  refine g_calli hS (g_runV (As := [.ref (ad 75), .int r2]) (rest := []) hC hP (c_M_codeOf hj a_75 hk4) (rk (by decide) (by decide)) nm_M_codeOf cd_M_codeOf it_WideTownModel ml_M_138 im_M_codeOf sl_M_codeOf o_63 co_M rfl hl.1 rfl (Nat.le_of_ble_eq_true rfl) d_M_plainOf_14 zz) (fun H locs hP hS => ?_)
  cases hf
  exact g_iret hC rfl hP hS d_M_plainOf_17
set_option maxHeartbeats 4000000 in
set_option maxRecDepth 100000 in
theorem c_M_lengthOf {l : Launch} {D : va_G} {K : Nat → ClassId} {ad : Nat → Nat} (hj : inj ad)   {x1 : Int32} {σ : GS} {z0 : Int32 × GS} (hf : F_M_lengthOf x1 σ = some z0) : CT l D K ad y_M_lengthOf b_M_lengthOf 2 (some .int) 3 [.ref (ad 63), .int x1] σ (QI D K ad z0.1 z0.2) := by
  refine CT.intro hj (by decide) (Nat.le_of_ble_eq_true rfl) ?_
  intro p e s m args below meth c ls hC hP hS hl
  obtain ⟨hx, hb, -, hown, hts, -⟩ := id hC
  have hl : lv_has ls 2 [(0, .ref (ad 63)), (1, .int x1)] := hl
  rw [F_M_lengthOf] at hf
  refine lv_aload_n hx hb d_M_lengthOf_0 rfl (lv_at hl 0 rfl) ?_
  refine g_get (v := .ref (ad 75)) hC hP o_63 co_M 16 (by decide) rfl fl_M_48 rfl d_M_lengthOf_1 ?_
  refine lv_iconst (v := (0 : Int32)) hx hb d_M_lengthOf_4 (by decide) ?_
  refine lv_iload_n hx hb d_M_lengthOf_5 rfl (lv_at hl 1 rfl) ?_
  obtain ⟨r2, σ3, hk1, hf⟩ := bc_some hf
  refine g_calli hS (g_runS (As := [.ref (ad 75), .int (0 : Int32), .int x1]) (rest := []) hC hP (c_M_follow hj a_75 hk1) (rk (by decide) (by decide)) nm_M_follow cd_M_follow it_WideTownModel ml_M_171 sc_M_follow rfl hl.1 rfl (Nat.le_of_ble_eq_true rfl) d_M_lengthOf_6 zz) (fun H locs hP hS => ?_)
  cases hf
  exact g_iret hC rfl hP hS d_M_lengthOf_9
set_option maxHeartbeats 4000000 in
set_option maxRecDepth 100000 in
theorem c_M_endsOf {l : Launch} {D : va_G} {K : Nat → ClassId} {ad : Nat → Nat} (hj : inj ad)   {x1 : Int32} {σ : GS} {z0 : Int32 × GS} (hf : F_M_endsOf x1 σ = some z0) : CT l D K ad y_M_endsOf b_M_endsOf 5 (some .int) 3 [.ref (ad 63), .int x1] σ (QI D K ad z0.1 z0.2) := by
  refine CT.intro hj (by decide) (Nat.le_of_ble_eq_true rfl) ?_
  intro p e s m args below meth c ls hC hP hS hl
  obtain ⟨hx, hb, -, hown, hts, -⟩ := id hC
  have hl : lv_has ls 5 [(0, .ref (ad 63)), (1, .int x1)] := hl
  rw [F_M_endsOf] at hf
  refine lv_aload_n hx hb d_M_endsOf_0 rfl (lv_at hl 0 rfl) ?_
  refine g_get (v := .ref (ad 75)) hC hP o_63 co_M 16 (by decide) rfl fl_M_48 rfl d_M_endsOf_1 ?_
  refine lv_iconst (v := (0 : Int32)) hx hb d_M_endsOf_4 (by decide) ?_
  refine lv_iload_n hx hb d_M_endsOf_5 rfl (lv_at hl 1 rfl) ?_
  obtain ⟨r2, σ3, hk1, hf⟩ := bc_some hf
  refine g_calli hS (g_runS (As := [.ref (ad 75), .int (0 : Int32), .int x1]) (rest := []) hC hP (c_M_follow hj a_75 hk1) (rk (by decide) (by decide)) nm_M_follow cd_M_follow it_WideTownModel ml_M_171 sc_M_follow rfl hl.1 rfl (Nat.le_of_ble_eq_true rfl) d_M_endsOf_6 zz) (fun H locs hP hS => ?_)
  refine lv_istore_n (lv' := [(2, .int r2), (0, .ref (ad 63)), (1, .int x1)]) hx hb d_M_endsOf_9 rfl hl (by decide) rfl (fun ls hl => ?_)
  refine lv_iconst (v := (0 : Int32)) hx hb d_M_endsOf_10 (by decide) ?_
  refine lv_istore_n (lv' := [(3, .int (0 : Int32)), (2, .int r2), (0, .ref (ad 63)), (1, .int x1)]) hx hb d_M_endsOf_11 rfl hl (by decide) rfl (fun ls hl => ?_)
  refine lv_iconst (v := (0 : Int32)) hx hb d_M_endsOf_12 (by decide) ?_
  refine lv_istore (lv' := [(4, .int (0 : Int32)), (3, .int (0 : Int32)), (2, .int r2), (0, .ref (ad 63)), (1, .int x1)]) hx hb d_M_endsOf_13 hl (by decide) rfl (fun ls hl => ?_)
  obtain ⟨KL4_56, eKL4_56, hf⟩ := jn_some hf
  have hKL4_56 : ∀ (v3_4 : Int32) (v4_4 : Int32) (H : Heap) (locs : List Loc) (ls : Array Slot), va_P D vwCl (wG K ad σ3) H → va_S (GA ad) s.heap H locs → lv_has ls 5 [(3, .int v3_4)] → KL4_56 v3_4 v4_4 = some z0 → W p l e (rmd 3) s m args below meth c H locs 0 0 (MQ below (QI D K ad z0.1 z0.2) args s 0 0 (GA ad)) (F0 m 56 ls []) := by
    clear hf
    intro v3_4 v4_4 H locs ls hP hS hl hf
    rw [eKL4_56] at hf
    try dsimp only at hf
    refine lv_iload_n hx hb d_M_endsOf_56 rfl (lv_at hl 0 rfl) ?_
    cases hf
    exact g_iret hC rfl hP hS d_M_endsOf_57
  clear eKL4_56
  have hL4 : ∀ (n : Nat) (v3_4 : Int32) (v4_4 : Int32) (H : Heap) (locs : List Loc) (ls : Array Slot), va_P D vwCl (wG K ad σ3) H → va_S (GA ad) s.heap H locs → lv_has ls 5 [(0, .ref (ad 63)), (2, .int r2), (3, .int v3_4), (4, .int v4_4)] → F_M_endsOf_15 r2 σ3 KL4_56 n v3_4 v4_4 = some z0 → W p l e (rmd 3) s m args below meth c H locs 0 0 (MQ below (QI D K ad z0.1 z0.2) args s 0 0 (GA ad)) (F0 m 15 ls []) := by
    clear hf
    intro n
    induction n with
    | zero =>
      intro v3_4 v4_4 H locs ls hP hS hl hf
      rw [F_M_endsOf_15.eq_1] at hf
      cases hf
    | succ n ih =>
      intro v3_4 v4_4 H locs ls hP hS hl hf
      rw [F_M_endsOf_15.eq_2] at hf
      refine lv_iload hx hb d_M_endsOf_15 (lv_at hl 3 rfl) ?_
      refine lv_iload_n hx hb d_M_endsOf_17 rfl (lv_at hl 1 rfl) ?_
      refine lv_icmp_ge (tgt := 56) hx hb d_M_endsOf_18 (by decide) (fun hc9 => ?_) (fun hc9 => ?_)
      · rw [if_pos hc9] at hf
        exact hKL4_56 _ _ _ _ _ hP hS (lv_sub hl [2] rfl) hf
      · rw [if_neg hc9] at hf
        refine lv_iload_n hx hb d_M_endsOf_21 rfl (lv_at hl 2 rfl) ?_
        refine lv_aload_n hx hb d_M_endsOf_22 rfl (lv_at hl 0 rfl) ?_
        refine g_get (v := .ref (ad 75)) hC hP o_63 co_M 16 (by decide) rfl fl_M_48 rfl d_M_endsOf_23 ?_
        refine lv_iload_n hx hb d_M_endsOf_26 rfl (lv_at hl 1 rfl) ?_
        refine lv_iload hx hb d_M_endsOf_27 (lv_at hl 3 rfl) ?_
        obtain ⟨r6, hk5, hf⟩ := bp_some hf
        refine g_calli hS (g_runS (As := [.ref (ad 75), .int r2, .int v4_4]) (rest := [.int v3_4]) hC hP (c_M_isLast hj a_75 hk5) (rk (by decide) (by decide)) nm_M_isLast cd_M_isLast it_WideTownModel ml_M_174 sc_M_isLast rfl hl.1 rfl (Nat.le_of_ble_eq_true rfl) d_M_endsOf_29 zz) (fun H locs hP hS => ?_)
        refine lv_if_eq (tgt := 47) hx hb d_M_endsOf_32 (by decide) (fun hc8 => ?_) (fun hc8 => ?_)
        · rw [if_pos hc8] at hf
          refine lv_iconst (v := (0 : Int32)) hx hb d_M_endsOf_47 (by decide) ?_
          refine lv_ior hx hb d_M_endsOf_48 ?_
          refine lv_istore_n (lv' := [(3, .int (v3_4 ||| (0 : Int32))), (0, .ref (ad 63)), (2, .int r2), (4, .int v4_4)]) hx hb d_M_endsOf_49 rfl hl (by decide) rfl (fun ls hl => ?_)
          refine lv_iinc (v := v4_4 + 1) (lv' := [(4, .int (v4_4 + 1)), (3, .int (v3_4 ||| (0 : Int32))), (0, .ref (ad 63)), (2, .int r2)]) hx hb d_M_endsOf_50 hl (k := 3) rfl rfl (by decide) rfl (fun ls hl => ?_)
          refine lv_goto (tgt := 15) hx hb d_M_endsOf_53 (by decide) ?_
          exact ih _ _ _ _ _ hP hS (lv_sub hl [2, 3, 1, 0] rfl) hf
        · rw [if_neg hc8] at hf
          refine lv_iconst (v := (1 : Int32)) hx hb d_M_endsOf_35 (by decide) ?_
          refine lv_aload_n hx hb d_M_endsOf_36 rfl (lv_at hl 0 rfl) ?_
          refine g_get (v := .ref (ad 75)) hC hP o_63 co_M 16 (by decide) rfl fl_M_48 rfl d_M_endsOf_37 ?_
          refine lv_iload hx hb d_M_endsOf_40 (lv_at hl 3 rfl) ?_
          obtain ⟨hg7, hf⟩ := gd_some hf
          refine g_iald2 (j := v4_4.toNatClampNeg) hC hP a_75 hg7 rfl d_M_endsOf_42 ?_
          refine lv_ishl hx hb d_M_endsOf_43 ?_
          refine lv_goto (tgt := 48) hx hb d_M_endsOf_44 (by decide) ?_
          refine lv_ior hx hb d_M_endsOf_48 ?_
          refine lv_istore_n (lv' := [(3, .int (v3_4 ||| ((1 : Int32) <<< ((σ3.1 75 v4_4.toNatClampNeg) &&& 31)))), (0, .ref (ad 63)), (2, .int r2), (4, .int v4_4)]) hx hb d_M_endsOf_49 rfl hl (by decide) rfl (fun ls hl => ?_)
          refine lv_iinc (v := v4_4 + 1) (lv' := [(4, .int (v4_4 + 1)), (3, .int (v3_4 ||| ((1 : Int32) <<< ((σ3.1 75 v4_4.toNatClampNeg) &&& 31)))), (0, .ref (ad 63)), (2, .int r2)]) hx hb d_M_endsOf_50 hl (k := 3) rfl rfl (by decide) rfl (fun ls hl => ?_)
          refine lv_goto (tgt := 15) hx hb d_M_endsOf_53 (by decide) ?_
          exact ih _ _ _ _ _ hP hS (lv_sub hl [2, 3, 1, 0] rfl) hf
  exact hL4 _ _ _ _ _ _ hP hS (lv_sub hl [3, 2, 1, 0] rfl) hf
set_option maxHeartbeats 4000000 in
set_option maxRecDepth 100000 in
theorem c_M_bits {l : Launch} {D : va_G} {K : Nat → ClassId} {ad : Nat → Nat} (hj : inj ad)   {x0 : Int32} {σ : GS} {z0 : Int32} (hf : F_M_bits x0 = some z0) : CT l D K ad y_M_bits b_M_bits 3 (some .int) 0 [.int x0] σ (QI D K ad z0 σ) := by
  refine CT.intro hj (by decide) (Nat.le_of_ble_eq_true rfl) ?_
  intro p e s m args below meth c ls hC hP hS hl
  obtain ⟨hx, hb, -, hown, hts, -⟩ := id hC
  have hl : lv_has ls 3 [(0, .int x0)] := hl
  rw [F_M_bits] at hf
  refine lv_iconst (v := (0 : Int32)) hx hb d_M_bits_0 (by decide) ?_
  refine lv_istore_n (lv' := [(1, .int (0 : Int32)), (0, .int x0)]) hx hb d_M_bits_1 rfl hl (by decide) rfl (fun ls hl => ?_)
  refine lv_iload_n hx hb d_M_bits_2 rfl (lv_at hl 1 rfl) ?_
  refine lv_istore_n (lv' := [(2, .int x0), (1, .int (0 : Int32)), (0, .int x0)]) hx hb d_M_bits_3 rfl hl (by decide) rfl (fun ls hl => ?_)
  obtain ⟨KL1_20, eKL1_20, hf⟩ := jn_some hf
  have hKL1_20 : ∀ (v1_1 : Int32) (v2_1 : Int32) (H : Heap) (locs : List Loc) (ls : Array Slot), va_P D vwCl (wG K ad σ) H → va_S (GA ad) s.heap H locs → lv_has ls 3 [(1, .int v1_1)] → KL1_20 v1_1 v2_1 = some z0 → W p l e (rmd 0) s m args below meth c H locs 0 0 (MQ below (QI D K ad z0 σ) args s 0 0 (GA ad)) (F0 m 20 ls []) := by
    clear hf
    intro v1_1 v2_1 H locs ls hP hS hl hf
    rw [eKL1_20] at hf
    try dsimp only at hf
    refine lv_iload_n hx hb d_M_bits_20 rfl (lv_at hl 0 rfl) ?_
    cases hf
    exact g_iret hC rfl hP hS d_M_bits_21
  clear eKL1_20
  have hL1 : ∀ (n : Nat) (v1_1 : Int32) (v2_1 : Int32) (H : Heap) (locs : List Loc) (ls : Array Slot), va_P D vwCl (wG K ad σ) H → va_S (GA ad) s.heap H locs → lv_has ls 3 [(1, .int v1_1), (2, .int v2_1)] → F_M_bits_4 KL1_20 n v1_1 v2_1 = some z0 → W p l e (rmd 0) s m args below meth c H locs 0 0 (MQ below (QI D K ad z0 σ) args s 0 0 (GA ad)) (F0 m 4 ls []) := by
    clear hf
    intro n
    induction n with
    | zero =>
      intro v1_1 v2_1 H locs ls hP hS hl hf
      rw [F_M_bits_4.eq_1] at hf
      cases hf
    | succ n ih =>
      intro v1_1 v2_1 H locs ls hP hS hl hf
      rw [F_M_bits_4.eq_2] at hf
      refine lv_iload_n hx hb d_M_bits_4 rfl (lv_at hl 1 rfl) ?_
      refine lv_if_eq (tgt := 20) hx hb d_M_bits_5 (by decide) (fun hc2 => ?_) (fun hc2 => ?_)
      · rw [if_pos hc2] at hf
        exact hKL1_20 _ _ _ _ _ hP hS (lv_sub hl [0] rfl) hf
      · rw [if_neg hc2] at hf
        refine lv_iinc (v := v1_1 + 1) (lv' := [(1, .int (v1_1 + 1)), (2, .int v2_1)]) hx hb d_M_bits_8 hl (k := 0) rfl rfl (by decide) rfl (fun ls hl => ?_)
        refine lv_iload_n hx hb d_M_bits_11 rfl (lv_at hl 1 rfl) ?_
        refine lv_iload_n hx hb d_M_bits_12 rfl (lv_at hl 1 rfl) ?_
        refine lv_iconst (v := (1 : Int32)) hx hb d_M_bits_13 (by decide) ?_
        refine lv_isub hx hb d_M_bits_14 ?_
        refine lv_iand hx hb d_M_bits_15 ?_
        refine lv_istore_n (lv' := [(2, .int (v2_1 &&& (v2_1 - (1 : Int32)))), (1, .int (v1_1 + 1))]) hx hb d_M_bits_16 rfl hl (by decide) rfl (fun ls hl => ?_)
        refine lv_goto (tgt := 4) hx hb d_M_bits_17 (by decide) ?_
        exact ih _ _ _ _ _ hP hS (lv_sub hl [1, 0] rfl) hf
  exact hL1 _ _ _ _ _ _ hP hS (lv_sub hl [1, 0] rfl) hf
set_option maxHeartbeats 4000000 in
set_option maxRecDepth 100000 in
theorem c_M_lowest {l : Launch} {D : va_G} {K : Nat → ClassId} {ad : Nat → Nat} (hj : inj ad)   {x0 : Int32} {σ : GS} {z0 : Int32} (hf : F_M_lowest x0 = some z0) : CT l D K ad y_M_lowest b_M_lowest 2 (some .int) 0 [.int x0] σ (QI D K ad z0 σ) := by
  refine CT.intro hj (by decide) (Nat.le_of_ble_eq_true rfl) ?_
  intro p e s m args below meth c ls hC hP hS hl
  obtain ⟨hx, hb, -, hown, hts, -⟩ := id hC
  have hl : lv_has ls 2 [(0, .int x0)] := hl
  rw [F_M_lowest] at hf
  refine lv_iconst (v := (0 : Int32)) hx hb d_M_lowest_0 (by decide) ?_
  refine lv_istore_n (lv' := [(1, .int (0 : Int32)), (0, .int x0)]) hx hb d_M_lowest_1 rfl hl (by decide) rfl (fun ls hl => ?_)
  obtain ⟨KL1_16, eKL1_16, hf⟩ := jn_some hf
  have hKL1_16 : ∀ (v1_1 : Int32) (H : Heap) (locs : List Loc) (ls : Array Slot), va_P D vwCl (wG K ad σ) H → va_S (GA ad) s.heap H locs → lv_has ls 2 [(1, .int v1_1)] → KL1_16 v1_1 = some z0 → W p l e (rmd 0) s m args below meth c H locs 0 0 (MQ below (QI D K ad z0 σ) args s 0 0 (GA ad)) (F0 m 16 ls []) := by
    clear hf
    intro v1_1 H locs ls hP hS hl hf
    rw [eKL1_16] at hf
    try dsimp only at hf
    refine lv_iload_n hx hb d_M_lowest_16 rfl (lv_at hl 0 rfl) ?_
    cases hf
    exact g_iret hC rfl hP hS d_M_lowest_17
  clear eKL1_16
  have hL1 : ∀ (n : Nat) (v1_1 : Int32) (H : Heap) (locs : List Loc) (ls : Array Slot), va_P D vwCl (wG K ad σ) H → va_S (GA ad) s.heap H locs → lv_has ls 2 [(0, .int x0), (1, .int v1_1)] → F_M_lowest_2 x0 KL1_16 n v1_1 = some z0 → W p l e (rmd 0) s m args below meth c H locs 0 0 (MQ below (QI D K ad z0 σ) args s 0 0 (GA ad)) (F0 m 2 ls []) := by
    clear hf
    intro n
    induction n with
    | zero =>
      intro v1_1 H locs ls hP hS hl hf
      rw [F_M_lowest_2.eq_1] at hf
      cases hf
    | succ n ih =>
      intro v1_1 H locs ls hP hS hl hf
      rw [F_M_lowest_2.eq_2] at hf
      refine lv_iload_n hx hb d_M_lowest_2 rfl (lv_at hl 0 rfl) ?_
      refine lv_iload_n hx hb d_M_lowest_3 rfl (lv_at hl 1 rfl) ?_
      refine lv_ishr hx hb d_M_lowest_4 ?_
      refine lv_iconst (v := (1 : Int32)) hx hb d_M_lowest_5 (by decide) ?_
      refine lv_iand hx hb d_M_lowest_6 ?_
      refine lv_if_ne (tgt := 16) hx hb d_M_lowest_7 (by decide) (fun hc2 => ?_) (fun hc2 => ?_)
      · rw [if_neg hc2] at hf
        exact hKL1_16 _ _ _ _ hP hS (lv_sub hl [1] rfl) hf
      · rw [if_pos hc2] at hf
        refine lv_iinc (v := v1_1 + 1) (lv' := [(1, .int (v1_1 + 1)), (0, .int x0)]) hx hb d_M_lowest_10 hl (k := 1) rfl rfl (by decide) rfl (fun ls hl => ?_)
        refine lv_goto (tgt := 2) hx hb d_M_lowest_13 (by decide) ?_
        exact ih _ _ _ _ hP hS (lv_sub hl [1, 0] rfl) hf
  exact hL1 _ _ _ _ _ hP hS (lv_sub hl [1, 0] rfl) hf
set_option maxHeartbeats 4000000 in
set_option maxRecDepth 100000 in
theorem c_M_turns {l : Launch} {D : va_G} {K : Nat → ClassId} {ad : Nat → Nat} (hj : inj ad) {q0 : Nat} (h_q0 : isA K ad q0 0 27) {x1 : Int32} {σ : GS} {z0 : GS} (hf : F_M_turns q0 x1 σ = some z0) : CT l D K ad y_M_turns b_M_turns 5 none 0 [.ref (ad q0), .int x1] σ (QV D K ad z0) := by
  refine CT.intro hj (by decide) (Nat.le_of_ble_eq_true rfl) ?_
  intro p e s m args below meth c ls hC hP hS hl
  obtain ⟨hx, hb, -, hown, hts, -⟩ := id hC
  have hl : lv_has ls 5 [(0, .ref (ad q0)), (1, .int x1)] := hl
  rw [F_M_turns] at hf
  refine lv_aload_n hx hb d_M_turns_0 rfl (lv_at hl 0 rfl) ?_
  refine lv_iconst (v := (2 : Int32)) hx hb d_M_turns_1 (by decide) ?_
  refine lv_iload_n hx hb d_M_turns_2 rfl (lv_at hl 1 rfl) ?_
  refine lv_iadd hx hb d_M_turns_3 ?_
  obtain ⟨hg1, hf⟩ := gd_some hf
  refine g_iald2 (j := ((2 : Int32) + x1).toNatClampNeg) hC hP h_q0 hg1 rfl d_M_turns_4 ?_
  refine lv_istore_n (lv' := [(2, .int (σ.1 q0 ((2 : Int32) + x1).toNatClampNeg)), (0, .ref (ad q0)), (1, .int x1)]) hx hb d_M_turns_5 rfl hl (by decide) rfl (fun ls hl => ?_)
  refine lv_iload_n hx hb d_M_turns_6 rfl (lv_at hl 0 rfl) ?_
  refine lv_iconst (v := (1 : Int32)) hx hb d_M_turns_7 (by decide) ?_
  obtain ⟨J2, eJ2, hf⟩ := jn_some hf
  have hJ2 : ∀ (tJ2 : Int32) (H : Heap) (locs : List Loc) (ls : Array Slot), va_P D vwCl (wG K ad σ) H → va_S (GA ad) s.heap H locs → lv_has ls 5 [(0, .ref (ad q0)), (1, .int x1), (2, .int (σ.1 q0 ((2 : Int32) + x1).toNatClampNeg))] → J2 tJ2 = some z0 → W p l e (rmd 0) s m args below meth c H locs 0 0 (MQ below (QV D K ad z0) args s 0 0 (GA ad)) (F0 m 35 ls [.int tJ2]) := by
    clear hf
    intro tJ2 H locs ls hP hS hl hf
    rw [eJ2] at hf
    try dsimp only at hf
    refine lv_istore_n (lv' := [(3, .int tJ2), (0, .ref (ad q0)), (1, .int x1), (2, .int (σ.1 q0 ((2 : Int32) + x1).toNatClampNeg))]) hx hb d_M_turns_35 rfl hl (by decide) rfl (fun ls hl => ?_)
    refine lv_iload_n hx hb d_M_turns_36 rfl (lv_at hl 3 rfl) ?_
    refine lv_iconst (v := (5 : Int32)) hx hb d_M_turns_37 (by decide) ?_
    obtain ⟨J3, eJ3, hf⟩ := jn_some hf
    have hJ3 : ∀ (tJ3 : Int32) (H : Heap) (locs : List Loc) (ls : Array Slot), va_P D vwCl (wG K ad σ) H → va_S (GA ad) s.heap H locs → lv_has ls 5 [(0, .ref (ad q0)), (1, .int x1), (2, .int (σ.1 q0 ((2 : Int32) + x1).toNatClampNeg)), (3, .int tJ2)] → J3 tJ3 = some z0 → W p l e (rmd 0) s m args below meth c H locs 0 0 (MQ below (QV D K ad z0) args s 0 0 (GA ad)) (F0 m 56 ls [.int tJ3]) := by
      clear hf
      intro tJ3 H locs ls hP hS hl hf
      rw [eJ3] at hf
      try dsimp only at hf
      refine lv_istore (lv' := [(4, .int tJ3), (0, .ref (ad q0)), (1, .int x1), (2, .int (σ.1 q0 ((2 : Int32) + x1).toNatClampNeg)), (3, .int tJ2)]) hx hb d_M_turns_56 hl (by decide) rfl (fun ls hl => ?_)
      refine lv_aload_n hx hb d_M_turns_58 rfl (lv_at hl 1 rfl) ?_
      refine lv_bipush (v := (12 : Int32)) hx hb d_M_turns_59 (by decide) ?_
      refine lv_iload_n hx hb d_M_turns_61 rfl (lv_at hl 2 rfl) ?_
      refine lv_iadd hx hb d_M_turns_62 ?_
      refine lv_aload_n hx hb d_M_turns_63 rfl (lv_at hl 1 rfl) ?_
      refine lv_bipush (v := (12 : Int32)) hx hb d_M_turns_64 (by decide) ?_
      refine lv_iload_n hx hb d_M_turns_66 rfl (lv_at hl 2 rfl) ?_
      refine lv_iadd hx hb d_M_turns_67 ?_
      obtain ⟨hg4, hf⟩ := gd_some hf
      refine g_iald2 (j := ((12 : Int32) + x1).toNatClampNeg) hC hP h_q0 hg4 rfl d_M_turns_68 ?_
      refine lv_iload hx hb d_M_turns_69 (lv_at hl 0 rfl) ?_
      obtain ⟨J5, eJ5, hf⟩ := jn_some hf
      have hJ5 : ∀ (tJ5 : Int32) (H : Heap) (locs : List Loc) (ls : Array Slot), va_P D vwCl (wG K ad σ) H → va_S (GA ad) s.heap H locs → lv_has ls 5 [(0, .ref (ad q0)), (1, .int x1), (2, .int (σ.1 q0 ((2 : Int32) + x1).toNatClampNeg)), (3, .int tJ2)] → J5 tJ5 = some z0 → W p l e (rmd 0) s m args below meth c H locs 0 0 (MQ below (QV D K ad z0) args s 0 0 (GA ad)) (F0 m 81 ls [.int tJ5, .int (σ.1 q0 ((12 : Int32) + x1).toNatClampNeg), .int ((12 : Int32) + x1), .ref (ad q0)]) := by
        clear hf
        intro tJ5 H locs ls hP hS hl hf
        rw [eJ5] at hf
        try dsimp only at hf
        refine lv_iadd hx hb d_M_turns_81 ?_
        refine lv_iconst (v := (5 : Int32)) hx hb d_M_turns_82 (by decide) ?_
        refine lv_irem hx hb d_M_turns_83 (by decide) ?_
        obtain ⟨hg6, hf⟩ := gd_some hf
        obtain ⟨σ7, eσ7, hf⟩ := jn_some hf
        refine g_iast2 (j := ((12 : Int32) + x1).toNatClampNeg) hC hP hS h_q0 hg6 rfl d_M_turns_84 (fun H locs hP hS => ?_)
        rw [← eσ7] at hP
        refine lv_aload_n hx hb d_M_turns_85 rfl (lv_at hl 0 rfl) ?_
        refine lv_bipush (v := (17 : Int32)) hx hb d_M_turns_86 (by decide) ?_
        refine lv_iload_n hx hb d_M_turns_88 rfl (lv_at hl 1 rfl) ?_
        refine lv_iadd hx hb d_M_turns_89 ?_
        refine lv_iload_n hx hb d_M_turns_90 rfl (lv_at hl 3 rfl) ?_
        refine lv_if_le (tgt := 110) hx hb d_M_turns_91 (by decide) (fun hc16 => ?_) (fun hc16 => ?_)
        · rw [if_pos hc16] at hf
          refine lv_iconst (v := (0 : Int32)) hx hb d_M_turns_110 (by decide) ?_
          obtain ⟨hg8, hf⟩ := gd_some hf
          obtain ⟨σ9, eσ9, hf⟩ := jn_some hf
          refine g_iast2 (j := ((17 : Int32) + x1).toNatClampNeg) hC hP hS h_q0 hg8 rfl d_M_turns_111 (fun H locs hP hS => ?_)
          rw [← eσ9] at hP
          cases hf
          exact g_vret hC rfl hP hS d_M_turns_112
        · rw [if_neg hc16] at hf
          refine lv_iload_n hx hb d_M_turns_94 rfl (lv_at hl 2 rfl) ?_
          refine lv_iconst (v := (5 : Int32)) hx hb d_M_turns_95 (by decide) ?_
          refine lv_icmp_eq (tgt := 110) hx hb d_M_turns_96 (by decide) (fun hc15 => ?_) (fun hc15 => ?_)
          · rw [if_pos hc15] at hf
            refine lv_iconst (v := (0 : Int32)) hx hb d_M_turns_110 (by decide) ?_
            obtain ⟨hg10, hf⟩ := gd_some hf
            obtain ⟨σ11, eσ11, hf⟩ := jn_some hf
            refine g_iast2 (j := ((17 : Int32) + x1).toNatClampNeg) hC hP hS h_q0 hg10 rfl d_M_turns_111 (fun H locs hP hS => ?_)
            rw [← eσ11] at hP
            cases hf
            exact g_vret hC rfl hP hS d_M_turns_112
          · rw [if_neg hc15] at hf
            refine lv_iconst (v := (1 : Int32)) hx hb d_M_turns_99 (by decide) ?_
            refine lv_aload_n hx hb d_M_turns_100 rfl (lv_at hl 0 rfl) ?_
            refine lv_bipush (v := (17 : Int32)) hx hb d_M_turns_101 (by decide) ?_
            refine lv_iload_n hx hb d_M_turns_103 rfl (lv_at hl 1 rfl) ?_
            refine lv_iadd hx hb d_M_turns_104 ?_
            obtain ⟨hg12, hf⟩ := gd_some hf
            refine g_iald2 (j := ((17 : Int32) + x1).toNatClampNeg) hC hP h_q0 hg12 rfl d_M_turns_105 ?_
            refine lv_isub hx hb d_M_turns_106 ?_
            refine lv_goto (tgt := 111) hx hb d_M_turns_107 (by decide) ?_
            obtain ⟨hg13, hf⟩ := gd_some hf
            obtain ⟨σ14, eσ14, hf⟩ := jn_some hf
            refine g_iast2 (j := ((17 : Int32) + x1).toNatClampNeg) hC hP hS h_q0 hg13 rfl d_M_turns_111 (fun H locs hP hS => ?_)
            rw [← eσ14] at hP
            cases hf
            exact g_vret hC rfl hP hS d_M_turns_112
      clear eJ5
      refine lv_if_eq (tgt := 80) hx hb d_M_turns_71 (by decide) (fun hc17 => ?_) (fun hc17 => ?_)
      · rw [if_pos hc17] at hf
        refine lv_iload_n hx hb d_M_turns_80 rfl (lv_at hl 4 rfl) ?_
        exact hJ5 _ _ _ _ hP hS (lv_sub hl [1, 2, 3, 4] rfl) hf
      · rw [if_neg hc17] at hf
        refine lv_iconst (v := (5 : Int32)) hx hb d_M_turns_74 (by decide) ?_
        refine lv_iload_n hx hb d_M_turns_75 rfl (lv_at hl 4 rfl) ?_
        refine lv_isub hx hb d_M_turns_76 ?_
        refine lv_goto (tgt := 81) hx hb d_M_turns_77 (by decide) ?_
        exact hJ5 _ _ _ _ hP hS (lv_sub hl [1, 2, 3, 4] rfl) hf
    clear eJ3
    obtain ⟨J18, eJ18, hf⟩ := jn_some hf
    have hJ18 : ∀ (dJ18 : Unit) (H : Heap) (locs : List Loc) (ls : Array Slot), va_P D vwCl (wG K ad σ) H → va_S (GA ad) s.heap H locs → lv_has ls 5 [(0, .ref (ad q0)), (1, .int x1), (2, .int (σ.1 q0 ((2 : Int32) + x1).toNatClampNeg)), (3, .int tJ2)] → J18 dJ18 = some z0 → W p l e (rmd 0) s m args below meth c H locs 0 0 (MQ below (QV D K ad z0) args s 0 0 (GA ad)) (F0 m 55 ls []) := by
      clear hf
      intro dJ18 H locs ls hP hS hl hf
      rw [eJ18] at hf
      try dsimp only at hf
      refine lv_iconst (v := (0 : Int32)) hx hb d_M_turns_55 (by decide) ?_
      exact hJ3 _ _ _ _ hP hS (lv_sub hl [0, 1, 2, 3] rfl) hf
    clear eJ18
    refine lv_icmp_eq (tgt := 55) hx hb d_M_turns_38 (by decide) (fun hc21 => ?_) (fun hc21 => ?_)
    · rw [if_pos hc21] at hf
      exact hJ18 _ _ _ _ hP hS (lv_sub hl [1, 2, 3, 0] rfl) hf
    · rw [if_neg hc21] at hf
      refine lv_aload_n hx hb d_M_turns_41 rfl (lv_at hl 1 rfl) ?_
      refine lv_bipush (v := (17 : Int32)) hx hb d_M_turns_42 (by decide) ?_
      refine lv_iload_n hx hb d_M_turns_44 rfl (lv_at hl 2 rfl) ?_
      refine lv_iadd hx hb d_M_turns_45 ?_
      obtain ⟨hg19, hf⟩ := gd_some hf
      refine g_iald2 (j := ((17 : Int32) + x1).toNatClampNeg) hC hP h_q0 hg19 rfl d_M_turns_46 ?_
      refine lv_iconst (v := (1 : Int32)) hx hb d_M_turns_47 (by decide) ?_
      refine lv_icmp_ne (tgt := 55) hx hb d_M_turns_48 (by decide) (fun hc20 => ?_) (fun hc20 => ?_)
      · rw [if_neg hc20] at hf
        exact hJ18 _ _ _ _ hP hS (lv_sub hl [1, 2, 3, 0] rfl) hf
      · rw [if_pos hc20] at hf
        refine lv_iconst (v := (1 : Int32)) hx hb d_M_turns_51 (by decide) ?_
        refine lv_goto (tgt := 56) hx hb d_M_turns_52 (by decide) ?_
        exact hJ3 _ _ _ _ hP hS (lv_sub hl [1, 2, 3, 0] rfl) hf
  clear eJ2
  obtain ⟨J22, eJ22, hf⟩ := jn_some hf
  have hJ22 : ∀ (dJ22 : Unit) (H : Heap) (locs : List Loc) (ls : Array Slot), va_P D vwCl (wG K ad σ) H → va_S (GA ad) s.heap H locs → lv_has ls 5 [(0, .ref (ad q0)), (1, .int x1), (2, .int (σ.1 q0 ((2 : Int32) + x1).toNatClampNeg))] → J22 dJ22 = some z0 → W p l e (rmd 0) s m args below meth c H locs 0 0 (MQ below (QV D K ad z0) args s 0 0 (GA ad)) (F0 m 16 ls []) := by
    clear hf
    intro dJ22 H locs ls hP hS hl hf
    rw [eJ22] at hf
    try dsimp only at hf
    refine lv_iconst (v := (2 : Int32)) hx hb d_M_turns_16 (by decide) ?_
    refine lv_goto (tgt := 35) hx hb d_M_turns_17 (by decide) ?_
    exact hJ2 _ _ _ _ hP hS (lv_sub hl [0, 1, 2] rfl) hf
  clear eJ22
  refine lv_icmp_eq (tgt := 16) hx hb d_M_turns_8 (by decide) (fun hc26 => ?_) (fun hc26 => ?_)
  · rw [if_pos hc26] at hf
    exact hJ22 _ _ _ _ hP hS (lv_sub hl [1, 2, 0] rfl) hf
  · rw [if_neg hc26] at hf
    refine lv_iload_n hx hb d_M_turns_11 rfl (lv_at hl 0 rfl) ?_
    refine lv_iconst (v := (4 : Int32)) hx hb d_M_turns_12 (by decide) ?_
    refine lv_icmp_ne (tgt := 20) hx hb d_M_turns_13 (by decide) (fun hc25 => ?_) (fun hc25 => ?_)
    · rw [if_neg hc25] at hf
      refine lv_iload_n hx hb d_M_turns_20 rfl (lv_at hl 0 rfl) ?_
      refine lv_iconst (v := (2 : Int32)) hx hb d_M_turns_21 (by decide) ?_
      refine lv_icmp_eq (tgt := 30) hx hb d_M_turns_22 (by decide) (fun hc24 => ?_) (fun hc24 => ?_)
      · rw [if_pos hc24] at hf
        refine lv_iconst (v := (1 : Int32)) hx hb d_M_turns_30 (by decide) ?_
        refine lv_goto (tgt := 35) hx hb d_M_turns_31 (by decide) ?_
        exact hJ2 _ _ _ _ hP hS (lv_sub hl [1, 2, 0] rfl) hf
      · rw [if_neg hc24] at hf
        refine lv_iload_n hx hb d_M_turns_25 rfl (lv_at hl 0 rfl) ?_
        refine lv_iconst (v := (5 : Int32)) hx hb d_M_turns_26 (by decide) ?_
        refine lv_icmp_ne (tgt := 34) hx hb d_M_turns_27 (by decide) (fun hc23 => ?_) (fun hc23 => ?_)
        · rw [if_neg hc23] at hf
          refine lv_iconst (v := (0 : Int32)) hx hb d_M_turns_34 (by decide) ?_
          exact hJ2 _ _ _ _ hP hS (lv_sub hl [1, 2, 0] rfl) hf
        · rw [if_pos hc23] at hf
          refine lv_iconst (v := (1 : Int32)) hx hb d_M_turns_30 (by decide) ?_
          refine lv_goto (tgt := 35) hx hb d_M_turns_31 (by decide) ?_
          exact hJ2 _ _ _ _ hP hS (lv_sub hl [1, 2, 0] rfl) hf
    · rw [if_pos hc25] at hf
      exact hJ22 _ _ _ _ hP hS (lv_sub hl [1, 2, 0] rfl) hf
set_option maxHeartbeats 4000000 in
set_option maxRecDepth 100000 in
theorem c_M_goes {l : Launch} {D : va_G} {K : Nat → ClassId} {ad : Nat → Nat} (hj : inj ad) {q1 : Nat} (h_q1 : isA K ad q1 0 27) {x2 : Int32} {σ : GS} {z0 : GS} (hf : F_M_goes q1 x2 σ = some z0) : CT l D K ad y_M_goes b_M_goes 7 none 4 [.ref (ad 63), .ref (ad q1), .int x2] σ (QV D K ad z0) := by
  refine CT.intro hj (by decide) (Nat.le_of_ble_eq_true rfl) ?_
  intro p e s m args below meth c ls hC hP hS hl
  obtain ⟨hx, hb, -, hown, hts, -⟩ := id hC
  have hl : lv_has ls 7 [(0, .ref (ad 63)), (1, .ref (ad q1)), (2, .int x2)] := hl
  rw [F_M_goes] at hf
  refine lv_aload_n hx hb d_M_goes_0 rfl (lv_at hl 1 rfl) ?_
  refine lv_iconst (v := (2 : Int32)) hx hb d_M_goes_1 (by decide) ?_
  refine lv_iload_n hx hb d_M_goes_2 rfl (lv_at hl 2 rfl) ?_
  refine lv_iadd hx hb d_M_goes_3 ?_
  obtain ⟨hg1, hf⟩ := gd_some hf
  refine g_iald2 (j := ((2 : Int32) + x2).toNatClampNeg) hC hP h_q1 hg1 rfl d_M_goes_4 ?_
  refine lv_istore_n (lv' := [(3, .int (σ.1 q1 ((2 : Int32) + x2).toNatClampNeg)), (0, .ref (ad 63)), (1, .ref (ad q1)), (2, .int x2)]) hx hb d_M_goes_5 rfl hl (by decide) rfl (fun ls hl => ?_)
  refine lv_aload_n hx hb d_M_goes_6 rfl (lv_at hl 1 rfl) ?_
  refine lv_aload_n hx hb d_M_goes_7 rfl (lv_at hl 2 rfl) ?_
  refine lv_bipush (v := (7 : Int32)) hx hb d_M_goes_8 (by decide) ?_
  refine lv_iload_n hx hb d_M_goes_10 rfl (lv_at hl 3 rfl) ?_
  refine lv_iadd hx hb d_M_goes_11 ?_
  obtain ⟨hg2, hf⟩ := gd_some hf
  refine g_iald2 (j := ((7 : Int32) + x2).toNatClampNeg) hC hP h_q1 hg2 rfl d_M_goes_12 ?_
  obtain ⟨r4, σ5, hk3, hf⟩ := bc_some hf
  refine g_calli hS (g_runV (As := [.int (σ.1 q1 ((7 : Int32) + x2).toNatClampNeg)]) (rest := []) hC hP (c_M_endsOf hj  hk3) (rk (by decide) (by decide)) nm_M_endsOf cd_M_endsOf it_WideTownModel ml_M_178 im_M_endsOf sl_M_endsOf o_63 co_M rfl hl.1 rfl (Nat.le_of_ble_eq_true rfl) d_M_goes_13 zz) (fun H locs hP hS => ?_)
  refine lv_istore (lv' := [(4, .int r4), (3, .int (σ.1 q1 ((2 : Int32) + x2).toNatClampNeg)), (0, .ref (ad 63)), (1, .ref (ad q1)), (2, .int x2)]) hx hb d_M_goes_16 hl (by decide) rfl (fun ls hl => ?_)
  refine lv_iload_n hx hb d_M_goes_18 rfl (lv_at hl 1 rfl) ?_
  refine lv_iconst (v := (3 : Int32)) hx hb d_M_goes_19 (by decide) ?_
  obtain ⟨J6, eJ6, hf⟩ := jn_some hf
  have hJ6 : ∀ (dJ6 : Unit) (H : Heap) (locs : List Loc) (ls : Array Slot), va_P D vwCl (wG K ad σ5) H → va_S (GA ad) s.heap H locs → lv_has ls 7 [(0, .ref (ad 63)), (1, .ref (ad q1)), (2, .int x2), (3, .int (σ.1 q1 ((2 : Int32) + x2).toNatClampNeg)), (4, .int r4)] → J6 dJ6 = some z0 → W p l e (rmd 4) s m args below meth c H locs 0 0 (MQ below (QV D K ad z0) args s 0 0 (GA ad)) (F0 m 29 ls []) := by
    clear hf
    intro dJ6 H locs ls hP hS hl hf
    rw [eJ6] at hf
    try dsimp only at hf
    refine lv_iload_n hx hb d_M_goes_29 rfl (lv_at hl 3 rfl) ?_
    refine lv_iconst (v := (3 : Int32)) hx hb d_M_goes_30 (by decide) ?_
    obtain ⟨J7, eJ7, hf⟩ := jn_some hf
    have hJ7 : ∀ (tJ7 : Int32) (H : Heap) (locs : List Loc) (ls : Array Slot), va_P D vwCl (wG K ad σ5) H → va_S (GA ad) s.heap H locs → lv_has ls 7 [(0, .ref (ad 63)), (1, .ref (ad q1)), (2, .int x2)] → J7 tJ7 = some z0 → W p l e (rmd 4) s m args below meth c H locs 0 0 (MQ below (QV D K ad z0) args s 0 0 (GA ad)) (F0 m 48 ls [.int tJ7]) := by
      clear hf
      intro tJ7 H locs ls hP hS hl hf
      rw [eJ7] at hf
      try dsimp only at hf
      refine lv_istore (lv' := [(5, .int tJ7), (0, .ref (ad 63)), (1, .ref (ad q1)), (2, .int x2)]) hx hb d_M_goes_48 hl (by decide) rfl (fun ls hl => ?_)
      refine lv_aload_n hx hb d_M_goes_50 rfl (lv_at hl 1 rfl) ?_
      refine g_get (v := .ref (ad 75)) hC hP o_63 co_M 16 (by decide) rfl fl_M_48 rfl d_M_goes_51 ?_
      refine lv_aload_n hx hb d_M_goes_54 rfl (lv_at hl 1 rfl) ?_
      refine g_get (v := .ref (ad 75)) hC hP o_63 co_M 16 (by decide) rfl fl_M_48 rfl d_M_goes_55 ?_
      refine lv_iconst (v := (0 : Int32)) hx hb d_M_goes_58 (by decide) ?_
      refine lv_aload_n hx hb d_M_goes_59 rfl (lv_at hl 2 rfl) ?_
      refine lv_bipush (v := (7 : Int32)) hx hb d_M_goes_60 (by decide) ?_
      refine lv_iload_n hx hb d_M_goes_62 rfl (lv_at hl 3 rfl) ?_
      refine lv_iadd hx hb d_M_goes_63 ?_
      obtain ⟨hg8, hf⟩ := gd_some hf
      refine g_iald2 (j := ((7 : Int32) + x2).toNatClampNeg) hC hP h_q1 hg8 rfl d_M_goes_64 ?_
      obtain ⟨r10, σ11, hk9, hf⟩ := bc_some hf
      refine g_calli hS (g_runS (As := [.ref (ad 75), .int (0 : Int32), .int (σ5.1 q1 ((7 : Int32) + x2).toNatClampNeg)]) (rest := [.ref (ad 75)]) hC hP (c_M_follow hj a_75 hk9) (rk (by decide) (by decide)) nm_M_follow cd_M_follow it_WideTownModel ml_M_171 sc_M_follow rfl hl.1 rfl (Nat.le_of_ble_eq_true rfl) d_M_goes_65 zz) (fun H locs hP hS => ?_)
      refine lv_iload hx hb d_M_goes_68 (lv_at hl 0 rfl) ?_
      obtain ⟨r13, σ14, hk12, hf⟩ := bc_some hf
      refine g_calli hS (g_runS (As := [.ref (ad 75), .int r10, .int tJ7]) (rest := []) hC hP (c_M_times hj a_75 hk12) (rk (by decide) (by decide)) nm_M_times cd_M_times it_WideTownModel ml_M_134 sc_M_times rfl hl.1 rfl (Nat.le_of_ble_eq_true rfl) d_M_goes_70 zz) (fun H locs hP hS => ?_)
      refine lv_istore (lv' := [(6, .int r13), (5, .int tJ7), (0, .ref (ad 63)), (1, .ref (ad q1)), (2, .int x2)]) hx hb d_M_goes_73 hl (by decide) rfl (fun ls hl => ?_)
      refine lv_iload hx hb d_M_goes_75 (lv_at hl 0 rfl) ?_
      refine lv_bipush (v := (9 : Int32)) hx hb d_M_goes_77 (by decide) ?_
      refine lv_icmp_gt (tgt := 108) hx hb d_M_goes_79 (by decide) (fun hc27 => ?_) (fun hc27 => ?_)
      · rw [if_pos hc27] at hf
        refine lv_aload_n hx hb d_M_goes_108 rfl (lv_at hl 3 rfl) ?_
        refine lv_iload_n hx hb d_M_goes_109 rfl (lv_at hl 4 rfl) ?_
        obtain ⟨σ16, hk15, hf⟩ := bv_some hf
        refine g_callv hS (g_runS (As := [.ref (ad q1), .int x2]) (rest := []) hC hP (c_M_turns hj h_q1 hk15) (rk (by decide) (by decide)) nm_M_turns cd_M_turns it_WideTownModel ml_M_184 sc_M_turns rfl hl.1 rfl (Nat.le_of_ble_eq_true rfl) d_M_goes_110 zz) (fun H locs hP hS => ?_)
        cases hf
        exact g_vret hC rfl hP hS d_M_goes_113
      · rw [if_neg hc27] at hf
        refine lv_aload_n hx hb d_M_goes_82 rfl (lv_at hl 3 rfl) ?_
        refine lv_bipush (v := (7 : Int32)) hx hb d_M_goes_83 (by decide) ?_
        refine lv_iload_n hx hb d_M_goes_85 rfl (lv_at hl 4 rfl) ?_
        refine lv_iadd hx hb d_M_goes_86 ?_
        refine lv_aload_n hx hb d_M_goes_87 rfl (lv_at hl 2 rfl) ?_
        refine lv_aload_n hx hb d_M_goes_88 rfl (lv_at hl 2 rfl) ?_
        refine g_get (v := .ref (ad 75)) hC hP o_63 co_M 16 (by decide) rfl fl_M_48 rfl d_M_goes_89 ?_
        refine lv_iload hx hb d_M_goes_92 (lv_at hl 0 rfl) ?_
        obtain ⟨r18, σ19, hk17, hf⟩ := bc_some hf
        refine g_calli hS (g_runV (As := [.ref (ad 75), .int r13]) (rest := [.int ((7 : Int32) + x2), .ref (ad q1)]) hC hP (c_M_codeOf hj a_75 hk17) (rk (by decide) (by decide)) nm_M_codeOf cd_M_codeOf it_WideTownModel ml_M_138 im_M_codeOf sl_M_codeOf o_63 co_M rfl hl.1 rfl (Nat.le_of_ble_eq_true rfl) d_M_goes_94 zz) (fun H locs hP hS => ?_)
        obtain ⟨hg20, hf⟩ := gd_some hf
        obtain ⟨σ21, eσ21, hf⟩ := jn_some hf
        refine g_iast2 (j := ((7 : Int32) + x2).toNatClampNeg) hC hP hS h_q1 hg20 rfl d_M_goes_97 (fun H locs hP hS => ?_)
        rw [← eσ21] at hP
        refine lv_aload_n hx hb d_M_goes_98 rfl (lv_at hl 3 rfl) ?_
        refine lv_bipush (v := (22 : Int32)) hx hb d_M_goes_99 (by decide) ?_
        refine lv_iload_n hx hb d_M_goes_101 rfl (lv_at hl 4 rfl) ?_
        refine lv_iadd hx hb d_M_goes_102 ?_
        refine lv_dup2_11 hx hb d_M_goes_103 rfl rfl ?_
        obtain ⟨hg22, hf⟩ := gd_some hf
        refine g_iald2 (j := ((22 : Int32) + x2).toNatClampNeg) hC hP h_q1 hg22 rfl d_M_goes_104 ?_
        refine lv_iconst (v := (1 : Int32)) hx hb d_M_goes_105 (by decide) ?_
        refine lv_iadd hx hb d_M_goes_106 ?_
        obtain ⟨hg23, hf⟩ := gd_some hf
        obtain ⟨σ24, eσ24, hf⟩ := jn_some hf
        refine g_iast2 (j := ((22 : Int32) + x2).toNatClampNeg) hC hP hS h_q1 hg23 rfl d_M_goes_107 (fun H locs hP hS => ?_)
        rw [← eσ24] at hP
        refine lv_aload_n hx hb d_M_goes_108 rfl (lv_at hl 3 rfl) ?_
        refine lv_iload_n hx hb d_M_goes_109 rfl (lv_at hl 4 rfl) ?_
        obtain ⟨σ26, hk25, hf⟩ := bv_some hf
        refine g_callv hS (g_runS (As := [.ref (ad q1), .int x2]) (rest := []) hC hP (c_M_turns hj h_q1 hk25) (rk (by decide) (by decide)) nm_M_turns cd_M_turns it_WideTownModel ml_M_184 sc_M_turns rfl hl.1 rfl (Nat.le_of_ble_eq_true rfl) d_M_goes_110 zz) (fun H locs hP hS => ?_)
        cases hf
        exact g_vret hC rfl hP hS d_M_goes_113
    clear eJ7
    refine lv_icmp_ne (tgt := 42) hx hb d_M_goes_31 (by decide) (fun hc31 => ?_) (fun hc31 => ?_)
    · rw [if_neg hc31] at hf
      refine lv_aload_n hx hb d_M_goes_42 rfl (lv_at hl 1 rfl) ?_
      refine lv_bipush (v := (12 : Int32)) hx hb d_M_goes_43 (by decide) ?_
      refine lv_iload_n hx hb d_M_goes_45 rfl (lv_at hl 2 rfl) ?_
      refine lv_iadd hx hb d_M_goes_46 ?_
      obtain ⟨hg28, hf⟩ := gd_some hf
      refine g_iald2 (j := ((12 : Int32) + x2).toNatClampNeg) hC hP h_q1 hg28 rfl d_M_goes_47 ?_
      exact hJ7 _ _ _ _ hP hS (lv_sub hl [0, 1, 2] rfl) hf
    · rw [if_pos hc31] at hf
      refine lv_iload hx hb d_M_goes_34 (lv_at hl 4 rfl) ?_
      obtain ⟨r30, hk29, hf⟩ := bp_some hf
      refine g_calli hS (g_runS (As := [.int r4]) (rest := []) hC hP (c_M_lowest hj  hk29) (rk (by decide) (by decide)) nm_M_lowest cd_M_lowest it_WideTownModel ml_M_181 sc_M_lowest rfl hl.1 rfl (Nat.le_of_ble_eq_true rfl) d_M_goes_36 zz) (fun H locs hP hS => ?_)
      refine lv_goto (tgt := 48) hx hb d_M_goes_39 (by decide) ?_
      exact hJ7 _ _ _ _ hP hS (lv_sub hl [0, 1, 2] rfl) hf
  clear eJ6
  refine lv_icmp_ne (tgt := 29) hx hb d_M_goes_20 (by decide) (fun hc33 => ?_) (fun hc33 => ?_)
  · rw [if_neg hc33] at hf
    exact hJ6 _ _ _ _ hP hS (lv_sub hl [2, 3, 4, 1, 0] rfl) hf
  · rw [if_pos hc33] at hf
    refine lv_iload hx hb d_M_goes_23 (lv_at hl 0 rfl) ?_
    refine lv_if_ne (tgt := 29) hx hb d_M_goes_25 (by decide) (fun hc32 => ?_) (fun hc32 => ?_)
    · rw [if_neg hc32] at hf
      exact hJ6 _ _ _ _ hP hS (lv_sub hl [2, 3, 4, 1, 0] rfl) hf
    · rw [if_pos hc32] at hf
      cases hf
      exact g_vret hC rfl hP hS d_M_goes_28
set_option maxHeartbeats 4000000 in
set_option maxRecDepth 100000 in
theorem c_M_hourOf {l : Launch} {D : va_G} {K : Nat → ClassId} {ad : Nat → Nat} (hj : inj ad) {q1 : Nat} (h_q1 : isA K ad q1 0 27) {x2 : Int32} {σ : GS} {z0 : GS} (hf : F_M_hourOf q1 x2 σ = some z0) : CT l D K ad y_M_hourOf b_M_hourOf 3 none 5 [.ref (ad 63), .ref (ad q1), .int x2] σ (QV D K ad z0) := by
  refine CT.intro hj (by decide) (Nat.le_of_ble_eq_true rfl) ?_
  intro p e s m args below meth c ls hC hP hS hl
  obtain ⟨hx, hb, -, hown, hts, -⟩ := id hC
  have hl : lv_has ls 3 [(0, .ref (ad 63)), (1, .ref (ad q1)), (2, .int x2)] := hl
  rw [F_M_hourOf] at hf
  refine lv_aload_n hx hb d_M_hourOf_0 rfl (lv_at hl 0 rfl) ?_
  refine lv_aload_n hx hb d_M_hourOf_1 rfl (lv_at hl 1 rfl) ?_
  refine lv_iload_n hx hb d_M_hourOf_2 rfl (lv_at hl 2 rfl) ?_
  obtain ⟨σ2, hk1, hf⟩ := bv_some hf
  refine g_callv hS (g_runV (As := [.ref (ad q1), .int x2]) (rest := []) hC hP (c_M_goes hj h_q1 hk1) (rk (by decide) (by decide)) nm_M_goes cd_M_goes it_WideTownModel ml_M_188 im_M_goes sl_M_goes o_63 co_M rfl hl.1 rfl (Nat.le_of_ble_eq_true rfl) d_M_hourOf_3 zz) (fun H locs hP hS => ?_)
  refine lv_aload_n hx hb d_M_hourOf_6 rfl (lv_at hl 1 rfl) ?_
  refine lv_iconst (v := (2 : Int32)) hx hb d_M_hourOf_7 (by decide) ?_
  refine lv_iload_n hx hb d_M_hourOf_8 rfl (lv_at hl 2 rfl) ?_
  refine lv_iadd hx hb d_M_hourOf_9 ?_
  obtain ⟨hg3, hf⟩ := gd_some hf
  refine g_iald2 (j := ((2 : Int32) + x2).toNatClampNeg) hC hP h_q1 hg3 rfl d_M_hourOf_10 ?_
  refine lv_iconst (v := (4 : Int32)) hx hb d_M_hourOf_11 (by decide) ?_
  refine lv_icmp_ne (tgt := 21) hx hb d_M_hourOf_12 (by decide) (fun hc6 => ?_) (fun hc6 => ?_)
  · rw [if_neg hc6] at hf
    cases hf
    exact g_vret hC rfl hP hS d_M_hourOf_21
  · rw [if_pos hc6] at hf
    refine lv_aload_n hx hb d_M_hourOf_15 rfl (lv_at hl 0 rfl) ?_
    refine lv_aload_n hx hb d_M_hourOf_16 rfl (lv_at hl 1 rfl) ?_
    refine lv_iload_n hx hb d_M_hourOf_17 rfl (lv_at hl 2 rfl) ?_
    obtain ⟨σ5, hk4, hf⟩ := bv_some hf
    refine g_callv hS (g_runV (As := [.ref (ad q1), .int x2]) (rest := []) hC hP (c_M_goes hj h_q1 hk4) (rk (by decide) (by decide)) nm_M_goes cd_M_goes it_WideTownModel ml_M_188 im_M_goes sl_M_goes o_63 co_M rfl hl.1 rfl (Nat.le_of_ble_eq_true rfl) d_M_hourOf_18 zz) (fun H locs hP hS => ?_)
    cases hf
    exact g_vret hC rfl hP hS d_M_hourOf_21
set_option maxHeartbeats 4000000 in
set_option maxRecDepth 100000 in
theorem c_M_isWalker {l : Launch} {D : va_G} {K : Nat → ClassId} {ad : Nat → Nat} (hj : inj ad)   {x1 : Int32} {σ : GS} {z0 : Int32} (hf : F_M_isWalker x1 σ = some z0) : CT l D K ad y_M_isWalker b_M_isWalker 2 (some .boolean) 1 [.ref (ad 63), .int x1] σ (QI D K ad z0 σ) := by
  refine CT.intro hj (by decide) (Nat.le_of_ble_eq_true rfl) ?_
  intro p e s m args below meth c ls hC hP hS hl
  obtain ⟨hx, hb, -, hown, hts, -⟩ := id hC
  have hl : lv_has ls 2 [(0, .ref (ad 63)), (1, .int x1)] := hl
  rw [F_M_isWalker] at hf
  refine lv_iload_n hx hb d_M_isWalker_0 rfl (lv_at hl 1 rfl) ?_
  refine lv_i2l hx hb d_M_isWalker_1 rfl ?_
  refine lv_lconst (v := (0 : Int64)) hx hb d_M_isWalker_2 (by decide) ?_
  refine lv_aload_n hx hb d_M_isWalker_3 rfl (lv_at hl 0 rfl) ?_
  refine g_get (v := .ref (ad 68)) hC hP o_63 co_M 4 (by decide) rfl fl_M_22 rfl d_M_isWalker_4 ?_
  refine lv_iconst (v := (0 : Int32)) hx hb d_M_isWalker_7 (by decide) ?_
  refine g_iald2 (j := 0) hC hP a_68 (by decide) rfl d_M_isWalker_8 ?_
  refine lv_iconst (v := (1 : Int32)) hx hb d_M_isWalker_9 (by decide) ?_
  refine lv_isub hx hb d_M_isWalker_10 ?_
  refine lv_i2l hx hb d_M_isWalker_11 rfl ?_
  obtain ⟨r2, hk1, hf⟩ := bp_some hf
  refine g_calli hS (g_runS (As := [.long x1.toInt64, .long (0 : Int64), .long (((σ.1 68 0) - (1 : Int32)).toInt64)]) (rest := []) hC hP (c_M_in hj  hk1) (rk (by decide) (by decide)) nm_M_in cd_M_in it_WideTownModel ml_M_100 sc_M_in rfl hl.1 rfl (Nat.le_of_ble_eq_true rfl) d_M_isWalker_12 zz) (fun H locs hP hS => ?_)
  obtain ⟨hz, hf⟩ := gd_some hf
  cases hf
  exact g_zret hC rfl hz hP hS d_M_isWalker_15
set_option maxHeartbeats 4000000 in
set_option maxRecDepth 100000 in
theorem c_M_isOf {l : Launch} {D : va_G} {K : Nat → ClassId} {ad : Nat → Nat} (hj : inj ad)   {x0 : Int32} {x1 : Int32} {σ : GS} {z0 : Int32} (hf : F_M_isOf x0 x1 = some z0) : CT l D K ad y_M_isOf b_M_isOf 2 (some .boolean) 0 [.int x0, .int x1] σ (QI D K ad z0 σ) := by
  refine CT.intro hj (by decide) (Nat.le_of_ble_eq_true rfl) ?_
  intro p e s m args below meth c ls hC hP hS hl
  obtain ⟨hx, hb, -, hown, hts, -⟩ := id hC
  have hl : lv_has ls 2 [(0, .int x0), (1, .int x1)] := hl
  rw [F_M_isOf] at hf
  refine lv_iload_n hx hb d_M_isOf_0 rfl (lv_at hl 1 rfl) ?_
  refine lv_if_eq (tgt := 29) hx hb d_M_isOf_1 (by decide) (fun hc7 => ?_) (fun hc7 => ?_)
  · rw [if_pos hc7] at hf
    refine lv_iconst (v := (1 : Int32)) hx hb d_M_isOf_29 (by decide) ?_
    refine lv_goto (tgt := 34) hx hb d_M_isOf_30 (by decide) ?_
    cases hf
    exact g_zret hC rfl (by decide) hP hS d_M_isOf_34
  · rw [if_neg hc7] at hf
    refine lv_iload_n hx hb d_M_isOf_4 rfl (lv_at hl 0 rfl) ?_
    refine lv_iload_n hx hb d_M_isOf_5 rfl (lv_at hl 1 rfl) ?_
    refine lv_icmp_eq (tgt := 29) hx hb d_M_isOf_6 (by decide) (fun hc6 => ?_) (fun hc6 => ?_)
    · rw [if_pos hc6] at hf
      refine lv_iconst (v := (1 : Int32)) hx hb d_M_isOf_29 (by decide) ?_
      refine lv_goto (tgt := 34) hx hb d_M_isOf_30 (by decide) ?_
      cases hf
      exact g_zret hC rfl (by decide) hP hS d_M_isOf_34
    · rw [if_neg hc6] at hf
      refine lv_iload_n hx hb d_M_isOf_9 rfl (lv_at hl 1 rfl) ?_
      refine lv_iconst (v := (1 : Int32)) hx hb d_M_isOf_10 (by decide) ?_
      obtain ⟨J1, eJ1, hf⟩ := jn_some hf
      have hJ1 : ∀ (dJ1 : Unit) (H : Heap) (locs : List Loc) (ls : Array Slot), va_P D vwCl (wG K ad σ) H → va_S (GA ad) s.heap H locs → lv_has ls 2 [(0, .int x0), (1, .int x1)] → J1 dJ1 = some z0 → W p l e (rmd 0) s m args below meth c H locs 0 0 (MQ below (QI D K ad z0 σ) args s 0 0 (GA ad)) (F0 m 19 ls []) := by
        clear hf
        intro dJ1 H locs ls hP hS hl hf
        rw [eJ1] at hf
        try dsimp only at hf
        refine lv_iload_n hx hb d_M_isOf_19 rfl (lv_at hl 1 rfl) ?_
        refine lv_iconst (v := (2 : Int32)) hx hb d_M_isOf_20 (by decide) ?_
        refine lv_icmp_ne (tgt := 33) hx hb d_M_isOf_21 (by decide) (fun hc3 => ?_) (fun hc3 => ?_)
        · rw [if_neg hc3] at hf
          refine lv_iconst (v := (0 : Int32)) hx hb d_M_isOf_33 (by decide) ?_
          cases hf
          exact g_zret hC rfl (by decide) hP hS d_M_isOf_34
        · rw [if_pos hc3] at hf
          refine lv_iload_n hx hb d_M_isOf_24 rfl (lv_at hl 0 rfl) ?_
          refine lv_iconst (v := (5 : Int32)) hx hb d_M_isOf_25 (by decide) ?_
          refine lv_icmp_ne (tgt := 33) hx hb d_M_isOf_26 (by decide) (fun hc2 => ?_) (fun hc2 => ?_)
          · rw [if_neg hc2] at hf
            refine lv_iconst (v := (0 : Int32)) hx hb d_M_isOf_33 (by decide) ?_
            cases hf
            exact g_zret hC rfl (by decide) hP hS d_M_isOf_34
          · rw [if_pos hc2] at hf
            refine lv_iconst (v := (1 : Int32)) hx hb d_M_isOf_29 (by decide) ?_
            refine lv_goto (tgt := 34) hx hb d_M_isOf_30 (by decide) ?_
            cases hf
            exact g_zret hC rfl (by decide) hP hS d_M_isOf_34
      clear eJ1
      refine lv_icmp_ne (tgt := 19) hx hb d_M_isOf_11 (by decide) (fun hc5 => ?_) (fun hc5 => ?_)
      · rw [if_neg hc5] at hf
        exact hJ1 _ _ _ _ hP hS (lv_sub hl [0, 1] rfl) hf
      · rw [if_pos hc5] at hf
        refine lv_iload_n hx hb d_M_isOf_14 rfl (lv_at hl 0 rfl) ?_
        refine lv_iconst (v := (4 : Int32)) hx hb d_M_isOf_15 (by decide) ?_
        refine lv_icmp_eq (tgt := 29) hx hb d_M_isOf_16 (by decide) (fun hc4 => ?_) (fun hc4 => ?_)
        · rw [if_pos hc4] at hf
          refine lv_iconst (v := (1 : Int32)) hx hb d_M_isOf_29 (by decide) ?_
          refine lv_goto (tgt := 34) hx hb d_M_isOf_30 (by decide) ?_
          cases hf
          exact g_zret hC rfl (by decide) hP hS d_M_isOf_34
        · rw [if_neg hc4] at hf
          exact hJ1 _ _ _ _ hP hS (lv_sub hl [0, 1] rfl) hf
set_option maxHeartbeats 4000000 in
set_option maxRecDepth 100000 in
theorem c_M_told {l : Launch} {D : va_G} {K : Nat → ClassId} {ad : Nat → Nat} (hj : inj ad)   {x1 : Int32} {x2 : Int32} {σ : GS} {z0 : Int32} (hf : F_M_told x1 x2 σ = some z0) : CT l D K ad y_M_told b_M_told 3 (some .int) 1 [.ref (ad 63), .int x1, .int x2] σ (QI D K ad z0 σ) := by
  refine CT.intro hj (by decide) (Nat.le_of_ble_eq_true rfl) ?_
  intro p e s m args below meth c ls hC hP hS hl
  obtain ⟨hx, hb, -, hown, hts, -⟩ := id hC
  have hl : lv_has ls 3 [(0, .ref (ad 63)), (1, .int x1), (2, .int x2)] := hl
  rw [F_M_told] at hf
  refine lv_iload_n hx hb d_M_told_0 rfl (lv_at hl 2 rfl) ?_
  refine lv_if_ne (tgt := 15) hx hb d_M_told_1 (by decide) (fun hc11 => ?_) (fun hc11 => ?_)
  · rw [if_neg hc11] at hf
    refine lv_iload_n hx hb d_M_told_15 rfl (lv_at hl 2 rfl) ?_
    refine lv_iconst (v := (1 : Int32)) hx hb d_M_told_16 (by decide) ?_
    refine lv_icmp_ne (tgt := 32) hx hb d_M_told_17 (by decide) (fun hc9 => ?_) (fun hc9 => ?_)
    · rw [if_neg hc9] at hf
      refine lv_iload_n hx hb d_M_told_32 rfl (lv_at hl 2 rfl) ?_
      refine lv_iconst (v := (2 : Int32)) hx hb d_M_told_33 (by decide) ?_
      refine lv_icmp_ne (tgt := 49) hx hb d_M_told_34 (by decide) (fun hc7 => ?_) (fun hc7 => ?_)
      · rw [if_neg hc7] at hf
        refine lv_iload_n hx hb d_M_told_49 rfl (lv_at hl 2 rfl) ?_
        refine lv_iconst (v := (3 : Int32)) hx hb d_M_told_50 (by decide) ?_
        refine lv_icmp_ne (tgt := 66) hx hb d_M_told_51 (by decide) (fun hc5 => ?_) (fun hc5 => ?_)
        · rw [if_neg hc5] at hf
          refine lv_aload_n hx hb d_M_told_66 rfl (lv_at hl 0 rfl) ?_
          refine g_get (v := .ref (ad 68)) hC hP o_63 co_M 4 (by decide) rfl fl_M_22 rfl d_M_told_67 ?_
          refine lv_bipush (v := (7 : Int32)) hx hb d_M_told_70 (by decide) ?_
          refine lv_iload_n hx hb d_M_told_72 rfl (lv_at hl 1 rfl) ?_
          refine lv_iadd hx hb d_M_told_73 ?_
          obtain ⟨hg1, hf⟩ := gd_some hf
          refine g_iald2 (j := ((7 : Int32) + x1).toNatClampNeg) hC hP a_68 hg1 rfl d_M_told_74 ?_
          obtain ⟨r3, hk2, hf⟩ := bp_some hf
          refine g_calli hS (g_runS (As := [.int (σ.1 68 ((7 : Int32) + x1).toNatClampNeg)]) (rest := []) hC hP (c_M_figures hj  hk2) (rk (by decide) (by decide)) nm_M_figures cd_M_figures it_WideTownModel ml_M_162 sc_M_figures rfl hl.1 rfl (Nat.le_of_ble_eq_true rfl) d_M_told_75 zz) (fun H locs hP hS => ?_)
          cases hf
          exact g_iret hC rfl hP hS d_M_told_78
        · rw [if_pos hc5] at hf
          refine lv_aload_n hx hb d_M_told_54 rfl (lv_at hl 0 rfl) ?_
          refine g_get (v := .ref (ad 68)) hC hP o_63 co_M 4 (by decide) rfl fl_M_22 rfl d_M_told_55 ?_
          refine lv_bipush (v := (22 : Int32)) hx hb d_M_told_58 (by decide) ?_
          refine lv_iload_n hx hb d_M_told_60 rfl (lv_at hl 1 rfl) ?_
          refine lv_iadd hx hb d_M_told_61 ?_
          obtain ⟨hg4, hf⟩ := gd_some hf
          refine g_iald2 (j := ((22 : Int32) + x1).toNatClampNeg) hC hP a_68 hg4 rfl d_M_told_62 ?_
          refine lv_goto (tgt := 78) hx hb d_M_told_63 (by decide) ?_
          cases hf
          exact g_iret hC rfl hP hS d_M_told_78
      · rw [if_pos hc7] at hf
        refine lv_aload_n hx hb d_M_told_37 rfl (lv_at hl 0 rfl) ?_
        refine g_get (v := .ref (ad 68)) hC hP o_63 co_M 4 (by decide) rfl fl_M_22 rfl d_M_told_38 ?_
        refine lv_bipush (v := (12 : Int32)) hx hb d_M_told_41 (by decide) ?_
        refine lv_iload_n hx hb d_M_told_43 rfl (lv_at hl 1 rfl) ?_
        refine lv_iadd hx hb d_M_told_44 ?_
        obtain ⟨hg6, hf⟩ := gd_some hf
        refine g_iald2 (j := ((12 : Int32) + x1).toNatClampNeg) hC hP a_68 hg6 rfl d_M_told_45 ?_
        refine lv_goto (tgt := 78) hx hb d_M_told_46 (by decide) ?_
        cases hf
        exact g_iret hC rfl hP hS d_M_told_78
    · rw [if_pos hc9] at hf
      refine lv_aload_n hx hb d_M_told_20 rfl (lv_at hl 0 rfl) ?_
      refine g_get (v := .ref (ad 68)) hC hP o_63 co_M 4 (by decide) rfl fl_M_22 rfl d_M_told_21 ?_
      refine lv_bipush (v := (7 : Int32)) hx hb d_M_told_24 (by decide) ?_
      refine lv_iload_n hx hb d_M_told_26 rfl (lv_at hl 1 rfl) ?_
      refine lv_iadd hx hb d_M_told_27 ?_
      obtain ⟨hg8, hf⟩ := gd_some hf
      refine g_iald2 (j := ((7 : Int32) + x1).toNatClampNeg) hC hP a_68 hg8 rfl d_M_told_28 ?_
      refine lv_goto (tgt := 78) hx hb d_M_told_29 (by decide) ?_
      cases hf
      exact g_iret hC rfl hP hS d_M_told_78
  · rw [if_pos hc11] at hf
    refine lv_aload_n hx hb d_M_told_4 rfl (lv_at hl 0 rfl) ?_
    refine g_get (v := .ref (ad 68)) hC hP o_63 co_M 4 (by decide) rfl fl_M_22 rfl d_M_told_5 ?_
    refine lv_iconst (v := (2 : Int32)) hx hb d_M_told_8 (by decide) ?_
    refine lv_iload_n hx hb d_M_told_9 rfl (lv_at hl 1 rfl) ?_
    refine lv_iadd hx hb d_M_told_10 ?_
    obtain ⟨hg10, hf⟩ := gd_some hf
    refine g_iald2 (j := ((2 : Int32) + x1).toNatClampNeg) hC hP a_68 hg10 rfl d_M_told_11 ?_
    refine lv_goto (tgt := 78) hx hb d_M_told_12 (by decide) ?_
    cases hf
    exact g_iret hC rfl hP hS d_M_told_78
set_option maxHeartbeats 4000000 in
set_option maxRecDepth 100000 in
theorem c_M_walker {l : Launch} {D : va_G} {K : Nat → ClassId} {ad : Nat → Nat} (hj : inj ad)   {x1 : Int32} {x2 : Int32} {σ : GS} {z0 : Int32 × GS} (hf : F_M_walker x1 x2 σ = some z0) : CT l D K ad y_M_walker b_M_walker 3 (some .int) 2 [.ref (ad 63), .int x1, .int x2] σ (QI D K ad z0.1 z0.2) := by
  refine CT.intro hj (by decide) (Nat.le_of_ble_eq_true rfl) ?_
  intro p e s m args below meth c ls hC hP hS hl
  obtain ⟨hx, hb, -, hown, hts, -⟩ := id hC
  have hl : lv_has ls 3 [(0, .ref (ad 63)), (1, .int x1), (2, .int x2)] := hl
  rw [F_M_walker] at hf
  refine lv_aload_n hx hb d_M_walker_0 rfl (lv_at hl 0 rfl) ?_
  refine lv_iload_n hx hb d_M_walker_1 rfl (lv_at hl 1 rfl) ?_
  obtain ⟨r2, hk1, hf⟩ := bp_some hf
  refine g_calli hS (g_runV (As := [.int x1]) (rest := []) hC hP (c_M_isWalker hj  hk1) (rk (by decide) (by decide)) nm_M_isWalker cd_M_isWalker it_WideTownModel ml_M_191 im_M_isWalker sl_M_isWalker o_63 co_M rfl hl.1 rfl (Nat.le_of_ble_eq_true rfl) d_M_walker_2 zz) (fun H locs hP hS => ?_)
  refine lv_if_eq (tgt := 33) hx hb d_M_walker_5 (by decide) (fun hc11 => ?_) (fun hc11 => ?_)
  · rw [if_pos hc11] at hf
    refine lv_iconst (v := (-1 : Int32)) hx hb d_M_walker_33 (by decide) ?_
    cases hf
    exact g_iret hC rfl hP hS d_M_walker_34
  · rw [if_neg hc11] at hf
    refine lv_iload_n hx hb d_M_walker_8 rfl (lv_at hl 2 rfl) ?_
    refine lv_i2l hx hb d_M_walker_9 rfl ?_
    refine lv_lconst (v := (0 : Int64)) hx hb d_M_walker_10 (by decide) ?_
    refine lv_ldc2 hx hb hown (hts _ cn_M_120) d_M_walker_11 ?_
    obtain ⟨r4, hk3, hf⟩ := bp_some hf
    refine g_calli hS (g_runS (As := [.long x2.toInt64, .long (0 : Int64), .long (4 : Int64)]) (rest := []) hC hP (c_M_in hj  hk3) (rk (by decide) (by decide)) nm_M_in cd_M_in it_WideTownModel ml_M_100 sc_M_in rfl hl.1 rfl (Nat.le_of_ble_eq_true rfl) d_M_walker_14 zz) (fun H locs hP hS => ?_)
    refine lv_if_eq (tgt := 33) hx hb d_M_walker_17 (by decide) (fun hc10 => ?_) (fun hc10 => ?_)
    · rw [if_pos hc10] at hf
      refine lv_iconst (v := (-1 : Int32)) hx hb d_M_walker_33 (by decide) ?_
      cases hf
      exact g_iret hC rfl hP hS d_M_walker_34
    · rw [if_neg hc10] at hf
      refine lv_aload_n hx hb d_M_walker_20 rfl (lv_at hl 0 rfl) ?_
      refine lv_aload_n hx hb d_M_walker_21 rfl (lv_at hl 0 rfl) ?_
      refine lv_iload_n hx hb d_M_walker_22 rfl (lv_at hl 1 rfl) ?_
      refine lv_iload_n hx hb d_M_walker_23 rfl (lv_at hl 2 rfl) ?_
      obtain ⟨r6, hk5, hf⟩ := bp_some hf
      refine g_calli hS (g_runV (As := [.int x1, .int x2]) (rest := [.ref (ad 63)]) hC hP (c_M_told hj  hk5) (rk (by decide) (by decide)) nm_M_told cd_M_told it_WideTownModel ml_M_194 im_M_told sl_M_told o_63 co_M rfl hl.1 rfl (Nat.le_of_ble_eq_true rfl) d_M_walker_24 zz) (fun H locs hP hS => ?_)
      obtain ⟨r8, σ9, hk7, hf⟩ := bc_some hf
      refine g_calli hS (g_runV (As := [.int r6]) (rest := []) hC hP (c_M_tell hj  hk7) (rk (by decide) (by decide)) nm_M_tell cd_M_tell it_WideTownModel ml_M_114 im_M_tell sl_M_tell o_63 co_M rfl hl.1 rfl (Nat.le_of_ble_eq_true rfl) d_M_walker_27 zz) (fun H locs hP hS => ?_)
      refine lv_goto (tgt := 34) hx hb d_M_walker_30 (by decide) ?_
      cases hf
      exact g_iret hC rfl hP hS d_M_walker_34
set_option maxHeartbeats 4000000 in
set_option maxRecDepth 100000 in
theorem c_M_tries {l : Launch} {D : va_G} {K : Nat → ClassId} {ad : Nat → Nat} (hj : inj ad)    {σ : GS} {z0 : GS} (hf : F_M_tries σ = some z0) : CT l D K ad y_M_tries b_M_tries 2 none 0 [.ref (ad 63)] σ (QV D K ad z0) := by
  refine CT.intro hj (by decide) (Nat.le_of_ble_eq_true rfl) ?_
  intro p e s m args below meth c ls hC hP hS hl
  obtain ⟨hx, hb, -, hown, hts, -⟩ := id hC
  have hl : lv_has ls 2 [(0, .ref (ad 63))] := hl
  rw [F_M_tries] at hf
  refine lv_iconst (v := (0 : Int32)) hx hb d_M_tries_0 (by decide) ?_
  refine lv_istore_n (lv' := [(1, .int (0 : Int32)), (0, .ref (ad 63))]) hx hb d_M_tries_1 rfl hl (by decide) rfl (fun ls hl => ?_)
  obtain ⟨KL1_26, eKL1_26, hf⟩ := jn_some hf
  have hKL1_26 : ∀ (v1_1 : Int32) (σL1 : GS) (H : Heap) (locs : List Loc) (ls : Array Slot), va_P D vwCl (wG K ad σL1) H → va_S (GA ad) s.heap H locs → lv_has ls 2 [] → KL1_26 v1_1 σL1 = some z0 → W p l e (rmd 0) s m args below meth c H locs 0 0 (MQ below (QV D K ad z0) args s 0 0 (GA ad)) (F0 m 26 ls []) := by
    clear hf
    intro v1_1 σL1 H locs ls hP hS hl hf
    rw [eKL1_26] at hf
    try dsimp only at hf
    cases hf
    exact g_vret hC rfl hP hS d_M_tries_26
  clear eKL1_26
  have hL1 : ∀ (n : Nat) (v1_1 : Int32) (σL1 : GS) (H : Heap) (locs : List Loc) (ls : Array Slot), va_P D vwCl (wG K ad σL1) H → va_S (GA ad) s.heap H locs → lv_has ls 2 [(0, .ref (ad 63)), (1, .int v1_1)] → F_M_tries_2 KL1_26 n v1_1 σL1 = some z0 → W p l e (rmd 0) s m args below meth c H locs 0 0 (MQ below (QV D K ad z0) args s 0 0 (GA ad)) (F0 m 2 ls []) := by
    clear hf
    intro n
    induction n with
    | zero =>
      intro v1_1 σL1 H locs ls hP hS hl hf
      rw [F_M_tries_2.eq_1] at hf
      cases hf
    | succ n ih =>
      intro v1_1 σL1 H locs ls hP hS hl hf
      rw [F_M_tries_2.eq_2] at hf
      refine lv_iload_n hx hb d_M_tries_2 rfl (lv_at hl 1 rfl) ?_
      refine lv_bipush (v := (27 : Int32)) hx hb d_M_tries_3 (by decide) ?_
      refine lv_icmp_ge (tgt := 26) hx hb d_M_tries_5 (by decide) (fun hc5 => ?_) (fun hc5 => ?_)
      · rw [if_pos hc5] at hf
        exact hKL1_26 _ _ _ _ _ hP hS (lv_sub hl [] rfl) hf
      · rw [if_neg hc5] at hf
        refine lv_aload_n hx hb d_M_tries_8 rfl (lv_at hl 0 rfl) ?_
        refine g_get (v := .ref (ad 80)) hC hP o_63 co_M 21 (by decide) rfl fl_M_63 rfl d_M_tries_9 ?_
        refine lv_iload_n hx hb d_M_tries_12 rfl (lv_at hl 1 rfl) ?_
        refine lv_aload_n hx hb d_M_tries_13 rfl (lv_at hl 0 rfl) ?_
        refine g_get (v := .ref (ad 68)) hC hP o_63 co_M 4 (by decide) rfl fl_M_22 rfl d_M_tries_14 ?_
        refine lv_iload_n hx hb d_M_tries_17 rfl (lv_at hl 1 rfl) ?_
        obtain ⟨hg2, hf⟩ := gd_some hf
        refine g_iald2 (j := v1_1.toNatClampNeg) hC hP a_68 hg2 rfl d_M_tries_18 ?_
        obtain ⟨hg3, hf⟩ := gd_some hf
        obtain ⟨σ4, eσ4, hf⟩ := jn_some hf
        refine g_iast2 (j := v1_1.toNatClampNeg) hC hP hS a_80 hg3 rfl d_M_tries_19 (fun H locs hP hS => ?_)
        rw [← eσ4] at hP
        refine lv_iinc (v := v1_1 + 1) (lv' := [(1, .int (v1_1 + 1)), (0, .ref (ad 63))]) hx hb d_M_tries_20 hl (k := 1) rfl rfl (by decide) rfl (fun ls hl => ?_)
        refine lv_goto (tgt := 2) hx hb d_M_tries_23 (by decide) ?_
        exact ih _ _ _ _ _ hP hS (lv_sub hl [1, 0] rfl) hf
  exact hL1 _ _ _ _ _ _ hP hS (lv_sub hl [1, 0] rfl) hf
set_option maxHeartbeats 4000000 in
set_option maxRecDepth 100000 in
theorem c_M_mark {l : Launch} {D : va_G} {K : Nat → ClassId} {ad : Nat → Nat} (hj : inj ad)   {x1 : Int32} {x2 : Int32} {σ : GS} {z0 : Int32 × GS} (hf : F_M_mark x1 x2 σ = some z0) : CT l D K ad y_M_mark b_M_mark 5 (some .int) 6 [.ref (ad 63), .int x1, .int x2] σ (QI D K ad z0.1 z0.2) := by
  refine CT.intro hj (by decide) (Nat.le_of_ble_eq_true rfl) ?_
  intro p e s m args below meth c ls hC hP hS hl
  obtain ⟨hx, hb, -, hown, hts, -⟩ := id hC
  have hl : lv_has ls 5 [(0, .ref (ad 63)), (1, .int x1), (2, .int x2)] := hl
  rw [F_M_mark] at hf
  refine lv_aload_n hx hb d_M_mark_0 rfl (lv_at hl 0 rfl) ?_
  refine lv_iload_n hx hb d_M_mark_1 rfl (lv_at hl 1 rfl) ?_
  obtain ⟨r2, hk1, hf⟩ := bp_some hf
  refine g_calli hS (g_runV (As := [.int x1]) (rest := []) hC hP (c_M_isWalker hj  hk1) (rk (by decide) (by decide)) nm_M_isWalker cd_M_isWalker it_WideTownModel ml_M_191 im_M_isWalker sl_M_isWalker o_63 co_M rfl hl.1 rfl (Nat.le_of_ble_eq_true rfl) d_M_mark_2 zz) (fun H locs hP hS => ?_)
  refine lv_if_eq (tgt := 20) hx hb d_M_mark_5 (by decide) (fun hc49 => ?_) (fun hc49 => ?_)
  · rw [if_pos hc49] at hf
    refine lv_iconst (v := (-1 : Int32)) hx hb d_M_mark_20 (by decide) ?_
    cases hf
    exact g_iret hC rfl hP hS d_M_mark_21
  · rw [if_neg hc49] at hf
    refine lv_iload_n hx hb d_M_mark_8 rfl (lv_at hl 2 rfl) ?_
    refine lv_i2l hx hb d_M_mark_9 rfl ?_
    refine lv_lconst (v := (1 : Int64)) hx hb d_M_mark_10 (by decide) ?_
    refine lv_ldc2 hx hb hown (hts _ cn_M_98) d_M_mark_11 ?_
    obtain ⟨r4, hk3, hf⟩ := bp_some hf
    refine g_calli hS (g_runS (As := [.long x2.toInt64, .long (1 : Int64), .long (5 : Int64)]) (rest := []) hC hP (c_M_in hj  hk3) (rk (by decide) (by decide)) nm_M_in cd_M_in it_WideTownModel ml_M_100 sc_M_in rfl hl.1 rfl (Nat.le_of_ble_eq_true rfl) d_M_mark_14 zz) (fun H locs hP hS => ?_)
    refine lv_if_ne (tgt := 22) hx hb d_M_mark_17 (by decide) (fun hc48 => ?_) (fun hc48 => ?_)
    · rw [if_neg hc48] at hf
      refine lv_aload_n hx hb d_M_mark_22 rfl (lv_at hl 0 rfl) ?_
      refine g_get (v := .ref (ad 68)) hC hP o_63 co_M 4 (by decide) rfl fl_M_22 rfl d_M_mark_23 ?_
      refine lv_iconst (v := (2 : Int32)) hx hb d_M_mark_26 (by decide) ?_
      refine lv_iload_n hx hb d_M_mark_27 rfl (lv_at hl 1 rfl) ?_
      refine lv_iadd hx hb d_M_mark_28 ?_
      obtain ⟨hg5, hf⟩ := gd_some hf
      refine g_iald2 (j := ((2 : Int32) + x1).toNatClampNeg) hC hP a_68 hg5 rfl d_M_mark_29 ?_
      refine lv_iload_n hx hb d_M_mark_30 rfl (lv_at hl 2 rfl) ?_
      obtain ⟨r7, hk6, hf⟩ := bp_some hf
      refine g_calli hS (g_runS (As := [.int (σ.1 68 ((2 : Int32) + x1).toNatClampNeg), .int x2]) (rest := []) hC hP (c_M_isOf hj  hk6) (rk (by decide) (by decide)) nm_M_isOf cd_M_isOf it_WideTownModel ml_M_198 sc_M_isOf rfl hl.1 rfl (Nat.le_of_ble_eq_true rfl) d_M_mark_31 zz) (fun H locs hP hS => ?_)
      refine lv_if_ne (tgt := 43) hx hb d_M_mark_34 (by decide) (fun hc47 => ?_) (fun hc47 => ?_)
      · rw [if_neg hc47] at hf
        refine lv_aload_n hx hb d_M_mark_43 rfl (lv_at hl 0 rfl) ?_
        obtain ⟨σ9, hk8, hf⟩ := bv_some hf
        refine g_callv hS (g_runV (As := []) (rest := []) hC hP (c_M_tries hj  hk8) (rk (by decide) (by decide)) nm_M_tries cd_M_tries it_WideTownModel ml_M_201 im_M_tries sl_M_tries o_63 co_M rfl hl.1 rfl (Nat.le_of_ble_eq_true rfl) d_M_mark_44 zz) (fun H locs hP hS => ?_)
        refine lv_iload_n hx hb d_M_mark_47 rfl (lv_at hl 2 rfl) ?_
        refine lv_iconst (v := (1 : Int32)) hx hb d_M_mark_48 (by decide) ?_
        refine lv_icmp_ne (tgt := 70) hx hb d_M_mark_49 (by decide) (fun hc43 => ?_) (fun hc43 => ?_)
        · rw [if_neg hc43] at hf
          refine lv_iload_n hx hb d_M_mark_70 rfl (lv_at hl 2 rfl) ?_
          refine lv_iconst (v := (2 : Int32)) hx hb d_M_mark_71 (by decide) ?_
          refine lv_icmp_ne (tgt := 120) hx hb d_M_mark_72 (by decide) (fun hc39 => ?_) (fun hc39 => ?_)
          · rw [if_neg hc39] at hf
            refine lv_iload_n hx hb d_M_mark_120 rfl (lv_at hl 2 rfl) ?_
            refine lv_iconst (v := (3 : Int32)) hx hb d_M_mark_121 (by decide) ?_
            refine lv_icmp_ne (tgt := 142) hx hb d_M_mark_122 (by decide) (fun hc29 => ?_) (fun hc29 => ?_)
            · rw [if_neg hc29] at hf
              refine lv_iload_n hx hb d_M_mark_142 rfl (lv_at hl 2 rfl) ?_
              refine lv_iconst (v := (4 : Int32)) hx hb d_M_mark_143 (by decide) ?_
              refine lv_icmp_ne (tgt := 169) hx hb d_M_mark_144 (by decide) (fun hc22 => ?_) (fun hc22 => ?_)
              · rw [if_neg hc22] at hf
                refine lv_iconst (v := (0 : Int32)) hx hb d_M_mark_169 (by decide) ?_
                refine lv_istore_n (lv' := [(3, .int (0 : Int32)), (0, .ref (ad 63)), (1, .int x1), (2, .int x2)]) hx hb d_M_mark_170 rfl hl (by decide) rfl (fun ls hl => ?_)
                refine lv_iconst (v := (0 : Int32)) hx hb d_M_mark_171 (by decide) ?_
                refine lv_istore (lv' := [(4, .int (0 : Int32)), (3, .int (0 : Int32)), (0, .ref (ad 63)), (1, .int x1), (2, .int x2)]) hx hb d_M_mark_172 hl (by decide) rfl (fun ls hl => ?_)
                obtain ⟨KL10_227, eKL10_227, hf⟩ := jn_some hf
                have hKL10_227 : ∀ (v3_10 : Int32) (v4_10 : Int32) (H : Heap) (locs : List Loc) (ls : Array Slot), va_P D vwCl (wG K ad σ9) H → va_S (GA ad) s.heap H locs → lv_has ls 5 [(3, .int v3_10)] → KL10_227 v3_10 v4_10 = some z0 → W p l e (rmd 6) s m args below meth c H locs 0 0 (MQ below (QI D K ad z0.1 z0.2) args s 0 0 (GA ad)) (F0 m 227 ls []) := by
                  clear hf
                  intro v3_10 v4_10 H locs ls hP hS hl hf
                  rw [eKL10_227] at hf
                  try dsimp only at hf
                  refine lv_iload_n hx hb d_M_mark_227 rfl (lv_at hl 0 rfl) ?_
                  cases hf
                  exact g_iret hC rfl hP hS d_M_mark_228
                clear eKL10_227
                have hL10 : ∀ (n : Nat) (v3_10 : Int32) (v4_10 : Int32) (H : Heap) (locs : List Loc) (ls : Array Slot), va_P D vwCl (wG K ad σ9) H → va_S (GA ad) s.heap H locs → lv_has ls 5 [(0, .ref (ad 63)), (1, .int x1), (3, .int v3_10), (4, .int v4_10)] → F_M_mark_174 x1 σ9 KL10_227 n v3_10 v4_10 = some z0 → W p l e (rmd 6) s m args below meth c H locs 0 0 (MQ below (QI D K ad z0.1 z0.2) args s 0 0 (GA ad)) (F0 m 174 ls []) := by
                  clear hf
                  intro n
                  induction n with
                  | zero =>
                    intro v3_10 v4_10 H locs ls hP hS hl hf
                    rw [F_M_mark_174.eq_1] at hf
                    cases hf
                  | succ n ih =>
                    intro v3_10 v4_10 H locs ls hP hS hl hf
                    rw [F_M_mark_174.eq_2] at hf
                    refine lv_iload hx hb d_M_mark_174 (lv_at hl 3 rfl) ?_
                    refine lv_aload_n hx hb d_M_mark_176 rfl (lv_at hl 0 rfl) ?_
                    refine g_get (v := .ref (ad 68)) hC hP o_63 co_M 4 (by decide) rfl fl_M_22 rfl d_M_mark_177 ?_
                    refine lv_iconst (v := (0 : Int32)) hx hb d_M_mark_180 (by decide) ?_
                    refine g_iald2 (j := 0) hC hP a_68 (by decide) rfl d_M_mark_181 ?_
                    refine lv_icmp_ge (tgt := 227) hx hb d_M_mark_182 (by decide) (fun hc16 => ?_) (fun hc16 => ?_)
                    · rw [if_pos hc16] at hf
                      exact hKL10_227 _ _ _ _ _ hP hS (lv_sub hl [2] rfl) hf
                    · rw [if_neg hc16] at hf
                      refine lv_iload_n hx hb d_M_mark_185 rfl (lv_at hl 2 rfl) ?_
                      refine lv_iload hx hb d_M_mark_186 (lv_at hl 3 rfl) ?_
                      refine lv_iload_n hx hb d_M_mark_188 rfl (lv_at hl 1 rfl) ?_
                      obtain ⟨J11, eJ11, hf⟩ := jn_some hf
                      have hJ11 : ∀ (dJ11 : Unit) (H : Heap) (locs : List Loc) (ls : Array Slot), va_P D vwCl (wG K ad σ9) H → va_S (GA ad) s.heap H locs → lv_has ls 5 [(0, .ref (ad 63)), (1, .int x1), (4, .int v4_10)] → J11 dJ11 = some z0 → W p l e (rmd 6) s m args below meth c H locs 0 0 (MQ below (QI D K ad z0.1 z0.2) args s 0 0 (GA ad)) (F0 m 218 ls [.int v3_10]) := by
                        clear hf
                        intro dJ11 H locs ls hP hS hl hf
                        rw [eJ11] at hf
                        try dsimp only at hf
                        refine lv_iconst (v := (0 : Int32)) hx hb d_M_mark_218 (by decide) ?_
                        refine lv_iadd hx hb d_M_mark_219 ?_
                        refine lv_istore_n (lv' := [(3, .int (v3_10 + (0 : Int32))), (0, .ref (ad 63)), (1, .int x1), (4, .int v4_10)]) hx hb d_M_mark_220 rfl hl (by decide) rfl (fun ls hl => ?_)
                        refine lv_iinc (v := v4_10 + 1) (lv' := [(4, .int (v4_10 + 1)), (3, .int (v3_10 + (0 : Int32))), (0, .ref (ad 63)), (1, .int x1)]) hx hb d_M_mark_221 hl (k := 3) rfl rfl (by decide) rfl (fun ls hl => ?_)
                        refine lv_goto (tgt := 174) hx hb d_M_mark_224 (by decide) ?_
                        exact ih _ _ _ _ _ hP hS (lv_sub hl [2, 3, 1, 0] rfl) hf
                      clear eJ11
                      refine lv_icmp_eq (tgt := 218) hx hb d_M_mark_189 (by decide) (fun hc15 => ?_) (fun hc15 => ?_)
                      · rw [if_pos hc15] at hf
                        exact hJ11 _ _ _ _ hP hS (lv_sub hl [0, 1, 3] rfl) hf
                      · rw [if_neg hc15] at hf
                        refine lv_aload_n hx hb d_M_mark_192 rfl (lv_at hl 0 rfl) ?_
                        refine g_get (v := .ref (ad 68)) hC hP o_63 co_M 4 (by decide) rfl fl_M_22 rfl d_M_mark_193 ?_
                        refine lv_bipush (v := (7 : Int32)) hx hb d_M_mark_196 (by decide) ?_
                        refine lv_iload hx hb d_M_mark_198 (lv_at hl 3 rfl) ?_
                        refine lv_iadd hx hb d_M_mark_200 ?_
                        obtain ⟨hg12, hf⟩ := gd_some hf
                        refine g_iald2 (j := ((7 : Int32) + v4_10).toNatClampNeg) hC hP a_68 hg12 rfl d_M_mark_201 ?_
                        refine lv_aload_n hx hb d_M_mark_202 rfl (lv_at hl 0 rfl) ?_
                        refine g_get (v := .ref (ad 68)) hC hP o_63 co_M 4 (by decide) rfl fl_M_22 rfl d_M_mark_203 ?_
                        refine lv_bipush (v := (7 : Int32)) hx hb d_M_mark_206 (by decide) ?_
                        refine lv_iload_n hx hb d_M_mark_208 rfl (lv_at hl 1 rfl) ?_
                        refine lv_iadd hx hb d_M_mark_209 ?_
                        obtain ⟨hg13, hf⟩ := gd_some hf
                        refine g_iald2 (j := ((7 : Int32) + x1).toNatClampNeg) hC hP a_68 hg13 rfl d_M_mark_210 ?_
                        refine lv_icmp_ne (tgt := 218) hx hb d_M_mark_211 (by decide) (fun hc14 => ?_) (fun hc14 => ?_)
                        · rw [if_neg hc14] at hf
                          exact hJ11 _ _ _ _ hP hS (lv_sub hl [0, 1, 3] rfl) hf
                        · rw [if_pos hc14] at hf
                          refine lv_iconst (v := (1 : Int32)) hx hb d_M_mark_214 (by decide) ?_
                          refine lv_goto (tgt := 219) hx hb d_M_mark_215 (by decide) ?_
                          refine lv_iadd hx hb d_M_mark_219 ?_
                          refine lv_istore_n (lv' := [(3, .int (v3_10 + (1 : Int32))), (0, .ref (ad 63)), (1, .int x1), (4, .int v4_10)]) hx hb d_M_mark_220 rfl hl (by decide) rfl (fun ls hl => ?_)
                          refine lv_iinc (v := v4_10 + 1) (lv' := [(4, .int (v4_10 + 1)), (3, .int (v3_10 + (1 : Int32))), (0, .ref (ad 63)), (1, .int x1)]) hx hb d_M_mark_221 hl (k := 3) rfl rfl (by decide) rfl (fun ls hl => ?_)
                          refine lv_goto (tgt := 174) hx hb d_M_mark_224 (by decide) ?_
                          exact ih _ _ _ _ _ hP hS (lv_sub hl [2, 3, 1, 0] rfl) hf
                exact hL10 _ _ _ _ _ _ hP hS (lv_sub hl [2, 3, 1, 0] rfl) hf
              · rw [if_pos hc22] at hf
                refine lv_aload_n hx hb d_M_mark_147 rfl (lv_at hl 0 rfl) ?_
                refine lv_aload_n hx hb d_M_mark_148 rfl (lv_at hl 0 rfl) ?_
                refine g_get (v := .ref (ad 80)) hC hP o_63 co_M 21 (by decide) rfl fl_M_63 rfl d_M_mark_149 ?_
                refine lv_iload_n hx hb d_M_mark_152 rfl (lv_at hl 1 rfl) ?_
                obtain ⟨σ18, hk17, hf⟩ := bv_some hf
                refine g_callv hS (g_runV (As := [.ref (ad 80), .int x1]) (rest := []) hC hP (c_M_hourOf hj a_80 hk17) (rk (by decide) (by decide)) nm_M_hourOf cd_M_hourOf it_WideTownModel ml_M_210 im_M_hourOf sl_M_hourOf o_63 co_M rfl hl.1 rfl (Nat.le_of_ble_eq_true rfl) d_M_mark_153 zz) (fun H locs hP hS => ?_)
                refine lv_aload_n hx hb d_M_mark_156 rfl (lv_at hl 0 rfl) ?_
                refine g_get (v := .ref (ad 80)) hC hP o_63 co_M 21 (by decide) rfl fl_M_63 rfl d_M_mark_157 ?_
                refine lv_bipush (v := (7 : Int32)) hx hb d_M_mark_160 (by decide) ?_
                refine lv_iload_n hx hb d_M_mark_162 rfl (lv_at hl 1 rfl) ?_
                refine lv_iadd hx hb d_M_mark_163 ?_
                obtain ⟨hg19, hf⟩ := gd_some hf
                refine g_iald2 (j := ((7 : Int32) + x1).toNatClampNeg) hC hP a_80 hg19 rfl d_M_mark_164 ?_
                obtain ⟨r21, hk20, hf⟩ := bp_some hf
                refine g_calli hS (g_runS (As := [.int (σ18.1 80 ((7 : Int32) + x1).toNatClampNeg)]) (rest := []) hC hP (c_M_figures hj  hk20) (rk (by decide) (by decide)) nm_M_figures cd_M_figures it_WideTownModel ml_M_162 sc_M_figures rfl hl.1 rfl (Nat.le_of_ble_eq_true rfl) d_M_mark_165 zz) (fun H locs hP hS => ?_)
                cases hf
                exact g_iret hC rfl hP hS d_M_mark_168
            · rw [if_pos hc29] at hf
              refine lv_aload_n hx hb d_M_mark_125 rfl (lv_at hl 0 rfl) ?_
              refine lv_aload_n hx hb d_M_mark_126 rfl (lv_at hl 0 rfl) ?_
              refine g_get (v := .ref (ad 68)) hC hP o_63 co_M 4 (by decide) rfl fl_M_22 rfl d_M_mark_127 ?_
              refine lv_bipush (v := (7 : Int32)) hx hb d_M_mark_130 (by decide) ?_
              refine lv_iload_n hx hb d_M_mark_132 rfl (lv_at hl 1 rfl) ?_
              refine lv_iadd hx hb d_M_mark_133 ?_
              obtain ⟨hg23, hf⟩ := gd_some hf
              refine g_iald2 (j := ((7 : Int32) + x1).toNatClampNeg) hC hP a_68 hg23 rfl d_M_mark_134 ?_
              obtain ⟨r25, σ26, hk24, hf⟩ := bc_some hf
              refine g_calli hS (g_runV (As := [.int (σ9.1 68 ((7 : Int32) + x1).toNatClampNeg)]) (rest := []) hC hP (c_M_endsOf hj  hk24) (rk (by decide) (by decide)) nm_M_endsOf cd_M_endsOf it_WideTownModel ml_M_178 im_M_endsOf sl_M_endsOf o_63 co_M rfl hl.1 rfl (Nat.le_of_ble_eq_true rfl) d_M_mark_135 zz) (fun H locs hP hS => ?_)
              obtain ⟨r28, hk27, hf⟩ := bp_some hf
              refine g_calli hS (g_runS (As := [.int r25]) (rest := []) hC hP (c_M_bits hj  hk27) (rk (by decide) (by decide)) nm_M_bits cd_M_bits it_WideTownModel ml_M_207 sc_M_bits rfl hl.1 rfl (Nat.le_of_ble_eq_true rfl) d_M_mark_138 zz) (fun H locs hP hS => ?_)
              cases hf
              exact g_iret hC rfl hP hS d_M_mark_141
          · rw [if_pos hc39] at hf
            refine lv_iconst (v := (0 : Int32)) hx hb d_M_mark_75 (by decide) ?_
            refine lv_istore_n (lv' := [(3, .int (0 : Int32)), (0, .ref (ad 63)), (1, .int x1), (2, .int x2)]) hx hb d_M_mark_76 rfl hl (by decide) rfl (fun ls hl => ?_)
            obtain ⟨KL30_97, eKL30_97, hf⟩ := jn_some hf
            have hKL30_97 : ∀ (v3_30 : Int32) (σL30 : GS) (H : Heap) (locs : List Loc) (ls : Array Slot), va_P D vwCl (wG K ad σL30) H → va_S (GA ad) s.heap H locs → lv_has ls 5 [(0, .ref (ad 63)), (1, .int x1)] → KL30_97 v3_30 σL30 = some z0 → W p l e (rmd 6) s m args below meth c H locs 0 0 (MQ below (QI D K ad z0.1 z0.2) args s 0 0 (GA ad)) (F0 m 97 ls []) := by
              clear hf
              intro v3_30 σL30 H locs ls hP hS hl hf
              rw [eKL30_97] at hf
              try dsimp only at hf
              refine lv_aload_n hx hb d_M_mark_97 rfl (lv_at hl 0 rfl) ?_
              refine lv_aload_n hx hb d_M_mark_98 rfl (lv_at hl 0 rfl) ?_
              refine g_get (v := .ref (ad 68)) hC hP o_63 co_M 4 (by decide) rfl fl_M_22 rfl d_M_mark_99 ?_
              refine lv_bipush (v := (7 : Int32)) hx hb d_M_mark_102 (by decide) ?_
              refine lv_iload_n hx hb d_M_mark_104 rfl (lv_at hl 1 rfl) ?_
              refine lv_iadd hx hb d_M_mark_105 ?_
              obtain ⟨hg31, hf⟩ := gd_some hf
              refine g_iald2 (j := ((7 : Int32) + x1).toNatClampNeg) hC hP a_68 hg31 rfl d_M_mark_106 ?_
              refine lv_aload_n hx hb d_M_mark_107 rfl (lv_at hl 0 rfl) ?_
              refine g_get (v := .ref (ad 80)) hC hP o_63 co_M 21 (by decide) rfl fl_M_63 rfl d_M_mark_108 ?_
              refine lv_bipush (v := (7 : Int32)) hx hb d_M_mark_111 (by decide) ?_
              refine lv_iload_n hx hb d_M_mark_113 rfl (lv_at hl 1 rfl) ?_
              refine lv_iadd hx hb d_M_mark_114 ?_
              obtain ⟨hg32, hf⟩ := gd_some hf
              refine g_iald2 (j := ((7 : Int32) + x1).toNatClampNeg) hC hP a_80 hg32 rfl d_M_mark_115 ?_
              obtain ⟨r34, σ35, hk33, hf⟩ := bc_some hf
              refine g_calli hS (g_runV (As := [.int (σL30.1 68 ((7 : Int32) + x1).toNatClampNeg), .int (σL30.1 80 ((7 : Int32) + x1).toNatClampNeg)]) (rest := []) hC hP (c_M_farOf hj  hk33) (rk (by decide) (by decide)) nm_M_farOf cd_M_farOf it_WideTownModel ml_M_204 im_M_farOf sl_M_farOf o_63 co_M rfl hl.1 rfl (Nat.le_of_ble_eq_true rfl) d_M_mark_116 zz) (fun H locs hP hS => ?_)
              cases hf
              exact g_iret hC rfl hP hS d_M_mark_119
            clear eKL30_97
            have hL30 : ∀ (n : Nat) (v3_30 : Int32) (σL30 : GS) (H : Heap) (locs : List Loc) (ls : Array Slot), va_P D vwCl (wG K ad σL30) H → va_S (GA ad) s.heap H locs → lv_has ls 5 [(0, .ref (ad 63)), (1, .int x1), (3, .int v3_30)] → F_M_mark_77 x1 KL30_97 n v3_30 σL30 = some z0 → W p l e (rmd 6) s m args below meth c H locs 0 0 (MQ below (QI D K ad z0.1 z0.2) args s 0 0 (GA ad)) (F0 m 77 ls []) := by
              clear hf
              intro n
              induction n with
              | zero =>
                intro v3_30 σL30 H locs ls hP hS hl hf
                rw [F_M_mark_77.eq_1] at hf
                cases hf
              | succ n ih =>
                intro v3_30 σL30 H locs ls hP hS hl hf
                rw [F_M_mark_77.eq_2] at hf
                refine lv_iload_n hx hb d_M_mark_77 rfl (lv_at hl 2 rfl) ?_
                refine lv_iconst (v := (4 : Int32)) hx hb d_M_mark_78 (by decide) ?_
                refine lv_icmp_ge (tgt := 97) hx hb d_M_mark_79 (by decide) (fun hc38 => ?_) (fun hc38 => ?_)
                · rw [if_pos hc38] at hf
                  exact hKL30_97 _ _ _ _ _ hP hS (lv_sub hl [0, 1] rfl) hf
                · rw [if_neg hc38] at hf
                  refine lv_aload_n hx hb d_M_mark_82 rfl (lv_at hl 0 rfl) ?_
                  refine lv_aload_n hx hb d_M_mark_83 rfl (lv_at hl 0 rfl) ?_
                  refine g_get (v := .ref (ad 80)) hC hP o_63 co_M 21 (by decide) rfl fl_M_63 rfl d_M_mark_84 ?_
                  refine lv_iload_n hx hb d_M_mark_87 rfl (lv_at hl 1 rfl) ?_
                  obtain ⟨σ37, hk36, hf⟩ := bv_some hf
                  refine g_callv hS (g_runV (As := [.ref (ad 80), .int x1]) (rest := []) hC hP (c_M_goes hj a_80 hk36) (rk (by decide) (by decide)) nm_M_goes cd_M_goes it_WideTownModel ml_M_188 im_M_goes sl_M_goes o_63 co_M rfl hl.1 rfl (Nat.le_of_ble_eq_true rfl) d_M_mark_88 zz) (fun H locs hP hS => ?_)
                  refine lv_iinc (v := v3_30 + 1) (lv' := [(3, .int (v3_30 + 1)), (0, .ref (ad 63)), (1, .int x1)]) hx hb d_M_mark_91 hl (k := 2) rfl rfl (by decide) rfl (fun ls hl => ?_)
                  refine lv_goto (tgt := 77) hx hb d_M_mark_94 (by decide) ?_
                  exact ih _ _ _ _ _ hP hS (lv_sub hl [1, 2, 0] rfl) hf
            exact hL30 _ _ _ _ _ _ hP hS (lv_sub hl [1, 2, 0] rfl) hf
        · rw [if_pos hc43] at hf
          refine lv_aload_n hx hb d_M_mark_52 rfl (lv_at hl 0 rfl) ?_
          refine g_get (v := .ref (ad 80)) hC hP o_63 co_M 21 (by decide) rfl fl_M_63 rfl d_M_mark_53 ?_
          refine lv_iload_n hx hb d_M_mark_56 rfl (lv_at hl 1 rfl) ?_
          obtain ⟨σ41, hk40, hf⟩ := bv_some hf
          refine g_callv hS (g_runS (As := [.ref (ad 80), .int x1]) (rest := []) hC hP (c_M_turns hj a_80 hk40) (rk (by decide) (by decide)) nm_M_turns cd_M_turns it_WideTownModel ml_M_184 sc_M_turns rfl hl.1 rfl (Nat.le_of_ble_eq_true rfl) d_M_mark_57 zz) (fun H locs hP hS => ?_)
          refine lv_aload_n hx hb d_M_mark_60 rfl (lv_at hl 0 rfl) ?_
          refine g_get (v := .ref (ad 80)) hC hP o_63 co_M 21 (by decide) rfl fl_M_63 rfl d_M_mark_61 ?_
          refine lv_bipush (v := (12 : Int32)) hx hb d_M_mark_64 (by decide) ?_
          refine lv_iload_n hx hb d_M_mark_66 rfl (lv_at hl 1 rfl) ?_
          refine lv_iadd hx hb d_M_mark_67 ?_
          obtain ⟨hg42, hf⟩ := gd_some hf
          refine g_iald2 (j := ((12 : Int32) + x1).toNatClampNeg) hC hP a_80 hg42 rfl d_M_mark_68 ?_
          cases hf
          exact g_iret hC rfl hP hS d_M_mark_69
      · rw [if_pos hc47] at hf
        refine lv_aload_n hx hb d_M_mark_37 rfl (lv_at hl 0 rfl) ?_
        refine lv_iconst (v := (3 : Int32)) hx hb d_M_mark_38 (by decide) ?_
        obtain ⟨r45, σ46, hk44, hf⟩ := bc_some hf
        refine g_calli hS (g_runV (As := [.int (3 : Int32)]) (rest := []) hC hP (c_M_found hj  hk44) (rk (by decide) (by decide)) nm_M_found cd_M_found it_WideTownModel ml_M_110 im_M_found sl_M_found o_63 co_M rfl hl.1 rfl (Nat.le_of_ble_eq_true rfl) d_M_mark_39 zz) (fun H locs hP hS => ?_)
        cases hf
        exact g_iret hC rfl hP hS d_M_mark_42
    · rw [if_pos hc48] at hf
      refine lv_iconst (v := (-1 : Int32)) hx hb d_M_mark_20 (by decide) ?_
      cases hf
      exact g_iret hC rfl hP hS d_M_mark_21
