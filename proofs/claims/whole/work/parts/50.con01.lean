set_option maxHeartbeats 4000000 in
set_option maxRecDepth 100000 in
theorem c_Qu_burn {l : Launch} {D : va_G} {K : Nat → ClassId} {ad : Nat → Nat} (hj : inj ad)   {x1 : Int32} {x2 : Int32} {σ : GS} {z0 : Int32 × GS} (hf : F_Qu_burn x1 x2 σ = some z0) : CT l D K ad y_Qu_burn b_Qu_burn 7 (some .int) 2 [.ref (ad 54), .int x1, .int x2] σ (QI D K ad z0.1 z0.2) := by
  refine CT.intro hj (by decide) (Nat.le_of_ble_eq_true rfl) ?_
  intro p e s m args below meth c ls hC hP hS hl
  obtain ⟨hx, hb, -, hown, hts, -⟩ := id hC
  have hl : lv_has ls 7 [(0, .ref (ad 54)), (1, .int x1), (2, .int x2)] := hl
  rw [F_Qu_burn] at hf
  refine lv_aload_n hx hb d_Qu_burn_0 rfl (lv_at hl 0 rfl) ?_
  refine g_get (v := .ref (ad 59)) hC hP o_54 co_Qu 4 (by decide) rfl fl_Qu_24 rfl d_Qu_burn_1 ?_
  refine lv_iconst (v := (0 : Int32)) hx hb d_Qu_burn_4 (by decide) ?_
  obtain ⟨σ2, hk1, hf⟩ := bv_some hf
  refine g_callv hS (g_runS (As := [.ref (ad 59), .int (0 : Int32)]) (rest := []) hC hP (c_J_fillI hj a_59 hk1) (rk (by decide) (by decide)) nm_J_fillI cd_J_fillI it_java_util_Arrays ml_Qu_43 sc_J_fillI rfl hl.1 rfl (Nat.le_of_ble_eq_true rfl) d_Qu_burn_5 zz) (fun H locs hP hS => ?_)
  refine lv_iconst (v := (0 : Int32)) hx hb d_Qu_burn_8 (by decide) ?_
  refine lv_istore_n (lv' := [(3, .int (0 : Int32)), (0, .ref (ad 54)), (1, .int x1), (2, .int x2)]) hx hb d_Qu_burn_9 rfl hl (by decide) rfl (fun ls hl => ?_)
  obtain ⟨KL3_51, eKL3_51, hf⟩ := jn_some hf
  have hKL3_51 : ∀ (v3_3 : Int32) (σL3 : GS) (H : Heap) (locs : List Loc) (ls : Array Slot), va_P D vwCl (wG K ad σL3) H → va_S (GA ad) s.heap H locs → lv_has ls 7 [(0, .ref (ad 54)), (2, .int x2)] → KL3_51 v3_3 σL3 = some z0 → W p l e (rmd 2) s m args below meth c H locs 0 0 (MQ below (QI D K ad z0.1 z0.2) args s 0 0 (GA ad)) (F0 m 51 ls []) := by
    clear hf
    intro v3_3 σL3 H locs ls hP hS hl hf
    rw [eKL3_51] at hf
    try dsimp only at hf
    refine lv_aload_n hx hb d_Qu_burn_51 rfl (lv_at hl 0 rfl) ?_
    refine lv_iconst (v := (0 : Int32)) hx hb d_Qu_burn_52 (by decide) ?_
    obtain ⟨σ4, eσ4, hf⟩ := jn_some hf
    refine g_puti hC hP hS o_54 co_Qu 7 (by decide) rfl fl_Qu_33 rfl (to_Qu 7 (by decide)) (Nat.le_of_ble_eq_true rfl) rfl d_Qu_burn_53 (fun H locs hP hS => ?_)
    rw [← eσ4] at hP
    refine lv_aload_n hx hb d_Qu_burn_56 rfl (lv_at hl 0 rfl) ?_
    refine lv_iconst (v := (0 : Int32)) hx hb d_Qu_burn_57 (by decide) ?_
    obtain ⟨σ6, hk5, hf⟩ := bv_some hf
    refine g_callv hS (g_runV (As := [.int (0 : Int32)]) (rest := []) hC hP (c_Qu_catchFire hj  hk5) (rk (by decide) (by decide)) nm_Qu_catchFire cd_Qu_catchFire it_WideTown_Quarter ml_Qu_71 im_Qu_catchFire sl_Qu_catchFire o_54 co_Qu rfl hl.1 rfl (Nat.le_of_ble_eq_true rfl) d_Qu_burn_58 zz) (fun H locs hP hS => ?_)
    refine lv_iconst (v := (0 : Int32)) hx hb d_Qu_burn_61 (by decide) ?_
    refine lv_istore_n (lv' := [(3, .int (0 : Int32)), (0, .ref (ad 54)), (2, .int x2)]) hx hb d_Qu_burn_62 rfl hl (by decide) rfl (fun ls hl => ?_)
    refine lv_iconst (v := (0 : Int32)) hx hb d_Qu_burn_63 (by decide) ?_
    refine lv_istore (lv' := [(4, .int (0 : Int32)), (3, .int (0 : Int32)), (0, .ref (ad 54)), (2, .int x2)]) hx hb d_Qu_burn_64 hl (by decide) rfl (fun ls hl => ?_)
    obtain ⟨KL7_114, eKL7_114, hf⟩ := jn_some hf
    have hKL7_114 : ∀ (v3_7 : Int32) (v4_7 : Int32) (σL7 : GS) (H : Heap) (locs : List Loc) (ls : Array Slot), va_P D vwCl (wG K ad σL7) H → va_S (GA ad) s.heap H locs → lv_has ls 7 [(0, .ref (ad 54))] → KL7_114 v3_7 v4_7 σL7 = some z0 → W p l e (rmd 2) s m args below meth c H locs 0 0 (MQ below (QI D K ad z0.1 z0.2) args s 0 0 (GA ad)) (F0 m 114 ls []) := by
      clear hf
      intro v3_7 v4_7 σL7 H locs ls hP hS hl hf
      rw [eKL7_114] at hf
      try dsimp only at hf
      refine lv_aload_n hx hb d_Qu_burn_114 rfl (lv_at hl 0 rfl) ?_
      refine g_get (v := .int (σL7.1 54 7)) hC hP o_54 co_Qu 7 (by decide) rfl fl_Qu_33 rfl d_Qu_burn_115 ?_
      cases hf
      exact g_iret hC rfl hP hS d_Qu_burn_118
    clear eKL7_114
    have hL7 : ∀ (n : Nat) (v3_7 : Int32) (v4_7 : Int32) (σL7 : GS) (H : Heap) (locs : List Loc) (ls : Array Slot), va_P D vwCl (wG K ad σL7) H → va_S (GA ad) s.heap H locs → lv_has ls 7 [(0, .ref (ad 54)), (2, .int x2), (3, .int v3_7), (4, .int v4_7)] → F_Qu_burn_66 x2 KL7_114 n v3_7 v4_7 σL7 = some z0 → W p l e (rmd 2) s m args below meth c H locs 0 0 (MQ below (QI D K ad z0.1 z0.2) args s 0 0 (GA ad)) (F0 m 66 ls []) := by
      clear hf
      intro n
      induction n with
      | zero =>
        intro v3_7 v4_7 σL7 H locs ls hP hS hl hf
        rw [F_Qu_burn_66.eq_1] at hf
        cases hf
      | succ n ih =>
        intro v3_7 v4_7 σL7 H locs ls hP hS hl hf
        rw [F_Qu_burn_66.eq_2] at hf
        refine lv_iload hx hb d_Qu_burn_66 (lv_at hl 3 rfl) ?_
        refine lv_iload_n hx hb d_Qu_burn_68 rfl (lv_at hl 1 rfl) ?_
        refine lv_icmp_ge (tgt := 114) hx hb d_Qu_burn_69 (by decide) (fun hc14 => ?_) (fun hc14 => ?_)
        · rw [if_pos hc14] at hf
          exact hKL7_114 _ _ _ _ _ _ hP hS (lv_sub hl [0] rfl) hf
        · rw [if_neg hc14] at hf
          refine lv_aload_n hx hb d_Qu_burn_72 rfl (lv_at hl 0 rfl) ?_
          refine g_get (v := .int (σL7.1 54 7)) hC hP o_54 co_Qu 7 (by decide) rfl fl_Qu_33 rfl d_Qu_burn_73 ?_
          refine lv_istore (lv' := [(5, .int (σL7.1 54 7)), (0, .ref (ad 54)), (2, .int x2), (3, .int v3_7), (4, .int v4_7)]) hx hb d_Qu_burn_76 hl (by decide) rfl (fun ls hl => ?_)
          refine lv_iload_n hx hb d_Qu_burn_78 rfl (lv_at hl 3 rfl) ?_
          refine lv_istore (lv' := [(6, .int v3_7), (5, .int (σL7.1 54 7)), (0, .ref (ad 54)), (2, .int x2), (3, .int v3_7), (4, .int v4_7)]) hx hb d_Qu_burn_79 hl (by decide) rfl (fun ls hl => ?_)
          obtain ⟨u5_8, eu5_8, hf⟩ := jn_some hf
          have hl : lv_has ls 7 [(6, .int v3_7), (5, .int u5_8), (0, .ref (ad 54)), (2, .int x2), (3, .int v3_7), (4, .int v4_7)] := by rw [eu5_8]; exact hl
          obtain ⟨KL9_105, eKL9_105, hf⟩ := jn_some hf
          have hKL9_105 : ∀ (v6_9 : Int32) (σL9 : GS) (H : Heap) (locs : List Loc) (ls : Array Slot), va_P D vwCl (wG K ad σL9) H → va_S (GA ad) s.heap H locs → lv_has ls 7 [(0, .ref (ad 54)), (2, .int x2), (4, .int v4_7), (5, .int u5_8)] → KL9_105 v6_9 σL9 = some z0 → W p l e (rmd 2) s m args below meth c H locs 0 0 (MQ below (QI D K ad z0.1 z0.2) args s 0 0 (GA ad)) (F0 m 105 ls []) := by
            clear hf
            intro v6_9 σL9 H locs ls hP hS hl hf
            rw [eKL9_105] at hf
            try dsimp only at hf
            refine lv_iload hx hb d_Qu_burn_105 (lv_at hl 3 rfl) ?_
            refine lv_istore_n (lv' := [(3, .int u5_8), (0, .ref (ad 54)), (2, .int x2), (4, .int v4_7), (5, .int u5_8)]) hx hb d_Qu_burn_107 rfl hl (by decide) rfl (fun ls hl => ?_)
            refine lv_iinc (v := v4_7 + 1) (lv' := [(4, .int (v4_7 + 1)), (3, .int u5_8), (0, .ref (ad 54)), (2, .int x2), (5, .int u5_8)]) hx hb d_Qu_burn_108 hl (k := 3) rfl rfl (by decide) rfl (fun ls hl => ?_)
            refine lv_goto (tgt := 66) hx hb d_Qu_burn_111 (by decide) ?_
            exact ih _ _ _ _ _ _ hP hS (lv_sub hl [2, 3, 1, 0] rfl) hf
          clear eKL9_105
          have hL9 : ∀ (n : Nat) (v6_9 : Int32) (σL9 : GS) (H : Heap) (locs : List Loc) (ls : Array Slot), va_P D vwCl (wG K ad σL9) H → va_S (GA ad) s.heap H locs → lv_has ls 7 [(0, .ref (ad 54)), (2, .int x2), (4, .int v4_7), (5, .int u5_8), (6, .int v6_9)] → F_Qu_burn_81 x2 v4_7 u5_8 KL9_105 n v6_9 σL9 = some z0 → W p l e (rmd 2) s m args below meth c H locs 0 0 (MQ below (QI D K ad z0.1 z0.2) args s 0 0 (GA ad)) (F0 m 81 ls []) := by
            clear hf
            intro n
            induction n with
            | zero =>
              intro v6_9 σL9 H locs ls hP hS hl hf
              rw [F_Qu_burn_81.eq_1] at hf
              cases hf
            | succ n ih =>
              intro v6_9 σL9 H locs ls hP hS hl hf
              rw [F_Qu_burn_81.eq_2] at hf
              refine lv_iload hx hb d_Qu_burn_81 (lv_at hl 4 rfl) ?_
              refine lv_iload hx hb d_Qu_burn_83 (lv_at hl 3 rfl) ?_
              refine lv_icmp_ge (tgt := 105) hx hb d_Qu_burn_85 (by decide) (fun hc13 => ?_) (fun hc13 => ?_)
              · rw [if_pos hc13] at hf
                exact hKL9_105 _ _ _ _ _ hP hS (lv_sub hl [0, 1, 2, 3] rfl) hf
              · rw [if_neg hc13] at hf
                refine lv_aload_n hx hb d_Qu_burn_88 rfl (lv_at hl 0 rfl) ?_
                refine lv_aload_n hx hb d_Qu_burn_89 rfl (lv_at hl 0 rfl) ?_
                refine g_get (v := .ref (ad 60)) hC hP o_54 co_Qu 5 (by decide) rfl fl_Qu_27 rfl d_Qu_burn_90 ?_
                refine lv_iload hx hb d_Qu_burn_93 (lv_at hl 4 rfl) ?_
                obtain ⟨hg10, hf⟩ := gd_some hf
                refine g_iald2 (j := v6_9.toNatClampNeg) hC hP a_60 hg10 rfl d_Qu_burn_95 ?_
                obtain ⟨σ12, hk11, hf⟩ := bv_some hf
                refine g_callv hS (g_runV (As := [.int (σL9.1 60 v6_9.toNatClampNeg)]) (rest := []) hC hP (c_Qu_spread hj  hk11) (rk (by decide) (by decide)) nm_Qu_spread cd_Qu_spread it_WideTown_Quarter ml_Qu_74 im_Qu_spread sl_Qu_spread o_54 co_Qu rfl hl.1 rfl (Nat.le_of_ble_eq_true rfl) d_Qu_burn_96 zz) (fun H locs hP hS => ?_)
                refine lv_iinc (v := v6_9 + 1) (lv' := [(6, .int (v6_9 + 1)), (0, .ref (ad 54)), (2, .int x2), (4, .int v4_7), (5, .int u5_8)]) hx hb d_Qu_burn_99 hl (k := 4) rfl rfl (by decide) rfl (fun ls hl => ?_)
                refine lv_goto (tgt := 81) hx hb d_Qu_burn_102 (by decide) ?_
                exact ih _ _ _ _ _ hP hS (lv_sub hl [1, 2, 3, 4, 0] rfl) hf
          exact hL9 _ _ _ _ _ _ hP hS (lv_sub hl [2, 3, 5, 1, 0] rfl) hf
    exact hL7 _ _ _ _ _ _ _ hP hS (lv_sub hl [2, 3, 1, 0] rfl) hf
  clear eKL3_51
  have hL3 : ∀ (n : Nat) (v3_3 : Int32) (σL3 : GS) (H : Heap) (locs : List Loc) (ls : Array Slot), va_P D vwCl (wG K ad σL3) H → va_S (GA ad) s.heap H locs → lv_has ls 7 [(0, .ref (ad 54)), (1, .int x1), (2, .int x2), (3, .int v3_3)] → F_Qu_burn_10 x1 x2 KL3_51 n v3_3 σL3 = some z0 → W p l e (rmd 2) s m args below meth c H locs 0 0 (MQ below (QI D K ad z0.1 z0.2) args s 0 0 (GA ad)) (F0 m 10 ls []) := by
    clear hf
    intro n
    induction n with
    | zero =>
      intro v3_3 σL3 H locs ls hP hS hl hf
      rw [F_Qu_burn_10.eq_1] at hf
      cases hf
    | succ n ih =>
      intro v3_3 σL3 H locs ls hP hS hl hf
      rw [F_Qu_burn_10.eq_2] at hf
      refine lv_iload_n hx hb d_Qu_burn_10 rfl (lv_at hl 3 rfl) ?_
      refine lv_aload_n hx hb d_Qu_burn_11 rfl (lv_at hl 0 rfl) ?_
      refine g_get (v := .int (σL3.1 54 8)) hC hP o_54 co_Qu 8 (by decide) rfl fl_Qu_37 rfl d_Qu_burn_12 ?_
      refine lv_icmp_ge (tgt := 51) hx hb d_Qu_burn_15 (by decide) (fun hc21 => ?_) (fun hc21 => ?_)
      · rw [if_pos hc21] at hf
        exact hKL3_51 _ _ _ _ _ hP hS (lv_sub hl [0, 2] rfl) hf
      · rw [if_neg hc21] at hf
        refine lv_iload_n hx hb d_Qu_burn_18 rfl (lv_at hl 3 rfl) ?_
        refine lv_iload_n hx hb d_Qu_burn_19 rfl (lv_at hl 1 rfl) ?_
        refine lv_icmp_eq (tgt := 45) hx hb d_Qu_burn_20 (by decide) (fun hc20 => ?_) (fun hc20 => ?_)
        · rw [if_pos hc20] at hf
          refine lv_iinc (v := v3_3 + 1) (lv' := [(3, .int (v3_3 + 1)), (0, .ref (ad 54)), (1, .int x1), (2, .int x2)]) hx hb d_Qu_burn_45 hl (k := 3) rfl rfl (by decide) rfl (fun ls hl => ?_)
          refine lv_goto (tgt := 10) hx hb d_Qu_burn_48 (by decide) ?_
          exact ih _ _ _ _ _ hP hS (lv_sub hl [1, 2, 3, 0] rfl) hf
        · rw [if_neg hc20] at hf
          refine lv_aload_n hx hb d_Qu_burn_23 rfl (lv_at hl 0 rfl) ?_
          refine g_get (v := .ref (ad 61)) hC hP o_54 co_Qu 6 (by decide) rfl fl_Qu_30 rfl d_Qu_burn_24 ?_
          refine lv_iload_n hx hb d_Qu_burn_27 rfl (lv_at hl 3 rfl) ?_
          obtain ⟨hg15, hf⟩ := gd_some hf
          refine g_iald2 (j := v3_3.toNatClampNeg) hC hP a_61 hg15 rfl d_Qu_burn_28 ?_
          refine lv_iconst (v := (-1 : Int32)) hx hb d_Qu_burn_29 (by decide) ?_
          refine lv_icmp_eq (tgt := 45) hx hb d_Qu_burn_30 (by decide) (fun hc19 => ?_) (fun hc19 => ?_)
          · rw [if_pos hc19] at hf
            refine lv_iinc (v := v3_3 + 1) (lv' := [(3, .int (v3_3 + 1)), (0, .ref (ad 54)), (1, .int x1), (2, .int x2)]) hx hb d_Qu_burn_45 hl (k := 3) rfl rfl (by decide) rfl (fun ls hl => ?_)
            refine lv_goto (tgt := 10) hx hb d_Qu_burn_48 (by decide) ?_
            exact ih _ _ _ _ _ hP hS (lv_sub hl [1, 2, 3, 0] rfl) hf
          · rw [if_neg hc19] at hf
            refine lv_aload_n hx hb d_Qu_burn_33 rfl (lv_at hl 0 rfl) ?_
            refine g_get (v := .ref (ad 59)) hC hP o_54 co_Qu 4 (by decide) rfl fl_Qu_24 rfl d_Qu_burn_34 ?_
            refine lv_aload_n hx hb d_Qu_burn_37 rfl (lv_at hl 0 rfl) ?_
            refine g_get (v := .ref (ad 61)) hC hP o_54 co_Qu 6 (by decide) rfl fl_Qu_30 rfl d_Qu_burn_38 ?_
            refine lv_iload_n hx hb d_Qu_burn_41 rfl (lv_at hl 3 rfl) ?_
            obtain ⟨hg16, hf⟩ := gd_some hf
            refine g_iald2 (j := v3_3.toNatClampNeg) hC hP a_61 hg16 rfl d_Qu_burn_42 ?_
            refine lv_iconst (v := (1 : Int32)) hx hb d_Qu_burn_43 (by decide) ?_
            obtain ⟨hg17, hf⟩ := gd_some hf
            obtain ⟨σ18, eσ18, hf⟩ := jn_some hf
            refine g_iast2 (j := (σL3.1 61 v3_3.toNatClampNeg).toNatClampNeg) hC hP hS a_59 hg17 rfl d_Qu_burn_44 (fun H locs hP hS => ?_)
            rw [← eσ18] at hP
            refine lv_iinc (v := v3_3 + 1) (lv' := [(3, .int (v3_3 + 1)), (0, .ref (ad 54)), (1, .int x1), (2, .int x2)]) hx hb d_Qu_burn_45 hl (k := 3) rfl rfl (by decide) rfl (fun ls hl => ?_)
            refine lv_goto (tgt := 10) hx hb d_Qu_burn_48 (by decide) ?_
            exact ih _ _ _ _ _ hP hS (lv_sub hl [1, 2, 3, 0] rfl) hf
  exact hL3 _ _ _ _ _ _ hP hS (lv_sub hl [1, 2, 3, 0] rfl) hf
set_option maxHeartbeats 4000000 in
set_option maxRecDepth 100000 in
theorem c_Qu_edgeBurns {l : Launch} {D : va_G} {K : Nat → ClassId} {ad : Nat → Nat} (hj : inj ad)    {σ : GS} {z0 : Int32} (hf : F_Qu_edgeBurns σ = some z0) : CT l D K ad y_Qu_edgeBurns b_Qu_edgeBurns 2 (some .boolean) 0 [.ref (ad 54)] σ (QI D K ad z0 σ) := by
  refine CT.intro hj (by decide) (Nat.le_of_ble_eq_true rfl) ?_
  intro p e s m args below meth c ls hC hP hS hl
  obtain ⟨hx, hb, -, hown, hts, -⟩ := id hC
  have hl : lv_has ls 2 [(0, .ref (ad 54))] := hl
  rw [F_Qu_edgeBurns] at hf
  refine lv_iconst (v := (0 : Int32)) hx hb d_Qu_edgeBurns_0 (by decide) ?_
  refine lv_istore_n (lv' := [(1, .int (0 : Int32)), (0, .ref (ad 54))]) hx hb d_Qu_edgeBurns_1 rfl hl (by decide) rfl (fun ls hl => ?_)
  obtain ⟨KL1_33, eKL1_33, hf⟩ := jn_some hf
  have hKL1_33 : ∀ (v1_1 : Int32) (H : Heap) (locs : List Loc) (ls : Array Slot), va_P D vwCl (wG K ad σ) H → va_S (GA ad) s.heap H locs → lv_has ls 2 [] → KL1_33 v1_1 = some z0 → W p l e (rmd 0) s m args below meth c H locs 0 0 (MQ below (QI D K ad z0 σ) args s 0 0 (GA ad)) (F0 m 33 ls []) := by
    clear hf
    intro v1_1 H locs ls hP hS hl hf
    rw [eKL1_33] at hf
    try dsimp only at hf
    refine lv_iconst (v := (0 : Int32)) hx hb d_Qu_edgeBurns_33 (by decide) ?_
    cases hf
    exact g_zret hC rfl (by decide) hP hS d_Qu_edgeBurns_34
  clear eKL1_33
  have hL1 : ∀ (n : Nat) (v1_1 : Int32) (H : Heap) (locs : List Loc) (ls : Array Slot), va_P D vwCl (wG K ad σ) H → va_S (GA ad) s.heap H locs → lv_has ls 2 [(0, .ref (ad 54)), (1, .int v1_1)] → F_Qu_edgeBurns_2 σ KL1_33 n v1_1 = some z0 → W p l e (rmd 0) s m args below meth c H locs 0 0 (MQ below (QI D K ad z0 σ) args s 0 0 (GA ad)) (F0 m 2 ls []) := by
    clear hf
    intro n
    induction n with
    | zero =>
      intro v1_1 H locs ls hP hS hl hf
      rw [F_Qu_edgeBurns_2.eq_1] at hf
      cases hf
    | succ n ih =>
      intro v1_1 H locs ls hP hS hl hf
      rw [F_Qu_edgeBurns_2.eq_2] at hf
      refine lv_iload_n hx hb d_Qu_edgeBurns_2 rfl (lv_at hl 1 rfl) ?_
      refine lv_aload_n hx hb d_Qu_edgeBurns_3 rfl (lv_at hl 0 rfl) ?_
      refine g_get (v := .int (σ.1 54 7)) hC hP o_54 co_Qu 7 (by decide) rfl fl_Qu_33 rfl d_Qu_edgeBurns_4 ?_
      refine lv_icmp_ge (tgt := 33) hx hb d_Qu_edgeBurns_7 (by decide) (fun hc5 => ?_) (fun hc5 => ?_)
      · rw [if_pos hc5] at hf
        exact hKL1_33 _ _ _ _ hP hS (lv_sub hl [] rfl) hf
      · rw [if_neg hc5] at hf
        refine lv_aload_n hx hb d_Qu_edgeBurns_10 rfl (lv_at hl 0 rfl) ?_
        refine g_get (v := .ref (ad 56)) hC hP o_54 co_Qu 1 (by decide) rfl fl_Qu_15 rfl d_Qu_edgeBurns_11 ?_
        refine lv_aload_n hx hb d_Qu_edgeBurns_14 rfl (lv_at hl 0 rfl) ?_
        refine g_get (v := .ref (ad 60)) hC hP o_54 co_Qu 5 (by decide) rfl fl_Qu_27 rfl d_Qu_edgeBurns_15 ?_
        refine lv_iload_n hx hb d_Qu_edgeBurns_18 rfl (lv_at hl 1 rfl) ?_
        obtain ⟨hg2, hf⟩ := gd_some hf
        refine g_iald2 (j := v1_1.toNatClampNeg) hC hP a_60 hg2 rfl d_Qu_edgeBurns_19 ?_
        obtain ⟨hg3, hf⟩ := gd_some hf
        refine g_iald2 (j := (σ.1 60 v1_1.toNatClampNeg).toNatClampNeg) hC hP a_56 hg3 rfl d_Qu_edgeBurns_20 ?_
        refine lv_iconst (v := (4 : Int32)) hx hb d_Qu_edgeBurns_21 (by decide) ?_
        refine lv_icmp_ne (tgt := 27) hx hb d_Qu_edgeBurns_22 (by decide) (fun hc4 => ?_) (fun hc4 => ?_)
        · rw [if_neg hc4] at hf
          refine lv_iinc (v := v1_1 + 1) (lv' := [(1, .int (v1_1 + 1)), (0, .ref (ad 54))]) hx hb d_Qu_edgeBurns_27 hl (k := 1) rfl rfl (by decide) rfl (fun ls hl => ?_)
          refine lv_goto (tgt := 2) hx hb d_Qu_edgeBurns_30 (by decide) ?_
          exact ih _ _ _ _ hP hS (lv_sub hl [1, 0] rfl) hf
        · rw [if_pos hc4] at hf
          refine lv_iconst (v := (1 : Int32)) hx hb d_Qu_edgeBurns_25 (by decide) ?_
          cases hf
          exact g_zret hC rfl (by decide) hP hS d_Qu_edgeBurns_26
  exact hL1 _ _ _ _ _ hP hS (lv_sub hl [1, 0] rfl) hf
set_option maxHeartbeats 4000000 in
set_option maxRecDepth 100000 in
theorem c_Rd_takeBlank {l : Launch} {D : va_G} {K : Nat → ClassId} {ad : Nat → Nat} (hj : inj ad)    {σ : GS} {z0 : Int32 × GS} (hf : F_Rd_takeBlank σ = some z0) : CT l D K ad y_Rd_takeBlank b_Rd_takeBlank 1 (some .boolean) 0 [.ref (ad 15)] σ (QI D K ad z0.1 z0.2) := by
  refine CT.intro hj (by decide) (Nat.le_of_ble_eq_true rfl) ?_
  intro p e s m args below meth c ls hC hP hS hl
  obtain ⟨hx, hb, -, hown, hts, -⟩ := id hC
  have hl : lv_has ls 1 [(0, .ref (ad 15))] := hl
  rw [F_Rd_takeBlank] at hf
  refine lv_aload_n hx hb d_Rd_takeBlank_0 rfl (lv_at hl 0 rfl) ?_
  refine g_get (v := .int (σ.1 15 4)) hC hP o_15 co_Rd 4 (by decide) rfl fl_Rd_25 rfl d_Rd_takeBlank_1 ?_
  refine lv_if_ne (tgt := 9) hx hb d_Rd_takeBlank_4 (by decide) (fun hc2 => ?_) (fun hc2 => ?_)
  · rw [if_neg hc2] at hf
    refine lv_aload_n hx hb d_Rd_takeBlank_9 rfl (lv_at hl 0 rfl) ?_
    refine lv_iconst (v := (-1 : Int32)) hx hb d_Rd_takeBlank_10 (by decide) ?_
    obtain ⟨σ1, eσ1, hf⟩ := jn_some hf
    refine g_puti hC hP hS o_15 co_Rd 4 (by decide) rfl fl_Rd_25 rfl (to_Rd 4 (by decide)) (Nat.le_of_ble_eq_true rfl) rfl d_Rd_takeBlank_11 (fun H locs hP hS => ?_)
    rw [← eσ1] at hP
    refine lv_iconst (v := (1 : Int32)) hx hb d_Rd_takeBlank_14 (by decide) ?_
    cases hf
    exact g_zret hC rfl (by decide) hP hS d_Rd_takeBlank_15
  · rw [if_pos hc2] at hf
    refine lv_iconst (v := (0 : Int32)) hx hb d_Rd_takeBlank_7 (by decide) ?_
    cases hf
    exact g_zret hC rfl (by decide) hP hS d_Rd_takeBlank_8
set_option maxHeartbeats 4000000 in
set_option maxRecDepth 100000 in
theorem c_Rd_takeFigure {l : Launch} {D : va_G} {K : Nat → ClassId} {ad : Nat → Nat} (hj : inj ad)   {x1 : Int32} {σ : GS} {z0 : Int32 × GS} (hf : F_Rd_takeFigure x1 σ = some z0) : CT l D K ad y_Rd_takeFigure b_Rd_takeFigure 2 (some .boolean) 0 [.ref (ad 15), .int x1] σ (QI D K ad z0.1 z0.2) := by
  refine CT.intro hj (by decide) (Nat.le_of_ble_eq_true rfl) ?_
  intro p e s m args below meth c ls hC hP hS hl
  obtain ⟨hx, hb, -, hown, hts, -⟩ := id hC
  have hl : lv_has ls 2 [(0, .ref (ad 15)), (1, .int x1)] := hl
  rw [F_Rd_takeFigure] at hf
  refine lv_aload_n hx hb d_Rd_takeFigure_0 rfl (lv_at hl 0 rfl) ?_
  refine g_get (v := .int (σ.1 15 4)) hC hP o_15 co_Rd 4 (by decide) rfl fl_Rd_25 rfl d_Rd_takeFigure_1 ?_
  refine lv_iconst (v := (-1 : Int32)) hx hb d_Rd_takeFigure_4 (by decide) ?_
  refine lv_icmp_eq (tgt := 24) hx hb d_Rd_takeFigure_5 (by decide) (fun hc11 => ?_) (fun hc11 => ?_)
  · rw [if_pos hc11] at hf
    refine lv_iconst (v := (0 : Int32)) hx hb d_Rd_takeFigure_24 (by decide) ?_
    cases hf
    exact g_zret hC rfl (by decide) hP hS d_Rd_takeFigure_25
  · rw [if_neg hc11] at hf
    refine lv_aload_n hx hb d_Rd_takeFigure_8 rfl (lv_at hl 0 rfl) ?_
    refine g_get (v := .int (σ.1 15 4)) hC hP o_15 co_Rd 4 (by decide) rfl fl_Rd_25 rfl d_Rd_takeFigure_9 ?_
    refine lv_iconst (v := (4 : Int32)) hx hb d_Rd_takeFigure_12 (by decide) ?_
    refine lv_icmp_gt (tgt := 24) hx hb d_Rd_takeFigure_13 (by decide) (fun hc10 => ?_) (fun hc10 => ?_)
    · rw [if_pos hc10] at hf
      refine lv_iconst (v := (0 : Int32)) hx hb d_Rd_takeFigure_24 (by decide) ?_
      cases hf
      exact g_zret hC rfl (by decide) hP hS d_Rd_takeFigure_25
    · rw [if_neg hc10] at hf
      refine lv_aload_n hx hb d_Rd_takeFigure_16 rfl (lv_at hl 0 rfl) ?_
      refine g_get (v := .int (σ.1 15 3)) hC hP o_15 co_Rd 3 (by decide) rfl fl_Rd_21 rfl d_Rd_takeFigure_17 ?_
      refine lv_iconst (v := (1 : Int32)) hx hb d_Rd_takeFigure_20 (by decide) ?_
      refine lv_icmp_ge (tgt := 26) hx hb d_Rd_takeFigure_21 (by decide) (fun hc9 => ?_) (fun hc9 => ?_)
      · rw [if_pos hc9] at hf
        refine lv_aload_n hx hb d_Rd_takeFigure_26 rfl (lv_at hl 0 rfl) ?_
        refine g_get (v := .int (σ.1 15 4)) hC hP o_15 co_Rd 4 (by decide) rfl fl_Rd_25 rfl d_Rd_takeFigure_27 ?_
        obtain ⟨J1, eJ1, hf⟩ := jn_some hf
        have hJ1 : ∀ (σJ1 : GS) (H : Heap) (locs : List Loc) (ls : Array Slot), va_P D vwCl (wG K ad σJ1) H → va_S (GA ad) s.heap H locs → lv_has ls 2 [(0, .ref (ad 15))] → J1 σJ1 = some z0 → W p l e (rmd 0) s m args below meth c H locs 0 0 (MQ below (QI D K ad z0.1 z0.2) args s 0 0 (GA ad)) (F0 m 77 ls []) := by
          clear hf
          intro σJ1 H locs ls hP hS hl hf
          rw [eJ1] at hf
          try dsimp only at hf
          refine lv_aload_n hx hb d_Rd_takeFigure_77 rfl (lv_at hl 0 rfl) ?_
          refine lv_dup hx hb d_Rd_takeFigure_78 rfl ?_
          refine g_get (v := .int (σJ1.1 15 4)) hC hP o_15 co_Rd 4 (by decide) rfl fl_Rd_25 rfl d_Rd_takeFigure_79 ?_
          refine lv_iconst (v := (1 : Int32)) hx hb d_Rd_takeFigure_82 (by decide) ?_
          refine lv_iadd hx hb d_Rd_takeFigure_83 ?_
          obtain ⟨σ2, eσ2, hf⟩ := jn_some hf
          refine g_puti hC hP hS o_15 co_Rd 4 (by decide) rfl fl_Rd_25 rfl (to_Rd 4 (by decide)) (Nat.le_of_ble_eq_true rfl) rfl d_Rd_takeFigure_84 (fun H locs hP hS => ?_)
          rw [← eσ2] at hP
          refine lv_iconst (v := (1 : Int32)) hx hb d_Rd_takeFigure_87 (by decide) ?_
          cases hf
          exact g_zret hC rfl (by decide) hP hS d_Rd_takeFigure_88
        clear eJ1
        refine lv_if_ne (tgt := 48) hx hb d_Rd_takeFigure_30 (by decide) (fun hc8 => ?_) (fun hc8 => ?_)
        · rw [if_neg hc8] at hf
          refine lv_aload_n hx hb d_Rd_takeFigure_48 rfl (lv_at hl 0 rfl) ?_
          refine g_get (v := .ref (ad 18)) hC hP o_15 co_Rd 2 (by decide) rfl fl_Rd_18 rfl d_Rd_takeFigure_49 ?_
          refine lv_aload_n hx hb d_Rd_takeFigure_52 rfl (lv_at hl 0 rfl) ?_
          refine g_get (v := .int (σ.1 15 3)) hC hP o_15 co_Rd 3 (by decide) rfl fl_Rd_21 rfl d_Rd_takeFigure_53 ?_
          refine lv_iconst (v := (1 : Int32)) hx hb d_Rd_takeFigure_56 (by decide) ?_
          refine lv_isub hx hb d_Rd_takeFigure_57 ?_
          refine lv_aload_n hx hb d_Rd_takeFigure_58 rfl (lv_at hl 0 rfl) ?_
          refine g_get (v := .ref (ad 18)) hC hP o_15 co_Rd 2 (by decide) rfl fl_Rd_18 rfl d_Rd_takeFigure_59 ?_
          refine lv_aload_n hx hb d_Rd_takeFigure_62 rfl (lv_at hl 0 rfl) ?_
          refine g_get (v := .int (σ.1 15 3)) hC hP o_15 co_Rd 3 (by decide) rfl fl_Rd_21 rfl d_Rd_takeFigure_63 ?_
          refine lv_iconst (v := (1 : Int32)) hx hb d_Rd_takeFigure_66 (by decide) ?_
          refine lv_isub hx hb d_Rd_takeFigure_67 ?_
          obtain ⟨hg3, hf⟩ := gd_some hf
          refine g_iald2 (j := ((σ.1 15 3) - (1 : Int32)).toNatClampNeg) hC hP a_18 hg3 rfl d_Rd_takeFigure_68 ?_
          refine lv_bipush (v := (10 : Int32)) hx hb d_Rd_takeFigure_69 (by decide) ?_
          refine lv_imul hx hb d_Rd_takeFigure_71 ?_
          refine lv_iload_n hx hb d_Rd_takeFigure_72 rfl (lv_at hl 1 rfl) ?_
          refine lv_iadd hx hb d_Rd_takeFigure_73 ?_
          refine lv_iconst (v := (1 : Int32)) hx hb d_Rd_takeFigure_74 (by decide) ?_
          refine lv_iadd hx hb d_Rd_takeFigure_75 ?_
          obtain ⟨hg4, hf⟩ := gd_some hf
          obtain ⟨σ5, eσ5, hf⟩ := jn_some hf
          refine g_iast2 (j := ((σ.1 15 3) - (1 : Int32)).toNatClampNeg) hC hP hS a_18 hg4 rfl d_Rd_takeFigure_76 (fun H locs hP hS => ?_)
          rw [← eσ5] at hP
          exact hJ1 _ _ _ _ hP hS (lv_sub hl [0] rfl) hf
        · rw [if_pos hc8] at hf
          refine lv_aload_n hx hb d_Rd_takeFigure_33 rfl (lv_at hl 0 rfl) ?_
          refine g_get (v := .ref (ad 17)) hC hP o_15 co_Rd 1 (by decide) rfl fl_Rd_15 rfl d_Rd_takeFigure_34 ?_
          refine lv_aload_n hx hb d_Rd_takeFigure_37 rfl (lv_at hl 0 rfl) ?_
          refine g_get (v := .int (σ.1 15 3)) hC hP o_15 co_Rd 3 (by decide) rfl fl_Rd_21 rfl d_Rd_takeFigure_38 ?_
          refine lv_iconst (v := (1 : Int32)) hx hb d_Rd_takeFigure_41 (by decide) ?_
          refine lv_isub hx hb d_Rd_takeFigure_42 ?_
          refine lv_iload_n hx hb d_Rd_takeFigure_43 rfl (lv_at hl 1 rfl) ?_
          obtain ⟨hg6, hf⟩ := gd_some hf
          obtain ⟨σ7, eσ7, hf⟩ := jn_some hf
          refine g_iast2 (j := ((σ.1 15 3) - (1 : Int32)).toNatClampNeg) hC hP hS a_17 hg6 rfl d_Rd_takeFigure_44 (fun H locs hP hS => ?_)
          rw [← eσ7] at hP
          refine lv_goto (tgt := 77) hx hb d_Rd_takeFigure_45 (by decide) ?_
          exact hJ1 _ _ _ _ hP hS (lv_sub hl [0] rfl) hf
      · rw [if_neg hc9] at hf
        refine lv_iconst (v := (0 : Int32)) hx hb d_Rd_takeFigure_24 (by decide) ?_
        cases hf
        exact g_zret hC rfl (by decide) hP hS d_Rd_takeFigure_25
set_option maxHeartbeats 4000000 in
set_option maxRecDepth 100000 in
theorem c_Rd_kindOf {l : Launch} {D : va_G} {K : Nat → ClassId} {ad : Nat → Nat} (hj : inj ad)   {x0 : Int32} {σ : GS} {z0 : Int32} (hf : F_Rd_kindOf x0 = some z0) : CT l D K ad y_Rd_kindOf b_Rd_kindOf 1 (some .int) 0 [.int x0] σ (QI D K ad z0 σ) := by
  refine CT.intro hj (by decide) (Nat.le_of_ble_eq_true rfl) ?_
  intro p e s m args below meth c ls hC hP hS hl
  obtain ⟨hx, hb, -, hown, hts, -⟩ := id hC
  have hl : lv_has ls 1 [(0, .int x0)] := hl
  rw [F_Rd_kindOf] at hf
  refine lv_iload_n hx hb d_Rd_kindOf_0 rfl (lv_at hl 0 rfl) ?_
  by_cases h_s0 : x0 = 99
  · rw [if_pos h_s0] at hf
    refine lv_lookup (off := 63) (tgt := 64) hx hb d_Rd_kindOf_1 (by decide) (by rw [h_s0] <;> rfl) (by decide) ?_
    refine lv_iconst (v := (2 : Int32)) hx hb d_Rd_kindOf_64 (by decide) ?_
    cases hf
    exact g_iret hC rfl hP hS d_Rd_kindOf_65
  · rw [if_neg h_s0] at hf
    by_cases h_s1 : x0 = 104
    · rw [if_pos h_s1] at hf
      refine lv_lookup (off := 65) (tgt := 66) hx hb d_Rd_kindOf_1 (by decide) (by rw [lv_osw h_s0 (by decide), h_s1] <;> rfl) (by decide) ?_
      refine lv_iconst (v := (3 : Int32)) hx hb d_Rd_kindOf_66 (by decide) ?_
      cases hf
      exact g_iret hC rfl hP hS d_Rd_kindOf_67
    · rw [if_neg h_s1] at hf
      by_cases h_s2 : x0 = 111
      · rw [if_pos h_s2] at hf
        refine lv_lookup (off := 69) (tgt := 70) hx hb d_Rd_kindOf_1 (by decide) (by rw [lv_osw h_s0 (by decide), lv_osw h_s1 (by decide), h_s2] <;> rfl) (by decide) ?_
        refine lv_iconst (v := (5 : Int32)) hx hb d_Rd_kindOf_70 (by decide) ?_
        cases hf
        exact g_iret hC rfl hP hS d_Rd_kindOf_71
      · rw [if_neg h_s2] at hf
        by_cases h_s3 : x0 = 114
        · rw [if_pos h_s3] at hf
          refine lv_lookup (off := 67) (tgt := 68) hx hb d_Rd_kindOf_1 (by decide) (by rw [lv_osw h_s0 (by decide), lv_osw h_s1 (by decide), lv_osw h_s2 (by decide), h_s3] <;> rfl) (by decide) ?_
          refine lv_iconst (v := (4 : Int32)) hx hb d_Rd_kindOf_68 (by decide) ?_
          cases hf
          exact g_iret hC rfl hP hS d_Rd_kindOf_69
        · rw [if_neg h_s3] at hf
          by_cases h_s4 : x0 = 115
          · rw [if_pos h_s4] at hf
            refine lv_lookup (off := 61) (tgt := 62) hx hb d_Rd_kindOf_1 (by decide) (by rw [lv_osw h_s0 (by decide), lv_osw h_s1 (by decide), lv_osw h_s2 (by decide), lv_osw h_s3 (by decide), h_s4] <;> rfl) (by decide) ?_
            refine lv_iconst (v := (1 : Int32)) hx hb d_Rd_kindOf_62 (by decide) ?_
            cases hf
            exact g_iret hC rfl hP hS d_Rd_kindOf_63
          · rw [if_neg h_s4] at hf
            by_cases h_s5 : x0 = 119
            · rw [if_pos h_s5] at hf
              refine lv_lookup (off := 59) (tgt := 60) hx hb d_Rd_kindOf_1 (by decide) (by rw [lv_osw h_s0 (by decide), lv_osw h_s1 (by decide), lv_osw h_s2 (by decide), lv_osw h_s3 (by decide), lv_osw h_s4 (by decide), h_s5] <;> rfl) (by decide) ?_
              refine lv_iconst (v := (0 : Int32)) hx hb d_Rd_kindOf_60 (by decide) ?_
              cases hf
              exact g_iret hC rfl hP hS d_Rd_kindOf_61
            · rw [if_neg h_s5] at hf
              refine lv_lookup (off := 71) (tgt := 72) hx hb d_Rd_kindOf_1 (by decide) (by rw [lv_osw h_s0 (by decide), lv_osw h_s1 (by decide), lv_osw h_s2 (by decide), lv_osw h_s3 (by decide), lv_osw h_s4 (by decide), lv_osw h_s5 (by decide)] <;> rfl) (by decide) ?_
              refine lv_bipush (v := (-9 : Int32)) hx hb d_Rd_kindOf_72 (by decide) ?_
              cases hf
              exact g_iret hC rfl hP hS d_Rd_kindOf_74
set_option maxHeartbeats 4000000 in
set_option maxRecDepth 100000 in
theorem c_Rd_takeLetter {l : Launch} {D : va_G} {K : Nat → ClassId} {ad : Nat → Nat} (hj : inj ad)   {x1 : Int32} {σ : GS} {z0 : Int32 × GS} (hf : F_Rd_takeLetter x1 σ = some z0) : CT l D K ad y_Rd_takeLetter b_Rd_takeLetter 3 (some .boolean) 1 [.ref (ad 15), .int x1] σ (QI D K ad z0.1 z0.2) := by
  refine CT.intro hj (by decide) (Nat.le_of_ble_eq_true rfl) ?_
  intro p e s m args below meth c ls hC hP hS hl
  obtain ⟨hx, hb, -, hown, hts, -⟩ := id hC
  have hl : lv_has ls 3 [(0, .ref (ad 15)), (1, .int x1)] := hl
  rw [F_Rd_takeLetter] at hf
  refine lv_iload_n hx hb d_Rd_takeLetter_0 rfl (lv_at hl 1 rfl) ?_
  obtain ⟨r2, hk1, hf⟩ := bp_some hf
  refine g_calli hS (g_runS (As := [.int x1]) (rest := []) hC hP (c_Rd_kindOf hj  hk1) (rk (by decide) (by decide)) nm_Rd_kindOf cd_Rd_kindOf it_WideTown_Reader ml_Rd_45 sc_Rd_kindOf rfl hl.1 rfl (Nat.le_of_ble_eq_true rfl) d_Rd_takeLetter_1 zz) (fun H locs hP hS => ?_)
  refine lv_istore_n (lv' := [(2, .int r2), (0, .ref (ad 15)), (1, .int x1)]) hx hb d_Rd_takeLetter_4 rfl hl (by decide) rfl (fun ls hl => ?_)
  refine lv_iload_n hx hb d_Rd_takeLetter_5 rfl (lv_at hl 0 rfl) ?_
  refine lv_bipush (v := (-9 : Int32)) hx hb d_Rd_takeLetter_6 (by decide) ?_
  refine lv_icmp_eq (tgt := 26) hx hb d_Rd_takeLetter_8 (by decide) (fun hc13 => ?_) (fun hc13 => ?_)
  · rw [if_pos hc13] at hf
    refine lv_iconst (v := (0 : Int32)) hx hb d_Rd_takeLetter_26 (by decide) ?_
    cases hf
    exact g_zret hC rfl (by decide) hP hS d_Rd_takeLetter_27
  · rw [if_neg hc13] at hf
    refine lv_aload_n hx hb d_Rd_takeLetter_11 rfl (lv_at hl 1 rfl) ?_
    refine g_get (v := .int (σ.1 15 4)) hC hP o_15 co_Rd 4 (by decide) rfl fl_Rd_25 rfl d_Rd_takeLetter_12 ?_
    refine lv_if_eq (tgt := 26) hx hb d_Rd_takeLetter_15 (by decide) (fun hc12 => ?_) (fun hc12 => ?_)
    · rw [if_pos hc12] at hf
      refine lv_iconst (v := (0 : Int32)) hx hb d_Rd_takeLetter_26 (by decide) ?_
      cases hf
      exact g_zret hC rfl (by decide) hP hS d_Rd_takeLetter_27
    · rw [if_neg hc12] at hf
      refine lv_aload_n hx hb d_Rd_takeLetter_18 rfl (lv_at hl 1 rfl) ?_
      refine g_get (v := .int (σ.1 15 3)) hC hP o_15 co_Rd 3 (by decide) rfl fl_Rd_21 rfl d_Rd_takeLetter_19 ?_
      refine lv_iconst (v := (5 : Int32)) hx hb d_Rd_takeLetter_22 (by decide) ?_
      refine lv_icmp_lt (tgt := 28) hx hb d_Rd_takeLetter_23 (by decide) (fun hc11 => ?_) (fun hc11 => ?_)
      · rw [if_pos hc11] at hf
        refine lv_aload_n hx hb d_Rd_takeLetter_28 rfl (lv_at hl 1 rfl) ?_
        refine g_get (v := .ref (ad 16)) hC hP o_15 co_Rd 0 (by decide) rfl fl_Rd_9 rfl d_Rd_takeLetter_29 ?_
        refine lv_aload_n hx hb d_Rd_takeLetter_32 rfl (lv_at hl 1 rfl) ?_
        refine g_get (v := .int (σ.1 15 3)) hC hP o_15 co_Rd 3 (by decide) rfl fl_Rd_21 rfl d_Rd_takeLetter_33 ?_
        refine lv_iload_n hx hb d_Rd_takeLetter_36 rfl (lv_at hl 0 rfl) ?_
        obtain ⟨hg3, hf⟩ := gd_some hf
        obtain ⟨σ4, eσ4, hf⟩ := jn_some hf
        refine g_iast2 (j := (σ.1 15 3).toNatClampNeg) hC hP hS a_16 hg3 rfl d_Rd_takeLetter_37 (fun H locs hP hS => ?_)
        rw [← eσ4] at hP
        refine lv_aload_n hx hb d_Rd_takeLetter_38 rfl (lv_at hl 1 rfl) ?_
        refine g_get (v := .ref (ad 17)) hC hP o_15 co_Rd 1 (by decide) rfl fl_Rd_15 rfl d_Rd_takeLetter_39 ?_
        refine lv_aload_n hx hb d_Rd_takeLetter_42 rfl (lv_at hl 1 rfl) ?_
        refine g_get (v := .int (σ4.1 15 3)) hC hP o_15 co_Rd 3 (by decide) rfl fl_Rd_21 rfl d_Rd_takeLetter_43 ?_
        refine lv_iconst (v := (0 : Int32)) hx hb d_Rd_takeLetter_46 (by decide) ?_
        obtain ⟨hg5, hf⟩ := gd_some hf
        obtain ⟨σ6, eσ6, hf⟩ := jn_some hf
        refine g_iast2 (j := (σ4.1 15 3).toNatClampNeg) hC hP hS a_17 hg5 rfl d_Rd_takeLetter_47 (fun H locs hP hS => ?_)
        rw [← eσ6] at hP
        refine lv_aload_n hx hb d_Rd_takeLetter_48 rfl (lv_at hl 1 rfl) ?_
        refine g_get (v := .ref (ad 18)) hC hP o_15 co_Rd 2 (by decide) rfl fl_Rd_18 rfl d_Rd_takeLetter_49 ?_
        refine lv_aload_n hx hb d_Rd_takeLetter_52 rfl (lv_at hl 1 rfl) ?_
        refine g_get (v := .int (σ6.1 15 3)) hC hP o_15 co_Rd 3 (by decide) rfl fl_Rd_21 rfl d_Rd_takeLetter_53 ?_
        refine lv_iconst (v := (0 : Int32)) hx hb d_Rd_takeLetter_56 (by decide) ?_
        obtain ⟨hg7, hf⟩ := gd_some hf
        obtain ⟨σ8, eσ8, hf⟩ := jn_some hf
        refine g_iast2 (j := (σ6.1 15 3).toNatClampNeg) hC hP hS a_18 hg7 rfl d_Rd_takeLetter_57 (fun H locs hP hS => ?_)
        rw [← eσ8] at hP
        refine lv_aload_n hx hb d_Rd_takeLetter_58 rfl (lv_at hl 1 rfl) ?_
        refine lv_dup hx hb d_Rd_takeLetter_59 rfl ?_
        refine g_get (v := .int (σ8.1 15 3)) hC hP o_15 co_Rd 3 (by decide) rfl fl_Rd_21 rfl d_Rd_takeLetter_60 ?_
        refine lv_iconst (v := (1 : Int32)) hx hb d_Rd_takeLetter_63 (by decide) ?_
        refine lv_iadd hx hb d_Rd_takeLetter_64 ?_
        obtain ⟨σ9, eσ9, hf⟩ := jn_some hf
        refine g_puti hC hP hS o_15 co_Rd 3 (by decide) rfl fl_Rd_21 rfl (to_Rd 3 (by decide)) (Nat.le_of_ble_eq_true rfl) rfl d_Rd_takeLetter_65 (fun H locs hP hS => ?_)
        rw [← eσ9] at hP
        refine lv_aload_n hx hb d_Rd_takeLetter_68 rfl (lv_at hl 1 rfl) ?_
        refine lv_iconst (v := (0 : Int32)) hx hb d_Rd_takeLetter_69 (by decide) ?_
        obtain ⟨σ10, eσ10, hf⟩ := jn_some hf
        refine g_puti hC hP hS o_15 co_Rd 4 (by decide) rfl fl_Rd_25 rfl (to_Rd 4 (by decide)) (Nat.le_of_ble_eq_true rfl) rfl d_Rd_takeLetter_70 (fun H locs hP hS => ?_)
        rw [← eσ10] at hP
        refine lv_iconst (v := (1 : Int32)) hx hb d_Rd_takeLetter_73 (by decide) ?_
        cases hf
        exact g_zret hC rfl (by decide) hP hS d_Rd_takeLetter_74
      · rw [if_neg hc11] at hf
        refine lv_iconst (v := (0 : Int32)) hx hb d_Rd_takeLetter_26 (by decide) ?_
        cases hf
        exact g_zret hC rfl (by decide) hP hS d_Rd_takeLetter_27
set_option maxHeartbeats 4000000 in
set_option maxRecDepth 100000 in
theorem c_Rd_take {l : Launch} {D : va_G} {K : Nat → ClassId} {ad : Nat → Nat} (hj : inj ad)   {x1 : Int32} {σ : GS} {z0 : Int32 × GS} (hf : F_Rd_take x1 σ = some z0) : CT l D K ad y_Rd_take b_Rd_take 2 (some .boolean) 2 [.ref (ad 15), .int x1] σ (QI D K ad z0.1 z0.2) := by
  refine CT.intro hj (by decide) (Nat.le_of_ble_eq_true rfl) ?_
  intro p e s m args below meth c ls hC hP hS hl
  obtain ⟨hx, hb, -, hown, hts, -⟩ := id hC
  have hl : lv_has ls 2 [(0, .ref (ad 15)), (1, .int x1)] := hl
  rw [F_Rd_take] at hf
  refine lv_iload_n hx hb d_Rd_take_0 rfl (lv_at hl 1 rfl) ?_
  refine lv_bipush (v := (32 : Int32)) hx hb d_Rd_take_1 (by decide) ?_
  refine lv_icmp_ne (tgt := 11) hx hb d_Rd_take_3 (by decide) (fun hc13 => ?_) (fun hc13 => ?_)
  · rw [if_neg hc13] at hf
    refine lv_iload_n hx hb d_Rd_take_11 rfl (lv_at hl 1 rfl) ?_
    refine lv_bipush (v := (48 : Int32)) hx hb d_Rd_take_12 (by decide) ?_
    refine lv_isub hx hb d_Rd_take_14 ?_
    obtain ⟨r2, hk1, hf⟩ := bp_some hf
    refine g_calli hS (g_runSN (As := [.int (x1 - (48 : Int32))]) (rest := []) hC hP (c_X_isStreet hj  hk1) (rk (by decide) (by decide)) nm_X_isStreet cd_X_isStreet it_WideTown nl_Rd_36 sc_X_isStreet rfl hl.1 rfl (Nat.le_of_ble_eq_true rfl) d_Rd_take_15 zz) (fun H locs hP hS => ?_)
    refine lv_if_eq (tgt := 32) hx hb d_Rd_take_18 (by decide) (fun hc9 => ?_) (fun hc9 => ?_)
    · rw [if_pos hc9] at hf
      refine lv_aload_n hx hb d_Rd_take_32 rfl (lv_at hl 0 rfl) ?_
      refine lv_iload_n hx hb d_Rd_take_33 rfl (lv_at hl 1 rfl) ?_
      obtain ⟨r4, σ5, hk3, hf⟩ := bc_some hf
      refine g_calli hS (g_runV (As := [.int x1]) (rest := []) hC hP (c_Rd_takeLetter hj  hk3) (rk (by decide) (by decide)) nm_Rd_takeLetter cd_Rd_takeLetter it_WideTown_Reader ml_Rd_42 im_Rd_takeLetter sl_Rd_takeLetter o_15 co_Rd rfl hl.1 rfl (Nat.le_of_ble_eq_true rfl) d_Rd_take_34 zz) (fun H locs hP hS => ?_)
      obtain ⟨hz, hf⟩ := gd_some hf
      cases hf
      exact g_zret hC rfl hz hP hS d_Rd_take_37
    · rw [if_neg hc9] at hf
      refine lv_aload_n hx hb d_Rd_take_21 rfl (lv_at hl 0 rfl) ?_
      refine lv_iload_n hx hb d_Rd_take_22 rfl (lv_at hl 1 rfl) ?_
      refine lv_bipush (v := (48 : Int32)) hx hb d_Rd_take_23 (by decide) ?_
      refine lv_isub hx hb d_Rd_take_25 ?_
      obtain ⟨r7, σ8, hk6, hf⟩ := bc_some hf
      refine g_calli hS (g_runV (As := [.int (x1 - (48 : Int32))]) (rest := []) hC hP (c_Rd_takeFigure hj  hk6) (rk (by decide) (by decide)) nm_Rd_takeFigure cd_Rd_takeFigure it_WideTown_Reader ml_Rd_39 im_Rd_takeFigure sl_Rd_takeFigure o_15 co_Rd rfl hl.1 rfl (Nat.le_of_ble_eq_true rfl) d_Rd_take_26 zz) (fun H locs hP hS => ?_)
      refine lv_goto (tgt := 37) hx hb d_Rd_take_29 (by decide) ?_
      obtain ⟨hz, hf⟩ := gd_some hf
      cases hf
      exact g_zret hC rfl hz hP hS d_Rd_take_37
  · rw [if_pos hc13] at hf
    refine lv_aload_n hx hb d_Rd_take_6 rfl (lv_at hl 0 rfl) ?_
    obtain ⟨r11, σ12, hk10, hf⟩ := bc_some hf
    refine g_calli hS (g_runV (As := []) (rest := []) hC hP (c_Rd_takeBlank hj  hk10) (rk (by decide) (by decide)) nm_Rd_takeBlank cd_Rd_takeBlank it_WideTown_Reader ml_Rd_32 im_Rd_takeBlank sl_Rd_takeBlank o_15 co_Rd rfl hl.1 rfl (Nat.le_of_ble_eq_true rfl) d_Rd_take_7 zz) (fun H locs hP hS => ?_)
    obtain ⟨hz, hf⟩ := gd_some hf
    cases hf
    exact g_zret hC rfl hz hP hS d_Rd_take_10
set_option maxHeartbeats 4000000 in
set_option maxRecDepth 100000 in
theorem c_Rd_read {l : Launch} {D : va_G} {K : Nat → ClassId} {ad : Nat → Nat} (hj : inj ad) {q1 : Nat} (h_q1 : isA K ad q1 2 80) {x2 : Int32} {σ : GS} {z0 : Int32 × GS} (hf : F_Rd_read q1 x2 σ = some z0) : CT l D K ad y_Rd_read b_Rd_read 4 (some .int) 3 [.ref (ad 15), .ref (ad q1), .int x2] σ (QI D K ad z0.1 z0.2) := by
  refine CT.intro hj (by decide) (Nat.le_of_ble_eq_true rfl) ?_
  intro p e s m args below meth c ls hC hP hS hl
  obtain ⟨hx, hb, -, hown, hts, -⟩ := id hC
  have hl : lv_has ls 4 [(0, .ref (ad 15)), (1, .ref (ad q1)), (2, .int x2)] := hl
  rw [F_Rd_read] at hf
  refine lv_aload_n hx hb d_Rd_read_0 rfl (lv_at hl 0 rfl) ?_
  refine lv_iconst (v := (0 : Int32)) hx hb d_Rd_read_1 (by decide) ?_
  obtain ⟨σ1, eσ1, hf⟩ := jn_some hf
  refine g_puti hC hP hS o_15 co_Rd 3 (by decide) rfl fl_Rd_21 rfl (to_Rd 3 (by decide)) (Nat.le_of_ble_eq_true rfl) rfl d_Rd_read_2 (fun H locs hP hS => ?_)
  rw [← eσ1] at hP
  refine lv_aload_n hx hb d_Rd_read_5 rfl (lv_at hl 0 rfl) ?_
  refine lv_iconst (v := (-1 : Int32)) hx hb d_Rd_read_6 (by decide) ?_
  obtain ⟨σ2, eσ2, hf⟩ := jn_some hf
  refine g_puti hC hP hS o_15 co_Rd 4 (by decide) rfl fl_Rd_25 rfl (to_Rd 4 (by decide)) (Nat.le_of_ble_eq_true rfl) rfl d_Rd_read_7 (fun H locs hP hS => ?_)
  rw [← eσ2] at hP
  refine lv_iconst (v := (0 : Int32)) hx hb d_Rd_read_10 (by decide) ?_
  refine lv_istore_n (lv' := [(3, .int (0 : Int32)), (0, .ref (ad 15)), (1, .ref (ad q1)), (2, .int x2)]) hx hb d_Rd_read_11 rfl hl (by decide) rfl (fun ls hl => ?_)
  obtain ⟨KL3_41, eKL3_41, hf⟩ := jn_some hf
  have hKL3_41 : ∀ (v3_3 : Int32) (σL3 : GS) (H : Heap) (locs : List Loc) (ls : Array Slot), va_P D vwCl (wG K ad σL3) H → va_S (GA ad) s.heap H locs → lv_has ls 4 [(0, .ref (ad 15)), (2, .int x2)] → KL3_41 v3_3 σL3 = some z0 → W p l e (rmd 3) s m args below meth c H locs 0 0 (MQ below (QI D K ad z0.1 z0.2) args s 0 0 (GA ad)) (F0 m 41 ls []) := by
    clear hf
    intro v3_3 σL3 H locs ls hP hS hl hf
    rw [eKL3_41] at hf
    try dsimp only at hf
    refine lv_aload_n hx hb d_Rd_read_41 rfl (lv_at hl 0 rfl) ?_
    refine g_get (v := .int (σL3.1 15 4)) hC hP o_15 co_Rd 4 (by decide) rfl fl_Rd_25 rfl d_Rd_read_42 ?_
    refine lv_if_ne (tgt := 52) hx hb d_Rd_read_45 (by decide) (fun hc4 => ?_) (fun hc4 => ?_)
    · rw [if_neg hc4] at hf
      refine lv_bipush (v := (-9 : Int32)) hx hb d_Rd_read_52 (by decide) ?_
      cases hf
      exact g_iret hC rfl hP hS d_Rd_read_54
    · rw [if_pos hc4] at hf
      refine lv_iload_n hx hb d_Rd_read_48 rfl (lv_at hl 1 rfl) ?_
      refine lv_goto (tgt := 54) hx hb d_Rd_read_49 (by decide) ?_
      cases hf
      exact g_iret hC rfl hP hS d_Rd_read_54
  clear eKL3_41
  have hL3 : ∀ (n : Nat) (v3_3 : Int32) (σL3 : GS) (H : Heap) (locs : List Loc) (ls : Array Slot), va_P D vwCl (wG K ad σL3) H → va_S (GA ad) s.heap H locs → lv_has ls 4 [(0, .ref (ad 15)), (1, .ref (ad q1)), (2, .int x2), (3, .int v3_3)] → F_Rd_read_12 q1 x2 KL3_41 n v3_3 σL3 = some z0 → W p l e (rmd 3) s m args below meth c H locs 0 0 (MQ below (QI D K ad z0.1 z0.2) args s 0 0 (GA ad)) (F0 m 12 ls []) := by
    clear hf
    intro n
    induction n with
    | zero =>
      intro v3_3 σL3 H locs ls hP hS hl hf
      rw [F_Rd_read_12.eq_1] at hf
      cases hf
    | succ n ih =>
      intro v3_3 σL3 H locs ls hP hS hl hf
      rw [F_Rd_read_12.eq_2] at hf
      refine lv_iload_n hx hb d_Rd_read_12 rfl (lv_at hl 3 rfl) ?_
      refine lv_iload_n hx hb d_Rd_read_13 rfl (lv_at hl 2 rfl) ?_
      refine lv_icmp_ge (tgt := 41) hx hb d_Rd_read_14 (by decide) (fun hc11 => ?_) (fun hc11 => ?_)
      · rw [if_pos hc11] at hf
        exact hKL3_41 _ _ _ _ _ hP hS (lv_sub hl [0, 2] rfl) hf
      · rw [if_neg hc11] at hf
        refine lv_iload_n hx hb d_Rd_read_17 rfl (lv_at hl 3 rfl) ?_
        refine lv_aload_n hx hb d_Rd_read_18 rfl (lv_at hl 1 rfl) ?_
        refine g_alen (v := (80 : Int32)) hC hP h_q1 rfl rfl d_Rd_read_19 ?_
        refine lv_icmp_ge (tgt := 41) hx hb d_Rd_read_20 (by decide) (fun hc10 => ?_) (fun hc10 => ?_)
        · rw [if_pos hc10] at hf
          exact hKL3_41 _ _ _ _ _ hP hS (lv_sub hl [0, 2] rfl) hf
        · rw [if_neg hc10] at hf
          refine lv_aload_n hx hb d_Rd_read_23 rfl (lv_at hl 0 rfl) ?_
          refine lv_aload_n hx hb d_Rd_read_24 rfl (lv_at hl 1 rfl) ?_
          refine lv_iload_n hx hb d_Rd_read_25 rfl (lv_at hl 3 rfl) ?_
          obtain ⟨hg5, hf⟩ := gd_some hf
          refine g_bald2 (j := v3_3.toNatClampNeg) hC hP h_q1 hg5 rfl d_Rd_read_26 ?_
          obtain ⟨r7, σ8, hk6, hf⟩ := bc_some hf
          refine g_calli hS (g_runV (As := [.int (σL3.1 q1 v3_3.toNatClampNeg)]) (rest := []) hC hP (c_Rd_take hj  hk6) (rk (by decide) (by decide)) nm_Rd_take cd_Rd_take it_WideTown_Reader ml_Rd_28 im_Rd_take sl_Rd_take o_15 co_Rd rfl hl.1 rfl (Nat.le_of_ble_eq_true rfl) d_Rd_read_27 zz) (fun H locs hP hS => ?_)
          refine lv_if_ne (tgt := 35) hx hb d_Rd_read_30 (by decide) (fun hc9 => ?_) (fun hc9 => ?_)
          · rw [if_neg hc9] at hf
            refine lv_iinc (v := v3_3 + 1) (lv' := [(3, .int (v3_3 + 1)), (0, .ref (ad 15)), (1, .ref (ad q1)), (2, .int x2)]) hx hb d_Rd_read_35 hl (k := 3) rfl rfl (by decide) rfl (fun ls hl => ?_)
            refine lv_goto (tgt := 12) hx hb d_Rd_read_38 (by decide) ?_
            exact ih _ _ _ _ _ hP hS (lv_sub hl [1, 2, 3, 0] rfl) hf
          · rw [if_pos hc9] at hf
            refine lv_iload_n hx hb d_Rd_read_33 rfl (lv_at hl 3 rfl) ?_
            cases hf
            exact g_iret hC rfl hP hS d_Rd_read_34
  exact hL3 _ _ _ _ _ _ hP hS (lv_sub hl [1, 2, 3, 0] rfl) hf
set_option maxHeartbeats 4000000 in
set_option maxRecDepth 100000 in
theorem c_Wd_goBackAlong {l : Launch} {D : va_G} {K : Nat → ClassId} {ad : Nat → Nat} (hj : inj ad) {w : Nat} (h_w : WdOK K ad w) {x1 : Int32} {σ : GS} {z0 : GS} (hf : F_Wd_goBackAlong w x1 σ = some z0) : CT l D K ad y_Wd_goBackAlong b_Wd_goBackAlong 3 none 2 [.ref (ad w), .int x1] σ (QV D K ad z0) := by
  refine CT.intro hj (by decide) (Nat.le_of_ble_eq_true rfl) ?_
  intro p e s m args below meth c ls hC hP hS hl
  obtain ⟨hx, hb, -, hown, hts, -⟩ := id hC
  have hl : lv_has ls 3 [(0, .ref (ad w)), (1, .int x1)] := hl
  rw [F_Wd_goBackAlong] at hf
  refine lv_iload_n hx hb d_Wd_goBackAlong_0 rfl (lv_at hl 1 rfl) ?_
  refine lv_istore_n (lv' := [(2, .int x1), (0, .ref (ad w)), (1, .int x1)]) hx hb d_Wd_goBackAlong_1 rfl hl (by decide) rfl (fun ls hl => ?_)
  obtain ⟨KL1_24, eKL1_24, hf⟩ := jn_some hf
  have hKL1_24 : ∀ (v2_1 : Int32) (σL1 : GS) (H : Heap) (locs : List Loc) (ls : Array Slot), va_P D vwCl (wG K ad σL1) H → va_S (GA ad) s.heap H locs → lv_has ls 3 [] → KL1_24 v2_1 σL1 = some z0 → W p l e (rmd 2) s m args below meth c H locs 0 0 (MQ below (QV D K ad z0) args s 0 0 (GA ad)) (F0 m 24 ls []) := by
    clear hf
    intro v2_1 σL1 H locs ls hP hS hl hf
    rw [eKL1_24] at hf
    try dsimp only at hf
    cases hf
    exact g_vret hC rfl hP hS d_Wd_goBackAlong_24
  clear eKL1_24
  have hL1 : ∀ (n : Nat) (v2_1 : Int32) (σL1 : GS) (H : Heap) (locs : List Loc) (ls : Array Slot), va_P D vwCl (wG K ad σL1) H → va_S (GA ad) s.heap H locs → lv_has ls 3 [(0, .ref (ad w)), (2, .int v2_1)] → F_Wd_goBackAlong_2 w KL1_24 n v2_1 σL1 = some z0 → W p l e (rmd 2) s m args below meth c H locs 0 0 (MQ below (QV D K ad z0) args s 0 0 (GA ad)) (F0 m 2 ls []) := by
    clear hf
    intro n
    induction n with
    | zero =>
      intro v2_1 σL1 H locs ls hP hS hl hf
      rw [F_Wd_goBackAlong_2.eq_1] at hf
      cases hf
    | succ n ih =>
      intro v2_1 σL1 H locs ls hP hS hl hf
      rw [F_Wd_goBackAlong_2.eq_2] at hf
      refine lv_iload_n hx hb d_Wd_goBackAlong_2 rfl (lv_at hl 1 rfl) ?_
      refine lv_if_le (tgt := 24) hx hb d_Wd_goBackAlong_3 (by decide) (fun hc4 => ?_) (fun hc4 => ?_)
      · rw [if_pos hc4] at hf
        exact hKL1_24 _ _ _ _ _ hP hS (lv_sub hl [] rfl) hf
      · rw [if_neg hc4] at hf
        refine lv_aload_n hx hb d_Wd_goBackAlong_6 rfl (lv_at hl 0 rfl) ?_
        refine lv_iload_n hx hb d_Wd_goBackAlong_7 rfl (lv_at hl 1 rfl) ?_
        refine lv_bipush (v := (10 : Int32)) hx hb d_Wd_goBackAlong_8 (by decide) ?_
        refine lv_irem hx hb d_Wd_goBackAlong_10 (by decide) ?_
        refine lv_iconst (v := (1 : Int32)) hx hb d_Wd_goBackAlong_11 (by decide) ?_
        refine lv_isub hx hb d_Wd_goBackAlong_12 ?_
        obtain ⟨σ3, hk2, hf⟩ := bv_some hf
        refine g_callv hS (g_runV (As := [.int ((v2_1 - v2_1 / (10 : Int32) * (10 : Int32)) - (1 : Int32))]) (rest := []) hC hP (c_Wd_go hj h_w hk2) (rk (by decide) (by decide)) nm_Wd_go cd_Wd_go it_WideTown_Word ml_Wd_26 im_Wd_go sl_Wd_go h_w.1 co_Wd rfl hl.1 rfl (Nat.le_of_ble_eq_true rfl) d_Wd_goBackAlong_13 zz) (fun H locs hP hS => ?_)
        refine lv_iload_n hx hb d_Wd_goBackAlong_16 rfl (lv_at hl 1 rfl) ?_
        refine lv_bipush (v := (10 : Int32)) hx hb d_Wd_goBackAlong_17 (by decide) ?_
        refine lv_idiv hx hb d_Wd_goBackAlong_19 (by decide) ?_
        refine lv_istore_n (lv' := [(2, .int (v2_1 / (10 : Int32))), (0, .ref (ad w))]) hx hb d_Wd_goBackAlong_20 rfl hl (by decide) rfl (fun ls hl => ?_)
        refine lv_goto (tgt := 2) hx hb d_Wd_goBackAlong_21 (by decide) ?_
        exact ih _ _ _ _ _ hP hS (lv_sub hl [1, 0] rfl) hf
  exact hL1 _ _ _ _ _ _ hP hS (lv_sub hl [1, 0] rfl) hf
set_option maxHeartbeats 4000000 in
set_option maxRecDepth 100000 in
theorem c_Wd_becomesWay {l : Launch} {D : va_G} {K : Nat → ClassId} {ad : Nat → Nat} (hj : inj ad) {w : Nat} (h_w : WdOK K ad w) {x1 : Int32} {x2 : Int32} {σ : GS} {z0 : GS} (hf : F_Wd_becomesWay w x1 x2 σ = some z0) : CT l D K ad y_Wd_becomesWay b_Wd_becomesWay 3 none 3 [.ref (ad w), .int x1, .int x2] σ (QV D K ad z0) := by
  refine CT.intro hj (by decide) (Nat.le_of_ble_eq_true rfl) ?_
  intro p e s m args below meth c ls hC hP hS hl
  obtain ⟨hx, hb, -, hown, hts, -⟩ := id hC
  have hl : lv_has ls 3 [(0, .ref (ad w)), (1, .int x1), (2, .int x2)] := hl
  rw [F_Wd_becomesWay] at hf
  refine lv_aload_n hx hb d_Wd_becomesWay_0 rfl (lv_at hl 0 rfl) ?_
  refine lv_iconst (v := (0 : Int32)) hx hb d_Wd_becomesWay_1 (by decide) ?_
  obtain ⟨σ1, eσ1, hf⟩ := jn_some hf
  refine g_puti hC hP hS h_w.1 co_Wd 1 (by decide) rfl fl_Wd_15 rfl (to_Wd 1 (by decide)) (Nat.le_of_ble_eq_true rfl) rfl d_Wd_becomesWay_2 (fun H locs hP hS => ?_)
  rw [← eσ1] at hP
  refine lv_aload_n hx hb d_Wd_becomesWay_5 rfl (lv_at hl 0 rfl) ?_
  refine lv_iload_n hx hb d_Wd_becomesWay_6 rfl (lv_at hl 1 rfl) ?_
  obtain ⟨σ3, hk2, hf⟩ := bv_some hf
  refine g_callv hS (g_runV (As := [.int x1]) (rest := []) hC hP (c_Wd_goBackAlong hj h_w hk2) (rk (by decide) (by decide)) nm_Wd_goBackAlong cd_Wd_goBackAlong it_WideTown_Word ml_Wd_23 im_Wd_goBackAlong sl_Wd_goBackAlong h_w.1 co_Wd rfl hl.1 rfl (Nat.le_of_ble_eq_true rfl) d_Wd_becomesWay_7 zz) (fun H locs hP hS => ?_)
  refine lv_aload_n hx hb d_Wd_becomesWay_10 rfl (lv_at hl 0 rfl) ?_
  refine lv_iload_n hx hb d_Wd_becomesWay_11 rfl (lv_at hl 2 rfl) ?_
  obtain ⟨σ5, hk4, hf⟩ := bv_some hf
  refine g_callv hS (g_runV (As := [.int x2]) (rest := []) hC hP (c_Wd_goAlong hj h_w hk4) (rk (by decide) (by decide)) nm_Wd_goAlong cd_Wd_goAlong it_WideTown_Word ml_Wd_19 im_Wd_goAlong sl_Wd_goAlong h_w.1 co_Wd rfl hl.1 rfl (Nat.le_of_ble_eq_true rfl) d_Wd_becomesWay_12 zz) (fun H locs hP hS => ?_)
  cases hf
  exact g_vret hC rfl hP hS d_Wd_becomesWay_15
set_option maxHeartbeats 4000000 in
set_option maxRecDepth 100000 in
theorem c_To_measure {l : Launch} {D : va_G} {K : Nat → ClassId} {ad : Nat → Nat} (hj : inj ad) {q1 : Nat} (h_q1 : isA K ad q1 0 40) {x2 : Int32} {σ : GS} {z0 : GS} (hf : F_To_measure q1 x2 σ = some z0) : CT l D K ad y_To_measure b_To_measure 6 none 4 [.ref (ad 50), .ref (ad q1), .int x2, .ref (ad 32)] σ (QV D K ad z0) := by
  refine CT.intro hj (by decide) (Nat.le_of_ble_eq_true rfl) ?_
  intro p e s m args below meth c ls hC hP hS hl
  obtain ⟨hx, hb, -, hown, hts, -⟩ := id hC
  have hl : lv_has ls 6 [(0, .ref (ad 50)), (1, .ref (ad q1)), (2, .int x2), (3, .ref (ad 32))] := hl
  rw [F_To_measure] at hf
  refine lv_aload_n hx hb d_To_measure_0 rfl (lv_at hl 0 rfl) ?_
  refine lv_iconst (v := (0 : Int32)) hx hb d_To_measure_1 (by decide) ?_
  refine lv_iload_n hx hb d_To_measure_2 rfl (lv_at hl 2 rfl) ?_
  refine lv_aload_n hx hb d_To_measure_3 rfl (lv_at hl 1 rfl) ?_
  refine g_alen (v := (40 : Int32)) hC hP h_q1 rfl rfl d_To_measure_4 ?_
  refine lv_bipush (v := (6 : Int32)) hx hb d_To_measure_5 (by decide) ?_
  refine g_mmin hC hl.1 ml_To_28 sc_Mmin cd_Mmin it_java_lang_Math (Nat.le_of_ble_eq_true rfl) (Nat.le_of_ble_eq_true rfl) zz d_To_measure_7 ?_
  refine g_mmin hC hl.1 ml_To_28 sc_Mmin cd_Mmin it_java_lang_Math (Nat.le_of_ble_eq_true rfl) (Nat.le_of_ble_eq_true rfl) zz d_To_measure_10 ?_
  refine g_mmax hC hl.1 ml_To_34 sc_Mmax cd_Mmax it_java_lang_Math (Nat.le_of_ble_eq_true rfl) (Nat.le_of_ble_eq_true rfl) zz d_To_measure_13 ?_
  obtain ⟨σ1, eσ1, hf⟩ := jn_some hf
  refine g_puti hC hP hS o_50 co_To 3 (by decide) rfl fl_To_21 rfl (to_To 3 (by decide)) (Nat.le_of_ble_eq_true rfl) rfl d_To_measure_16 (fun H locs hP hS => ?_)
  rw [← eσ1] at hP
  refine lv_iconst (v := (0 : Int32)) hx hb d_To_measure_19 (by decide) ?_
  refine lv_istore (lv' := [(4, .int (0 : Int32)), (0, .ref (ad 50)), (1, .ref (ad q1)), (2, .int x2), (3, .ref (ad 32))]) hx hb d_To_measure_20 hl (by decide) rfl (fun ls hl => ?_)
  obtain ⟨KL2_106, eKL2_106, hf⟩ := jn_some hf
  have hKL2_106 : ∀ (v4_2 : Int32) (σL2 : GS) (H : Heap) (locs : List Loc) (ls : Array Slot), va_P D vwCl (wG K ad σL2) H → va_S (GA ad) s.heap H locs → lv_has ls 6 [] → KL2_106 v4_2 σL2 = some z0 → W p l e (rmd 4) s m args below meth c H locs 0 0 (MQ below (QV D K ad z0) args s 0 0 (GA ad)) (F0 m 106 ls []) := by
    clear hf
    intro v4_2 σL2 H locs ls hP hS hl hf
    rw [eKL2_106] at hf
    try dsimp only at hf
    cases hf
    exact g_vret hC rfl hP hS d_To_measure_106
  clear eKL2_106
  have hL2 : ∀ (n : Nat) (v4_2 : Int32) (σL2 : GS) (H : Heap) (locs : List Loc) (ls : Array Slot), va_P D vwCl (wG K ad σL2) H → va_S (GA ad) s.heap H locs → lv_has ls 6 [(0, .ref (ad 50)), (1, .ref (ad q1)), (3, .ref (ad 32)), (4, .int v4_2)] → F_To_measure_22 q1 KL2_106 n v4_2 σL2 = some z0 → W p l e (rmd 4) s m args below meth c H locs 0 0 (MQ below (QV D K ad z0) args s 0 0 (GA ad)) (F0 m 22 ls []) := by
    clear hf
    intro n
    induction n with
    | zero =>
      intro v4_2 σL2 H locs ls hP hS hl hf
      rw [F_To_measure_22.eq_1] at hf
      cases hf
    | succ n ih =>
      intro v4_2 σL2 H locs ls hP hS hl hf
      rw [F_To_measure_22.eq_2] at hf
      refine lv_iload hx hb d_To_measure_22 (lv_at hl 3 rfl) ?_
      refine lv_aload_n hx hb d_To_measure_24 rfl (lv_at hl 0 rfl) ?_
      refine g_get (v := .int (σL2.1 50 3)) hC hP o_50 co_To 3 (by decide) rfl fl_To_21 rfl d_To_measure_25 ?_
      refine lv_icmp_gt (tgt := 106) hx hb d_To_measure_28 (by decide) (fun hc15 => ?_) (fun hc15 => ?_)
      · rw [if_pos hc15] at hf
        exact hKL2_106 _ _ _ _ _ hP hS (lv_sub hl [] rfl) hf
      · rw [if_neg hc15] at hf
        refine lv_iconst (v := (0 : Int32)) hx hb d_To_measure_31 (by decide) ?_
        refine lv_istore (lv' := [(5, .int (0 : Int32)), (0, .ref (ad 50)), (1, .ref (ad q1)), (3, .ref (ad 32)), (4, .int v4_2)]) hx hb d_To_measure_32 hl (by decide) rfl (fun ls hl => ?_)
        obtain ⟨KL3_100, eKL3_100, hf⟩ := jn_some hf
        have hKL3_100 : ∀ (v5_3 : Int32) (σL3 : GS) (H : Heap) (locs : List Loc) (ls : Array Slot), va_P D vwCl (wG K ad σL3) H → va_S (GA ad) s.heap H locs → lv_has ls 6 [(0, .ref (ad 50)), (1, .ref (ad q1)), (3, .ref (ad 32)), (4, .int v4_2)] → KL3_100 v5_3 σL3 = some z0 → W p l e (rmd 4) s m args below meth c H locs 0 0 (MQ below (QV D K ad z0) args s 0 0 (GA ad)) (F0 m 100 ls []) := by
          clear hf
          intro v5_3 σL3 H locs ls hP hS hl hf
          rw [eKL3_100] at hf
          try dsimp only at hf
          refine lv_iinc (v := v4_2 + 1) (lv' := [(4, .int (v4_2 + 1)), (0, .ref (ad 50)), (1, .ref (ad q1)), (3, .ref (ad 32))]) hx hb d_To_measure_100 hl (k := 3) rfl rfl (by decide) rfl (fun ls hl => ?_)
          refine lv_goto (tgt := 22) hx hb d_To_measure_103 (by decide) ?_
          exact ih _ _ _ _ _ hP hS (lv_sub hl [1, 2, 3, 0] rfl) hf
        clear eKL3_100
        have hL3 : ∀ (n : Nat) (v5_3 : Int32) (σL3 : GS) (H : Heap) (locs : List Loc) (ls : Array Slot), va_P D vwCl (wG K ad σL3) H → va_S (GA ad) s.heap H locs → lv_has ls 6 [(0, .ref (ad 50)), (1, .ref (ad q1)), (3, .ref (ad 32)), (4, .int v4_2), (5, .int v5_3)] → F_To_measure_34 q1 v4_2 KL3_100 n v5_3 σL3 = some z0 → W p l e (rmd 4) s m args below meth c H locs 0 0 (MQ below (QV D K ad z0) args s 0 0 (GA ad)) (F0 m 34 ls []) := by
          clear hf
          intro n
          induction n with
          | zero =>
            intro v5_3 σL3 H locs ls hP hS hl hf
            rw [F_To_measure_34.eq_1] at hf
            cases hf
          | succ n ih =>
            intro v5_3 σL3 H locs ls hP hS hl hf
            rw [F_To_measure_34.eq_2] at hf
            refine lv_iload hx hb d_To_measure_34 (lv_at hl 4 rfl) ?_
            refine lv_aload_n hx hb d_To_measure_36 rfl (lv_at hl 0 rfl) ?_
            refine g_get (v := .int (σL3.1 50 3)) hC hP o_50 co_To 3 (by decide) rfl fl_To_21 rfl d_To_measure_37 ?_
            refine lv_icmp_gt (tgt := 100) hx hb d_To_measure_40 (by decide) (fun hc14 => ?_) (fun hc14 => ?_)
            · rw [if_pos hc14] at hf
              exact hKL3_100 _ _ _ _ _ hP hS (lv_sub hl [0, 1, 2, 3] rfl) hf
            · rw [if_neg hc14] at hf
              refine lv_aload_n hx hb d_To_measure_43 rfl (lv_at hl 2 rfl) ?_
              refine lv_iload hx hb d_To_measure_44 (lv_at hl 3 rfl) ?_
              obtain ⟨J4, eJ4, hf⟩ := jn_some hf
              have hJ4 : ∀ (tJ4 : Int32) (H : Heap) (locs : List Loc) (ls : Array Slot), va_P D vwCl (wG K ad σL3) H → va_S (GA ad) s.heap H locs → lv_has ls 6 [(0, .ref (ad 50)), (1, .ref (ad q1)), (3, .ref (ad 32)), (4, .int v4_2), (5, .int v5_3)] → J4 tJ4 = some z0 → W p l e (rmd 4) s m args below meth c H locs 0 0 (MQ below (QV D K ad z0) args s 0 0 (GA ad)) (F0 m 59 ls [.int tJ4, .ref (ad 32)]) := by
                clear hf
                intro tJ4 H locs ls hP hS hl hf
                rw [eJ4] at hf
                try dsimp only at hf
                refine lv_iload hx hb d_To_measure_59 (lv_at hl 4 rfl) ?_
                obtain ⟨J5, eJ5, hf⟩ := jn_some hf
                have hJ5 : ∀ (tJ5 : Int32) (H : Heap) (locs : List Loc) (ls : Array Slot), va_P D vwCl (wG K ad σL3) H → va_S (GA ad) s.heap H locs → lv_has ls 6 [(0, .ref (ad 50)), (1, .ref (ad q1)), (3, .ref (ad 32)), (4, .int v4_2), (5, .int v5_3)] → J5 tJ5 = some z0 → W p l e (rmd 4) s m args below meth c H locs 0 0 (MQ below (QV D K ad z0) args s 0 0 (GA ad)) (F0 m 74 ls [.int tJ5, .int tJ4, .ref (ad 32)]) := by
                  clear hf
                  intro tJ5 H locs ls hP hS hl hf
                  rw [eJ5] at hf
                  try dsimp only at hf
                  obtain ⟨σ7, hk6, hf⟩ := bv_some hf
                  refine g_callv hS (g_runV (As := [.int tJ4, .int tJ5]) (rest := []) hC hP (c_Wd_becomesWay hj ⟨o_32, a_33⟩ hk6) (rk (by decide) (by decide)) nm_Wd_becomesWay cd_Wd_becomesWay it_WideTown_Word ml_To_37 im_Wd_becomesWay sl_Wd_becomesWay o_32 co_Wd rfl hl.1 rfl (Nat.le_of_ble_eq_true rfl) d_To_measure_74 zz) (fun H locs hP hS => ?_)
                  refine lv_aload_n hx hb d_To_measure_77 rfl (lv_at hl 0 rfl) ?_
                  refine g_get (v := .ref (ad 51)) hC hP o_50 co_To 0 (by decide) rfl fl_To_11 rfl d_To_measure_78 ?_
                  refine lv_iload hx hb d_To_measure_81 (lv_at hl 3 rfl) ?_
                  refine lv_bipush (v := (7 : Int32)) hx hb d_To_measure_83 (by decide) ?_
                  refine lv_imul hx hb d_To_measure_85 ?_
                  refine lv_iload hx hb d_To_measure_86 (lv_at hl 4 rfl) ?_
                  refine lv_iadd hx hb d_To_measure_88 ?_
                  refine lv_aload_n hx hb d_To_measure_89 rfl (lv_at hl 2 rfl) ?_
                  refine g_get (v := .int (σ7.1 32 1)) hC hP o_32 co_Wd 1 (by decide) rfl fl_To_43 rfl d_To_measure_90 ?_
                  obtain ⟨hg8, hf⟩ := gd_some hf
                  obtain ⟨σ9, eσ9, hf⟩ := jn_some hf
                  refine g_iast2 (j := ((v4_2 * (7 : Int32)) + v5_3).toNatClampNeg) hC hP hS a_51 hg8 rfl d_To_measure_93 (fun H locs hP hS => ?_)
                  rw [← eσ9] at hP
                  refine lv_iinc (v := v5_3 + 1) (lv' := [(5, .int (v5_3 + 1)), (0, .ref (ad 50)), (1, .ref (ad q1)), (3, .ref (ad 32)), (4, .int v4_2)]) hx hb d_To_measure_94 hl (k := 4) rfl rfl (by decide) rfl (fun ls hl => ?_)
                  refine lv_goto (tgt := 34) hx hb d_To_measure_97 (by decide) ?_
                  exact ih _ _ _ _ _ hP hS (lv_sub hl [1, 2, 3, 4, 0] rfl) hf
                clear eJ5
                refine lv_if_ne (tgt := 68) hx hb d_To_measure_61 (by decide) (fun hc11 => ?_) (fun hc11 => ?_)
                · rw [if_neg hc11] at hf
                  refine lv_aload_n hx hb d_To_measure_68 rfl (lv_at hl 1 rfl) ?_
                  refine lv_iload hx hb d_To_measure_69 (lv_at hl 4 rfl) ?_
                  refine lv_iconst (v := (1 : Int32)) hx hb d_To_measure_71 (by decide) ?_
                  refine lv_isub hx hb d_To_measure_72 ?_
                  obtain ⟨hg10, hf⟩ := gd_some hf
                  refine g_iald2 (j := (v5_3 - (1 : Int32)).toNatClampNeg) hC hP h_q1 hg10 rfl d_To_measure_73 ?_
                  exact hJ5 _ _ _ _ hP hS (lv_sub hl [0, 1, 2, 3, 4] rfl) hf
                · rw [if_pos hc11] at hf
                  refine lv_iconst (v := (0 : Int32)) hx hb d_To_measure_64 (by decide) ?_
                  refine lv_goto (tgt := 74) hx hb d_To_measure_65 (by decide) ?_
                  exact hJ5 _ _ _ _ hP hS (lv_sub hl [0, 1, 2, 3, 4] rfl) hf
              clear eJ4
              refine lv_if_ne (tgt := 53) hx hb d_To_measure_46 (by decide) (fun hc13 => ?_) (fun hc13 => ?_)
              · rw [if_neg hc13] at hf
                refine lv_aload_n hx hb d_To_measure_53 rfl (lv_at hl 1 rfl) ?_
                refine lv_iload hx hb d_To_measure_54 (lv_at hl 3 rfl) ?_
                refine lv_iconst (v := (1 : Int32)) hx hb d_To_measure_56 (by decide) ?_
                refine lv_isub hx hb d_To_measure_57 ?_
                obtain ⟨hg12, hf⟩ := gd_some hf
                refine g_iald2 (j := (v4_2 - (1 : Int32)).toNatClampNeg) hC hP h_q1 hg12 rfl d_To_measure_58 ?_
                exact hJ4 _ _ _ _ hP hS (lv_sub hl [0, 1, 2, 3, 4] rfl) hf
              · rw [if_pos hc13] at hf
                refine lv_iconst (v := (0 : Int32)) hx hb d_To_measure_49 (by decide) ?_
                refine lv_goto (tgt := 59) hx hb d_To_measure_50 (by decide) ?_
                exact hJ4 _ _ _ _ hP hS (lv_sub hl [0, 1, 2, 3, 4] rfl) hf
        exact hL3 _ _ _ _ _ _ hP hS (lv_sub hl [1, 2, 3, 4, 0] rfl) hf
  exact hL2 _ _ _ _ _ _ hP hS (lv_sub hl [1, 2, 4, 0] rfl) hf
set_option maxHeartbeats 4000000 in
set_option maxRecDepth 100000 in
theorem c_To_lengthOfOrder {l : Launch} {D : va_G} {K : Nat → ClassId} {ad : Nat → Nat} (hj : inj ad)    {σ : GS} {z0 : Int32} (hf : F_To_lengthOfOrder σ = some z0) : CT l D K ad y_To_lengthOfOrder b_To_lengthOfOrder 4 (some .int) 0 [.ref (ad 50)] σ (QI D K ad z0 σ) := by
  refine CT.intro hj (by decide) (Nat.le_of_ble_eq_true rfl) ?_
  intro p e s m args below meth c ls hC hP hS hl
  obtain ⟨hx, hb, -, hown, hts, -⟩ := id hC
  have hl : lv_has ls 4 [(0, .ref (ad 50))] := hl
  rw [F_To_lengthOfOrder] at hf
  refine lv_iconst (v := (0 : Int32)) hx hb d_To_lengthOfOrder_0 (by decide) ?_
  refine lv_istore_n (lv' := [(1, .int (0 : Int32)), (0, .ref (ad 50))]) hx hb d_To_lengthOfOrder_1 rfl hl (by decide) rfl (fun ls hl => ?_)
  refine lv_iconst (v := (0 : Int32)) hx hb d_To_lengthOfOrder_2 (by decide) ?_
  refine lv_istore_n (lv' := [(2, .int (0 : Int32)), (1, .int (0 : Int32)), (0, .ref (ad 50))]) hx hb d_To_lengthOfOrder_3 rfl hl (by decide) rfl (fun ls hl => ?_)
  refine lv_iconst (v := (0 : Int32)) hx hb d_To_lengthOfOrder_4 (by decide) ?_
  refine lv_istore_n (lv' := [(3, .int (0 : Int32)), (2, .int (0 : Int32)), (1, .int (0 : Int32)), (0, .ref (ad 50))]) hx hb d_To_lengthOfOrder_5 rfl hl (by decide) rfl (fun ls hl => ?_)
  obtain ⟨KL1_50, eKL1_50, hf⟩ := jn_some hf
  have hKL1_50 : ∀ (v1_1 : Int32) (v2_1 : Int32) (v3_1 : Int32) (H : Heap) (locs : List Loc) (ls : Array Slot), va_P D vwCl (wG K ad σ) H → va_S (GA ad) s.heap H locs → lv_has ls 4 [(0, .ref (ad 50)), (1, .int v1_1), (2, .int v2_1)] → KL1_50 v1_1 v2_1 v3_1 = some z0 → W p l e (rmd 0) s m args below meth c H locs 0 0 (MQ below (QI D K ad z0 σ) args s 0 0 (GA ad)) (F0 m 50 ls []) := by
    clear hf
    intro v1_1 v2_1 v3_1 H locs ls hP hS hl hf
    rw [eKL1_50] at hf
    try dsimp only at hf
    refine lv_iload_n hx hb d_To_lengthOfOrder_50 rfl (lv_at hl 1 rfl) ?_
    refine lv_aload_n hx hb d_To_lengthOfOrder_51 rfl (lv_at hl 0 rfl) ?_
    refine g_get (v := .ref (ad 51)) hC hP o_50 co_To 0 (by decide) rfl fl_To_11 rfl d_To_lengthOfOrder_52 ?_
    refine lv_iload_n hx hb d_To_lengthOfOrder_55 rfl (lv_at hl 2 rfl) ?_
    refine lv_bipush (v := (7 : Int32)) hx hb d_To_lengthOfOrder_56 (by decide) ?_
    refine lv_imul hx hb d_To_lengthOfOrder_58 ?_
    obtain ⟨hg2, hf⟩ := gd_some hf
    refine g_iald2 (j := (v2_1 * (7 : Int32)).toNatClampNeg) hC hP a_51 hg2 rfl d_To_lengthOfOrder_59 ?_
    refine lv_iadd hx hb d_To_lengthOfOrder_60 ?_
    cases hf
    exact g_iret hC rfl hP hS d_To_lengthOfOrder_61
  clear eKL1_50
  have hL1 : ∀ (n : Nat) (v1_1 : Int32) (v2_1 : Int32) (v3_1 : Int32) (H : Heap) (locs : List Loc) (ls : Array Slot), va_P D vwCl (wG K ad σ) H → va_S (GA ad) s.heap H locs → lv_has ls 4 [(0, .ref (ad 50)), (1, .int v1_1), (2, .int v2_1), (3, .int v3_1)] → F_To_lengthOfOrder_6 σ KL1_50 n v1_1 v2_1 v3_1 = some z0 → W p l e (rmd 0) s m args below meth c H locs 0 0 (MQ below (QI D K ad z0 σ) args s 0 0 (GA ad)) (F0 m 6 ls []) := by
    clear hf
    intro n
    induction n with
    | zero =>
      intro v1_1 v2_1 v3_1 H locs ls hP hS hl hf
      rw [F_To_lengthOfOrder_6.eq_1] at hf
      cases hf
    | succ n ih =>
      intro v1_1 v2_1 v3_1 H locs ls hP hS hl hf
      rw [F_To_lengthOfOrder_6.eq_2] at hf
      refine lv_iload_n hx hb d_To_lengthOfOrder_6 rfl (lv_at hl 3 rfl) ?_
      refine lv_aload_n hx hb d_To_lengthOfOrder_7 rfl (lv_at hl 0 rfl) ?_
      refine g_get (v := .int (σ.1 50 3)) hC hP o_50 co_To 3 (by decide) rfl fl_To_21 rfl d_To_lengthOfOrder_8 ?_
      refine lv_icmp_ge (tgt := 50) hx hb d_To_lengthOfOrder_11 (by decide) (fun hc6 => ?_) (fun hc6 => ?_)
      · rw [if_pos hc6] at hf
        exact hKL1_50 _ _ _ _ _ _ hP hS (lv_sub hl [0, 1, 2] rfl) hf
      · rw [if_neg hc6] at hf
        refine lv_iload_n hx hb d_To_lengthOfOrder_14 rfl (lv_at hl 1 rfl) ?_
        refine lv_aload_n hx hb d_To_lengthOfOrder_15 rfl (lv_at hl 0 rfl) ?_
        refine g_get (v := .ref (ad 51)) hC hP o_50 co_To 0 (by decide) rfl fl_To_11 rfl d_To_lengthOfOrder_16 ?_
        refine lv_iload_n hx hb d_To_lengthOfOrder_19 rfl (lv_at hl 2 rfl) ?_
        refine lv_bipush (v := (7 : Int32)) hx hb d_To_lengthOfOrder_20 (by decide) ?_
        refine lv_imul hx hb d_To_lengthOfOrder_22 ?_
        refine lv_aload_n hx hb d_To_lengthOfOrder_23 rfl (lv_at hl 0 rfl) ?_
        refine g_get (v := .ref (ad 52)) hC hP o_50 co_To 1 (by decide) rfl fl_To_15 rfl d_To_lengthOfOrder_24 ?_
        refine lv_iload_n hx hb d_To_lengthOfOrder_27 rfl (lv_at hl 3 rfl) ?_
        obtain ⟨hg3, hf⟩ := gd_some hf
        refine g_iald2 (j := v3_1.toNatClampNeg) hC hP a_52 hg3 rfl d_To_lengthOfOrder_28 ?_
        refine lv_iadd hx hb d_To_lengthOfOrder_29 ?_
        refine lv_iconst (v := (1 : Int32)) hx hb d_To_lengthOfOrder_30 (by decide) ?_
        refine lv_iadd hx hb d_To_lengthOfOrder_31 ?_
        obtain ⟨hg4, hf⟩ := gd_some hf
        refine g_iald2 (j := (((v2_1 * (7 : Int32)) + (σ.1 52 v3_1.toNatClampNeg)) + (1 : Int32)).toNatClampNeg) hC hP a_51 hg4 rfl d_To_lengthOfOrder_32 ?_
        refine lv_iadd hx hb d_To_lengthOfOrder_33 ?_
        refine lv_istore_n (lv' := [(1, .int (v1_1 + (σ.1 51 (((v2_1 * (7 : Int32)) + (σ.1 52 v3_1.toNatClampNeg)) + (1 : Int32)).toNatClampNeg))), (0, .ref (ad 50)), (2, .int v2_1), (3, .int v3_1)]) hx hb d_To_lengthOfOrder_34 rfl hl (by decide) rfl (fun ls hl => ?_)
        refine lv_aload_n hx hb d_To_lengthOfOrder_35 rfl (lv_at hl 1 rfl) ?_
        refine g_get (v := .ref (ad 52)) hC hP o_50 co_To 1 (by decide) rfl fl_To_15 rfl d_To_lengthOfOrder_36 ?_
        refine lv_iload_n hx hb d_To_lengthOfOrder_39 rfl (lv_at hl 3 rfl) ?_
        obtain ⟨hg5, hf⟩ := gd_some hf
        refine g_iald2 (j := v3_1.toNatClampNeg) hC hP a_52 hg5 rfl d_To_lengthOfOrder_40 ?_
        refine lv_iconst (v := (1 : Int32)) hx hb d_To_lengthOfOrder_41 (by decide) ?_
        refine lv_iadd hx hb d_To_lengthOfOrder_42 ?_
        refine lv_istore_n (lv' := [(2, .int ((σ.1 52 v3_1.toNatClampNeg) + (1 : Int32))), (1, .int (v1_1 + (σ.1 51 (((v2_1 * (7 : Int32)) + (σ.1 52 v3_1.toNatClampNeg)) + (1 : Int32)).toNatClampNeg))), (0, .ref (ad 50)), (3, .int v3_1)]) hx hb d_To_lengthOfOrder_43 rfl hl (by decide) rfl (fun ls hl => ?_)
        refine lv_iinc (v := v3_1 + 1) (lv' := [(3, .int (v3_1 + 1)), (2, .int ((σ.1 52 v3_1.toNatClampNeg) + (1 : Int32))), (1, .int (v1_1 + (σ.1 51 (((v2_1 * (7 : Int32)) + (σ.1 52 v3_1.toNatClampNeg)) + (1 : Int32)).toNatClampNeg))), (0, .ref (ad 50))]) hx hb d_To_lengthOfOrder_44 hl (k := 3) rfl rfl (by decide) rfl (fun ls hl => ?_)
        refine lv_goto (tgt := 6) hx hb d_To_lengthOfOrder_47 (by decide) ?_
        exact ih _ _ _ _ _ _ hP hS (lv_sub hl [3, 2, 1, 0] rfl) hf
  exact hL1 _ _ _ _ _ _ _ hP hS (lv_sub hl [3, 2, 1, 0] rfl) hf
set_option maxHeartbeats 4000000 in
set_option maxRecDepth 100000 in
theorem c_To_exchange {l : Launch} {D : va_G} {K : Nat → ClassId} {ad : Nat → Nat} (hj : inj ad)   {x1 : Int32} {x2 : Int32} {σ : GS} {z0 : GS} (hf : F_To_exchange x1 x2 σ = some z0) : CT l D K ad y_To_exchange b_To_exchange 4 none 0 [.ref (ad 50), .int x1, .int x2] σ (QV D K ad z0) := by
  refine CT.intro hj (by decide) (Nat.le_of_ble_eq_true rfl) ?_
  intro p e s m args below meth c ls hC hP hS hl
  obtain ⟨hx, hb, -, hown, hts, -⟩ := id hC
  have hl : lv_has ls 4 [(0, .ref (ad 50)), (1, .int x1), (2, .int x2)] := hl
  rw [F_To_exchange] at hf
  refine lv_aload_n hx hb d_To_exchange_0 rfl (lv_at hl 0 rfl) ?_
  refine g_get (v := .ref (ad 52)) hC hP o_50 co_To 1 (by decide) rfl fl_To_15 rfl d_To_exchange_1 ?_
  refine lv_iload_n hx hb d_To_exchange_4 rfl (lv_at hl 1 rfl) ?_
  obtain ⟨hg1, hf⟩ := gd_some hf
  refine g_iald2 (j := x1.toNatClampNeg) hC hP a_52 hg1 rfl d_To_exchange_5 ?_
  refine lv_istore_n (lv' := [(3, .int (σ.1 52 x1.toNatClampNeg)), (0, .ref (ad 50)), (1, .int x1), (2, .int x2)]) hx hb d_To_exchange_6 rfl hl (by decide) rfl (fun ls hl => ?_)
  refine lv_aload_n hx hb d_To_exchange_7 rfl (lv_at hl 1 rfl) ?_
  refine g_get (v := .ref (ad 52)) hC hP o_50 co_To 1 (by decide) rfl fl_To_15 rfl d_To_exchange_8 ?_
  refine lv_iload_n hx hb d_To_exchange_11 rfl (lv_at hl 2 rfl) ?_
  refine lv_aload_n hx hb d_To_exchange_12 rfl (lv_at hl 1 rfl) ?_
  refine g_get (v := .ref (ad 52)) hC hP o_50 co_To 1 (by decide) rfl fl_To_15 rfl d_To_exchange_13 ?_
  refine lv_iload_n hx hb d_To_exchange_16 rfl (lv_at hl 3 rfl) ?_
  obtain ⟨hg2, hf⟩ := gd_some hf
  refine g_iald2 (j := x2.toNatClampNeg) hC hP a_52 hg2 rfl d_To_exchange_17 ?_
  obtain ⟨hg3, hf⟩ := gd_some hf
  obtain ⟨σ4, eσ4, hf⟩ := jn_some hf
  refine g_iast2 (j := x1.toNatClampNeg) hC hP hS a_52 hg3 rfl d_To_exchange_18 (fun H locs hP hS => ?_)
  rw [← eσ4] at hP
  refine lv_aload_n hx hb d_To_exchange_19 rfl (lv_at hl 1 rfl) ?_
  refine g_get (v := .ref (ad 52)) hC hP o_50 co_To 1 (by decide) rfl fl_To_15 rfl d_To_exchange_20 ?_
  refine lv_iload_n hx hb d_To_exchange_23 rfl (lv_at hl 3 rfl) ?_
  refine lv_iload_n hx hb d_To_exchange_24 rfl (lv_at hl 0 rfl) ?_
  obtain ⟨hg5, hf⟩ := gd_some hf
  obtain ⟨σ6, eσ6, hf⟩ := jn_some hf
  refine g_iast2 (j := x2.toNatClampNeg) hC hP hS a_52 hg5 rfl d_To_exchange_25 (fun H locs hP hS => ?_)
  rw [← eσ6] at hP
  cases hf
  exact g_vret hC rfl hP hS d_To_exchange_26
set_option maxHeartbeats 4000000 in
set_option maxRecDepth 100000 in
theorem c_To_stepOrder {l : Launch} {D : va_G} {K : Nat → ClassId} {ad : Nat → Nat} (hj : inj ad)    {σ : GS} {z0 : Int32 × GS} (hf : F_To_stepOrder σ = some z0) : CT l D K ad y_To_stepOrder b_To_stepOrder 5 (some .boolean) 1 [.ref (ad 50)] σ (QI D K ad z0.1 z0.2) := by
  refine CT.intro hj (by decide) (Nat.le_of_ble_eq_true rfl) ?_
  intro p e s m args below meth c ls hC hP hS hl
  obtain ⟨hx, hb, -, hown, hts, -⟩ := id hC
  have hl : lv_has ls 5 [(0, .ref (ad 50))] := hl
  rw [F_To_stepOrder] at hf
  refine lv_aload_n hx hb d_To_stepOrder_0 rfl (lv_at hl 0 rfl) ?_
  refine g_get (v := .int (σ.1 50 3)) hC hP o_50 co_To 3 (by decide) rfl fl_To_21 rfl d_To_stepOrder_1 ?_
  refine lv_iconst (v := (2 : Int32)) hx hb d_To_stepOrder_4 (by decide) ?_
  refine lv_isub hx hb d_To_stepOrder_5 ?_
  refine lv_istore_n (lv' := [(1, .int ((σ.1 50 3) - (2 : Int32))), (0, .ref (ad 50))]) hx hb d_To_stepOrder_6 rfl hl (by decide) rfl (fun ls hl => ?_)
  obtain ⟨KL1_34, eKL1_34, hf⟩ := jn_some hf
  have hKL1_34 : ∀ (v1_1 : Int32) (H : Heap) (locs : List Loc) (ls : Array Slot), va_P D vwCl (wG K ad σ) H → va_S (GA ad) s.heap H locs → lv_has ls 5 [(0, .ref (ad 50)), (1, .int v1_1)] → KL1_34 v1_1 = some z0 → W p l e (rmd 1) s m args below meth c H locs 0 0 (MQ below (QI D K ad z0.1 z0.2) args s 0 0 (GA ad)) (F0 m 34 ls []) := by
    clear hf
    intro v1_1 H locs ls hP hS hl hf
    rw [eKL1_34] at hf
    try dsimp only at hf
    refine lv_iload_n hx hb d_To_stepOrder_34 rfl (lv_at hl 1 rfl) ?_
    refine lv_if_ge (tgt := 40) hx hb d_To_stepOrder_35 (by decide) (fun hc13 => ?_) (fun hc13 => ?_)
    · rw [if_pos hc13] at hf
      refine lv_aload_n hx hb d_To_stepOrder_40 rfl (lv_at hl 0 rfl) ?_
      refine g_get (v := .int (σ.1 50 3)) hC hP o_50 co_To 3 (by decide) rfl fl_To_21 rfl d_To_stepOrder_41 ?_
      refine lv_iconst (v := (1 : Int32)) hx hb d_To_stepOrder_44 (by decide) ?_
      refine lv_isub hx hb d_To_stepOrder_45 ?_
      refine lv_istore_n (lv' := [(2, .int ((σ.1 50 3) - (1 : Int32))), (0, .ref (ad 50)), (1, .int v1_1)]) hx hb d_To_stepOrder_46 rfl hl (by decide) rfl (fun ls hl => ?_)
      obtain ⟨KL2_73, eKL2_73, hf⟩ := jn_some hf
      have hKL2_73 : ∀ (v2_2 : Int32) (H : Heap) (locs : List Loc) (ls : Array Slot), va_P D vwCl (wG K ad σ) H → va_S (GA ad) s.heap H locs → lv_has ls 5 [(0, .ref (ad 50)), (1, .int v1_1), (2, .int v2_2)] → KL2_73 v2_2 = some z0 → W p l e (rmd 1) s m args below meth c H locs 0 0 (MQ below (QI D K ad z0.1 z0.2) args s 0 0 (GA ad)) (F0 m 73 ls []) := by
        clear hf
        intro v2_2 H locs ls hP hS hl hf
        rw [eKL2_73] at hf
        try dsimp only at hf
        refine lv_aload_n hx hb d_To_stepOrder_73 rfl (lv_at hl 0 rfl) ?_
        refine lv_iload_n hx hb d_To_stepOrder_74 rfl (lv_at hl 1 rfl) ?_
        refine lv_iload_n hx hb d_To_stepOrder_75 rfl (lv_at hl 2 rfl) ?_
        obtain ⟨σ4, hk3, hf⟩ := bv_some hf
        refine g_callv hS (g_runV (As := [.int v1_1, .int v2_2]) (rest := []) hC hP (c_To_exchange hj  hk3) (rk (by decide) (by decide)) nm_To_exchange cd_To_exchange it_WideTown_Tour ml_To_59 im_To_exchange sl_To_exchange o_50 co_To rfl hl.1 rfl (Nat.le_of_ble_eq_true rfl) d_To_stepOrder_76 zz) (fun H locs hP hS => ?_)
        refine lv_iload_n hx hb d_To_stepOrder_79 rfl (lv_at hl 1 rfl) ?_
        refine lv_iconst (v := (1 : Int32)) hx hb d_To_stepOrder_80 (by decide) ?_
        refine lv_iadd hx hb d_To_stepOrder_81 ?_
        refine lv_istore_n (lv' := [(3, .int (v1_1 + (1 : Int32))), (0, .ref (ad 50)), (1, .int v1_1), (2, .int v2_2)]) hx hb d_To_stepOrder_82 rfl hl (by decide) rfl (fun ls hl => ?_)
        refine lv_aload_n hx hb d_To_stepOrder_83 rfl (lv_at hl 1 rfl) ?_
        refine g_get (v := .int (σ4.1 50 3)) hC hP o_50 co_To 3 (by decide) rfl fl_To_21 rfl d_To_stepOrder_84 ?_
        refine lv_iconst (v := (1 : Int32)) hx hb d_To_stepOrder_87 (by decide) ?_
        refine lv_isub hx hb d_To_stepOrder_88 ?_
        refine lv_istore (lv' := [(4, .int ((σ4.1 50 3) - (1 : Int32))), (3, .int (v1_1 + (1 : Int32))), (0, .ref (ad 50)), (1, .int v1_1), (2, .int v2_2)]) hx hb d_To_stepOrder_89 hl (by decide) rfl (fun ls hl => ?_)
        obtain ⟨KL5_113, eKL5_113, hf⟩ := jn_some hf
        have hKL5_113 : ∀ (v3_5 : Int32) (v4_5 : Int32) (σL5 : GS) (H : Heap) (locs : List Loc) (ls : Array Slot), va_P D vwCl (wG K ad σL5) H → va_S (GA ad) s.heap H locs → lv_has ls 5 [] → KL5_113 v3_5 v4_5 σL5 = some z0 → W p l e (rmd 1) s m args below meth c H locs 0 0 (MQ below (QI D K ad z0.1 z0.2) args s 0 0 (GA ad)) (F0 m 113 ls []) := by
          clear hf
          intro v3_5 v4_5 σL5 H locs ls hP hS hl hf
          rw [eKL5_113] at hf
          try dsimp only at hf
          refine lv_iconst (v := (1 : Int32)) hx hb d_To_stepOrder_113 (by decide) ?_
          cases hf
          exact g_zret hC rfl (by decide) hP hS d_To_stepOrder_114
        clear eKL5_113
        have hL5 : ∀ (n : Nat) (v3_5 : Int32) (v4_5 : Int32) (σL5 : GS) (H : Heap) (locs : List Loc) (ls : Array Slot), va_P D vwCl (wG K ad σL5) H → va_S (GA ad) s.heap H locs → lv_has ls 5 [(0, .ref (ad 50)), (3, .int v3_5), (4, .int v4_5)] → F_To_stepOrder_91 KL5_113 n v3_5 v4_5 σL5 = some z0 → W p l e (rmd 1) s m args below meth c H locs 0 0 (MQ below (QI D K ad z0.1 z0.2) args s 0 0 (GA ad)) (F0 m 91 ls []) := by
          clear hf
          intro n
          induction n with
          | zero =>
            intro v3_5 v4_5 σL5 H locs ls hP hS hl hf
            rw [F_To_stepOrder_91.eq_1] at hf
            cases hf
          | succ n ih =>
            intro v3_5 v4_5 σL5 H locs ls hP hS hl hf
            rw [F_To_stepOrder_91.eq_2] at hf
            refine lv_iload_n hx hb d_To_stepOrder_91 rfl (lv_at hl 1 rfl) ?_
            refine lv_iload hx hb d_To_stepOrder_92 (lv_at hl 2 rfl) ?_
            refine lv_icmp_ge (tgt := 113) hx hb d_To_stepOrder_94 (by decide) (fun hc8 => ?_) (fun hc8 => ?_)
            · rw [if_pos hc8] at hf
              exact hKL5_113 _ _ _ _ _ _ hP hS (lv_sub hl [] rfl) hf
            · rw [if_neg hc8] at hf
              refine lv_aload_n hx hb d_To_stepOrder_97 rfl (lv_at hl 0 rfl) ?_
              refine lv_iload_n hx hb d_To_stepOrder_98 rfl (lv_at hl 1 rfl) ?_
              refine lv_iload hx hb d_To_stepOrder_99 (lv_at hl 2 rfl) ?_
              obtain ⟨σ7, hk6, hf⟩ := bv_some hf
              refine g_callv hS (g_runV (As := [.int v3_5, .int v4_5]) (rest := []) hC hP (c_To_exchange hj  hk6) (rk (by decide) (by decide)) nm_To_exchange cd_To_exchange it_WideTown_Tour ml_To_59 im_To_exchange sl_To_exchange o_50 co_To rfl hl.1 rfl (Nat.le_of_ble_eq_true rfl) d_To_stepOrder_101 zz) (fun H locs hP hS => ?_)
              refine lv_iinc (v := v3_5 + 1) (lv' := [(3, .int (v3_5 + 1)), (0, .ref (ad 50)), (4, .int v4_5)]) hx hb d_To_stepOrder_104 hl (k := 1) rfl rfl (by decide) rfl (fun ls hl => ?_)
              refine lv_iinc (v := v4_5 + (-1)) (lv' := [(4, .int (v4_5 + (-1))), (3, .int (v3_5 + 1)), (0, .ref (ad 50))]) hx hb d_To_stepOrder_107 hl (k := 2) rfl rfl (by decide) rfl (fun ls hl => ?_)
              refine lv_goto (tgt := 91) hx hb d_To_stepOrder_110 (by decide) ?_
              exact ih _ _ _ _ _ _ hP hS (lv_sub hl [2, 1, 0] rfl) hf
        exact hL5 _ _ _ _ _ _ _ hP hS (lv_sub hl [2, 1, 0] rfl) hf
      clear eKL2_73
      have hL2 : ∀ (n : Nat) (v2_2 : Int32) (H : Heap) (locs : List Loc) (ls : Array Slot), va_P D vwCl (wG K ad σ) H → va_S (GA ad) s.heap H locs → lv_has ls 5 [(0, .ref (ad 50)), (1, .int v1_1), (2, .int v2_2)] → F_To_stepOrder_47 v1_1 σ KL2_73 n v2_2 = some z0 → W p l e (rmd 1) s m args below meth c H locs 0 0 (MQ below (QI D K ad z0.1 z0.2) args s 0 0 (GA ad)) (F0 m 47 ls []) := by
        clear hf
        intro n
        induction n with
        | zero =>
          intro v2_2 H locs ls hP hS hl hf
          rw [F_To_stepOrder_47.eq_1] at hf
          cases hf
        | succ n ih =>
          intro v2_2 H locs ls hP hS hl hf
          rw [F_To_stepOrder_47.eq_2] at hf
          refine lv_iload_n hx hb d_To_stepOrder_47 rfl (lv_at hl 2 rfl) ?_
          refine lv_iload_n hx hb d_To_stepOrder_48 rfl (lv_at hl 1 rfl) ?_
          refine lv_icmp_le (tgt := 73) hx hb d_To_stepOrder_49 (by decide) (fun hc12 => ?_) (fun hc12 => ?_)
          · rw [if_pos hc12] at hf
            exact hKL2_73 _ _ _ _ hP hS (lv_sub hl [0, 1, 2] rfl) hf
          · rw [if_neg hc12] at hf
            refine lv_aload_n hx hb d_To_stepOrder_52 rfl (lv_at hl 0 rfl) ?_
            refine g_get (v := .ref (ad 52)) hC hP o_50 co_To 1 (by decide) rfl fl_To_15 rfl d_To_stepOrder_53 ?_
            refine lv_iload_n hx hb d_To_stepOrder_56 rfl (lv_at hl 2 rfl) ?_
            obtain ⟨hg9, hf⟩ := gd_some hf
            refine g_iald2 (j := v2_2.toNatClampNeg) hC hP a_52 hg9 rfl d_To_stepOrder_57 ?_
            refine lv_aload_n hx hb d_To_stepOrder_58 rfl (lv_at hl 0 rfl) ?_
            refine g_get (v := .ref (ad 52)) hC hP o_50 co_To 1 (by decide) rfl fl_To_15 rfl d_To_stepOrder_59 ?_
            refine lv_iload_n hx hb d_To_stepOrder_62 rfl (lv_at hl 1 rfl) ?_
            obtain ⟨hg10, hf⟩ := gd_some hf
            refine g_iald2 (j := v1_1.toNatClampNeg) hC hP a_52 hg10 rfl d_To_stepOrder_63 ?_
            refine lv_icmp_ge (tgt := 73) hx hb d_To_stepOrder_64 (by decide) (fun hc11 => ?_) (fun hc11 => ?_)
            · rw [if_pos hc11] at hf
              exact hKL2_73 _ _ _ _ hP hS (lv_sub hl [0, 1, 2] rfl) hf
            · rw [if_neg hc11] at hf
              refine lv_iinc (v := v2_2 + (-1)) (lv' := [(2, .int (v2_2 + (-1))), (0, .ref (ad 50)), (1, .int v1_1)]) hx hb d_To_stepOrder_67 hl (k := 2) rfl rfl (by decide) rfl (fun ls hl => ?_)
              refine lv_goto (tgt := 47) hx hb d_To_stepOrder_70 (by decide) ?_
              exact ih _ _ _ _ hP hS (lv_sub hl [1, 2, 0] rfl) hf
      exact hL2 _ _ _ _ _ hP hS (lv_sub hl [1, 2, 0] rfl) hf
    · rw [if_neg hc13] at hf
      refine lv_iconst (v := (0 : Int32)) hx hb d_To_stepOrder_38 (by decide) ?_
      cases hf
      exact g_zret hC rfl (by decide) hP hS d_To_stepOrder_39
  clear eKL1_34
  have hL1 : ∀ (n : Nat) (v1_1 : Int32) (H : Heap) (locs : List Loc) (ls : Array Slot), va_P D vwCl (wG K ad σ) H → va_S (GA ad) s.heap H locs → lv_has ls 5 [(0, .ref (ad 50)), (1, .int v1_1)] → F_To_stepOrder_7 σ KL1_34 n v1_1 = some z0 → W p l e (rmd 1) s m args below meth c H locs 0 0 (MQ below (QI D K ad z0.1 z0.2) args s 0 0 (GA ad)) (F0 m 7 ls []) := by
    clear hf
    intro n
    induction n with
    | zero =>
      intro v1_1 H locs ls hP hS hl hf
      rw [F_To_stepOrder_7.eq_1] at hf
      cases hf
    | succ n ih =>
      intro v1_1 H locs ls hP hS hl hf
      rw [F_To_stepOrder_7.eq_2] at hf
      refine lv_iload_n hx hb d_To_stepOrder_7 rfl (lv_at hl 1 rfl) ?_
      refine lv_if_lt (tgt := 34) hx hb d_To_stepOrder_8 (by decide) (fun hc17 => ?_) (fun hc17 => ?_)
      · rw [if_pos hc17] at hf
        exact hKL1_34 _ _ _ _ hP hS (lv_sub hl [0, 1] rfl) hf
      · rw [if_neg hc17] at hf
        refine lv_aload_n hx hb d_To_stepOrder_11 rfl (lv_at hl 0 rfl) ?_
        refine g_get (v := .ref (ad 52)) hC hP o_50 co_To 1 (by decide) rfl fl_To_15 rfl d_To_stepOrder_12 ?_
        refine lv_iload_n hx hb d_To_stepOrder_15 rfl (lv_at hl 1 rfl) ?_
        obtain ⟨hg14, hf⟩ := gd_some hf
        refine g_iald2 (j := v1_1.toNatClampNeg) hC hP a_52 hg14 rfl d_To_stepOrder_16 ?_
        refine lv_aload_n hx hb d_To_stepOrder_17 rfl (lv_at hl 0 rfl) ?_
        refine g_get (v := .ref (ad 52)) hC hP o_50 co_To 1 (by decide) rfl fl_To_15 rfl d_To_stepOrder_18 ?_
        refine lv_iload_n hx hb d_To_stepOrder_21 rfl (lv_at hl 1 rfl) ?_
        refine lv_iconst (v := (1 : Int32)) hx hb d_To_stepOrder_22 (by decide) ?_
        refine lv_iadd hx hb d_To_stepOrder_23 ?_
        obtain ⟨hg15, hf⟩ := gd_some hf
        refine g_iald2 (j := (v1_1 + (1 : Int32)).toNatClampNeg) hC hP a_52 hg15 rfl d_To_stepOrder_24 ?_
        refine lv_icmp_le (tgt := 34) hx hb d_To_stepOrder_25 (by decide) (fun hc16 => ?_) (fun hc16 => ?_)
        · rw [if_pos hc16] at hf
          exact hKL1_34 _ _ _ _ hP hS (lv_sub hl [0, 1] rfl) hf
        · rw [if_neg hc16] at hf
          refine lv_iinc (v := v1_1 + (-1)) (lv' := [(1, .int (v1_1 + (-1))), (0, .ref (ad 50))]) hx hb d_To_stepOrder_28 hl (k := 1) rfl rfl (by decide) rfl (fun ls hl => ?_)
          refine lv_goto (tgt := 7) hx hb d_To_stepOrder_31 (by decide) ?_
          exact ih _ _ _ _ hP hS (lv_sub hl [1, 0] rfl) hf
  exact hL1 _ _ _ _ _ hP hS (lv_sub hl [1, 0] rfl) hf
set_option maxHeartbeats 4000000 in
set_option maxRecDepth 100000 in
theorem c_To_search {l : Launch} {D : va_G} {K : Nat → ClassId} {ad : Nat → Nat} (hj : inj ad)    {σ : GS} {z0 : GS} (hf : F_To_search σ = some z0) : CT l D K ad y_To_search b_To_search 3 none 2 [.ref (ad 50)] σ (QV D K ad z0) := by
  refine CT.intro hj (by decide) (Nat.le_of_ble_eq_true rfl) ?_
  intro p e s m args below meth c ls hC hP hS hl
  obtain ⟨hx, hb, -, hown, hts, -⟩ := id hC
  have hl : lv_has ls 3 [(0, .ref (ad 50))] := hl
  rw [F_To_search] at hf
  refine lv_iconst (v := (0 : Int32)) hx hb d_To_search_0 (by decide) ?_
  refine lv_istore_n (lv' := [(1, .int (0 : Int32)), (0, .ref (ad 50))]) hx hb d_To_search_1 rfl hl (by decide) rfl (fun ls hl => ?_)
  obtain ⟨KL1_23, eKL1_23, hf⟩ := jn_some hf
  have hKL1_23 : ∀ (v1_1 : Int32) (σL1 : GS) (H : Heap) (locs : List Loc) (ls : Array Slot), va_P D vwCl (wG K ad σL1) H → va_S (GA ad) s.heap H locs → lv_has ls 3 [(0, .ref (ad 50))] → KL1_23 v1_1 σL1 = some z0 → W p l e (rmd 2) s m args below meth c H locs 0 0 (MQ below (QV D K ad z0) args s 0 0 (GA ad)) (F0 m 23 ls []) := by
    clear hf
    intro v1_1 σL1 H locs ls hP hS hl hf
    rw [eKL1_23] at hf
    try dsimp only at hf
    refine lv_aload_n hx hb d_To_search_23 rfl (lv_at hl 0 rfl) ?_
    refine lv_ldc hx hb hown (hts _ cn_To_44) d_To_search_24 ?_
    obtain ⟨σ2, eσ2, hf⟩ := jn_some hf
    refine g_puti hC hP hS o_50 co_To 4 (by decide) rfl fl_To_25 rfl (to_To 4 (by decide)) (Nat.le_of_ble_eq_true rfl) rfl d_To_search_26 (fun H locs hP hS => ?_)
    rw [← eσ2] at hP
    refine lv_iconst (v := (0 : Int32)) hx hb d_To_search_29 (by decide) ?_
    refine lv_istore_n (lv' := [(1, .int (0 : Int32)), (0, .ref (ad 50))]) hx hb d_To_search_30 rfl hl (by decide) rfl (fun ls hl => ?_)
    obtain ⟨KL3_87, eKL3_87, hf⟩ := jn_some hf
    have hKL3_87 : ∀ (v1_3 : Int32) (σL3 : GS) (H : Heap) (locs : List Loc) (ls : Array Slot), va_P D vwCl (wG K ad σL3) H → va_S (GA ad) s.heap H locs → lv_has ls 3 [] → KL3_87 v1_3 σL3 = some z0 → W p l e (rmd 2) s m args below meth c H locs 0 0 (MQ below (QV D K ad z0) args s 0 0 (GA ad)) (F0 m 87 ls []) := by
      clear hf
      intro v1_3 σL3 H locs ls hP hS hl hf
      rw [eKL3_87] at hf
      try dsimp only at hf
      cases hf
      exact g_vret hC rfl hP hS d_To_search_87
    clear eKL3_87
    have hL3 : ∀ (n : Nat) (v1_3 : Int32) (σL3 : GS) (H : Heap) (locs : List Loc) (ls : Array Slot), va_P D vwCl (wG K ad σL3) H → va_S (GA ad) s.heap H locs → lv_has ls 3 [(0, .ref (ad 50)), (1, .int v1_3)] → F_To_search_31 KL3_87 n v1_3 σL3 = some z0 → W p l e (rmd 2) s m args below meth c H locs 0 0 (MQ below (QV D K ad z0) args s 0 0 (GA ad)) (F0 m 31 ls []) := by
      clear hf
      intro n
      induction n with
      | zero =>
        intro v1_3 σL3 H locs ls hP hS hl hf
        rw [F_To_search_31.eq_1] at hf
        cases hf
      | succ n ih =>
        intro v1_3 σL3 H locs ls hP hS hl hf
        rw [F_To_search_31.eq_2] at hf
        refine lv_iload_n hx hb d_To_search_31 rfl (lv_at hl 1 rfl) ?_
        refine lv_sipush (v := (720 : Int32)) hx hb d_To_search_32 (by decide) ?_
        refine lv_icmp_ge (tgt := 87) hx hb d_To_search_35 (by decide) (fun hc15 => ?_) (fun hc15 => ?_)
        · rw [if_pos hc15] at hf
          exact hKL3_87 _ _ _ _ _ hP hS (lv_sub hl [] rfl) hf
        · rw [if_neg hc15] at hf
          refine lv_aload_n hx hb d_To_search_38 rfl (lv_at hl 0 rfl) ?_
          obtain ⟨r5, hk4, hf⟩ := bp_some hf
          refine g_calli hS (g_runV (As := []) (rest := []) hC hP (c_To_lengthOfOrder hj  hk4) (rk (by decide) (by decide)) nm_To_lengthOfOrder cd_To_lengthOfOrder it_WideTown_Tour ml_To_45 im_To_lengthOfOrder sl_To_lengthOfOrder o_50 co_To rfl hl.1 rfl (Nat.le_of_ble_eq_true rfl) d_To_search_39 zz) (fun H locs hP hS => ?_)
          refine lv_istore_n (lv' := [(2, .int r5), (0, .ref (ad 50)), (1, .int v1_3)]) hx hb d_To_search_42 rfl hl (by decide) rfl (fun ls hl => ?_)
          refine lv_iload_n hx hb d_To_search_43 rfl (lv_at hl 0 rfl) ?_
          refine lv_aload_n hx hb d_To_search_44 rfl (lv_at hl 1 rfl) ?_
          refine g_get (v := .int (σL3.1 50 4)) hC hP o_50 co_To 4 (by decide) rfl fl_To_25 rfl d_To_search_45 ?_
          obtain ⟨J6, eJ6, hf⟩ := jn_some hf
          have hJ6 : ∀ (σJ6 : GS) (H : Heap) (locs : List Loc) (ls : Array Slot), va_P D vwCl (wG K ad σJ6) H → va_S (GA ad) s.heap H locs → lv_has ls 3 [(0, .ref (ad 50)), (1, .int v1_3)] → J6 σJ6 = some z0 → W p l e (rmd 2) s m args below meth c H locs 0 0 (MQ below (QV D K ad z0) args s 0 0 (GA ad)) (F0 m 73 ls []) := by
            clear hf
            intro σJ6 H locs ls hP hS hl hf
            rw [eJ6] at hf
            try dsimp only at hf
            refine lv_aload_n hx hb d_To_search_73 rfl (lv_at hl 0 rfl) ?_
            obtain ⟨r8, σ9, hk7, hf⟩ := bc_some hf
            refine g_calli hS (g_runV (As := []) (rest := []) hC hP (c_To_stepOrder hj  hk7) (rk (by decide) (by decide)) nm_To_stepOrder cd_To_stepOrder it_WideTown_Tour ml_To_55 im_To_stepOrder sl_To_stepOrder o_50 co_To rfl hl.1 rfl (Nat.le_of_ble_eq_true rfl) d_To_search_74 zz) (fun H locs hP hS => ?_)
            refine lv_if_ne (tgt := 81) hx hb d_To_search_77 (by decide) (fun hc10 => ?_) (fun hc10 => ?_)
            · rw [if_neg hc10] at hf
              refine lv_iinc (v := v1_3 + 1) (lv' := [(1, .int (v1_3 + 1)), (0, .ref (ad 50))]) hx hb d_To_search_81 hl (k := 1) rfl rfl (by decide) rfl (fun ls hl => ?_)
              refine lv_goto (tgt := 31) hx hb d_To_search_84 (by decide) ?_
              exact ih _ _ _ _ _ hP hS (lv_sub hl [1, 0] rfl) hf
            · rw [if_pos hc10] at hf
              cases hf
              exact g_vret hC rfl hP hS d_To_search_80
          clear eJ6
          refine lv_icmp_ge (tgt := 73) hx hb d_To_search_48 (by decide) (fun hc14 => ?_) (fun hc14 => ?_)
          · rw [if_pos hc14] at hf
            exact hJ6 _ _ _ _ hP hS (lv_sub hl [1, 2] rfl) hf
          · rw [if_neg hc14] at hf
            refine lv_aload_n hx hb d_To_search_51 rfl (lv_at hl 1 rfl) ?_
            refine lv_iload_n hx hb d_To_search_52 rfl (lv_at hl 0 rfl) ?_
            obtain ⟨σ11, eσ11, hf⟩ := jn_some hf
            refine g_puti hC hP hS o_50 co_To 4 (by decide) rfl fl_To_25 rfl (to_To 4 (by decide)) (Nat.le_of_ble_eq_true rfl) rfl d_To_search_53 (fun H locs hP hS => ?_)
            rw [← eσ11] at hP
            refine lv_aload_n hx hb d_To_search_56 rfl (lv_at hl 1 rfl) ?_
            refine g_get (v := .ref (ad 52)) hC hP o_50 co_To 1 (by decide) rfl fl_To_15 rfl d_To_search_57 ?_
            refine lv_iconst (v := (0 : Int32)) hx hb d_To_search_60 (by decide) ?_
            refine lv_aload_n hx hb d_To_search_61 rfl (lv_at hl 1 rfl) ?_
            refine g_get (v := .ref (ad 53)) hC hP o_50 co_To 2 (by decide) rfl fl_To_18 rfl d_To_search_62 ?_
            refine lv_iconst (v := (0 : Int32)) hx hb d_To_search_65 (by decide) ?_
            refine lv_aload_n hx hb d_To_search_66 rfl (lv_at hl 1 rfl) ?_
            refine g_get (v := .int (σ11.1 50 3)) hC hP o_50 co_To 3 (by decide) rfl fl_To_21 rfl d_To_search_67 ?_
            obtain ⟨hg13, hf⟩ := gd_some hf
            obtain ⟨σ12, eσ12, hf⟩ := jn_some hf
            refine g_copy hC hP hS hl.1 a_52 a_53 ml_To_49 na_copy st_copy it_java_lang_System hg13 (Nat.le_of_ble_eq_true rfl) (Nat.le_of_ble_eq_true rfl) d_To_search_70 (fun H locs hP hS => ?_)
            rw [← eσ12] at hP
            exact hJ6 _ _ _ _ hP hS (lv_sub hl [1, 2] rfl) hf
    exact hL3 _ _ _ _ _ _ hP hS (lv_sub hl [1, 0] rfl) hf
  clear eKL1_23
  have hL1 : ∀ (n : Nat) (v1_1 : Int32) (σL1 : GS) (H : Heap) (locs : List Loc) (ls : Array Slot), va_P D vwCl (wG K ad σL1) H → va_S (GA ad) s.heap H locs → lv_has ls 3 [(0, .ref (ad 50)), (1, .int v1_1)] → F_To_search_2 KL1_23 n v1_1 σL1 = some z0 → W p l e (rmd 2) s m args below meth c H locs 0 0 (MQ below (QV D K ad z0) args s 0 0 (GA ad)) (F0 m 2 ls []) := by
    clear hf
    intro n
    induction n with
    | zero =>
      intro v1_1 σL1 H locs ls hP hS hl hf
      rw [F_To_search_2.eq_1] at hf
      cases hf
    | succ n ih =>
      intro v1_1 σL1 H locs ls hP hS hl hf
      rw [F_To_search_2.eq_2] at hf
      refine lv_iload_n hx hb d_To_search_2 rfl (lv_at hl 1 rfl) ?_
      refine lv_aload_n hx hb d_To_search_3 rfl (lv_at hl 0 rfl) ?_
      refine g_get (v := .int (σL1.1 50 3)) hC hP o_50 co_To 3 (by decide) rfl fl_To_21 rfl d_To_search_4 ?_
      refine lv_icmp_ge (tgt := 23) hx hb d_To_search_7 (by decide) (fun hc18 => ?_) (fun hc18 => ?_)
      · rw [if_pos hc18] at hf
        exact hKL1_23 _ _ _ _ _ hP hS (lv_sub hl [0] rfl) hf
      · rw [if_neg hc18] at hf
        refine lv_aload_n hx hb d_To_search_10 rfl (lv_at hl 0 rfl) ?_
        refine g_get (v := .ref (ad 52)) hC hP o_50 co_To 1 (by decide) rfl fl_To_15 rfl d_To_search_11 ?_
        refine lv_iload_n hx hb d_To_search_14 rfl (lv_at hl 1 rfl) ?_
        refine lv_iload_n hx hb d_To_search_15 rfl (lv_at hl 1 rfl) ?_
        obtain ⟨hg16, hf⟩ := gd_some hf
        obtain ⟨σ17, eσ17, hf⟩ := jn_some hf
        refine g_iast2 (j := v1_1.toNatClampNeg) hC hP hS a_52 hg16 rfl d_To_search_16 (fun H locs hP hS => ?_)
        rw [← eσ17] at hP
        refine lv_iinc (v := v1_1 + 1) (lv' := [(1, .int (v1_1 + 1)), (0, .ref (ad 50))]) hx hb d_To_search_17 hl (k := 1) rfl rfl (by decide) rfl (fun ls hl => ?_)
        refine lv_goto (tgt := 2) hx hb d_To_search_20 (by decide) ?_
        exact ih _ _ _ _ _ hP hS (lv_sub hl [1, 0] rfl) hf
  exact hL1 _ _ _ _ _ _ hP hS (lv_sub hl [1, 0] rfl) hf
set_option maxHeartbeats 4000000 in
set_option maxRecDepth 100000 in
theorem c_Tn_settle {l : Launch} {D : va_G} {K : Nat → ClassId} {ad : Nat → Nat} (hj : inj ad)    {σ : GS} {z0 : GS} (hf : F_Tn_settle σ = some z0) : CT l D K ad y_Tn_settle b_Tn_settle 4 none 4 [.ref (ad 19), .ref (ad 15), .ref (ad 32)] σ (QV D K ad z0) := by
  refine CT.intro hj (by decide) (Nat.le_of_ble_eq_true rfl) ?_
  intro p e s m args below meth c ls hC hP hS hl
  obtain ⟨hx, hb, -, hown, hts, -⟩ := id hC
  have hl : lv_has ls 4 [(0, .ref (ad 19)), (1, .ref (ad 15)), (2, .ref (ad 32))] := hl
  rw [F_Tn_settle] at hf
  refine lv_aload_n hx hb d_Tn_settle_0 rfl (lv_at hl 0 rfl) ?_
  refine lv_iconst (v := (0 : Int32)) hx hb d_Tn_settle_1 (by decide) ?_
  refine lv_aload_n hx hb d_Tn_settle_2 rfl (lv_at hl 1 rfl) ?_
  refine g_get (v := .int (σ.1 15 3)) hC hP o_15 co_Rd 3 (by decide) rfl fl_Tn_25 rfl d_Tn_settle_3 ?_
  refine lv_iconst (v := (5 : Int32)) hx hb d_Tn_settle_6 (by decide) ?_
  refine g_mmin hC hl.1 ml_Tn_28 sc_Mmin cd_Mmin it_java_lang_Math (Nat.le_of_ble_eq_true rfl) (Nat.le_of_ble_eq_true rfl) zz d_Tn_settle_7 ?_
  refine g_mmax hC hl.1 ml_Tn_34 sc_Mmax cd_Mmax it_java_lang_Math (Nat.le_of_ble_eq_true rfl) (Nat.le_of_ble_eq_true rfl) zz d_Tn_settle_10 ?_
  obtain ⟨σ1, eσ1, hf⟩ := jn_some hf
  refine g_puti hC hP hS o_19 co_Tn 2 (by decide) rfl fl_Tn_18 rfl (to_Tn 2 (by decide)) (Nat.le_of_ble_eq_true rfl) rfl d_Tn_settle_13 (fun H locs hP hS => ?_)
  rw [← eσ1] at hP
  refine lv_aload_n hx hb d_Tn_settle_16 rfl (lv_at hl 0 rfl) ?_
  refine lv_iconst (v := (0 : Int32)) hx hb d_Tn_settle_17 (by decide) ?_
  obtain ⟨σ2, eσ2, hf⟩ := jn_some hf
  refine g_puti hC hP hS o_19 co_Tn 3 (by decide) rfl fl_Tn_22 rfl (to_Tn 3 (by decide)) (Nat.le_of_ble_eq_true rfl) rfl d_Tn_settle_18 (fun H locs hP hS => ?_)
  rw [← eσ2] at hP
  refine lv_iconst (v := (0 : Int32)) hx hb d_Tn_settle_21 (by decide) ?_
  refine lv_istore_n (lv' := [(3, .int (0 : Int32)), (0, .ref (ad 19)), (1, .ref (ad 15)), (2, .ref (ad 32))]) hx hb d_Tn_settle_22 rfl hl (by decide) rfl (fun ls hl => ?_)
  obtain ⟨KL3_109, eKL3_109, hf⟩ := jn_some hf
  have hKL3_109 : ∀ (v3_3 : Int32) (σL3 : GS) (H : Heap) (locs : List Loc) (ls : Array Slot), va_P D vwCl (wG K ad σL3) H → va_S (GA ad) s.heap H locs → lv_has ls 4 [] → KL3_109 v3_3 σL3 = some z0 → W p l e (rmd 4) s m args below meth c H locs 0 0 (MQ below (QV D K ad z0) args s 0 0 (GA ad)) (F0 m 109 ls []) := by
    clear hf
    intro v3_3 σL3 H locs ls hP hS hl hf
    rw [eKL3_109] at hf
    try dsimp only at hf
    cases hf
    exact g_vret hC rfl hP hS d_Tn_settle_109
  clear eKL3_109
  have hL3 : ∀ (n : Nat) (v3_3 : Int32) (σL3 : GS) (H : Heap) (locs : List Loc) (ls : Array Slot), va_P D vwCl (wG K ad σL3) H → va_S (GA ad) s.heap H locs → lv_has ls 4 [(0, .ref (ad 19)), (1, .ref (ad 15)), (2, .ref (ad 32)), (3, .int v3_3)] → F_Tn_settle_23 KL3_109 n v3_3 σL3 = some z0 → W p l e (rmd 4) s m args below meth c H locs 0 0 (MQ below (QV D K ad z0) args s 0 0 (GA ad)) (F0 m 23 ls []) := by
    clear hf
    intro n
    induction n with
    | zero =>
      intro v3_3 σL3 H locs ls hP hS hl hf
      rw [F_Tn_settle_23.eq_1] at hf
      cases hf
    | succ n ih =>
      intro v3_3 σL3 H locs ls hP hS hl hf
      rw [F_Tn_settle_23.eq_2] at hf
      refine lv_iload_n hx hb d_Tn_settle_23 rfl (lv_at hl 3 rfl) ?_
      refine lv_aload_n hx hb d_Tn_settle_24 rfl (lv_at hl 0 rfl) ?_
      refine g_get (v := .int (σL3.1 19 2)) hC hP o_19 co_Tn 2 (by decide) rfl fl_Tn_18 rfl d_Tn_settle_25 ?_
      refine lv_icmp_ge (tgt := 109) hx hb d_Tn_settle_28 (by decide) (fun hc21 => ?_) (fun hc21 => ?_)
      · rw [if_pos hc21] at hf
        exact hKL3_109 _ _ _ _ _ hP hS (lv_sub hl [] rfl) hf
      · rw [if_neg hc21] at hf
        refine lv_aload_n hx hb d_Tn_settle_31 rfl (lv_at hl 0 rfl) ?_
        refine g_get (v := .ref (ad 20)) hC hP o_19 co_Tn 0 (by decide) rfl fl_Tn_11 rfl d_Tn_settle_32 ?_
        refine lv_iload_n hx hb d_Tn_settle_35 rfl (lv_at hl 3 rfl) ?_
        refine lv_aload_n hx hb d_Tn_settle_36 rfl (lv_at hl 1 rfl) ?_
        refine g_get (v := .ref (ad 16)) hC hP o_15 co_Rd 0 (by decide) rfl fl_Tn_37 rfl d_Tn_settle_37 ?_
        refine lv_iload_n hx hb d_Tn_settle_40 rfl (lv_at hl 3 rfl) ?_
        obtain ⟨hg4, hf⟩ := gd_some hf
        refine g_iald2 (j := v3_3.toNatClampNeg) hC hP a_16 hg4 rfl d_Tn_settle_41 ?_
        obtain ⟨hg5, hf⟩ := gd_some hf
        obtain ⟨σ6, eσ6, hf⟩ := jn_some hf
        refine g_iast2 (j := v3_3.toNatClampNeg) hC hP hS a_20 hg5 rfl d_Tn_settle_42 (fun H locs hP hS => ?_)
        rw [← eσ6] at hP
        refine lv_aload_n hx hb d_Tn_settle_43 rfl (lv_at hl 2 rfl) ?_
        refine lv_aload_n hx hb d_Tn_settle_44 rfl (lv_at hl 1 rfl) ?_
        refine g_get (v := .ref (ad 18)) hC hP o_15 co_Rd 2 (by decide) rfl fl_Tn_38 rfl d_Tn_settle_45 ?_
        refine lv_iload_n hx hb d_Tn_settle_48 rfl (lv_at hl 3 rfl) ?_
        obtain ⟨hg7, hf⟩ := gd_some hf
        refine g_iald2 (j := v3_3.toNatClampNeg) hC hP a_18 hg7 rfl d_Tn_settle_49 ?_
        obtain ⟨σ9, hk8, hf⟩ := bv_some hf
        refine g_callv hS (g_runV (As := [.int (σ6.1 18 v3_3.toNatClampNeg)]) (rest := []) hC hP (c_Wd_becomes hj ⟨o_32, a_33⟩ hk8) (rk (by decide) (by decide)) nm_Wd_becomes cd_Wd_becomes it_WideTown_Word ml_Tn_41 im_Wd_becomes sl_Wd_becomes o_32 co_Wd rfl hl.1 rfl (Nat.le_of_ble_eq_true rfl) d_Tn_settle_50 zz) (fun H locs hP hS => ?_)
        refine lv_aload_n hx hb d_Tn_settle_53 rfl (lv_at hl 0 rfl) ?_
        refine g_get (v := .ref (ad 21)) hC hP o_19 co_Tn 1 (by decide) rfl fl_Tn_15 rfl d_Tn_settle_54 ?_
        refine lv_iload_n hx hb d_Tn_settle_57 rfl (lv_at hl 3 rfl) ?_
        refine lv_iconst (v := (4 : Int32)) hx hb d_Tn_settle_58 (by decide) ?_
        refine lv_imul hx hb d_Tn_settle_59 ?_
        refine lv_aload_n hx hb d_Tn_settle_60 rfl (lv_at hl 2 rfl) ?_
        obtain ⟨r11, hk10, hf⟩ := bp_some hf
        refine g_calli hS (g_runV (As := []) (rest := [.int (v3_3 * (4 : Int32)), .ref (ad 21)]) hC hP (c_Wd_code hj ⟨o_32, a_33⟩ hk10) (rk (by decide) (by decide)) nm_Wd_code cd_Wd_code it_WideTown_Word ml_Tn_47 im_Wd_code sl_Wd_code o_32 co_Wd rfl hl.1 rfl (Nat.le_of_ble_eq_true rfl) d_Tn_settle_61 zz) (fun H locs hP hS => ?_)
        obtain ⟨hg12, hf⟩ := gd_some hf
        obtain ⟨σ13, eσ13, hf⟩ := jn_some hf
        refine g_iast2 (j := (v3_3 * (4 : Int32)).toNatClampNeg) hC hP hS a_21 hg12 rfl d_Tn_settle_64 (fun H locs hP hS => ?_)
        rw [← eσ13] at hP
        refine lv_aload_n hx hb d_Tn_settle_65 rfl (lv_at hl 0 rfl) ?_
        refine g_get (v := .ref (ad 21)) hC hP o_19 co_Tn 1 (by decide) rfl fl_Tn_15 rfl d_Tn_settle_66 ?_
        refine lv_iload_n hx hb d_Tn_settle_69 rfl (lv_at hl 3 rfl) ?_
        refine lv_iconst (v := (4 : Int32)) hx hb d_Tn_settle_70 (by decide) ?_
        refine lv_imul hx hb d_Tn_settle_71 ?_
        refine lv_iconst (v := (1 : Int32)) hx hb d_Tn_settle_72 (by decide) ?_
        refine lv_iadd hx hb d_Tn_settle_73 ?_
        refine lv_aload_n hx hb d_Tn_settle_74 rfl (lv_at hl 1 rfl) ?_
        refine g_get (v := .ref (ad 17)) hC hP o_15 co_Rd 1 (by decide) rfl fl_Tn_51 rfl d_Tn_settle_75 ?_
        refine lv_iload_n hx hb d_Tn_settle_78 rfl (lv_at hl 3 rfl) ?_
        obtain ⟨hg14, hf⟩ := gd_some hf
        refine g_iald2 (j := v3_3.toNatClampNeg) hC hP a_17 hg14 rfl d_Tn_settle_79 ?_
        obtain ⟨hg15, hf⟩ := gd_some hf
        obtain ⟨σ16, eσ16, hf⟩ := jn_some hf
        refine g_iast2 (j := ((v3_3 * (4 : Int32)) + (1 : Int32)).toNatClampNeg) hC hP hS a_21 hg15 rfl d_Tn_settle_80 (fun H locs hP hS => ?_)
        rw [← eσ16] at hP
        refine lv_aload_n hx hb d_Tn_settle_81 rfl (lv_at hl 0 rfl) ?_
        refine g_get (v := .ref (ad 21)) hC hP o_19 co_Tn 1 (by decide) rfl fl_Tn_15 rfl d_Tn_settle_82 ?_
        refine lv_iload_n hx hb d_Tn_settle_85 rfl (lv_at hl 3 rfl) ?_
        refine lv_iconst (v := (4 : Int32)) hx hb d_Tn_settle_86 (by decide) ?_
        refine lv_imul hx hb d_Tn_settle_87 ?_
        refine lv_iconst (v := (2 : Int32)) hx hb d_Tn_settle_88 (by decide) ?_
        refine lv_iadd hx hb d_Tn_settle_89 ?_
        refine lv_iconst (v := (0 : Int32)) hx hb d_Tn_settle_90 (by decide) ?_
        obtain ⟨hg17, hf⟩ := gd_some hf
        obtain ⟨σ18, eσ18, hf⟩ := jn_some hf
        refine g_iast2 (j := ((v3_3 * (4 : Int32)) + (2 : Int32)).toNatClampNeg) hC hP hS a_21 hg17 rfl d_Tn_settle_91 (fun H locs hP hS => ?_)
        rw [← eσ18] at hP
        refine lv_aload_n hx hb d_Tn_settle_92 rfl (lv_at hl 0 rfl) ?_
        refine g_get (v := .ref (ad 21)) hC hP o_19 co_Tn 1 (by decide) rfl fl_Tn_15 rfl d_Tn_settle_93 ?_
        refine lv_iload_n hx hb d_Tn_settle_96 rfl (lv_at hl 3 rfl) ?_
        refine lv_iconst (v := (4 : Int32)) hx hb d_Tn_settle_97 (by decide) ?_
        refine lv_imul hx hb d_Tn_settle_98 ?_
        refine lv_iconst (v := (3 : Int32)) hx hb d_Tn_settle_99 (by decide) ?_
        refine lv_iadd hx hb d_Tn_settle_100 ?_
        refine lv_iconst (v := (0 : Int32)) hx hb d_Tn_settle_101 (by decide) ?_
        obtain ⟨hg19, hf⟩ := gd_some hf
        obtain ⟨σ20, eσ20, hf⟩ := jn_some hf
        refine g_iast2 (j := ((v3_3 * (4 : Int32)) + (3 : Int32)).toNatClampNeg) hC hP hS a_21 hg19 rfl d_Tn_settle_102 (fun H locs hP hS => ?_)
        rw [← eσ20] at hP
        refine lv_iinc (v := v3_3 + 1) (lv' := [(3, .int (v3_3 + 1)), (0, .ref (ad 19)), (1, .ref (ad 15)), (2, .ref (ad 32))]) hx hb d_Tn_settle_103 hl (k := 3) rfl rfl (by decide) rfl (fun ls hl => ?_)
        refine lv_goto (tgt := 23) hx hb d_Tn_settle_106 (by decide) ?_
        exact ih _ _ _ _ _ hP hS (lv_sub hl [1, 2, 3, 0] rfl) hf
  exact hL3 _ _ _ _ _ _ hP hS (lv_sub hl [1, 2, 3, 0] rfl) hf
set_option maxHeartbeats 4000000 in
set_option maxRecDepth 100000 in
theorem c_Tn_becomes {l : Launch} {D : va_G} {K : Nat → ClassId} {ad : Nat → Nat} (hj : inj ad) {t : Nat} {t1 : Nat} (h_t : TnOK K ad t) (h_t1 : TnOK K ad t1)  {σ : GS} {z0 : GS} (hf : F_Tn_becomes t t1 σ = some z0) : CT l D K ad y_Tn_becomes b_Tn_becomes 2 none 1 [.ref (ad t), .ref (ad t1)] σ (QV D K ad z0) := by
  refine CT.intro hj (by decide) (Nat.le_of_ble_eq_true rfl) ?_
  intro p e s m args below meth c ls hC hP hS hl
  obtain ⟨hx, hb, -, hown, hts, -⟩ := id hC
  have hl : lv_has ls 2 [(0, .ref (ad t)), (1, .ref (ad t1))] := hl
  rw [F_Tn_becomes] at hf
  refine lv_aload_n hx hb d_Tn_becomes_0 rfl (lv_at hl 0 rfl) ?_
  refine lv_aload_n hx hb d_Tn_becomes_1 rfl (lv_at hl 1 rfl) ?_
  refine g_get (v := .int (σ.1 t1 2)) hC hP h_t1.1 co_Tn 2 (by decide) rfl fl_Tn_18 rfl d_Tn_becomes_2 ?_
  obtain ⟨σ1, eσ1, hf⟩ := jn_some hf
  refine g_puti hC hP hS h_t.1 co_Tn 2 (by decide) rfl fl_Tn_18 rfl (to_Tn 2 (by decide)) (Nat.le_of_ble_eq_true rfl) rfl d_Tn_becomes_5 (fun H locs hP hS => ?_)
  rw [← eσ1] at hP
  refine lv_aload_n hx hb d_Tn_becomes_8 rfl (lv_at hl 0 rfl) ?_
  refine lv_aload_n hx hb d_Tn_becomes_9 rfl (lv_at hl 1 rfl) ?_
  refine g_get (v := .int (σ1.1 t1 3)) hC hP h_t1.1 co_Tn 3 (by decide) rfl fl_Tn_22 rfl d_Tn_becomes_10 ?_
  obtain ⟨σ2, eσ2, hf⟩ := jn_some hf
  refine g_puti hC hP hS h_t.1 co_Tn 3 (by decide) rfl fl_Tn_22 rfl (to_Tn 3 (by decide)) (Nat.le_of_ble_eq_true rfl) rfl d_Tn_becomes_13 (fun H locs hP hS => ?_)
  rw [← eσ2] at hP
  refine lv_aload_n hx hb d_Tn_becomes_16 rfl (lv_at hl 1 rfl) ?_
  refine g_get (v := .ref (ad (t1 + 1))) hC hP h_t1.1 co_Tn 0 (by decide) rfl fl_Tn_11 rfl d_Tn_becomes_17 ?_
  refine lv_iconst (v := (0 : Int32)) hx hb d_Tn_becomes_20 (by decide) ?_
  refine lv_aload_n hx hb d_Tn_becomes_21 rfl (lv_at hl 0 rfl) ?_
  refine g_get (v := .ref (ad (t + 1))) hC hP h_t.1 co_Tn 0 (by decide) rfl fl_Tn_11 rfl d_Tn_becomes_22 ?_
  refine lv_iconst (v := (0 : Int32)) hx hb d_Tn_becomes_25 (by decide) ?_
  refine lv_iconst (v := (5 : Int32)) hx hb d_Tn_becomes_26 (by decide) ?_
  obtain ⟨hg4, hf⟩ := gd_some hf
  obtain ⟨σ3, eσ3, hf⟩ := jn_some hf
  refine g_copy hC hP hS hl.1 h_t1.2.1 h_t.2.1 ml_Tn_54 na_copy st_copy it_java_lang_System hg4 (Nat.le_of_ble_eq_true rfl) (Nat.le_of_ble_eq_true rfl) d_Tn_becomes_27 (fun H locs hP hS => ?_)
  rw [← eσ3] at hP
  refine lv_aload_n hx hb d_Tn_becomes_30 rfl (lv_at hl 1 rfl) ?_
  refine g_get (v := .ref (ad (t1 + 2))) hC hP h_t1.1 co_Tn 1 (by decide) rfl fl_Tn_15 rfl d_Tn_becomes_31 ?_
  refine lv_iconst (v := (0 : Int32)) hx hb d_Tn_becomes_34 (by decide) ?_
  refine lv_aload_n hx hb d_Tn_becomes_35 rfl (lv_at hl 0 rfl) ?_
  refine g_get (v := .ref (ad (t + 2))) hC hP h_t.1 co_Tn 1 (by decide) rfl fl_Tn_15 rfl d_Tn_becomes_36 ?_
  refine lv_iconst (v := (0 : Int32)) hx hb d_Tn_becomes_39 (by decide) ?_
  refine lv_sipush (v := (1220 : Int32)) hx hb d_Tn_becomes_40 (by decide) ?_
  obtain ⟨hg6, hf⟩ := gd_some hf
  obtain ⟨σ5, eσ5, hf⟩ := jn_some hf
  refine g_copy hC hP hS hl.1 h_t1.2.2 h_t.2.2 ml_Tn_54 na_copy st_copy it_java_lang_System hg6 (Nat.le_of_ble_eq_true rfl) (Nat.le_of_ble_eq_true rfl) d_Tn_becomes_43 (fun H locs hP hS => ?_)
  rw [← eσ5] at hP
  cases hf
  exact g_vret hC rfl hP hS d_Tn_becomes_46
set_option maxHeartbeats 4000000 in
set_option maxRecDepth 100000 in
theorem c_Tn_load {l : Launch} {D : va_G} {K : Nat → ClassId} {ad : Nat → Nat} (hj : inj ad) {k : Nat} (h_k : WkOK K ad k) {x1 : Int32} {σ : GS} {z0 : GS} (hf : F_Tn_load k x1 σ = some z0) : CT l D K ad y_Tn_load b_Tn_load 4 none 0 [.ref (ad 19), .int x1, .ref (ad k)] σ (QV D K ad z0) := by
  refine CT.intro hj (by decide) (Nat.le_of_ble_eq_true rfl) ?_
  intro p e s m args below meth c ls hC hP hS hl
  obtain ⟨hx, hb, -, hown, hts, -⟩ := id hC
  have hl : lv_has ls 4 [(0, .ref (ad 19)), (1, .int x1), (2, .ref (ad k))] := hl
  rw [F_Tn_load] at hf
  refine lv_iload_n hx hb d_Tn_load_0 rfl (lv_at hl 1 rfl) ?_
  refine lv_if_lt (tgt := 12) hx hb d_Tn_load_1 (by decide) (fun hc12 => ?_) (fun hc12 => ?_)
  · rw [if_pos hc12] at hf
    cases hf
    exact g_vret hC rfl hP hS d_Tn_load_12
  · rw [if_neg hc12] at hf
    refine lv_iload_n hx hb d_Tn_load_4 rfl (lv_at hl 1 rfl) ?_
    refine lv_aload_n hx hb d_Tn_load_5 rfl (lv_at hl 0 rfl) ?_
    refine g_get (v := .int (σ.1 19 2)) hC hP o_19 co_Tn 2 (by decide) rfl fl_Tn_18 rfl d_Tn_load_6 ?_
    refine lv_icmp_lt (tgt := 13) hx hb d_Tn_load_9 (by decide) (fun hc11 => ?_) (fun hc11 => ?_)
    · rw [if_pos hc11] at hf
      refine lv_aload_n hx hb d_Tn_load_13 rfl (lv_at hl 0 rfl) ?_
      refine g_get (v := .int (σ.1 19 3)) hC hP o_19 co_Tn 3 (by decide) rfl fl_Tn_22 rfl d_Tn_load_14 ?_
      refine lv_bipush (v := (20 : Int32)) hx hb d_Tn_load_17 (by decide) ?_
      refine lv_imul hx hb d_Tn_load_19 ?_
      refine lv_iload_n hx hb d_Tn_load_20 rfl (lv_at hl 1 rfl) ?_
      refine lv_iconst (v := (4 : Int32)) hx hb d_Tn_load_21 (by decide) ?_
      refine lv_imul hx hb d_Tn_load_22 ?_
      refine lv_iadd hx hb d_Tn_load_23 ?_
      refine lv_istore_n (lv' := [(3, .int (((σ.1 19 3) * (20 : Int32)) + (x1 * (4 : Int32)))), (0, .ref (ad 19)), (1, .int x1), (2, .ref (ad k))]) hx hb d_Tn_load_24 rfl hl (by decide) rfl (fun ls hl => ?_)
      refine lv_aload_n hx hb d_Tn_load_25 rfl (lv_at hl 3 rfl) ?_
      refine lv_aload_n hx hb d_Tn_load_26 rfl (lv_at hl 1 rfl) ?_
      refine g_get (v := .ref (ad 20)) hC hP o_19 co_Tn 0 (by decide) rfl fl_Tn_11 rfl d_Tn_load_27 ?_
      refine lv_iload_n hx hb d_Tn_load_30 rfl (lv_at hl 2 rfl) ?_
      obtain ⟨hg1, hf⟩ := gd_some hf
      refine g_iald2 (j := x1.toNatClampNeg) hC hP a_20 hg1 rfl d_Tn_load_31 ?_
      obtain ⟨σ2, eσ2, hf⟩ := jn_some hf
      refine g_puti hC hP hS h_k co_Wk 0 (by decide) rfl fl_Tn_60 rfl (to_Wk 0 (by decide)) (Nat.le_of_ble_eq_true rfl) rfl d_Tn_load_32 (fun H locs hP hS => ?_)
      rw [← eσ2] at hP
      refine lv_aload_n hx hb d_Tn_load_35 rfl (lv_at hl 3 rfl) ?_
      refine lv_aload_n hx hb d_Tn_load_36 rfl (lv_at hl 1 rfl) ?_
      refine g_get (v := .ref (ad 21)) hC hP o_19 co_Tn 1 (by decide) rfl fl_Tn_15 rfl d_Tn_load_37 ?_
      refine lv_iload_n hx hb d_Tn_load_40 rfl (lv_at hl 0 rfl) ?_
      obtain ⟨hg3, hf⟩ := gd_some hf
      refine g_iald2 (j := (((σ.1 19 3) * (20 : Int32)) + (x1 * (4 : Int32))).toNatClampNeg) hC hP a_21 hg3 rfl d_Tn_load_41 ?_
      obtain ⟨σ4, eσ4, hf⟩ := jn_some hf
      refine g_puti hC hP hS h_k co_Wk 1 (by decide) rfl fl_Tn_65 rfl (to_Wk 1 (by decide)) (Nat.le_of_ble_eq_true rfl) rfl d_Tn_load_42 (fun H locs hP hS => ?_)
      rw [← eσ4] at hP
      refine lv_aload_n hx hb d_Tn_load_45 rfl (lv_at hl 3 rfl) ?_
      refine lv_aload_n hx hb d_Tn_load_46 rfl (lv_at hl 1 rfl) ?_
      refine g_get (v := .ref (ad 21)) hC hP o_19 co_Tn 1 (by decide) rfl fl_Tn_15 rfl d_Tn_load_47 ?_
      refine lv_iload_n hx hb d_Tn_load_50 rfl (lv_at hl 0 rfl) ?_
      refine lv_iconst (v := (1 : Int32)) hx hb d_Tn_load_51 (by decide) ?_
      refine lv_iadd hx hb d_Tn_load_52 ?_
      obtain ⟨hg5, hf⟩ := gd_some hf
      refine g_iald2 (j := ((((σ.1 19 3) * (20 : Int32)) + (x1 * (4 : Int32))) + (1 : Int32)).toNatClampNeg) hC hP a_21 hg5 rfl d_Tn_load_53 ?_
      obtain ⟨σ6, eσ6, hf⟩ := jn_some hf
      refine g_puti hC hP hS h_k co_Wk 2 (by decide) rfl fl_Tn_68 rfl (to_Wk 2 (by decide)) (Nat.le_of_ble_eq_true rfl) rfl d_Tn_load_54 (fun H locs hP hS => ?_)
      rw [← eσ6] at hP
      refine lv_aload_n hx hb d_Tn_load_57 rfl (lv_at hl 3 rfl) ?_
      refine lv_aload_n hx hb d_Tn_load_58 rfl (lv_at hl 1 rfl) ?_
      refine g_get (v := .ref (ad 21)) hC hP o_19 co_Tn 1 (by decide) rfl fl_Tn_15 rfl d_Tn_load_59 ?_
      refine lv_iload_n hx hb d_Tn_load_62 rfl (lv_at hl 0 rfl) ?_
      refine lv_iconst (v := (2 : Int32)) hx hb d_Tn_load_63 (by decide) ?_
      refine lv_iadd hx hb d_Tn_load_64 ?_
      obtain ⟨hg7, hf⟩ := gd_some hf
      refine g_iald2 (j := ((((σ.1 19 3) * (20 : Int32)) + (x1 * (4 : Int32))) + (2 : Int32)).toNatClampNeg) hC hP a_21 hg7 rfl d_Tn_load_65 ?_
      obtain ⟨σ8, eσ8, hf⟩ := jn_some hf
      refine g_puti hC hP hS h_k co_Wk 3 (by decide) rfl fl_Tn_71 rfl (to_Wk 3 (by decide)) (Nat.le_of_ble_eq_true rfl) rfl d_Tn_load_66 (fun H locs hP hS => ?_)
      rw [← eσ8] at hP
      refine lv_aload_n hx hb d_Tn_load_69 rfl (lv_at hl 3 rfl) ?_
      refine lv_aload_n hx hb d_Tn_load_70 rfl (lv_at hl 1 rfl) ?_
      refine g_get (v := .ref (ad 21)) hC hP o_19 co_Tn 1 (by decide) rfl fl_Tn_15 rfl d_Tn_load_71 ?_
      refine lv_iload_n hx hb d_Tn_load_74 rfl (lv_at hl 0 rfl) ?_
      refine lv_iconst (v := (3 : Int32)) hx hb d_Tn_load_75 (by decide) ?_
      refine lv_iadd hx hb d_Tn_load_76 ?_
      obtain ⟨hg9, hf⟩ := gd_some hf
      refine g_iald2 (j := ((((σ.1 19 3) * (20 : Int32)) + (x1 * (4 : Int32))) + (3 : Int32)).toNatClampNeg) hC hP a_21 hg9 rfl d_Tn_load_77 ?_
      obtain ⟨σ10, eσ10, hf⟩ := jn_some hf
      refine g_puti hC hP hS h_k co_Wk 4 (by decide) rfl fl_Tn_74 rfl (to_Wk 4 (by decide)) (Nat.le_of_ble_eq_true rfl) rfl d_Tn_load_78 (fun H locs hP hS => ?_)
      rw [← eσ10] at hP
      cases hf
      exact g_vret hC rfl hP hS d_Tn_load_81
    · rw [if_neg hc11] at hf
      cases hf
      exact g_vret hC rfl hP hS d_Tn_load_12
set_option maxHeartbeats 4000000 in
set_option maxRecDepth 100000 in
theorem c_Tn_store {l : Launch} {D : va_G} {K : Nat → ClassId} {ad : Nat → Nat} (hj : inj ad) {k : Nat} (h_k : WkOK K ad k) {x1 : Int32} {σ : GS} {z0 : GS} (hf : F_Tn_store k x1 σ = some z0) : CT l D K ad y_Tn_store b_Tn_store 4 none 0 [.ref (ad 19), .int x1, .ref (ad k)] σ (QV D K ad z0) := by
  refine CT.intro hj (by decide) (Nat.le_of_ble_eq_true rfl) ?_
  intro p e s m args below meth c ls hC hP hS hl
  obtain ⟨hx, hb, -, hown, hts, -⟩ := id hC
  have hl : lv_has ls 4 [(0, .ref (ad 19)), (1, .int x1), (2, .ref (ad k))] := hl
  rw [F_Tn_store] at hf
  refine lv_iload_n hx hb d_Tn_store_0 rfl (lv_at hl 1 rfl) ?_
  refine lv_if_lt (tgt := 12) hx hb d_Tn_store_1 (by decide) (fun hc10 => ?_) (fun hc10 => ?_)
  · rw [if_pos hc10] at hf
    cases hf
    exact g_vret hC rfl hP hS d_Tn_store_12
  · rw [if_neg hc10] at hf
    refine lv_iload_n hx hb d_Tn_store_4 rfl (lv_at hl 1 rfl) ?_
    refine lv_aload_n hx hb d_Tn_store_5 rfl (lv_at hl 0 rfl) ?_
    refine g_get (v := .int (σ.1 19 2)) hC hP o_19 co_Tn 2 (by decide) rfl fl_Tn_18 rfl d_Tn_store_6 ?_
    refine lv_icmp_lt (tgt := 13) hx hb d_Tn_store_9 (by decide) (fun hc9 => ?_) (fun hc9 => ?_)
    · rw [if_pos hc9] at hf
      refine lv_aload_n hx hb d_Tn_store_13 rfl (lv_at hl 0 rfl) ?_
      refine g_get (v := .int (σ.1 19 3)) hC hP o_19 co_Tn 3 (by decide) rfl fl_Tn_22 rfl d_Tn_store_14 ?_
      refine lv_bipush (v := (20 : Int32)) hx hb d_Tn_store_17 (by decide) ?_
      refine lv_imul hx hb d_Tn_store_19 ?_
      refine lv_iload_n hx hb d_Tn_store_20 rfl (lv_at hl 1 rfl) ?_
      refine lv_iconst (v := (4 : Int32)) hx hb d_Tn_store_21 (by decide) ?_
      refine lv_imul hx hb d_Tn_store_22 ?_
      refine lv_iadd hx hb d_Tn_store_23 ?_
      refine lv_istore_n (lv' := [(3, .int (((σ.1 19 3) * (20 : Int32)) + (x1 * (4 : Int32)))), (0, .ref (ad 19)), (1, .int x1), (2, .ref (ad k))]) hx hb d_Tn_store_24 rfl hl (by decide) rfl (fun ls hl => ?_)
      refine lv_aload_n hx hb d_Tn_store_25 rfl (lv_at hl 1 rfl) ?_
      refine g_get (v := .ref (ad 21)) hC hP o_19 co_Tn 1 (by decide) rfl fl_Tn_15 rfl d_Tn_store_26 ?_
      refine lv_iload_n hx hb d_Tn_store_29 rfl (lv_at hl 0 rfl) ?_
      refine lv_aload_n hx hb d_Tn_store_30 rfl (lv_at hl 3 rfl) ?_
      refine g_get (v := .int (σ.1 k 1)) hC hP h_k co_Wk 1 (by decide) rfl fl_Tn_65 rfl d_Tn_store_31 ?_
      obtain ⟨hg1, hf⟩ := gd_some hf
      obtain ⟨σ2, eσ2, hf⟩ := jn_some hf
      refine g_iast2 (j := (((σ.1 19 3) * (20 : Int32)) + (x1 * (4 : Int32))).toNatClampNeg) hC hP hS a_21 hg1 rfl d_Tn_store_34 (fun H locs hP hS => ?_)
      rw [← eσ2] at hP
      refine lv_aload_n hx hb d_Tn_store_35 rfl (lv_at hl 1 rfl) ?_
      refine g_get (v := .ref (ad 21)) hC hP o_19 co_Tn 1 (by decide) rfl fl_Tn_15 rfl d_Tn_store_36 ?_
      refine lv_iload_n hx hb d_Tn_store_39 rfl (lv_at hl 0 rfl) ?_
      refine lv_iconst (v := (1 : Int32)) hx hb d_Tn_store_40 (by decide) ?_
      refine lv_iadd hx hb d_Tn_store_41 ?_
      refine lv_aload_n hx hb d_Tn_store_42 rfl (lv_at hl 3 rfl) ?_
      refine g_get (v := .int (σ2.1 k 2)) hC hP h_k co_Wk 2 (by decide) rfl fl_Tn_68 rfl d_Tn_store_43 ?_
      obtain ⟨hg3, hf⟩ := gd_some hf
      obtain ⟨σ4, eσ4, hf⟩ := jn_some hf
      refine g_iast2 (j := ((((σ.1 19 3) * (20 : Int32)) + (x1 * (4 : Int32))) + (1 : Int32)).toNatClampNeg) hC hP hS a_21 hg3 rfl d_Tn_store_46 (fun H locs hP hS => ?_)
      rw [← eσ4] at hP
      refine lv_aload_n hx hb d_Tn_store_47 rfl (lv_at hl 1 rfl) ?_
      refine g_get (v := .ref (ad 21)) hC hP o_19 co_Tn 1 (by decide) rfl fl_Tn_15 rfl d_Tn_store_48 ?_
      refine lv_iload_n hx hb d_Tn_store_51 rfl (lv_at hl 0 rfl) ?_
      refine lv_iconst (v := (2 : Int32)) hx hb d_Tn_store_52 (by decide) ?_
      refine lv_iadd hx hb d_Tn_store_53 ?_
      refine lv_aload_n hx hb d_Tn_store_54 rfl (lv_at hl 3 rfl) ?_
      refine g_get (v := .int (σ4.1 k 3)) hC hP h_k co_Wk 3 (by decide) rfl fl_Tn_71 rfl d_Tn_store_55 ?_
      obtain ⟨hg5, hf⟩ := gd_some hf
      obtain ⟨σ6, eσ6, hf⟩ := jn_some hf
      refine g_iast2 (j := ((((σ.1 19 3) * (20 : Int32)) + (x1 * (4 : Int32))) + (2 : Int32)).toNatClampNeg) hC hP hS a_21 hg5 rfl d_Tn_store_58 (fun H locs hP hS => ?_)
      rw [← eσ6] at hP
      refine lv_aload_n hx hb d_Tn_store_59 rfl (lv_at hl 1 rfl) ?_
      refine g_get (v := .ref (ad 21)) hC hP o_19 co_Tn 1 (by decide) rfl fl_Tn_15 rfl d_Tn_store_60 ?_
      refine lv_iload_n hx hb d_Tn_store_63 rfl (lv_at hl 0 rfl) ?_
      refine lv_iconst (v := (3 : Int32)) hx hb d_Tn_store_64 (by decide) ?_
      refine lv_iadd hx hb d_Tn_store_65 ?_
      refine lv_aload_n hx hb d_Tn_store_66 rfl (lv_at hl 3 rfl) ?_
      refine g_get (v := .int (σ6.1 k 4)) hC hP h_k co_Wk 4 (by decide) rfl fl_Tn_74 rfl d_Tn_store_67 ?_
      obtain ⟨hg7, hf⟩ := gd_some hf
      obtain ⟨σ8, eσ8, hf⟩ := jn_some hf
      refine g_iast2 (j := ((((σ.1 19 3) * (20 : Int32)) + (x1 * (4 : Int32))) + (3 : Int32)).toNatClampNeg) hC hP hS a_21 hg7 rfl d_Tn_store_70 (fun H locs hP hS => ?_)
      rw [← eσ8] at hP
      cases hf
      exact g_vret hC rfl hP hS d_Tn_store_71
    · rw [if_neg hc9] at hf
      cases hf
      exact g_vret hC rfl hP hS d_Tn_store_12
