set_option maxHeartbeats 4000000 in
set_option maxRecDepth 100000 in
theorem c_M_isBurning {l : Launch} {D : va_G} {K : Nat → ClassId} {ad : Nat → Nat} (hj : inj ad)   {x1 : Int32} {σ : GS} {z0 : Int32} (hf : F_M_isBurning x1 σ = some z0) : CT l D K ad y_M_isBurning b_M_isBurning 4 (some .boolean) 0 [.ref (ad 63), .int x1] σ (QI D K ad z0 σ) := by
  refine CT.intro hj (by decide) (Nat.le_of_ble_eq_true rfl) ?_
  intro p e s m args below meth c ls hC hP hS hl
  obtain ⟨hx, hb, -, hown, hts, -⟩ := id hC
  have hl : lv_has ls 4 [(0, .ref (ad 63)), (1, .int x1)] := hl
  rw [F_M_isBurning] at hf
  refine lv_iconst (v := (0 : Int32)) hx hb d_M_isBurning_0 (by decide) ?_
  refine lv_istore_n (lv' := [(2, .int (0 : Int32)), (0, .ref (ad 63)), (1, .int x1)]) hx hb d_M_isBurning_1 rfl hl (by decide) rfl (fun ls hl => ?_)
  refine lv_iconst (v := (0 : Int32)) hx hb d_M_isBurning_2 (by decide) ?_
  refine lv_istore_n (lv' := [(3, .int (0 : Int32)), (2, .int (0 : Int32)), (0, .ref (ad 63)), (1, .int x1)]) hx hb d_M_isBurning_3 rfl hl (by decide) rfl (fun ls hl => ?_)
  obtain ⟨KL1_38, eKL1_38, hf⟩ := jn_some hf
  have hKL1_38 : ∀ (v2_1 : Int32) (v3_1 : Int32) (H : Heap) (locs : List Loc) (ls : Array Slot), va_P D vwCl (wG K ad σ) H → va_S (GA ad) s.heap H locs → lv_has ls 4 [(2, .int v2_1)] → KL1_38 v2_1 v3_1 = some z0 → W p l e (rmd 0) s m args below meth c H locs 0 0 (MQ below (QI D K ad z0 σ) args s 0 0 (GA ad)) (F0 m 38 ls []) := by
    clear hf
    intro v2_1 v3_1 H locs ls hP hS hl hf
    rw [eKL1_38] at hf
    try dsimp only at hf
    refine lv_iload_n hx hb d_M_isBurning_38 rfl (lv_at hl 0 rfl) ?_
    obtain ⟨hz, hf⟩ := gd_some hf
    cases hf
    exact g_zret hC rfl hz hP hS d_M_isBurning_39
  clear eKL1_38
  have hL1 : ∀ (n : Nat) (v2_1 : Int32) (v3_1 : Int32) (H : Heap) (locs : List Loc) (ls : Array Slot), va_P D vwCl (wG K ad σ) H → va_S (GA ad) s.heap H locs → lv_has ls 4 [(0, .ref (ad 63)), (1, .int x1), (2, .int v2_1), (3, .int v3_1)] → F_M_isBurning_4 x1 σ KL1_38 n v2_1 v3_1 = some z0 → W p l e (rmd 0) s m args below meth c H locs 0 0 (MQ below (QI D K ad z0 σ) args s 0 0 (GA ad)) (F0 m 4 ls []) := by
    clear hf
    intro n
    induction n with
    | zero =>
      intro v2_1 v3_1 H locs ls hP hS hl hf
      rw [F_M_isBurning_4.eq_1] at hf
      cases hf
    | succ n ih =>
      intro v2_1 v3_1 H locs ls hP hS hl hf
      rw [F_M_isBurning_4.eq_2] at hf
      refine lv_iload_n hx hb d_M_isBurning_4 rfl (lv_at hl 3 rfl) ?_
      refine lv_aload_n hx hb d_M_isBurning_5 rfl (lv_at hl 0 rfl) ?_
      refine g_get (v := .int (σ.1 63 29)) hC hP o_63 co_M 29 (by decide) rfl fl_M_268 rfl d_M_isBurning_6 ?_
      refine lv_icmp_ge (tgt := 38) hx hb d_M_isBurning_9 (by decide) (fun hc6 => ?_) (fun hc6 => ?_)
      · rw [if_pos hc6] at hf
        exact hKL1_38 _ _ _ _ _ hP hS (lv_sub hl [2] rfl) hf
      · rw [if_neg hc6] at hf
        refine lv_iload_n hx hb d_M_isBurning_12 rfl (lv_at hl 2 rfl) ?_
        obtain ⟨J2, eJ2, hf⟩ := jn_some hf
        have hJ2 : ∀ (dJ2 : Unit) (H : Heap) (locs : List Loc) (ls : Array Slot), va_P D vwCl (wG K ad σ) H → va_S (GA ad) s.heap H locs → lv_has ls 4 [(0, .ref (ad 63)), (1, .int x1), (3, .int v3_1)] → J2 dJ2 = some z0 → W p l e (rmd 0) s m args below meth c H locs 0 0 (MQ below (QI D K ad z0 σ) args s 0 0 (GA ad)) (F0 m 26 ls []) := by
          clear hf
          intro dJ2 H locs ls hP hS hl hf
          rw [eJ2] at hf
          try dsimp only at hf
          refine lv_iconst (v := (1 : Int32)) hx hb d_M_isBurning_26 (by decide) ?_
          refine lv_goto (tgt := 31) hx hb d_M_isBurning_27 (by decide) ?_
          refine lv_istore_n (lv' := [(2, .int (1 : Int32)), (0, .ref (ad 63)), (1, .int x1), (3, .int v3_1)]) hx hb d_M_isBurning_31 rfl hl (by decide) rfl (fun ls hl => ?_)
          refine lv_iinc (v := v3_1 + 1) (lv' := [(3, .int (v3_1 + 1)), (2, .int (1 : Int32)), (0, .ref (ad 63)), (1, .int x1)]) hx hb d_M_isBurning_32 hl (k := 3) rfl rfl (by decide) rfl (fun ls hl => ?_)
          refine lv_goto (tgt := 4) hx hb d_M_isBurning_35 (by decide) ?_
          exact ih _ _ _ _ _ hP hS (lv_sub hl [2, 3, 1, 0] rfl) hf
        clear eJ2
        refine lv_if_ne (tgt := 26) hx hb d_M_isBurning_13 (by decide) (fun hc5 => ?_) (fun hc5 => ?_)
        · rw [if_neg hc5] at hf
          exact hJ2 _ _ _ _ hP hS (lv_sub hl [0, 1, 3] rfl) hf
        · rw [if_pos hc5] at hf
          refine lv_aload_n hx hb d_M_isBurning_16 rfl (lv_at hl 0 rfl) ?_
          refine g_get (v := .ref (ad 86)) hC hP o_63 co_M 28 (by decide) rfl fl_M_82 rfl d_M_isBurning_17 ?_
          refine lv_iload_n hx hb d_M_isBurning_20 rfl (lv_at hl 3 rfl) ?_
          obtain ⟨hg3, hf⟩ := gd_some hf
          refine g_iald2 (j := v3_1.toNatClampNeg) hC hP a_86 hg3 rfl d_M_isBurning_21 ?_
          refine lv_iload_n hx hb d_M_isBurning_22 rfl (lv_at hl 1 rfl) ?_
          refine lv_icmp_ne (tgt := 30) hx hb d_M_isBurning_23 (by decide) (fun hc4 => ?_) (fun hc4 => ?_)
          · rw [if_neg hc4] at hf
            refine lv_iconst (v := (0 : Int32)) hx hb d_M_isBurning_30 (by decide) ?_
            refine lv_istore_n (lv' := [(2, .int (0 : Int32)), (0, .ref (ad 63)), (1, .int x1), (3, .int v3_1)]) hx hb d_M_isBurning_31 rfl hl (by decide) rfl (fun ls hl => ?_)
            refine lv_iinc (v := v3_1 + 1) (lv' := [(3, .int (v3_1 + 1)), (2, .int (0 : Int32)), (0, .ref (ad 63)), (1, .int x1)]) hx hb d_M_isBurning_32 hl (k := 3) rfl rfl (by decide) rfl (fun ls hl => ?_)
            refine lv_goto (tgt := 4) hx hb d_M_isBurning_35 (by decide) ?_
            exact ih _ _ _ _ _ hP hS (lv_sub hl [2, 3, 1, 0] rfl) hf
          · rw [if_pos hc4] at hf
            exact hJ2 _ _ _ _ hP hS (lv_sub hl [0, 1, 3] rfl) hf
  exact hL1 _ _ _ _ _ _ hP hS (lv_sub hl [2, 3, 1, 0] rfl) hf
set_option maxHeartbeats 4000000 in
set_option maxRecDepth 100000 in
theorem c_M_fire {l : Launch} {D : va_G} {K : Nat → ClassId} {ad : Nat → Nat} (hj : inj ad)   {x1 : Int32} {x2 : Int32} {x3 : Int32} {σ : GS} {z0 : Int32 × GS} (hf : F_M_fire x1 x2 x3 σ = some z0) : CT l D K ad y_M_fire b_M_fire 12 (some .int) 5 [.ref (ad 63), .int x1, .int x2, .int x3] σ (QI D K ad z0.1 z0.2) := by
  refine CT.intro hj (by decide) (Nat.le_of_ble_eq_true rfl) ?_
  intro p e s m args below meth c ls hC hP hS hl
  obtain ⟨hx, hb, -, hown, hts, -⟩ := id hC
  have hl : lv_has ls 12 [(0, .ref (ad 63)), (1, .int x1), (2, .int x2), (3, .int x3)] := hl
  rw [F_M_fire] at hf
  refine lv_aload_n hx hb d_M_fire_0 rfl (lv_at hl 0 rfl) ?_
  refine g_get (v := .ref (ad 64)) hC hP o_63 co_M 0 (by decide) rfl fl_M_7 rfl d_M_fire_1 ?_
  refine lv_iload_n hx hb d_M_fire_4 rfl (lv_at hl 1 rfl) ?_
  obtain ⟨hg1, hf⟩ := gd_some hf
  refine g_iald2 (j := x1.toNatClampNeg) hC hP a_64 hg1 rfl d_M_fire_5 ?_
  refine lv_istore (lv' := [(4, .int (σ.1 64 x1.toNatClampNeg)), (0, .ref (ad 63)), (1, .int x1), (2, .int x2), (3, .int x3)]) hx hb d_M_fire_6 hl (by decide) rfl (fun ls hl => ?_)
  refine lv_iconst (v := (0 : Int32)) hx hb d_M_fire_8 (by decide) ?_
  refine lv_istore (lv' := [(5, .int (0 : Int32)), (4, .int (σ.1 64 x1.toNatClampNeg)), (0, .ref (ad 63)), (1, .int x1), (2, .int x2), (3, .int x3)]) hx hb d_M_fire_9 hl (by decide) rfl (fun ls hl => ?_)
  obtain ⟨u4_2, eu4_2, hf⟩ := jn_some hf
  have hl : lv_has ls 12 [(5, .int (0 : Int32)), (4, .int u4_2), (0, .ref (ad 63)), (1, .int x1), (2, .int x2), (3, .int x3)] := by rw [eu4_2]; exact hl
  obtain ⟨KL3_57, eKL3_57, hf⟩ := jn_some hf
  have hKL3_57 : ∀ (v5_3 : Int32) (σL3 : GS) (H : Heap) (locs : List Loc) (ls : Array Slot), va_P D vwCl (wG K ad σL3) H → va_S (GA ad) s.heap H locs → lv_has ls 12 [(0, .ref (ad 63)), (2, .int x2), (4, .int u4_2)] → KL3_57 v5_3 σL3 = some z0 → W p l e (rmd 5) s m args below meth c H locs 0 0 (MQ below (QI D K ad z0.1 z0.2) args s 0 0 (GA ad)) (F0 m 57 ls []) := by
    clear hf
    intro v5_3 σL3 H locs ls hP hS hl hf
    rw [eKL3_57] at hf
    try dsimp only at hf
    refine lv_aload_n hx hb d_M_fire_57 rfl (lv_at hl 0 rfl) ?_
    refine g_get (v := .ref (ad 86)) hC hP o_63 co_M 28 (by decide) rfl fl_M_82 rfl d_M_fire_58 ?_
    refine lv_iconst (v := (0 : Int32)) hx hb d_M_fire_61 (by decide) ?_
    refine lv_iconst (v := (0 : Int32)) hx hb d_M_fire_62 (by decide) ?_
    obtain ⟨σ4, eσ4, hf⟩ := jn_some hf
    refine g_iast2 (j := 0) hC hP hS a_86 (by decide) rfl d_M_fire_63 (fun H locs hP hS => ?_)
    rw [← eσ4] at hP
    refine lv_aload_n hx hb d_M_fire_64 rfl (lv_at hl 0 rfl) ?_
    refine lv_iconst (v := (1 : Int32)) hx hb d_M_fire_65 (by decide) ?_
    obtain ⟨σ5, eσ5, hf⟩ := jn_some hf
    refine g_puti hC hP hS o_63 co_M 29 (by decide) rfl fl_M_268 rfl (to_M 29 (by decide)) (Nat.le_of_ble_eq_true rfl) rfl d_M_fire_66 (fun H locs hP hS => ?_)
    rw [← eσ5] at hP
    refine lv_iconst (v := (0 : Int32)) hx hb d_M_fire_69 (by decide) ?_
    refine lv_istore (lv' := [(5, .int (0 : Int32)), (0, .ref (ad 63)), (2, .int x2), (4, .int u4_2)]) hx hb d_M_fire_70 hl (by decide) rfl (fun ls hl => ?_)
    obtain ⟨KL6_229, eKL6_229, hf⟩ := jn_some hf
    have hKL6_229 : ∀ (v5_6 : Int32) (σL6 : GS) (H : Heap) (locs : List Loc) (ls : Array Slot), va_P D vwCl (wG K ad σL6) H → va_S (GA ad) s.heap H locs → lv_has ls 12 [(0, .ref (ad 63))] → KL6_229 v5_6 σL6 = some z0 → W p l e (rmd 5) s m args below meth c H locs 0 0 (MQ below (QI D K ad z0.1 z0.2) args s 0 0 (GA ad)) (F0 m 229 ls []) := by
      clear hf
      intro v5_6 σL6 H locs ls hP hS hl hf
      rw [eKL6_229] at hf
      try dsimp only at hf
      refine lv_aload_n hx hb d_M_fire_229 rfl (lv_at hl 0 rfl) ?_
      refine g_get (v := .int (σL6.1 63 29)) hC hP o_63 co_M 29 (by decide) rfl fl_M_268 rfl d_M_fire_230 ?_
      cases hf
      exact g_iret hC rfl hP hS d_M_fire_233
    clear eKL6_229
    have hL6 : ∀ (n : Nat) (v5_6 : Int32) (σL6 : GS) (H : Heap) (locs : List Loc) (ls : Array Slot), va_P D vwCl (wG K ad σL6) H → va_S (GA ad) s.heap H locs → lv_has ls 12 [(0, .ref (ad 63)), (2, .int x2), (4, .int u4_2), (5, .int v5_6)] → F_M_fire_72 x2 u4_2 KL6_229 n v5_6 σL6 = some z0 → W p l e (rmd 5) s m args below meth c H locs 0 0 (MQ below (QI D K ad z0.1 z0.2) args s 0 0 (GA ad)) (F0 m 72 ls []) := by
      clear hf
      intro n
      induction n with
      | zero =>
        intro v5_6 σL6 H locs ls hP hS hl hf
        rw [F_M_fire_72.eq_1] at hf
        cases hf
      | succ n ih =>
        intro v5_6 σL6 H locs ls hP hS hl hf
        rw [F_M_fire_72.eq_2] at hf
        refine lv_iload hx hb d_M_fire_72 (lv_at hl 3 rfl) ?_
        refine lv_iload_n hx hb d_M_fire_74 rfl (lv_at hl 1 rfl) ?_
        refine lv_icmp_ge (tgt := 229) hx hb d_M_fire_75 (by decide) (fun hc34 => ?_) (fun hc34 => ?_)
        · rw [if_pos hc34] at hf
          exact hKL6_229 _ _ _ _ _ hP hS (lv_sub hl [0] rfl) hf
        · rw [if_neg hc34] at hf
          refine lv_aload_n hx hb d_M_fire_78 rfl (lv_at hl 0 rfl) ?_
          refine g_get (v := .int (σL6.1 63 29)) hC hP o_63 co_M 29 (by decide) rfl fl_M_268 rfl d_M_fire_79 ?_
          refine lv_istore (lv' := [(6, .int (σL6.1 63 29)), (0, .ref (ad 63)), (2, .int x2), (4, .int u4_2), (5, .int v5_6)]) hx hb d_M_fire_82 hl (by decide) rfl (fun ls hl => ?_)
          refine lv_iconst (v := (0 : Int32)) hx hb d_M_fire_84 (by decide) ?_
          refine lv_istore (lv' := [(7, .int (0 : Int32)), (6, .int (σL6.1 63 29)), (0, .ref (ad 63)), (2, .int x2), (4, .int u4_2), (5, .int v5_6)]) hx hb d_M_fire_85 hl (by decide) rfl (fun ls hl => ?_)
          obtain ⟨u6_7, eu6_7, hf⟩ := jn_some hf
          have hl : lv_has ls 12 [(7, .int (0 : Int32)), (6, .int u6_7), (0, .ref (ad 63)), (2, .int x2), (4, .int u4_2), (5, .int v5_6)] := by rw [eu6_7]; exact hl
          obtain ⟨KL8_223, eKL8_223, hf⟩ := jn_some hf
          have hKL8_223 : ∀ (v7_8 : Int32) (σL8 : GS) (H : Heap) (locs : List Loc) (ls : Array Slot), va_P D vwCl (wG K ad σL8) H → va_S (GA ad) s.heap H locs → lv_has ls 12 [(0, .ref (ad 63)), (2, .int x2), (4, .int u4_2), (5, .int v5_6)] → KL8_223 v7_8 σL8 = some z0 → W p l e (rmd 5) s m args below meth c H locs 0 0 (MQ below (QI D K ad z0.1 z0.2) args s 0 0 (GA ad)) (F0 m 223 ls []) := by
            clear hf
            intro v7_8 σL8 H locs ls hP hS hl hf
            rw [eKL8_223] at hf
            try dsimp only at hf
            refine lv_iinc (v := v5_6 + 1) (lv' := [(5, .int (v5_6 + 1)), (0, .ref (ad 63)), (2, .int x2), (4, .int u4_2)]) hx hb d_M_fire_223 hl (k := 3) rfl rfl (by decide) rfl (fun ls hl => ?_)
            refine lv_goto (tgt := 72) hx hb d_M_fire_226 (by decide) ?_
            exact ih _ _ _ _ _ hP hS (lv_sub hl [1, 2, 3, 0] rfl) hf
          clear eKL8_223
          have hL8 : ∀ (n : Nat) (v7_8 : Int32) (σL8 : GS) (H : Heap) (locs : List Loc) (ls : Array Slot), va_P D vwCl (wG K ad σL8) H → va_S (GA ad) s.heap H locs → lv_has ls 12 [(0, .ref (ad 63)), (2, .int x2), (4, .int u4_2), (5, .int v5_6), (6, .int u6_7), (7, .int v7_8)] → F_M_fire_87 x2 u4_2 v5_6 u6_7 KL8_223 n v7_8 σL8 = some z0 → W p l e (rmd 5) s m args below meth c H locs 0 0 (MQ below (QI D K ad z0.1 z0.2) args s 0 0 (GA ad)) (F0 m 87 ls []) := by
            clear hf
            intro n
            induction n with
            | zero =>
              intro v7_8 σL8 H locs ls hP hS hl hf
              rw [F_M_fire_87.eq_1] at hf
              cases hf
            | succ n ih =>
              intro v7_8 σL8 H locs ls hP hS hl hf
              rw [F_M_fire_87.eq_2] at hf
              refine lv_iload hx hb d_M_fire_87 (lv_at hl 5 rfl) ?_
              refine lv_iload hx hb d_M_fire_89 (lv_at hl 4 rfl) ?_
              refine lv_icmp_ge (tgt := 223) hx hb d_M_fire_91 (by decide) (fun hc33 => ?_) (fun hc33 => ?_)
              · rw [if_pos hc33] at hf
                exact hKL8_223 _ _ _ _ _ hP hS (lv_sub hl [0, 1, 2, 3] rfl) hf
              · rw [if_neg hc33] at hf
                refine lv_iconst (v := (0 : Int32)) hx hb d_M_fire_94 (by decide) ?_
                refine lv_istore (lv' := [(8, .int (0 : Int32)), (0, .ref (ad 63)), (2, .int x2), (4, .int u4_2), (5, .int v5_6), (6, .int u6_7), (7, .int v7_8)]) hx hb d_M_fire_95 hl (by decide) rfl (fun ls hl => ?_)
                obtain ⟨KL9_217, eKL9_217, hf⟩ := jn_some hf
                have hKL9_217 : ∀ (v8_9 : Int32) (σL9 : GS) (H : Heap) (locs : List Loc) (ls : Array Slot), va_P D vwCl (wG K ad σL9) H → va_S (GA ad) s.heap H locs → lv_has ls 12 [(0, .ref (ad 63)), (2, .int x2), (4, .int u4_2), (5, .int v5_6), (6, .int u6_7), (7, .int v7_8)] → KL9_217 v8_9 σL9 = some z0 → W p l e (rmd 5) s m args below meth c H locs 0 0 (MQ below (QI D K ad z0.1 z0.2) args s 0 0 (GA ad)) (F0 m 217 ls []) := by
                  clear hf
                  intro v8_9 σL9 H locs ls hP hS hl hf
                  rw [eKL9_217] at hf
                  try dsimp only at hf
                  refine lv_iinc (v := v7_8 + 1) (lv' := [(7, .int (v7_8 + 1)), (0, .ref (ad 63)), (2, .int x2), (4, .int u4_2), (5, .int v5_6), (6, .int u6_7)]) hx hb d_M_fire_217 hl (k := 5) rfl rfl (by decide) rfl (fun ls hl => ?_)
                  refine lv_goto (tgt := 87) hx hb d_M_fire_220 (by decide) ?_
                  exact ih _ _ _ _ _ hP hS (lv_sub hl [1, 2, 3, 4, 5, 0] rfl) hf
                clear eKL9_217
                have hL9 : ∀ (n : Nat) (v8_9 : Int32) (σL9 : GS) (H : Heap) (locs : List Loc) (ls : Array Slot), va_P D vwCl (wG K ad σL9) H → va_S (GA ad) s.heap H locs → lv_has ls 12 [(0, .ref (ad 63)), (2, .int x2), (4, .int u4_2), (5, .int v5_6), (6, .int u6_7), (7, .int v7_8), (8, .int v8_9)] → F_M_fire_97 x2 u4_2 v5_6 u6_7 v7_8 KL9_217 n v8_9 σL9 = some z0 → W p l e (rmd 5) s m args below meth c H locs 0 0 (MQ below (QI D K ad z0.1 z0.2) args s 0 0 (GA ad)) (F0 m 97 ls []) := by
                  clear hf
                  intro n
                  induction n with
                  | zero =>
                    intro v8_9 σL9 H locs ls hP hS hl hf
                    rw [F_M_fire_97.eq_1] at hf
                    cases hf
                  | succ n ih =>
                    intro v8_9 σL9 H locs ls hP hS hl hf
                    rw [F_M_fire_97.eq_2] at hf
                    refine lv_iload hx hb d_M_fire_97 (lv_at hl 6 rfl) ?_
                    refine lv_iconst (v := (5 : Int32)) hx hb d_M_fire_99 (by decide) ?_
                    refine lv_icmp_ge (tgt := 217) hx hb d_M_fire_100 (by decide) (fun hc32 => ?_) (fun hc32 => ?_)
                    · rw [if_pos hc32] at hf
                      exact hKL9_217 _ _ _ _ _ hP hS (lv_sub hl [0, 1, 2, 3, 4, 5] rfl) hf
                    · rw [if_neg hc32] at hf
                      refine lv_aload_n hx hb d_M_fire_103 rfl (lv_at hl 0 rfl) ?_
                      refine lv_aload_n hx hb d_M_fire_104 rfl (lv_at hl 0 rfl) ?_
                      refine g_get (v := .ref (ad 75)) hC hP o_63 co_M 16 (by decide) rfl fl_M_48 rfl d_M_fire_105 ?_
                      refine lv_aload_n hx hb d_M_fire_108 rfl (lv_at hl 0 rfl) ?_
                      refine g_get (v := .ref (ad 75)) hC hP o_63 co_M 16 (by decide) rfl fl_M_48 rfl d_M_fire_109 ?_
                      refine lv_aload_n hx hb d_M_fire_112 rfl (lv_at hl 0 rfl) ?_
                      refine g_get (v := .ref (ad 75)) hC hP o_63 co_M 16 (by decide) rfl fl_M_48 rfl d_M_fire_113 ?_
                      refine lv_iconst (v := (0 : Int32)) hx hb d_M_fire_116 (by decide) ?_
                      refine lv_aload_n hx hb d_M_fire_117 rfl (lv_at hl 0 rfl) ?_
                      refine g_get (v := .ref (ad 86)) hC hP o_63 co_M 28 (by decide) rfl fl_M_82 rfl d_M_fire_118 ?_
                      refine lv_iload hx hb d_M_fire_121 (lv_at hl 5 rfl) ?_
                      obtain ⟨hg10, hf⟩ := gd_some hf
                      refine g_iald2 (j := v7_8.toNatClampNeg) hC hP a_86 hg10 rfl d_M_fire_123 ?_
                      obtain ⟨r12, σ13, hk11, hf⟩ := bc_some hf
                      refine g_calli hS (g_runS (As := [.ref (ad 75), .int (0 : Int32), .int (σL9.1 86 v7_8.toNatClampNeg)]) (rest := [.ref (ad 75), .ref (ad 75), .ref (ad 63)]) hC hP (c_M_follow hj a_75 hk11) (rk (by decide) (by decide)) nm_M_follow cd_M_follow it_WideTownModel ml_M_171 sc_M_follow rfl hl.1 rfl (Nat.le_of_ble_eq_true rfl) d_M_fire_124 zz) (fun H locs hP hS => ?_)
                      refine lv_iload hx hb d_M_fire_127 (lv_at hl 6 rfl) ?_
                      obtain ⟨r15, σ16, hk14, hf⟩ := bc_some hf
                      refine g_calli hS (g_runS (As := [.ref (ad 75), .int r12, .int v8_9]) (rest := [.ref (ad 75), .ref (ad 63)]) hC hP (c_M_times hj a_75 hk14) (rk (by decide) (by decide)) nm_M_times cd_M_times it_WideTownModel ml_M_134 sc_M_times rfl hl.1 rfl (Nat.le_of_ble_eq_true rfl) d_M_fire_129 zz) (fun H locs hP hS => ?_)
                      obtain ⟨r18, σ19, hk17, hf⟩ := bc_some hf
                      refine g_calli hS (g_runV (As := [.ref (ad 75), .int r15]) (rest := []) hC hP (c_M_codeOf hj a_75 hk17) (rk (by decide) (by decide)) nm_M_codeOf cd_M_codeOf it_WideTownModel ml_M_138 im_M_codeOf sl_M_codeOf o_63 co_M rfl hl.1 rfl (Nat.le_of_ble_eq_true rfl) d_M_fire_132 zz) (fun H locs hP hS => ?_)
                      refine lv_istore (lv' := [(9, .int r18), (0, .ref (ad 63)), (2, .int x2), (4, .int u4_2), (5, .int v5_6), (6, .int u6_7), (7, .int v7_8), (8, .int v8_9)]) hx hb d_M_fire_135 hl (by decide) rfl (fun ls hl => ?_)
                      refine lv_aload_n hx hb d_M_fire_137 rfl (lv_at hl 1 rfl) ?_
                      refine lv_iload hx hb d_M_fire_138 (lv_at hl 0 rfl) ?_
                      obtain ⟨r21, hk20, hf⟩ := bp_some hf
                      refine g_calli hS (g_runV (As := [.int r18]) (rest := []) hC hP (c_M_isBurning hj  hk20) (rk (by decide) (by decide)) nm_M_isBurning cd_M_isBurning it_WideTownModel ml_M_271 im_M_isBurning sl_M_isBurning o_63 co_M rfl hl.1 rfl (Nat.le_of_ble_eq_true rfl) d_M_fire_140 zz) (fun H locs hP hS => ?_)
                      refine lv_istore (lv' := [(10, .int r21), (9, .int r18), (0, .ref (ad 63)), (2, .int x2), (4, .int u4_2), (5, .int v5_6), (6, .int u6_7), (7, .int v7_8), (8, .int v8_9)]) hx hb d_M_fire_143 hl (by decide) rfl (fun ls hl => ?_)
                      refine lv_iconst (v := (0 : Int32)) hx hb d_M_fire_145 (by decide) ?_
                      refine lv_istore (lv' := [(11, .int (0 : Int32)), (10, .int r21), (9, .int r18), (0, .ref (ad 63)), (2, .int x2), (4, .int u4_2), (5, .int v5_6), (6, .int u6_7), (7, .int v7_8), (8, .int v8_9)]) hx hb d_M_fire_146 hl (by decide) rfl (fun ls hl => ?_)
                      obtain ⟨KL22_185, eKL22_185, hf⟩ := jn_some hf
                      have hKL22_185 : ∀ (v10_22 : Int32) (v11_22 : Int32) (H : Heap) (locs : List Loc) (ls : Array Slot), va_P D vwCl (wG K ad σ19) H → va_S (GA ad) s.heap H locs → lv_has ls 12 [(0, .ref (ad 63)), (2, .int x2), (4, .int u4_2), (5, .int v5_6), (6, .int u6_7), (7, .int v7_8), (8, .int v8_9), (9, .int r18), (10, .int v10_22)] → KL22_185 v10_22 v11_22 = some z0 → W p l e (rmd 5) s m args below meth c H locs 0 0 (MQ below (QI D K ad z0.1 z0.2) args s 0 0 (GA ad)) (F0 m 185 ls []) := by
                        clear hf
                        intro v10_22 v11_22 H locs ls hP hS hl hf
                        rw [eKL22_185] at hf
                        try dsimp only at hf
                        refine lv_iload hx hb d_M_fire_185 (lv_at hl 8 rfl) ?_
                        refine lv_if_ne (tgt := 211) hx hb d_M_fire_187 (by decide) (fun hc26 => ?_) (fun hc26 => ?_)
                        · rw [if_neg hc26] at hf
                          refine lv_iinc (v := v8_9 + 1) (lv' := [(8, .int (v8_9 + 1)), (0, .ref (ad 63)), (2, .int x2), (4, .int u4_2), (5, .int v5_6), (6, .int u6_7), (7, .int v7_8), (9, .int r18), (10, .int v10_22)]) hx hb d_M_fire_211 hl (k := 6) rfl rfl (by decide) rfl (fun ls hl => ?_)
                          refine lv_goto (tgt := 97) hx hb d_M_fire_214 (by decide) ?_
                          exact ih _ _ _ _ _ hP hS (lv_sub hl [1, 2, 3, 4, 5, 6, 0] rfl) hf
                        · rw [if_pos hc26] at hf
                          refine lv_aload_n hx hb d_M_fire_190 rfl (lv_at hl 0 rfl) ?_
                          refine g_get (v := .ref (ad 86)) hC hP o_63 co_M 28 (by decide) rfl fl_M_82 rfl d_M_fire_191 ?_
                          refine lv_aload_n hx hb d_M_fire_194 rfl (lv_at hl 0 rfl) ?_
                          refine g_get (v := .int (σ19.1 63 29)) hC hP o_63 co_M 29 (by decide) rfl fl_M_268 rfl d_M_fire_195 ?_
                          refine lv_iload hx hb d_M_fire_198 (lv_at hl 7 rfl) ?_
                          obtain ⟨hg23, hf⟩ := gd_some hf
                          obtain ⟨σ24, eσ24, hf⟩ := jn_some hf
                          refine g_iast2 (j := (σ19.1 63 29).toNatClampNeg) hC hP hS a_86 hg23 rfl d_M_fire_200 (fun H locs hP hS => ?_)
                          rw [← eσ24] at hP
                          refine lv_aload_n hx hb d_M_fire_201 rfl (lv_at hl 0 rfl) ?_
                          refine lv_dup hx hb d_M_fire_202 rfl ?_
                          refine g_get (v := .int (σ24.1 63 29)) hC hP o_63 co_M 29 (by decide) rfl fl_M_268 rfl d_M_fire_203 ?_
                          refine lv_iconst (v := (1 : Int32)) hx hb d_M_fire_206 (by decide) ?_
                          refine lv_iadd hx hb d_M_fire_207 ?_
                          obtain ⟨σ25, eσ25, hf⟩ := jn_some hf
                          refine g_puti hC hP hS o_63 co_M 29 (by decide) rfl fl_M_268 rfl (to_M 29 (by decide)) (Nat.le_of_ble_eq_true rfl) rfl d_M_fire_208 (fun H locs hP hS => ?_)
                          rw [← eσ25] at hP
                          refine lv_iinc (v := v8_9 + 1) (lv' := [(8, .int (v8_9 + 1)), (0, .ref (ad 63)), (2, .int x2), (4, .int u4_2), (5, .int v5_6), (6, .int u6_7), (7, .int v7_8), (9, .int r18), (10, .int v10_22)]) hx hb d_M_fire_211 hl (k := 6) rfl rfl (by decide) rfl (fun ls hl => ?_)
                          refine lv_goto (tgt := 97) hx hb d_M_fire_214 (by decide) ?_
                          exact ih _ _ _ _ _ hP hS (lv_sub hl [1, 2, 3, 4, 5, 6, 0] rfl) hf
                      clear eKL22_185
                      have hL22 : ∀ (n : Nat) (v10_22 : Int32) (v11_22 : Int32) (H : Heap) (locs : List Loc) (ls : Array Slot), va_P D vwCl (wG K ad σ19) H → va_S (GA ad) s.heap H locs → lv_has ls 12 [(0, .ref (ad 63)), (2, .int x2), (4, .int u4_2), (5, .int v5_6), (6, .int u6_7), (7, .int v7_8), (8, .int v8_9), (9, .int r18), (10, .int v10_22), (11, .int v11_22)] → F_M_fire_148 x2 u4_2 v5_6 u6_7 v7_8 v8_9 r18 σ19 KL22_185 n v10_22 v11_22 = some z0 → W p l e (rmd 5) s m args below meth c H locs 0 0 (MQ below (QI D K ad z0.1 z0.2) args s 0 0 (GA ad)) (F0 m 148 ls []) := by
                        clear hf
                        intro n
                        induction n with
                        | zero =>
                          intro v10_22 v11_22 H locs ls hP hS hl hf
                          rw [F_M_fire_148.eq_1] at hf
                          cases hf
                        | succ n ih =>
                          intro v10_22 v11_22 H locs ls hP hS hl hf
                          rw [F_M_fire_148.eq_2] at hf
                          refine lv_iload hx hb d_M_fire_148 (lv_at hl 9 rfl) ?_
                          refine lv_iload hx hb d_M_fire_150 (lv_at hl 2 rfl) ?_
                          refine lv_icmp_ge (tgt := 185) hx hb d_M_fire_152 (by decide) (fun hc31 => ?_) (fun hc31 => ?_)
                          · rw [if_pos hc31] at hf
                            exact hKL22_185 _ _ _ _ _ hP hS (lv_sub hl [0, 1, 2, 3, 4, 5, 6, 7, 8] rfl) hf
                          · rw [if_neg hc31] at hf
                            refine lv_iload hx hb d_M_fire_155 (lv_at hl 8 rfl) ?_
                            obtain ⟨J27, eJ27, hf⟩ := jn_some hf
                            have hJ27 : ∀ (dJ27 : Unit) (H : Heap) (locs : List Loc) (ls : Array Slot), va_P D vwCl (wG K ad σ19) H → va_S (GA ad) s.heap H locs → lv_has ls 12 [(0, .ref (ad 63)), (2, .int x2), (4, .int u4_2), (5, .int v5_6), (6, .int u6_7), (7, .int v7_8), (8, .int v8_9), (9, .int r18), (11, .int v11_22)] → J27 dJ27 = some z0 → W p l e (rmd 5) s m args below meth c H locs 0 0 (MQ below (QI D K ad z0.1 z0.2) args s 0 0 (GA ad)) (F0 m 172 ls []) := by
                              clear hf
                              intro dJ27 H locs ls hP hS hl hf
                              rw [eJ27] at hf
                              try dsimp only at hf
                              refine lv_iconst (v := (1 : Int32)) hx hb d_M_fire_172 (by decide) ?_
                              refine lv_goto (tgt := 177) hx hb d_M_fire_173 (by decide) ?_
                              refine lv_istore (lv' := [(10, .int (1 : Int32)), (0, .ref (ad 63)), (2, .int x2), (4, .int u4_2), (5, .int v5_6), (6, .int u6_7), (7, .int v7_8), (8, .int v8_9), (9, .int r18), (11, .int v11_22)]) hx hb d_M_fire_177 hl (by decide) rfl (fun ls hl => ?_)
                              refine lv_iinc (v := v11_22 + 1) (lv' := [(11, .int (v11_22 + 1)), (10, .int (1 : Int32)), (0, .ref (ad 63)), (2, .int x2), (4, .int u4_2), (5, .int v5_6), (6, .int u6_7), (7, .int v7_8), (8, .int v8_9), (9, .int r18)]) hx hb d_M_fire_179 hl (k := 9) rfl rfl (by decide) rfl (fun ls hl => ?_)
                              refine lv_goto (tgt := 148) hx hb d_M_fire_182 (by decide) ?_
                              exact ih _ _ _ _ _ hP hS (lv_sub hl [2, 3, 4, 5, 6, 7, 8, 9, 1, 0] rfl) hf
                            clear eJ27
                            refine lv_if_ne (tgt := 172) hx hb d_M_fire_157 (by decide) (fun hc30 => ?_) (fun hc30 => ?_)
                            · rw [if_neg hc30] at hf
                              exact hJ27 _ _ _ _ hP hS (lv_sub hl [0, 1, 2, 3, 4, 5, 6, 7, 9] rfl) hf
                            · rw [if_pos hc30] at hf
                              refine lv_aload_n hx hb d_M_fire_160 rfl (lv_at hl 0 rfl) ?_
                              refine g_get (v := .ref (ad 87)) hC hP o_63 co_M 30 (by decide) rfl fl_M_85 rfl d_M_fire_161 ?_
                              refine lv_iload hx hb d_M_fire_164 (lv_at hl 9 rfl) ?_
                              obtain ⟨hg28, hf⟩ := gd_some hf
                              refine g_iald2 (j := v11_22.toNatClampNeg) hC hP a_87 hg28 rfl d_M_fire_166 ?_
                              refine lv_iload hx hb d_M_fire_167 (lv_at hl 7 rfl) ?_
                              refine lv_icmp_ne (tgt := 176) hx hb d_M_fire_169 (by decide) (fun hc29 => ?_) (fun hc29 => ?_)
                              · rw [if_neg hc29] at hf
                                refine lv_iconst (v := (0 : Int32)) hx hb d_M_fire_176 (by decide) ?_
                                refine lv_istore (lv' := [(10, .int (0 : Int32)), (0, .ref (ad 63)), (2, .int x2), (4, .int u4_2), (5, .int v5_6), (6, .int u6_7), (7, .int v7_8), (8, .int v8_9), (9, .int r18), (11, .int v11_22)]) hx hb d_M_fire_177 hl (by decide) rfl (fun ls hl => ?_)
                                refine lv_iinc (v := v11_22 + 1) (lv' := [(11, .int (v11_22 + 1)), (10, .int (0 : Int32)), (0, .ref (ad 63)), (2, .int x2), (4, .int u4_2), (5, .int v5_6), (6, .int u6_7), (7, .int v7_8), (8, .int v8_9), (9, .int r18)]) hx hb d_M_fire_179 hl (k := 9) rfl rfl (by decide) rfl (fun ls hl => ?_)
                                refine lv_goto (tgt := 148) hx hb d_M_fire_182 (by decide) ?_
                                exact ih _ _ _ _ _ hP hS (lv_sub hl [2, 3, 4, 5, 6, 7, 8, 9, 1, 0] rfl) hf
                              · rw [if_pos hc29] at hf
                                exact hJ27 _ _ _ _ hP hS (lv_sub hl [0, 1, 2, 3, 4, 5, 6, 7, 9] rfl) hf
                      exact hL22 _ _ _ _ _ _ hP hS (lv_sub hl [3, 4, 5, 6, 7, 8, 9, 2, 1, 0] rfl) hf
                exact hL9 _ _ _ _ _ _ hP hS (lv_sub hl [1, 2, 3, 4, 5, 6, 0] rfl) hf
          exact hL8 _ _ _ _ _ _ hP hS (lv_sub hl [2, 3, 4, 5, 1, 0] rfl) hf
    exact hL6 _ _ _ _ _ _ hP hS (lv_sub hl [1, 2, 3, 0] rfl) hf
  clear eKL3_57
  have hL3 : ∀ (n : Nat) (v5_3 : Int32) (σL3 : GS) (H : Heap) (locs : List Loc) (ls : Array Slot), va_P D vwCl (wG K ad σL3) H → va_S (GA ad) s.heap H locs → lv_has ls 12 [(0, .ref (ad 63)), (1, .int x1), (2, .int x2), (3, .int x3), (4, .int u4_2), (5, .int v5_3)] → F_M_fire_11 x1 x2 x3 u4_2 KL3_57 n v5_3 σL3 = some z0 → W p l e (rmd 5) s m args below meth c H locs 0 0 (MQ below (QI D K ad z0.1 z0.2) args s 0 0 (GA ad)) (F0 m 11 ls []) := by
    clear hf
    intro n
    induction n with
    | zero =>
      intro v5_3 σL3 H locs ls hP hS hl hf
      rw [F_M_fire_11.eq_1] at hf
      cases hf
    | succ n ih =>
      intro v5_3 σL3 H locs ls hP hS hl hf
      rw [F_M_fire_11.eq_2] at hf
      refine lv_iload hx hb d_M_fire_11 (lv_at hl 5 rfl) ?_
      refine lv_iload hx hb d_M_fire_13 (lv_at hl 4 rfl) ?_
      refine lv_icmp_ge (tgt := 57) hx hb d_M_fire_15 (by decide) (fun hc44 => ?_) (fun hc44 => ?_)
      · rw [if_pos hc44] at hf
        exact hKL3_57 _ _ _ _ _ hP hS (lv_sub hl [0, 2, 4] rfl) hf
      · rw [if_neg hc44] at hf
        refine lv_aload_n hx hb d_M_fire_18 rfl (lv_at hl 0 rfl) ?_
        refine g_get (v := .ref (ad 87)) hC hP o_63 co_M 30 (by decide) rfl fl_M_85 rfl d_M_fire_19 ?_
        refine lv_iload hx hb d_M_fire_22 (lv_at hl 5 rfl) ?_
        refine lv_iload hx hb d_M_fire_24 (lv_at hl 5 rfl) ?_
        refine lv_iload_n hx hb d_M_fire_26 rfl (lv_at hl 3 rfl) ?_
        refine lv_icmp_ne (tgt := 34) hx hb d_M_fire_27 (by decide) (fun hc43 => ?_) (fun hc43 => ?_)
        · rw [if_neg hc43] at hf
          refine lv_aload_n hx hb d_M_fire_34 rfl (lv_at hl 0 rfl) ?_
          refine lv_aload_n hx hb d_M_fire_35 rfl (lv_at hl 0 rfl) ?_
          refine g_get (v := .ref (ad 65)) hC hP o_63 co_M 1 (by decide) rfl fl_M_13 rfl d_M_fire_36 ?_
          refine lv_bipush (v := (40 : Int32)) hx hb d_M_fire_39 (by decide) ?_
          refine lv_iload_n hx hb d_M_fire_41 rfl (lv_at hl 1 rfl) ?_
          refine lv_imul hx hb d_M_fire_42 ?_
          refine lv_iload hx hb d_M_fire_43 (lv_at hl 5 rfl) ?_
          refine lv_iadd hx hb d_M_fire_45 ?_
          obtain ⟨hg35, hf⟩ := gd_some hf
          refine g_iald2 (j := (((40 : Int32) * x1) + v5_3).toNatClampNeg) hC hP a_65 hg35 rfl d_M_fire_46 ?_
          obtain ⟨r37, σ38, hk36, hf⟩ := bc_some hf
          refine g_calli hS (g_runV (As := [.int (σL3.1 65 (((40 : Int32) * x1) + v5_3).toNatClampNeg)]) (rest := [.int v5_3, .ref (ad 87)]) hC hP (c_M_plainOf hj  hk36) (rk (by decide) (by decide)) nm_M_plainOf cd_M_plainOf it_WideTownModel ml_M_216 im_M_plainOf sl_M_plainOf o_63 co_M rfl hl.1 rfl (Nat.le_of_ble_eq_true rfl) d_M_fire_47 zz) (fun H locs hP hS => ?_)
          obtain ⟨hg39, hf⟩ := gd_some hf
          obtain ⟨σ40, eσ40, hf⟩ := jn_some hf
          refine g_iast2 (j := v5_3.toNatClampNeg) hC hP hS a_87 hg39 rfl d_M_fire_50 (fun H locs hP hS => ?_)
          rw [← eσ40] at hP
          refine lv_iinc (v := v5_3 + 1) (lv' := [(5, .int (v5_3 + 1)), (0, .ref (ad 63)), (1, .int x1), (2, .int x2), (3, .int x3), (4, .int u4_2)]) hx hb d_M_fire_51 hl (k := 5) rfl rfl (by decide) rfl (fun ls hl => ?_)
          refine lv_goto (tgt := 11) hx hb d_M_fire_54 (by decide) ?_
          exact ih _ _ _ _ _ hP hS (lv_sub hl [1, 2, 3, 4, 5, 0] rfl) hf
        · rw [if_pos hc43] at hf
          refine lv_iconst (v := (0 : Int32)) hx hb d_M_fire_30 (by decide) ?_
          refine lv_goto (tgt := 50) hx hb d_M_fire_31 (by decide) ?_
          obtain ⟨hg41, hf⟩ := gd_some hf
          obtain ⟨σ42, eσ42, hf⟩ := jn_some hf
          refine g_iast2 (j := v5_3.toNatClampNeg) hC hP hS a_87 hg41 rfl d_M_fire_50 (fun H locs hP hS => ?_)
          rw [← eσ42] at hP
          refine lv_iinc (v := v5_3 + 1) (lv' := [(5, .int (v5_3 + 1)), (0, .ref (ad 63)), (1, .int x1), (2, .int x2), (3, .int x3), (4, .int u4_2)]) hx hb d_M_fire_51 hl (k := 5) rfl rfl (by decide) rfl (fun ls hl => ?_)
          refine lv_goto (tgt := 11) hx hb d_M_fire_54 (by decide) ?_
          exact ih _ _ _ _ _ hP hS (lv_sub hl [1, 2, 3, 4, 5, 0] rfl) hf
  exact hL3 _ _ _ _ _ _ hP hS (lv_sub hl [2, 3, 4, 5, 1, 0] rfl) hf
set_option maxHeartbeats 4000000 in
set_option maxRecDepth 100000 in
theorem c_M_burns {l : Launch} {D : va_G} {K : Nat → ClassId} {ad : Nat → Nat} (hj : inj ad)   {x1 : Int32} {x2 : Int32} {σ : GS} {z0 : Int32 × GS} (hf : F_M_burns x1 x2 σ = some z0) : CT l D K ad y_M_burns b_M_burns 4 (some .int) 6 [.ref (ad 63), .int x1, .int x2] σ (QI D K ad z0.1 z0.2) := by
  refine CT.intro hj (by decide) (Nat.le_of_ble_eq_true rfl) ?_
  intro p e s m args below meth c ls hC hP hS hl
  obtain ⟨hx, hb, -, hown, hts, -⟩ := id hC
  have hl : lv_has ls 4 [(0, .ref (ad 63)), (1, .int x1), (2, .int x2)] := hl
  rw [F_M_burns] at hf
  refine lv_iload_n hx hb d_M_burns_0 rfl (lv_at hl 2 rfl) ?_
  refine lv_i2l hx hb d_M_burns_1 rfl ?_
  refine lv_lconst (v := (0 : Int64)) hx hb d_M_burns_2 (by decide) ?_
  refine lv_ldc2 hx hb hown (hts _ cn_M_120) d_M_burns_3 ?_
  obtain ⟨r2, hk1, hf⟩ := bp_some hf
  refine g_calli hS (g_runS (As := [.long x2.toInt64, .long (0 : Int64), .long (4 : Int64)]) (rest := []) hC hP (c_M_in hj  hk1) (rk (by decide) (by decide)) nm_M_in cd_M_in it_WideTownModel ml_M_100 sc_M_in rfl hl.1 rfl (Nat.le_of_ble_eq_true rfl) d_M_burns_6 zz) (fun H locs hP hS => ?_)
  refine lv_if_ne (tgt := 14) hx hb d_M_burns_9 (by decide) (fun hc10 => ?_) (fun hc10 => ?_)
  · rw [if_neg hc10] at hf
    refine lv_aload_n hx hb d_M_burns_14 rfl (lv_at hl 0 rfl) ?_
    refine lv_iload_n hx hb d_M_burns_15 rfl (lv_at hl 1 rfl) ?_
    refine lv_bipush (v := (20 : Int32)) hx hb d_M_burns_16 (by decide) ?_
    obtain ⟨r4, σ5, hk3, hf⟩ := bc_some hf
    refine g_calli hS (g_runV (As := [.int x1, .int (20 : Int32)]) (rest := []) hC hP (c_M_noCodes hj  hk3) (rk (by decide) (by decide)) nm_M_noCodes cd_M_noCodes it_WideTownModel ml_M_262 im_M_noCodes sl_M_noCodes o_63 co_M rfl hl.1 rfl (Nat.le_of_ble_eq_true rfl) d_M_burns_18 zz) (fun H locs hP hS => ?_)
    refine lv_istore_n (lv' := [(3, .int r4), (0, .ref (ad 63)), (1, .int x1), (2, .int x2)]) hx hb d_M_burns_21 rfl hl (by decide) rfl (fun ls hl => ?_)
    refine lv_iload_n hx hb d_M_burns_22 rfl (lv_at hl 0 rfl) ?_
    refine lv_if_ge (tgt := 30) hx hb d_M_burns_23 (by decide) (fun hc9 => ?_) (fun hc9 => ?_)
    · rw [if_pos hc9] at hf
      refine lv_aload_n hx hb d_M_burns_30 rfl (lv_at hl 1 rfl) ?_
      refine lv_iload_n hx hb d_M_burns_31 rfl (lv_at hl 2 rfl) ?_
      refine lv_iload_n hx hb d_M_burns_32 rfl (lv_at hl 3 rfl) ?_
      refine lv_bipush (v := (-9 : Int32)) hx hb d_M_burns_33 (by decide) ?_
      obtain ⟨r7, σ8, hk6, hf⟩ := bc_some hf
      refine g_calli hS (g_runV (As := [.int x1, .int x2, .int (-9 : Int32)]) (rest := []) hC hP (c_M_fire hj  hk6) (rk (by decide) (by decide)) nm_M_fire cd_M_fire it_WideTownModel ml_M_274 im_M_fire sl_M_fire o_63 co_M rfl hl.1 rfl (Nat.le_of_ble_eq_true rfl) d_M_burns_35 zz) (fun H locs hP hS => ?_)
      cases hf
      exact g_iret hC rfl hP hS d_M_burns_38
    · rw [if_neg hc9] at hf
      refine lv_iload_n hx hb d_M_burns_26 rfl (lv_at hl 0 rfl) ?_
      refine lv_goto (tgt := 38) hx hb d_M_burns_27 (by decide) ?_
      cases hf
      exact g_iret hC rfl hP hS d_M_burns_38
  · rw [if_pos hc10] at hf
    refine lv_iconst (v := (-1 : Int32)) hx hb d_M_burns_12 (by decide) ?_
    cases hf
    exact g_iret hC rfl hP hS d_M_burns_13
set_option maxHeartbeats 4000000 in
set_option maxRecDepth 100000 in
theorem c_M_held {l : Launch} {D : va_G} {K : Nat → ClassId} {ad : Nat → Nat} (hj : inj ad)   {x1 : Int32} {σ : GS} {z0 : Int32 × GS} (hf : F_M_held x1 σ = some z0) : CT l D K ad y_M_held b_M_held 6 (some .int) 6 [.ref (ad 63), .int x1] σ (QI D K ad z0.1 z0.2) := by
  refine CT.intro hj (by decide) (Nat.le_of_ble_eq_true rfl) ?_
  intro p e s m args below meth c ls hC hP hS hl
  obtain ⟨hx, hb, -, hown, hts, -⟩ := id hC
  have hl : lv_has ls 6 [(0, .ref (ad 63)), (1, .int x1)] := hl
  rw [F_M_held] at hf
  refine lv_aload_n hx hb d_M_held_0 rfl (lv_at hl 0 rfl) ?_
  refine lv_iload_n hx hb d_M_held_1 rfl (lv_at hl 1 rfl) ?_
  refine lv_bipush (v := (20 : Int32)) hx hb d_M_held_2 (by decide) ?_
  obtain ⟨r2, σ3, hk1, hf⟩ := bc_some hf
  refine g_calli hS (g_runV (As := [.int x1, .int (20 : Int32)]) (rest := []) hC hP (c_M_noCodes hj  hk1) (rk (by decide) (by decide)) nm_M_noCodes cd_M_noCodes it_WideTownModel ml_M_262 im_M_noCodes sl_M_noCodes o_63 co_M rfl hl.1 rfl (Nat.le_of_ble_eq_true rfl) d_M_held_4 zz) (fun H locs hP hS => ?_)
  refine lv_istore_n (lv' := [(2, .int r2), (0, .ref (ad 63)), (1, .int x1)]) hx hb d_M_held_7 rfl hl (by decide) rfl (fun ls hl => ?_)
  refine lv_iload_n hx hb d_M_held_8 rfl (lv_at hl 0 rfl) ?_
  refine lv_if_ge (tgt := 14) hx hb d_M_held_9 (by decide) (fun hc18 => ?_) (fun hc18 => ?_)
  · rw [if_pos hc18] at hf
    refine lv_aload_n hx hb d_M_held_14 rfl (lv_at hl 1 rfl) ?_
    refine lv_aload_n hx hb d_M_held_15 rfl (lv_at hl 1 rfl) ?_
    refine lv_iload_n hx hb d_M_held_16 rfl (lv_at hl 2 rfl) ?_
    refine lv_iconst (v := (4 : Int32)) hx hb d_M_held_17 (by decide) ?_
    refine lv_bipush (v := (-9 : Int32)) hx hb d_M_held_18 (by decide) ?_
    obtain ⟨r5, σ6, hk4, hf⟩ := bc_some hf
    refine g_calli hS (g_runV (As := [.int x1, .int (4 : Int32), .int (-9 : Int32)]) (rest := [.ref (ad 63)]) hC hP (c_M_fire hj  hk4) (rk (by decide) (by decide)) nm_M_fire cd_M_fire it_WideTownModel ml_M_274 im_M_fire sl_M_fire o_63 co_M rfl hl.1 rfl (Nat.le_of_ble_eq_true rfl) d_M_held_20 zz) (fun H locs hP hS => ?_)
    obtain ⟨r8, σ9, hk7, hf⟩ := bc_some hf
    refine g_calli hS (g_runV (As := [.int r5]) (rest := []) hC hP (c_M_tell hj  hk7) (rk (by decide) (by decide)) nm_M_tell cd_M_tell it_WideTownModel ml_M_114 im_M_tell sl_M_tell o_63 co_M rfl hl.1 rfl (Nat.le_of_ble_eq_true rfl) d_M_held_23 zz) (fun H locs hP hS => ?_)
    refine lv_istore_n (lv' := [(3, .int r8), (2, .int r2), (0, .ref (ad 63)), (1, .int x1)]) hx hb d_M_held_26 rfl hl (by decide) rfl (fun ls hl => ?_)
    refine lv_iconst (v := (1 : Int32)) hx hb d_M_held_27 (by decide) ?_
    refine lv_istore (lv' := [(4, .int (1 : Int32)), (3, .int r8), (2, .int r2), (0, .ref (ad 63)), (1, .int x1)]) hx hb d_M_held_28 hl (by decide) rfl (fun ls hl => ?_)
    refine lv_iconst (v := (0 : Int32)) hx hb d_M_held_30 (by decide) ?_
    refine lv_istore (lv' := [(5, .int (0 : Int32)), (4, .int (1 : Int32)), (3, .int r8), (2, .int r2), (0, .ref (ad 63)), (1, .int x1)]) hx hb d_M_held_31 hl (by decide) rfl (fun ls hl => ?_)
    obtain ⟨KL10_74, eKL10_74, hf⟩ := jn_some hf
    have hKL10_74 : ∀ (v4_10 : Int32) (v5_10 : Int32) (H : Heap) (locs : List Loc) (ls : Array Slot), va_P D vwCl (wG K ad σ9) H → va_S (GA ad) s.heap H locs → lv_has ls 6 [(4, .int v4_10)] → KL10_74 v4_10 v5_10 = some z0 → W p l e (rmd 6) s m args below meth c H locs 0 0 (MQ below (QI D K ad z0.1 z0.2) args s 0 0 (GA ad)) (F0 m 74 ls []) := by
      clear hf
      intro v4_10 v5_10 H locs ls hP hS hl hf
      rw [eKL10_74] at hf
      try dsimp only at hf
      refine lv_iload hx hb d_M_held_74 (lv_at hl 0 rfl) ?_
      refine lv_if_eq (tgt := 83) hx hb d_M_held_76 (by decide) (fun hc11 => ?_) (fun hc11 => ?_)
      · rw [if_pos hc11] at hf
        refine lv_iconst (v := (0 : Int32)) hx hb d_M_held_83 (by decide) ?_
        cases hf
        exact g_iret hC rfl hP hS d_M_held_84
      · rw [if_neg hc11] at hf
        refine lv_iconst (v := (1 : Int32)) hx hb d_M_held_79 (by decide) ?_
        refine lv_goto (tgt := 84) hx hb d_M_held_80 (by decide) ?_
        cases hf
        exact g_iret hC rfl hP hS d_M_held_84
    clear eKL10_74
    have hL10 : ∀ (n : Nat) (v4_10 : Int32) (v5_10 : Int32) (H : Heap) (locs : List Loc) (ls : Array Slot), va_P D vwCl (wG K ad σ9) H → va_S (GA ad) s.heap H locs → lv_has ls 6 [(0, .ref (ad 63)), (4, .int v4_10), (5, .int v5_10)] → F_M_held_33 σ9 KL10_74 n v4_10 v5_10 = some z0 → W p l e (rmd 6) s m args below meth c H locs 0 0 (MQ below (QI D K ad z0.1 z0.2) args s 0 0 (GA ad)) (F0 m 33 ls []) := by
      clear hf
      intro n
      induction n with
      | zero =>
        intro v4_10 v5_10 H locs ls hP hS hl hf
        rw [F_M_held_33.eq_1] at hf
        cases hf
      | succ n ih =>
        intro v4_10 v5_10 H locs ls hP hS hl hf
        rw [F_M_held_33.eq_2] at hf
        refine lv_iload hx hb d_M_held_33 (lv_at hl 2 rfl) ?_
        refine lv_aload_n hx hb d_M_held_35 rfl (lv_at hl 0 rfl) ?_
        refine g_get (v := .int (σ9.1 63 29)) hC hP o_63 co_M 29 (by decide) rfl fl_M_268 rfl d_M_held_36 ?_
        refine lv_icmp_ge (tgt := 74) hx hb d_M_held_39 (by decide) (fun hc17 => ?_) (fun hc17 => ?_)
        · rw [if_pos hc17] at hf
          exact hKL10_74 _ _ _ _ _ hP hS (lv_sub hl [1] rfl) hf
        · rw [if_neg hc17] at hf
          refine lv_iload hx hb d_M_held_42 (lv_at hl 1 rfl) ?_
          refine lv_if_eq (tgt := 65) hx hb d_M_held_44 (by decide) (fun hc16 => ?_) (fun hc16 => ?_)
          · rw [if_pos hc16] at hf
            refine lv_iconst (v := (0 : Int32)) hx hb d_M_held_65 (by decide) ?_
            refine lv_istore (lv' := [(4, .int (0 : Int32)), (0, .ref (ad 63)), (5, .int v5_10)]) hx hb d_M_held_66 hl (by decide) rfl (fun ls hl => ?_)
            refine lv_iinc (v := v5_10 + 1) (lv' := [(5, .int (v5_10 + 1)), (4, .int (0 : Int32)), (0, .ref (ad 63))]) hx hb d_M_held_68 hl (k := 2) rfl rfl (by decide) rfl (fun ls hl => ?_)
            refine lv_goto (tgt := 33) hx hb d_M_held_71 (by decide) ?_
            exact ih _ _ _ _ _ hP hS (lv_sub hl [2, 1, 0] rfl) hf
          · rw [if_neg hc16] at hf
            refine lv_aload_n hx hb d_M_held_47 rfl (lv_at hl 0 rfl) ?_
            refine g_get (v := .ref (ad 86)) hC hP o_63 co_M 28 (by decide) rfl fl_M_82 rfl d_M_held_48 ?_
            refine lv_iload hx hb d_M_held_51 (lv_at hl 2 rfl) ?_
            obtain ⟨hg12, hf⟩ := gd_some hf
            refine g_iald2 (j := v5_10.toNatClampNeg) hC hP a_86 hg12 rfl d_M_held_53 ?_
            obtain ⟨r14, hk13, hf⟩ := bp_some hf
            refine g_calli hS (g_runS (As := [.int (σ9.1 86 v5_10.toNatClampNeg)]) (rest := []) hC hP (c_M_figures hj  hk13) (rk (by decide) (by decide)) nm_M_figures cd_M_figures it_WideTownModel ml_M_162 sc_M_figures rfl hl.1 rfl (Nat.le_of_ble_eq_true rfl) d_M_held_54 zz) (fun H locs hP hS => ?_)
            refine lv_iconst (v := (4 : Int32)) hx hb d_M_held_57 (by decide) ?_
            refine lv_icmp_ge (tgt := 65) hx hb d_M_held_58 (by decide) (fun hc15 => ?_) (fun hc15 => ?_)
            · rw [if_pos hc15] at hf
              refine lv_iconst (v := (0 : Int32)) hx hb d_M_held_65 (by decide) ?_
              refine lv_istore (lv' := [(4, .int (0 : Int32)), (0, .ref (ad 63)), (5, .int v5_10)]) hx hb d_M_held_66 hl (by decide) rfl (fun ls hl => ?_)
              refine lv_iinc (v := v5_10 + 1) (lv' := [(5, .int (v5_10 + 1)), (4, .int (0 : Int32)), (0, .ref (ad 63))]) hx hb d_M_held_68 hl (k := 2) rfl rfl (by decide) rfl (fun ls hl => ?_)
              refine lv_goto (tgt := 33) hx hb d_M_held_71 (by decide) ?_
              exact ih _ _ _ _ _ hP hS (lv_sub hl [2, 1, 0] rfl) hf
            · rw [if_neg hc15] at hf
              refine lv_iconst (v := (1 : Int32)) hx hb d_M_held_61 (by decide) ?_
              refine lv_goto (tgt := 66) hx hb d_M_held_62 (by decide) ?_
              refine lv_istore (lv' := [(4, .int (1 : Int32)), (0, .ref (ad 63)), (5, .int v5_10)]) hx hb d_M_held_66 hl (by decide) rfl (fun ls hl => ?_)
              refine lv_iinc (v := v5_10 + 1) (lv' := [(5, .int (v5_10 + 1)), (4, .int (1 : Int32)), (0, .ref (ad 63))]) hx hb d_M_held_68 hl (k := 2) rfl rfl (by decide) rfl (fun ls hl => ?_)
              refine lv_goto (tgt := 33) hx hb d_M_held_71 (by decide) ?_
              exact ih _ _ _ _ _ hP hS (lv_sub hl [2, 1, 0] rfl) hf
    exact hL10 _ _ _ _ _ _ hP hS (lv_sub hl [4, 1, 0] rfl) hf
  · rw [if_neg hc18] at hf
    refine lv_iload_n hx hb d_M_held_12 rfl (lv_at hl 0 rfl) ?_
    cases hf
    exact g_iret hC rfl hP hS d_M_held_13
set_option maxHeartbeats 4000000 in
set_option maxRecDepth 100000 in
theorem c_M_idle {l : Launch} {D : va_G} {K : Nat → ClassId} {ad : Nat → Nat} (hj : inj ad)   {x1 : Int32} {σ : GS} {z0 : Int32 × GS} (hf : F_M_idle x1 σ = some z0) : CT l D K ad y_M_idle b_M_idle 5 (some .int) 6 [.ref (ad 63), .int x1] σ (QI D K ad z0.1 z0.2) := by
  refine CT.intro hj (by decide) (Nat.le_of_ble_eq_true rfl) ?_
  intro p e s m args below meth c ls hC hP hS hl
  obtain ⟨hx, hb, -, hown, hts, -⟩ := id hC
  have hl : lv_has ls 5 [(0, .ref (ad 63)), (1, .int x1)] := hl
  rw [F_M_idle] at hf
  refine lv_aload_n hx hb d_M_idle_0 rfl (lv_at hl 0 rfl) ?_
  refine lv_iload_n hx hb d_M_idle_1 rfl (lv_at hl 1 rfl) ?_
  refine lv_bipush (v := (20 : Int32)) hx hb d_M_idle_2 (by decide) ?_
  obtain ⟨r2, σ3, hk1, hf⟩ := bc_some hf
  refine g_calli hS (g_runV (As := [.int x1, .int (20 : Int32)]) (rest := []) hC hP (c_M_noCodes hj  hk1) (rk (by decide) (by decide)) nm_M_noCodes cd_M_noCodes it_WideTownModel ml_M_262 im_M_noCodes sl_M_noCodes o_63 co_M rfl hl.1 rfl (Nat.le_of_ble_eq_true rfl) d_M_idle_4 zz) (fun H locs hP hS => ?_)
  refine lv_istore_n (lv' := [(2, .int r2), (0, .ref (ad 63)), (1, .int x1)]) hx hb d_M_idle_7 rfl hl (by decide) rfl (fun ls hl => ?_)
  refine lv_iload_n hx hb d_M_idle_8 rfl (lv_at hl 0 rfl) ?_
  refine lv_if_ge (tgt := 14) hx hb d_M_idle_9 (by decide) (fun hc14 => ?_) (fun hc14 => ?_)
  · rw [if_pos hc14] at hf
    refine lv_aload_n hx hb d_M_idle_14 rfl (lv_at hl 1 rfl) ?_
    refine lv_iload_n hx hb d_M_idle_15 rfl (lv_at hl 2 rfl) ?_
    refine lv_iconst (v := (4 : Int32)) hx hb d_M_idle_16 (by decide) ?_
    refine lv_bipush (v := (-9 : Int32)) hx hb d_M_idle_17 (by decide) ?_
    obtain ⟨r5, σ6, hk4, hf⟩ := bc_some hf
    refine g_calli hS (g_runV (As := [.int x1, .int (4 : Int32), .int (-9 : Int32)]) (rest := []) hC hP (c_M_fire hj  hk4) (rk (by decide) (by decide)) nm_M_fire cd_M_fire it_WideTownModel ml_M_274 im_M_fire sl_M_fire o_63 co_M rfl hl.1 rfl (Nat.le_of_ble_eq_true rfl) d_M_idle_19 zz) (fun H locs hP hS => ?_)
    refine lv_istore_n (lv' := [(3, .int r5), (2, .int r2), (0, .ref (ad 63)), (1, .int x1)]) hx hb d_M_idle_22 rfl hl (by decide) rfl (fun ls hl => ?_)
    refine lv_iconst (v := (0 : Int32)) hx hb d_M_idle_23 (by decide) ?_
    refine lv_istore (lv' := [(4, .int (0 : Int32)), (3, .int r5), (2, .int r2), (0, .ref (ad 63)), (1, .int x1)]) hx hb d_M_idle_24 hl (by decide) rfl (fun ls hl => ?_)
    obtain ⟨KL7_58, eKL7_58, hf⟩ := jn_some hf
    have hKL7_58 : ∀ (v4_7 : Int32) (σL7 : GS) (H : Heap) (locs : List Loc) (ls : Array Slot), va_P D vwCl (wG K ad σL7) H → va_S (GA ad) s.heap H locs → lv_has ls 5 [] → KL7_58 v4_7 σL7 = some z0 → W p l e (rmd 6) s m args below meth c H locs 0 0 (MQ below (QI D K ad z0.1 z0.2) args s 0 0 (GA ad)) (F0 m 58 ls []) := by
      clear hf
      intro v4_7 σL7 H locs ls hP hS hl hf
      rw [eKL7_58] at hf
      try dsimp only at hf
      refine lv_bipush (v := (-9 : Int32)) hx hb d_M_idle_58 (by decide) ?_
      cases hf
      exact g_iret hC rfl hP hS d_M_idle_60
    clear eKL7_58
    have hL7 : ∀ (n : Nat) (v4_7 : Int32) (σL7 : GS) (H : Heap) (locs : List Loc) (ls : Array Slot), va_P D vwCl (wG K ad σL7) H → va_S (GA ad) s.heap H locs → lv_has ls 5 [(0, .ref (ad 63)), (1, .int x1), (3, .int r5), (4, .int v4_7)] → F_M_idle_26 x1 r5 KL7_58 n v4_7 σL7 = some z0 → W p l e (rmd 6) s m args below meth c H locs 0 0 (MQ below (QI D K ad z0.1 z0.2) args s 0 0 (GA ad)) (F0 m 26 ls []) := by
      clear hf
      intro n
      induction n with
      | zero =>
        intro v4_7 σL7 H locs ls hP hS hl hf
        rw [F_M_idle_26.eq_1] at hf
        cases hf
      | succ n ih =>
        intro v4_7 σL7 H locs ls hP hS hl hf
        rw [F_M_idle_26.eq_2] at hf
        refine lv_iload hx hb d_M_idle_26 (lv_at hl 3 rfl) ?_
        refine lv_aload_n hx hb d_M_idle_28 rfl (lv_at hl 0 rfl) ?_
        refine g_get (v := .ref (ad 64)) hC hP o_63 co_M 0 (by decide) rfl fl_M_7 rfl d_M_idle_29 ?_
        refine lv_iload_n hx hb d_M_idle_32 rfl (lv_at hl 1 rfl) ?_
        obtain ⟨hg8, hf⟩ := gd_some hf
        refine g_iald2 (j := x1.toNatClampNeg) hC hP a_64 hg8 rfl d_M_idle_33 ?_
        refine lv_icmp_ge (tgt := 58) hx hb d_M_idle_34 (by decide) (fun hc13 => ?_) (fun hc13 => ?_)
        · rw [if_pos hc13] at hf
          exact hKL7_58 _ _ _ _ _ hP hS (lv_sub hl [] rfl) hf
        · rw [if_neg hc13] at hf
          refine lv_aload_n hx hb d_M_idle_37 rfl (lv_at hl 0 rfl) ?_
          refine lv_iload_n hx hb d_M_idle_38 rfl (lv_at hl 1 rfl) ?_
          refine lv_iconst (v := (4 : Int32)) hx hb d_M_idle_39 (by decide) ?_
          refine lv_iload hx hb d_M_idle_40 (lv_at hl 3 rfl) ?_
          obtain ⟨r10, σ11, hk9, hf⟩ := bc_some hf
          refine g_calli hS (g_runV (As := [.int x1, .int (4 : Int32), .int v4_7]) (rest := []) hC hP (c_M_fire hj  hk9) (rk (by decide) (by decide)) nm_M_fire cd_M_fire it_WideTownModel ml_M_274 im_M_fire sl_M_fire o_63 co_M rfl hl.1 rfl (Nat.le_of_ble_eq_true rfl) d_M_idle_42 zz) (fun H locs hP hS => ?_)
          refine lv_iload_n hx hb d_M_idle_45 rfl (lv_at hl 2 rfl) ?_
          refine lv_icmp_ne (tgt := 52) hx hb d_M_idle_46 (by decide) (fun hc12 => ?_) (fun hc12 => ?_)
          · rw [if_neg hc12] at hf
            refine lv_iinc (v := v4_7 + 1) (lv' := [(4, .int (v4_7 + 1)), (0, .ref (ad 63)), (1, .int x1), (3, .int r5)]) hx hb d_M_idle_52 hl (k := 3) rfl rfl (by decide) rfl (fun ls hl => ?_)
            refine lv_goto (tgt := 26) hx hb d_M_idle_55 (by decide) ?_
            exact ih _ _ _ _ _ hP hS (lv_sub hl [1, 2, 3, 0] rfl) hf
          · rw [if_pos hc12] at hf
            refine lv_iload hx hb d_M_idle_49 (lv_at hl 3 rfl) ?_
            cases hf
            exact g_iret hC rfl hP hS d_M_idle_51
    exact hL7 _ _ _ _ _ _ hP hS (lv_sub hl [3, 4, 1, 0] rfl) hf
  · rw [if_neg hc14] at hf
    refine lv_iload_n hx hb d_M_idle_12 rfl (lv_at hl 0 rfl) ?_
    cases hf
    exact g_iret hC rfl hP hS d_M_idle_13
set_option maxHeartbeats 4000000 in
set_option maxRecDepth 100000 in
theorem c_M_areTwo {l : Launch} {D : va_G} {K : Nat → ClassId} {ad : Nat → Nat} (hj : inj ad)   {x1 : Int32} {x2 : Int32} {σ : GS} {z0 : Int32} (hf : F_M_areTwo x1 x2 σ = some z0) : CT l D K ad y_M_areTwo b_M_areTwo 3 (some .boolean) 2 [.ref (ad 63), .int x1, .int x2] σ (QI D K ad z0 σ) := by
  refine CT.intro hj (by decide) (Nat.le_of_ble_eq_true rfl) ?_
  intro p e s m args below meth c ls hC hP hS hl
  obtain ⟨hx, hb, -, hown, hts, -⟩ := id hC
  have hl : lv_has ls 3 [(0, .ref (ad 63)), (1, .int x1), (2, .int x2)] := hl
  rw [F_M_areTwo] at hf
  refine lv_aload_n hx hb d_M_areTwo_0 rfl (lv_at hl 0 rfl) ?_
  refine lv_iload_n hx hb d_M_areTwo_1 rfl (lv_at hl 1 rfl) ?_
  obtain ⟨r2, hk1, hf⟩ := bp_some hf
  refine g_calli hS (g_runV (As := [.int x1]) (rest := []) hC hP (c_M_isWalker hj  hk1) (rk (by decide) (by decide)) nm_M_isWalker cd_M_isWalker it_WideTownModel ml_M_191 im_M_isWalker sl_M_isWalker o_63 co_M rfl hl.1 rfl (Nat.le_of_ble_eq_true rfl) d_M_areTwo_2 zz) (fun H locs hP hS => ?_)
  refine lv_if_eq (tgt := 25) hx hb d_M_areTwo_5 (by decide) (fun hc7 => ?_) (fun hc7 => ?_)
  · rw [if_pos hc7] at hf
    refine lv_iconst (v := (0 : Int32)) hx hb d_M_areTwo_25 (by decide) ?_
    cases hf
    exact g_zret hC rfl (by decide) hP hS d_M_areTwo_26
  · rw [if_neg hc7] at hf
    refine lv_aload_n hx hb d_M_areTwo_8 rfl (lv_at hl 0 rfl) ?_
    refine lv_iload_n hx hb d_M_areTwo_9 rfl (lv_at hl 2 rfl) ?_
    obtain ⟨r4, hk3, hf⟩ := bp_some hf
    refine g_calli hS (g_runV (As := [.int x2]) (rest := []) hC hP (c_M_isWalker hj  hk3) (rk (by decide) (by decide)) nm_M_isWalker cd_M_isWalker it_WideTownModel ml_M_191 im_M_isWalker sl_M_isWalker o_63 co_M rfl hl.1 rfl (Nat.le_of_ble_eq_true rfl) d_M_areTwo_10 zz) (fun H locs hP hS => ?_)
    refine lv_if_eq (tgt := 25) hx hb d_M_areTwo_13 (by decide) (fun hc6 => ?_) (fun hc6 => ?_)
    · rw [if_pos hc6] at hf
      refine lv_iconst (v := (0 : Int32)) hx hb d_M_areTwo_25 (by decide) ?_
      cases hf
      exact g_zret hC rfl (by decide) hP hS d_M_areTwo_26
    · rw [if_neg hc6] at hf
      refine lv_iload_n hx hb d_M_areTwo_16 rfl (lv_at hl 1 rfl) ?_
      refine lv_iload_n hx hb d_M_areTwo_17 rfl (lv_at hl 2 rfl) ?_
      refine lv_icmp_eq (tgt := 25) hx hb d_M_areTwo_18 (by decide) (fun hc5 => ?_) (fun hc5 => ?_)
      · rw [if_pos hc5] at hf
        refine lv_iconst (v := (0 : Int32)) hx hb d_M_areTwo_25 (by decide) ?_
        cases hf
        exact g_zret hC rfl (by decide) hP hS d_M_areTwo_26
      · rw [if_neg hc5] at hf
        refine lv_iconst (v := (1 : Int32)) hx hb d_M_areTwo_21 (by decide) ?_
        refine lv_goto (tgt := 26) hx hb d_M_areTwo_22 (by decide) ?_
        cases hf
        exact g_zret hC rfl (by decide) hP hS d_M_areTwo_26
set_option maxHeartbeats 4000000 in
set_option maxRecDepth 100000 in
theorem c_M_meet {l : Launch} {D : va_G} {K : Nat → ClassId} {ad : Nat → Nat} (hj : inj ad)   {x1 : Int32} {x2 : Int32} {σ : GS} {z0 : Int32 × GS} (hf : F_M_meet x1 x2 σ = some z0) : CT l D K ad y_M_meet b_M_meet 5 (some .int) 6 [.ref (ad 63), .int x1, .int x2] σ (QI D K ad z0.1 z0.2) := by
  refine CT.intro hj (by decide) (Nat.le_of_ble_eq_true rfl) ?_
  intro p e s m args below meth c ls hC hP hS hl
  obtain ⟨hx, hb, -, hown, hts, -⟩ := id hC
  have hl : lv_has ls 5 [(0, .ref (ad 63)), (1, .int x1), (2, .int x2)] := hl
  rw [F_M_meet] at hf
  refine lv_aload_n hx hb d_M_meet_0 rfl (lv_at hl 0 rfl) ?_
  refine lv_iload_n hx hb d_M_meet_1 rfl (lv_at hl 1 rfl) ?_
  refine lv_iload_n hx hb d_M_meet_2 rfl (lv_at hl 2 rfl) ?_
  obtain ⟨r2, hk1, hf⟩ := bp_some hf
  refine g_calli hS (g_runV (As := [.int x1, .int x2]) (rest := []) hC hP (c_M_areTwo hj  hk1) (rk (by decide) (by decide)) nm_M_areTwo cd_M_areTwo it_WideTownModel ml_M_278 im_M_areTwo sl_M_areTwo o_63 co_M rfl hl.1 rfl (Nat.le_of_ble_eq_true rfl) d_M_meet_3 zz) (fun H locs hP hS => ?_)
  refine lv_if_ne (tgt := 11) hx hb d_M_meet_6 (by decide) (fun hc18 => ?_) (fun hc18 => ?_)
  · rw [if_neg hc18] at hf
    refine lv_aload_n hx hb d_M_meet_11 rfl (lv_at hl 0 rfl) ?_
    obtain ⟨σ4, hk3, hf⟩ := bv_some hf
    refine g_callv hS (g_runV (As := []) (rest := []) hC hP (c_M_tries hj  hk3) (rk (by decide) (by decide)) nm_M_tries cd_M_tries it_WideTownModel ml_M_201 im_M_tries sl_M_tries o_63 co_M rfl hl.1 rfl (Nat.le_of_ble_eq_true rfl) d_M_meet_12 zz) (fun H locs hP hS => ?_)
    refine lv_iconst (v := (0 : Int32)) hx hb d_M_meet_15 (by decide) ?_
    refine lv_istore_n (lv' := [(3, .int (0 : Int32)), (0, .ref (ad 63)), (1, .int x1), (2, .int x2)]) hx hb d_M_meet_16 rfl hl (by decide) rfl (fun ls hl => ?_)
    obtain ⟨KL5_85, eKL5_85, hf⟩ := jn_some hf
    have hKL5_85 : ∀ (v3_5 : Int32) (σL5 : GS) (H : Heap) (locs : List Loc) (ls : Array Slot), va_P D vwCl (wG K ad σL5) H → va_S (GA ad) s.heap H locs → lv_has ls 5 [] → KL5_85 v3_5 σL5 = some z0 → W p l e (rmd 6) s m args below meth c H locs 0 0 (MQ below (QI D K ad z0.1 z0.2) args s 0 0 (GA ad)) (F0 m 85 ls []) := by
      clear hf
      intro v3_5 σL5 H locs ls hP hS hl hf
      rw [eKL5_85] at hf
      try dsimp only at hf
      refine lv_bipush (v := (-9 : Int32)) hx hb d_M_meet_85 (by decide) ?_
      cases hf
      exact g_iret hC rfl hP hS d_M_meet_87
    clear eKL5_85
    have hL5 : ∀ (n : Nat) (v3_5 : Int32) (σL5 : GS) (H : Heap) (locs : List Loc) (ls : Array Slot), va_P D vwCl (wG K ad σL5) H → va_S (GA ad) s.heap H locs → lv_has ls 5 [(0, .ref (ad 63)), (1, .int x1), (2, .int x2), (3, .int v3_5)] → F_M_meet_17 x1 x2 KL5_85 n v3_5 σL5 = some z0 → W p l e (rmd 6) s m args below meth c H locs 0 0 (MQ below (QI D K ad z0.1 z0.2) args s 0 0 (GA ad)) (F0 m 17 ls []) := by
      clear hf
      intro n
      induction n with
      | zero =>
        intro v3_5 σL5 H locs ls hP hS hl hf
        rw [F_M_meet_17.eq_1] at hf
        cases hf
      | succ n ih =>
        intro v3_5 σL5 H locs ls hP hS hl hf
        rw [F_M_meet_17.eq_2] at hf
        refine lv_iload_n hx hb d_M_meet_17 rfl (lv_at hl 3 rfl) ?_
        refine lv_bipush (v := (40 : Int32)) hx hb d_M_meet_18 (by decide) ?_
        refine lv_icmp_gt (tgt := 85) hx hb d_M_meet_20 (by decide) (fun hc17 => ?_) (fun hc17 => ?_)
        · rw [if_pos hc17] at hf
          exact hKL5_85 _ _ _ _ _ hP hS (lv_sub hl [] rfl) hf
        · rw [if_neg hc17] at hf
          refine lv_aload_n hx hb d_M_meet_23 rfl (lv_at hl 0 rfl) ?_
          refine g_get (v := .ref (ad 80)) hC hP o_63 co_M 21 (by decide) rfl fl_M_63 rfl d_M_meet_24 ?_
          refine lv_bipush (v := (7 : Int32)) hx hb d_M_meet_27 (by decide) ?_
          refine lv_iload_n hx hb d_M_meet_29 rfl (lv_at hl 1 rfl) ?_
          refine lv_iadd hx hb d_M_meet_30 ?_
          obtain ⟨hg6, hf⟩ := gd_some hf
          refine g_iald2 (j := ((7 : Int32) + x1).toNatClampNeg) hC hP a_80 hg6 rfl d_M_meet_31 ?_
          refine lv_aload_n hx hb d_M_meet_32 rfl (lv_at hl 0 rfl) ?_
          refine g_get (v := .ref (ad 80)) hC hP o_63 co_M 21 (by decide) rfl fl_M_63 rfl d_M_meet_33 ?_
          refine lv_bipush (v := (7 : Int32)) hx hb d_M_meet_36 (by decide) ?_
          refine lv_iload_n hx hb d_M_meet_38 rfl (lv_at hl 2 rfl) ?_
          refine lv_iadd hx hb d_M_meet_39 ?_
          obtain ⟨hg7, hf⟩ := gd_some hf
          refine g_iald2 (j := ((7 : Int32) + x2).toNatClampNeg) hC hP a_80 hg7 rfl d_M_meet_40 ?_
          refine lv_icmp_ne (tgt := 61) hx hb d_M_meet_41 (by decide) (fun hc16 => ?_) (fun hc16 => ?_)
          · rw [if_neg hc16] at hf
            refine lv_aload_n hx hb d_M_meet_61 rfl (lv_at hl 0 rfl) ?_
            refine lv_aload_n hx hb d_M_meet_62 rfl (lv_at hl 0 rfl) ?_
            refine g_get (v := .ref (ad 80)) hC hP o_63 co_M 21 (by decide) rfl fl_M_63 rfl d_M_meet_63 ?_
            refine lv_iload_n hx hb d_M_meet_66 rfl (lv_at hl 1 rfl) ?_
            obtain ⟨σ9, hk8, hf⟩ := bv_some hf
            refine g_callv hS (g_runV (As := [.ref (ad 80), .int x1]) (rest := []) hC hP (c_M_hourOf hj a_80 hk8) (rk (by decide) (by decide)) nm_M_hourOf cd_M_hourOf it_WideTownModel ml_M_210 im_M_hourOf sl_M_hourOf o_63 co_M rfl hl.1 rfl (Nat.le_of_ble_eq_true rfl) d_M_meet_67 zz) (fun H locs hP hS => ?_)
            refine lv_aload_n hx hb d_M_meet_70 rfl (lv_at hl 0 rfl) ?_
            refine lv_aload_n hx hb d_M_meet_71 rfl (lv_at hl 0 rfl) ?_
            refine g_get (v := .ref (ad 80)) hC hP o_63 co_M 21 (by decide) rfl fl_M_63 rfl d_M_meet_72 ?_
            refine lv_iload_n hx hb d_M_meet_75 rfl (lv_at hl 2 rfl) ?_
            obtain ⟨σ11, hk10, hf⟩ := bv_some hf
            refine g_callv hS (g_runV (As := [.ref (ad 80), .int x2]) (rest := []) hC hP (c_M_hourOf hj a_80 hk10) (rk (by decide) (by decide)) nm_M_hourOf cd_M_hourOf it_WideTownModel ml_M_210 im_M_hourOf sl_M_hourOf o_63 co_M rfl hl.1 rfl (Nat.le_of_ble_eq_true rfl) d_M_meet_76 zz) (fun H locs hP hS => ?_)
            refine lv_iinc (v := v3_5 + 1) (lv' := [(3, .int (v3_5 + 1)), (0, .ref (ad 63)), (1, .int x1), (2, .int x2)]) hx hb d_M_meet_79 hl (k := 3) rfl rfl (by decide) rfl (fun ls hl => ?_)
            refine lv_goto (tgt := 17) hx hb d_M_meet_82 (by decide) ?_
            exact ih _ _ _ _ _ hP hS (lv_sub hl [1, 2, 3, 0] rfl) hf
          · rw [if_pos hc16] at hf
            refine lv_aload_n hx hb d_M_meet_44 rfl (lv_at hl 0 rfl) ?_
            refine lv_aload_n hx hb d_M_meet_45 rfl (lv_at hl 0 rfl) ?_
            refine g_get (v := .ref (ad 80)) hC hP o_63 co_M 21 (by decide) rfl fl_M_63 rfl d_M_meet_46 ?_
            refine lv_bipush (v := (7 : Int32)) hx hb d_M_meet_49 (by decide) ?_
            refine lv_iload_n hx hb d_M_meet_51 rfl (lv_at hl 1 rfl) ?_
            refine lv_iadd hx hb d_M_meet_52 ?_
            obtain ⟨hg12, hf⟩ := gd_some hf
            refine g_iald2 (j := ((7 : Int32) + x1).toNatClampNeg) hC hP a_80 hg12 rfl d_M_meet_53 ?_
            obtain ⟨r14, σ15, hk13, hf⟩ := bc_some hf
            refine g_calli hS (g_runV (As := [.int (σL5.1 80 ((7 : Int32) + x1).toNatClampNeg)]) (rest := []) hC hP (c_M_tell hj  hk13) (rk (by decide) (by decide)) nm_M_tell cd_M_tell it_WideTownModel ml_M_114 im_M_tell sl_M_tell o_63 co_M rfl hl.1 rfl (Nat.le_of_ble_eq_true rfl) d_M_meet_54 zz) (fun H locs hP hS => ?_)
            refine lv_istore (lv' := [(4, .int r14), (0, .ref (ad 63)), (1, .int x1), (2, .int x2), (3, .int v3_5)]) hx hb d_M_meet_57 hl (by decide) rfl (fun ls hl => ?_)
            refine lv_iload_n hx hb d_M_meet_59 rfl (lv_at hl 4 rfl) ?_
            cases hf
            exact g_iret hC rfl hP hS d_M_meet_60
    exact hL5 _ _ _ _ _ _ hP hS (lv_sub hl [1, 2, 3, 0] rfl) hf
  · rw [if_pos hc18] at hf
    refine lv_iconst (v := (-1 : Int32)) hx hb d_M_meet_9 (by decide) ?_
    cases hf
    exact g_iret hC rfl hP hS d_M_meet_10
set_option maxHeartbeats 4000000 in
set_option maxRecDepth 100000 in
theorem c_M_part {l : Launch} {D : va_G} {K : Nat → ClassId} {ad : Nat → Nat} (hj : inj ad)   {x1 : Int32} {x2 : Int32} {x3 : Int32} {σ : GS} {z0 : Int32 × GS} (hf : F_M_part x1 x2 x3 σ = some z0) : CT l D K ad y_M_part b_M_part 5 (some .int) 6 [.ref (ad 63), .int x1, .int x2, .int x3] σ (QI D K ad z0.1 z0.2) := by
  refine CT.intro hj (by decide) (Nat.le_of_ble_eq_true rfl) ?_
  intro p e s m args below meth c ls hC hP hS hl
  obtain ⟨hx, hb, -, hown, hts, -⟩ := id hC
  have hl : lv_has ls 5 [(0, .ref (ad 63)), (1, .int x1), (2, .int x2), (3, .int x3)] := hl
  rw [F_M_part] at hf
  refine lv_aload_n hx hb d_M_part_0 rfl (lv_at hl 0 rfl) ?_
  refine lv_iload_n hx hb d_M_part_1 rfl (lv_at hl 1 rfl) ?_
  refine lv_iload_n hx hb d_M_part_2 rfl (lv_at hl 2 rfl) ?_
  obtain ⟨r2, hk1, hf⟩ := bp_some hf
  refine g_calli hS (g_runV (As := [.int x1, .int x2]) (rest := []) hC hP (c_M_areTwo hj  hk1) (rk (by decide) (by decide)) nm_M_areTwo cd_M_areTwo it_WideTownModel ml_M_278 im_M_areTwo sl_M_areTwo o_63 co_M rfl hl.1 rfl (Nat.le_of_ble_eq_true rfl) d_M_part_3 zz) (fun H locs hP hS => ?_)
  refine lv_if_eq (tgt := 21) hx hb d_M_part_6 (by decide) (fun hc19 => ?_) (fun hc19 => ?_)
  · rw [if_pos hc19] at hf
    refine lv_iconst (v := (-1 : Int32)) hx hb d_M_part_21 (by decide) ?_
    cases hf
    exact g_iret hC rfl hP hS d_M_part_22
  · rw [if_neg hc19] at hf
    refine lv_iload_n hx hb d_M_part_9 rfl (lv_at hl 3 rfl) ?_
    refine lv_i2l hx hb d_M_part_10 rfl ?_
    refine lv_lconst (v := (0 : Int64)) hx hb d_M_part_11 (by decide) ?_
    refine lv_ldc2 hx hb hown (hts _ cn_M_281) d_M_part_12 ?_
    obtain ⟨r4, hk3, hf⟩ := bp_some hf
    refine g_calli hS (g_runS (As := [.long x3.toInt64, .long (0 : Int64), .long (40 : Int64)]) (rest := []) hC hP (c_M_in hj  hk3) (rk (by decide) (by decide)) nm_M_in cd_M_in it_WideTownModel ml_M_100 sc_M_in rfl hl.1 rfl (Nat.le_of_ble_eq_true rfl) d_M_part_15 zz) (fun H locs hP hS => ?_)
    refine lv_if_ne (tgt := 23) hx hb d_M_part_18 (by decide) (fun hc18 => ?_) (fun hc18 => ?_)
    · rw [if_neg hc18] at hf
      refine lv_aload_n hx hb d_M_part_23 rfl (lv_at hl 0 rfl) ?_
      obtain ⟨σ6, hk5, hf⟩ := bv_some hf
      refine g_callv hS (g_runV (As := []) (rest := []) hC hP (c_M_tries hj  hk5) (rk (by decide) (by decide)) nm_M_tries cd_M_tries it_WideTownModel ml_M_201 im_M_tries sl_M_tries o_63 co_M rfl hl.1 rfl (Nat.le_of_ble_eq_true rfl) d_M_part_24 zz) (fun H locs hP hS => ?_)
      refine lv_iconst (v := (0 : Int32)) hx hb d_M_part_27 (by decide) ?_
      refine lv_istore (lv' := [(4, .int (0 : Int32)), (0, .ref (ad 63)), (1, .int x1), (2, .int x2), (3, .int x3)]) hx hb d_M_part_28 hl (by decide) rfl (fun ls hl => ?_)
      obtain ⟨KL7_60, eKL7_60, hf⟩ := jn_some hf
      have hKL7_60 : ∀ (v4_7 : Int32) (σL7 : GS) (H : Heap) (locs : List Loc) (ls : Array Slot), va_P D vwCl (wG K ad σL7) H → va_S (GA ad) s.heap H locs → lv_has ls 5 [(0, .ref (ad 63)), (1, .int x1), (2, .int x2)] → KL7_60 v4_7 σL7 = some z0 → W p l e (rmd 6) s m args below meth c H locs 0 0 (MQ below (QI D K ad z0.1 z0.2) args s 0 0 (GA ad)) (F0 m 60 ls []) := by
        clear hf
        intro v4_7 σL7 H locs ls hP hS hl hf
        rw [eKL7_60] at hf
        try dsimp only at hf
        refine lv_aload_n hx hb d_M_part_60 rfl (lv_at hl 0 rfl) ?_
        refine lv_aload_n hx hb d_M_part_61 rfl (lv_at hl 0 rfl) ?_
        refine g_get (v := .ref (ad 80)) hC hP o_63 co_M 21 (by decide) rfl fl_M_63 rfl d_M_part_62 ?_
        refine lv_bipush (v := (7 : Int32)) hx hb d_M_part_65 (by decide) ?_
        refine lv_iload_n hx hb d_M_part_67 rfl (lv_at hl 1 rfl) ?_
        refine lv_iadd hx hb d_M_part_68 ?_
        obtain ⟨hg8, hf⟩ := gd_some hf
        refine g_iald2 (j := ((7 : Int32) + x1).toNatClampNeg) hC hP a_80 hg8 rfl d_M_part_69 ?_
        refine lv_aload_n hx hb d_M_part_70 rfl (lv_at hl 0 rfl) ?_
        refine g_get (v := .ref (ad 80)) hC hP o_63 co_M 21 (by decide) rfl fl_M_63 rfl d_M_part_71 ?_
        refine lv_bipush (v := (7 : Int32)) hx hb d_M_part_74 (by decide) ?_
        refine lv_iload_n hx hb d_M_part_76 rfl (lv_at hl 2 rfl) ?_
        refine lv_iadd hx hb d_M_part_77 ?_
        obtain ⟨hg9, hf⟩ := gd_some hf
        refine g_iald2 (j := ((7 : Int32) + x2).toNatClampNeg) hC hP a_80 hg9 rfl d_M_part_78 ?_
        obtain ⟨r11, σ12, hk10, hf⟩ := bc_some hf
        refine g_calli hS (g_runV (As := [.int (σL7.1 80 ((7 : Int32) + x1).toNatClampNeg), .int (σL7.1 80 ((7 : Int32) + x2).toNatClampNeg)]) (rest := []) hC hP (c_M_farOf hj  hk10) (rk (by decide) (by decide)) nm_M_farOf cd_M_farOf it_WideTownModel ml_M_204 im_M_farOf sl_M_farOf o_63 co_M rfl hl.1 rfl (Nat.le_of_ble_eq_true rfl) d_M_part_79 zz) (fun H locs hP hS => ?_)
        cases hf
        exact g_iret hC rfl hP hS d_M_part_82
      clear eKL7_60
      have hL7 : ∀ (n : Nat) (v4_7 : Int32) (σL7 : GS) (H : Heap) (locs : List Loc) (ls : Array Slot), va_P D vwCl (wG K ad σL7) H → va_S (GA ad) s.heap H locs → lv_has ls 5 [(0, .ref (ad 63)), (1, .int x1), (2, .int x2), (3, .int x3), (4, .int v4_7)] → F_M_part_30 x1 x2 x3 KL7_60 n v4_7 σL7 = some z0 → W p l e (rmd 6) s m args below meth c H locs 0 0 (MQ below (QI D K ad z0.1 z0.2) args s 0 0 (GA ad)) (F0 m 30 ls []) := by
        clear hf
        intro n
        induction n with
        | zero =>
          intro v4_7 σL7 H locs ls hP hS hl hf
          rw [F_M_part_30.eq_1] at hf
          cases hf
        | succ n ih =>
          intro v4_7 σL7 H locs ls hP hS hl hf
          rw [F_M_part_30.eq_2] at hf
          refine lv_iload hx hb d_M_part_30 (lv_at hl 4 rfl) ?_
          refine lv_iload_n hx hb d_M_part_32 rfl (lv_at hl 3 rfl) ?_
          refine lv_icmp_ge (tgt := 60) hx hb d_M_part_33 (by decide) (fun hc17 => ?_) (fun hc17 => ?_)
          · rw [if_pos hc17] at hf
            exact hKL7_60 _ _ _ _ _ hP hS (lv_sub hl [0, 1, 2] rfl) hf
          · rw [if_neg hc17] at hf
            refine lv_aload_n hx hb d_M_part_36 rfl (lv_at hl 0 rfl) ?_
            refine lv_aload_n hx hb d_M_part_37 rfl (lv_at hl 0 rfl) ?_
            refine g_get (v := .ref (ad 80)) hC hP o_63 co_M 21 (by decide) rfl fl_M_63 rfl d_M_part_38 ?_
            refine lv_iload_n hx hb d_M_part_41 rfl (lv_at hl 1 rfl) ?_
            obtain ⟨σ14, hk13, hf⟩ := bv_some hf
            refine g_callv hS (g_runV (As := [.ref (ad 80), .int x1]) (rest := []) hC hP (c_M_hourOf hj a_80 hk13) (rk (by decide) (by decide)) nm_M_hourOf cd_M_hourOf it_WideTownModel ml_M_210 im_M_hourOf sl_M_hourOf o_63 co_M rfl hl.1 rfl (Nat.le_of_ble_eq_true rfl) d_M_part_42 zz) (fun H locs hP hS => ?_)
            refine lv_aload_n hx hb d_M_part_45 rfl (lv_at hl 0 rfl) ?_
            refine lv_aload_n hx hb d_M_part_46 rfl (lv_at hl 0 rfl) ?_
            refine g_get (v := .ref (ad 80)) hC hP o_63 co_M 21 (by decide) rfl fl_M_63 rfl d_M_part_47 ?_
            refine lv_iload_n hx hb d_M_part_50 rfl (lv_at hl 2 rfl) ?_
            obtain ⟨σ16, hk15, hf⟩ := bv_some hf
            refine g_callv hS (g_runV (As := [.ref (ad 80), .int x2]) (rest := []) hC hP (c_M_hourOf hj a_80 hk15) (rk (by decide) (by decide)) nm_M_hourOf cd_M_hourOf it_WideTownModel ml_M_210 im_M_hourOf sl_M_hourOf o_63 co_M rfl hl.1 rfl (Nat.le_of_ble_eq_true rfl) d_M_part_51 zz) (fun H locs hP hS => ?_)
            refine lv_iinc (v := v4_7 + 1) (lv' := [(4, .int (v4_7 + 1)), (0, .ref (ad 63)), (1, .int x1), (2, .int x2), (3, .int x3)]) hx hb d_M_part_54 hl (k := 4) rfl rfl (by decide) rfl (fun ls hl => ?_)
            refine lv_goto (tgt := 30) hx hb d_M_part_57 (by decide) ?_
            exact ih _ _ _ _ _ hP hS (lv_sub hl [1, 2, 3, 4, 0] rfl) hf
      exact hL7 _ _ _ _ _ _ hP hS (lv_sub hl [1, 2, 3, 4, 0] rfl) hf
    · rw [if_pos hc18] at hf
      refine lv_iconst (v := (-1 : Int32)) hx hb d_M_part_21 (by decide) ?_
      cases hf
      exact g_iret hC rfl hP hS d_M_part_22
set_option maxHeartbeats 4000000 in
set_option maxRecDepth 100000 in
theorem c_M_drunk {l : Launch} {D : va_G} {K : Nat → ClassId} {ad : Nat → Nat} (hj : inj ad)   {x1 : Int32} {x2 : Int32} {σ : GS} {z0 : Int32 × GS} (hf : F_M_drunk x1 x2 σ = some z0) : CT l D K ad y_M_drunk b_M_drunk 9 (some .int) 4 [.ref (ad 63), .int x1, .int x2] σ (QI D K ad z0.1 z0.2) := by
  refine CT.intro hj (by decide) (Nat.le_of_ble_eq_true rfl) ?_
  intro p e s m args below meth c ls hC hP hS hl
  obtain ⟨hx, hb, -, hown, hts, -⟩ := id hC
  have hl : lv_has ls 9 [(0, .ref (ad 63)), (1, .int x1), (2, .int x2)] := hl
  rw [F_M_drunk] at hf
  refine lv_iload_n hx hb d_M_drunk_0 rfl (lv_at hl 1 rfl) ?_
  refine lv_i2l hx hb d_M_drunk_1 rfl ?_
  refine lv_lconst (v := (1 : Int64)) hx hb d_M_drunk_2 (by decide) ?_
  refine lv_ldc2 hx hb hown (hts _ cn_M_283) d_M_drunk_3 ?_
  obtain ⟨r2, hk1, hf⟩ := bp_some hf
  refine g_calli hS (g_runS (As := [.long x1.toInt64, .long (1 : Int64), .long (60 : Int64)]) (rest := []) hC hP (c_M_in hj  hk1) (rk (by decide) (by decide)) nm_M_in cd_M_in it_WideTownModel ml_M_100 sc_M_in rfl hl.1 rfl (Nat.le_of_ble_eq_true rfl) d_M_drunk_6 zz) (fun H locs hP hS => ?_)
  refine lv_if_eq (tgt := 24) hx hb d_M_drunk_9 (by decide) (fun hc23 => ?_) (fun hc23 => ?_)
  · rw [if_pos hc23] at hf
    refine lv_iconst (v := (-1 : Int32)) hx hb d_M_drunk_24 (by decide) ?_
    cases hf
    exact g_iret hC rfl hP hS d_M_drunk_25
  · rw [if_neg hc23] at hf
    refine lv_iload_n hx hb d_M_drunk_12 rfl (lv_at hl 2 rfl) ?_
    refine lv_i2l hx hb d_M_drunk_13 rfl ?_
    refine lv_lconst (v := (1 : Int64)) hx hb d_M_drunk_14 (by decide) ?_
    refine lv_ldc2 hx hb hown (hts _ cn_M_285) d_M_drunk_15 ?_
    obtain ⟨r4, hk3, hf⟩ := bp_some hf
    refine g_calli hS (g_runS (As := [.long x2.toInt64, .long (1 : Int64), .long (2147483646 : Int64)]) (rest := []) hC hP (c_M_in hj  hk3) (rk (by decide) (by decide)) nm_M_in cd_M_in it_WideTownModel ml_M_100 sc_M_in rfl hl.1 rfl (Nat.le_of_ble_eq_true rfl) d_M_drunk_18 zz) (fun H locs hP hS => ?_)
    refine lv_if_ne (tgt := 26) hx hb d_M_drunk_21 (by decide) (fun hc22 => ?_) (fun hc22 => ?_)
    · rw [if_neg hc22] at hf
      refine lv_iload_n hx hb d_M_drunk_26 rfl (lv_at hl 2 rfl) ?_
      refine lv_i2l hx hb d_M_drunk_27 rfl ?_
      refine lv_lstore_n (lv' := [(3, .long x2.toInt64), (0, .ref (ad 63)), (1, .int x1), (2, .int x2)]) hx hb d_M_drunk_28 rfl hl (by decide) rfl (fun ls hl => ?_)
      refine lv_iconst (v := (0 : Int32)) hx hb d_M_drunk_29 (by decide) ?_
      refine lv_istore (lv' := [(5, .int (0 : Int32)), (3, .long x2.toInt64), (0, .ref (ad 63)), (1, .int x1), (2, .int x2)]) hx hb d_M_drunk_30 hl (by decide) rfl (fun ls hl => ?_)
      refine lv_iconst (v := (0 : Int32)) hx hb d_M_drunk_32 (by decide) ?_
      refine lv_istore (lv' := [(6, .int (0 : Int32)), (5, .int (0 : Int32)), (3, .long x2.toInt64), (0, .ref (ad 63)), (1, .int x1), (2, .int x2)]) hx hb d_M_drunk_33 hl (by decide) rfl (fun ls hl => ?_)
      refine lv_iconst (v := (0 : Int32)) hx hb d_M_drunk_35 (by decide) ?_
      refine lv_istore (lv' := [(7, .int (0 : Int32)), (6, .int (0 : Int32)), (5, .int (0 : Int32)), (3, .long x2.toInt64), (0, .ref (ad 63)), (1, .int x1), (2, .int x2)]) hx hb d_M_drunk_36 hl (by decide) rfl (fun ls hl => ?_)
      obtain ⟨KL5_124, eKL5_124, hf⟩ := jn_some hf
      have hKL5_124 : ∀ (v3_5 : Int64) (v5_5 : Int32) (v6_5 : Int32) (v7_5 : Int32) (σL5 : GS) (H : Heap) (locs : List Loc) (ls : Array Slot), va_P D vwCl (wG K ad σL5) H → va_S (GA ad) s.heap H locs → lv_has ls 9 [(0, .ref (ad 63)), (5, .int v5_5), (6, .int v6_5)] → KL5_124 v3_5 v5_5 v6_5 v7_5 σL5 = some z0 → W p l e (rmd 4) s m args below meth c H locs 0 0 (MQ below (QI D K ad z0.1 z0.2) args s 0 0 (GA ad)) (F0 m 124 ls []) := by
        clear hf
        intro v3_5 v5_5 v6_5 v7_5 σL5 H locs ls hP hS hl hf
        rw [eKL5_124] at hf
        try dsimp only at hf
        refine lv_aload_n hx hb d_M_drunk_124 rfl (lv_at hl 0 rfl) ?_
        refine lv_iload hx hb d_M_drunk_125 (lv_at hl 2 rfl) ?_
        obtain ⟨r7, σ8, hk6, hf⟩ := bc_some hf
        refine g_calli hS (g_runV (As := [.int v6_5]) (rest := []) hC hP (c_M_tell hj  hk6) (rk (by decide) (by decide)) nm_M_tell cd_M_tell it_WideTownModel ml_M_114 im_M_tell sl_M_tell o_63 co_M rfl hl.1 rfl (Nat.le_of_ble_eq_true rfl) d_M_drunk_127 zz) (fun H locs hP hS => ?_)
        refine lv_istore (lv' := [(7, .int r7), (0, .ref (ad 63)), (5, .int v5_5), (6, .int v6_5)]) hx hb d_M_drunk_130 hl (by decide) rfl (fun ls hl => ?_)
        refine lv_iload hx hb d_M_drunk_132 (lv_at hl 2 rfl) ?_
        cases hf
        exact g_iret hC rfl hP hS d_M_drunk_134
      clear eKL5_124
      have hL5 : ∀ (n : Nat) (v3_5 : Int64) (v5_5 : Int32) (v6_5 : Int32) (v7_5 : Int32) (σL5 : GS) (H : Heap) (locs : List Loc) (ls : Array Slot), va_P D vwCl (wG K ad σL5) H → va_S (GA ad) s.heap H locs → lv_has ls 9 [(0, .ref (ad 63)), (1, .int x1), (3, .long v3_5), (5, .int v5_5), (6, .int v6_5), (7, .int v7_5)] → F_M_drunk_38 x1 KL5_124 n v3_5 v5_5 v6_5 v7_5 σL5 = some z0 → W p l e (rmd 4) s m args below meth c H locs 0 0 (MQ below (QI D K ad z0.1 z0.2) args s 0 0 (GA ad)) (F0 m 38 ls []) := by
        clear hf
        intro n
        induction n with
        | zero =>
          intro v3_5 v5_5 v6_5 v7_5 σL5 H locs ls hP hS hl hf
          rw [F_M_drunk_38.eq_1] at hf
          cases hf
        | succ n ih =>
          intro v3_5 v5_5 v6_5 v7_5 σL5 H locs ls hP hS hl hf
          rw [F_M_drunk_38.eq_2] at hf
          refine lv_iload hx hb d_M_drunk_38 (lv_at hl 5 rfl) ?_
          refine lv_iload_n hx hb d_M_drunk_40 rfl (lv_at hl 1 rfl) ?_
          refine lv_icmp_ge (tgt := 124) hx hb d_M_drunk_41 (by decide) (fun hc21 => ?_) (fun hc21 => ?_)
          · rw [if_pos hc21] at hf
            exact hKL5_124 _ _ _ _ _ _ _ _ hP hS (lv_sub hl [0, 3, 4] rfl) hf
          · rw [if_neg hc21] at hf
            refine lv_ldc2 hx hb hown (hts _ cn_M_287) d_M_drunk_44 ?_
            refine lv_lload_n hx hb d_M_drunk_47 rfl (lv_at hl 2 rfl) ?_
            refine lv_lmul hx hb d_M_drunk_48 ?_
            refine lv_ldc2 hx hb hown (hts _ cn_M_289) d_M_drunk_49 ?_
            refine lv_lrem hx hb d_M_drunk_52 (by decide) ?_
            refine lv_lstore_n (lv' := [(3, .long (((48271 : Int64) * v3_5) - ((48271 : Int64) * v3_5) / (2147483647 : Int64) * (2147483647 : Int64))), (0, .ref (ad 63)), (1, .int x1), (5, .int v5_5), (6, .int v6_5), (7, .int v7_5)]) hx hb d_M_drunk_53 rfl hl (by decide) rfl (fun ls hl => ?_)
            refine lv_aload_n hx hb d_M_drunk_54 rfl (lv_at hl 1 rfl) ?_
            refine g_get (v := .ref (ad 75)) hC hP o_63 co_M 16 (by decide) rfl fl_M_48 rfl d_M_drunk_55 ?_
            refine lv_aload_n hx hb d_M_drunk_58 rfl (lv_at hl 1 rfl) ?_
            refine g_get (v := .ref (ad 75)) hC hP o_63 co_M 16 (by decide) rfl fl_M_48 rfl d_M_drunk_59 ?_
            refine lv_iconst (v := (0 : Int32)) hx hb d_M_drunk_62 (by decide) ?_
            refine lv_iload hx hb d_M_drunk_63 (lv_at hl 3 rfl) ?_
            obtain ⟨r10, σ11, hk9, hf⟩ := bc_some hf
            refine g_calli hS (g_runS (As := [.ref (ad 75), .int (0 : Int32), .int v5_5]) (rest := [.ref (ad 75)]) hC hP (c_M_follow hj a_75 hk9) (rk (by decide) (by decide)) nm_M_follow cd_M_follow it_WideTownModel ml_M_171 sc_M_follow rfl hl.1 rfl (Nat.le_of_ble_eq_true rfl) d_M_drunk_65 zz) (fun H locs hP hS => ?_)
            refine lv_lload_n hx hb d_M_drunk_68 rfl (lv_at hl 0 rfl) ?_
            refine lv_ldc2 hx hb hown (hts _ cn_M_98) d_M_drunk_69 ?_
            refine lv_lrem hx hb d_M_drunk_72 (by decide) ?_
            refine lv_l2i hx hb d_M_drunk_73 rfl ?_
            obtain ⟨r13, σ14, hk12, hf⟩ := bc_some hf
            refine g_calli hS (g_runS (As := [.ref (ad 75), .int r10, .int (((((48271 : Int64) * v3_5) - ((48271 : Int64) * v3_5) / (2147483647 : Int64) * (2147483647 : Int64)) - (((48271 : Int64) * v3_5) - ((48271 : Int64) * v3_5) / (2147483647 : Int64) * (2147483647 : Int64)) / (5 : Int64) * (5 : Int64)).toInt32)]) (rest := []) hC hP (c_M_times hj a_75 hk12) (rk (by decide) (by decide)) nm_M_times cd_M_times it_WideTownModel ml_M_134 sc_M_times rfl hl.1 rfl (Nat.le_of_ble_eq_true rfl) d_M_drunk_74 zz) (fun H locs hP hS => ?_)
            refine lv_istore (lv' := [(8, .int r13), (3, .long (((48271 : Int64) * v3_5) - ((48271 : Int64) * v3_5) / (2147483647 : Int64) * (2147483647 : Int64))), (0, .ref (ad 63)), (1, .int x1), (5, .int v5_5), (6, .int v6_5), (7, .int v7_5)]) hx hb d_M_drunk_77 hl (by decide) rfl (fun ls hl => ?_)
            refine lv_iload hx hb d_M_drunk_79 (lv_at hl 0 rfl) ?_
            refine lv_bipush (v := (9 : Int32)) hx hb d_M_drunk_81 (by decide) ?_
            obtain ⟨J15, eJ15, hf⟩ := jn_some hf
            have hJ15 : ∀ (tJ15 : Int32) (σJ15 : GS) (H : Heap) (locs : List Loc) (ls : Array Slot), va_P D vwCl (wG K ad σJ15) H → va_S (GA ad) s.heap H locs → lv_has ls 9 [(0, .ref (ad 63)), (1, .int x1), (3, .long (((48271 : Int64) * v3_5) - ((48271 : Int64) * v3_5) / (2147483647 : Int64) * (2147483647 : Int64))), (6, .int v6_5), (7, .int v7_5)] → J15 tJ15 σJ15 = some z0 → W p l e (rmd 4) s m args below meth c H locs 0 0 (MQ below (QI D K ad z0.1 z0.2) args s 0 0 (GA ad)) (F0 m 101 ls [.int tJ15]) := by
              clear hf
              intro tJ15 σJ15 H locs ls hP hS hl hf
              rw [eJ15] at hf
              try dsimp only at hf
              refine lv_istore (lv' := [(5, .int tJ15), (0, .ref (ad 63)), (1, .int x1), (3, .long (((48271 : Int64) * v3_5) - ((48271 : Int64) * v3_5) / (2147483647 : Int64) * (2147483647 : Int64))), (6, .int v6_5), (7, .int v7_5)]) hx hb d_M_drunk_101 hl (by decide) rfl (fun ls hl => ?_)
              refine lv_iload hx hb d_M_drunk_103 (lv_at hl 4 rfl) ?_
              refine lv_iload hx hb d_M_drunk_105 (lv_at hl 0 rfl) ?_
              refine lv_if_ne (tgt := 114) hx hb d_M_drunk_107 (by decide) (fun hc16 => ?_) (fun hc16 => ?_)
              · rw [if_neg hc16] at hf
                refine lv_iconst (v := (0 : Int32)) hx hb d_M_drunk_114 (by decide) ?_
                refine lv_iadd hx hb d_M_drunk_115 ?_
                refine lv_istore (lv' := [(6, .int (v6_5 + (0 : Int32))), (5, .int tJ15), (0, .ref (ad 63)), (1, .int x1), (3, .long (((48271 : Int64) * v3_5) - ((48271 : Int64) * v3_5) / (2147483647 : Int64) * (2147483647 : Int64))), (7, .int v7_5)]) hx hb d_M_drunk_116 hl (by decide) rfl (fun ls hl => ?_)
                refine lv_iinc (v := v7_5 + 1) (lv' := [(7, .int (v7_5 + 1)), (6, .int (v6_5 + (0 : Int32))), (5, .int tJ15), (0, .ref (ad 63)), (1, .int x1), (3, .long (((48271 : Int64) * v3_5) - ((48271 : Int64) * v3_5) / (2147483647 : Int64) * (2147483647 : Int64)))]) hx hb d_M_drunk_118 hl (k := 5) rfl rfl (by decide) rfl (fun ls hl => ?_)
                refine lv_goto (tgt := 38) hx hb d_M_drunk_121 (by decide) ?_
                exact ih _ _ _ _ _ _ _ _ hP hS (lv_sub hl [3, 4, 5, 2, 1, 0] rfl) hf
              · rw [if_pos hc16] at hf
                refine lv_iconst (v := (1 : Int32)) hx hb d_M_drunk_110 (by decide) ?_
                refine lv_goto (tgt := 115) hx hb d_M_drunk_111 (by decide) ?_
                refine lv_iadd hx hb d_M_drunk_115 ?_
                refine lv_istore (lv' := [(6, .int (v6_5 + (1 : Int32))), (5, .int tJ15), (0, .ref (ad 63)), (1, .int x1), (3, .long (((48271 : Int64) * v3_5) - ((48271 : Int64) * v3_5) / (2147483647 : Int64) * (2147483647 : Int64))), (7, .int v7_5)]) hx hb d_M_drunk_116 hl (by decide) rfl (fun ls hl => ?_)
                refine lv_iinc (v := v7_5 + 1) (lv' := [(7, .int (v7_5 + 1)), (6, .int (v6_5 + (1 : Int32))), (5, .int tJ15), (0, .ref (ad 63)), (1, .int x1), (3, .long (((48271 : Int64) * v3_5) - ((48271 : Int64) * v3_5) / (2147483647 : Int64) * (2147483647 : Int64)))]) hx hb d_M_drunk_118 hl (k := 5) rfl rfl (by decide) rfl (fun ls hl => ?_)
                refine lv_goto (tgt := 38) hx hb d_M_drunk_121 (by decide) ?_
                exact ih _ _ _ _ _ _ _ _ hP hS (lv_sub hl [3, 4, 5, 2, 1, 0] rfl) hf
            clear eJ15
            refine lv_icmp_le (tgt := 91) hx hb d_M_drunk_83 (by decide) (fun hc20 => ?_) (fun hc20 => ?_)
            · rw [if_pos hc20] at hf
              refine lv_aload_n hx hb d_M_drunk_91 rfl (lv_at hl 2 rfl) ?_
              refine lv_aload_n hx hb d_M_drunk_92 rfl (lv_at hl 2 rfl) ?_
              refine g_get (v := .ref (ad 75)) hC hP o_63 co_M 16 (by decide) rfl fl_M_48 rfl d_M_drunk_93 ?_
              refine lv_iload hx hb d_M_drunk_96 (lv_at hl 0 rfl) ?_
              obtain ⟨r18, σ19, hk17, hf⟩ := bc_some hf
              refine g_calli hS (g_runV (As := [.ref (ad 75), .int r13]) (rest := []) hC hP (c_M_codeOf hj a_75 hk17) (rk (by decide) (by decide)) nm_M_codeOf cd_M_codeOf it_WideTownModel ml_M_138 im_M_codeOf sl_M_codeOf o_63 co_M rfl hl.1 rfl (Nat.le_of_ble_eq_true rfl) d_M_drunk_98 zz) (fun H locs hP hS => ?_)
              exact hJ15 _ _ _ _ _ hP hS (lv_sub hl [2, 3, 1, 5, 6] rfl) hf
            · rw [if_neg hc20] at hf
              refine lv_iload hx hb d_M_drunk_86 (lv_at hl 4 rfl) ?_
              refine lv_goto (tgt := 101) hx hb d_M_drunk_88 (by decide) ?_
              exact hJ15 _ _ _ _ _ hP hS (lv_sub hl [2, 3, 1, 5, 6] rfl) hf
      exact hL5 _ _ _ _ _ _ _ _ _ hP hS (lv_sub hl [4, 5, 3, 2, 1, 0] rfl) hf
    · rw [if_pos hc22] at hf
      refine lv_iconst (v := (-1 : Int32)) hx hb d_M_drunk_24 (by decide) ?_
      cases hf
      exact g_iret hC rfl hP hS d_M_drunk_25
set_option maxHeartbeats 4000000 in
set_option maxRecDepth 100000 in
theorem c_M_asked {l : Launch} {D : va_G} {K : Nat → ClassId} {ad : Nat → Nat} (hj : inj ad)    {σ : GS} {z0 : Int32} (hf : F_M_asked σ = some z0) : CT l D K ad y_M_asked b_M_asked 1 (some .int) 0 [.ref (ad 63)] σ (QI D K ad z0 σ) := by
  refine CT.intro hj (by decide) (Nat.le_of_ble_eq_true rfl) ?_
  intro p e s m args below meth c ls hC hP hS hl
  obtain ⟨hx, hb, -, hown, hts, -⟩ := id hC
  have hl : lv_has ls 1 [(0, .ref (ad 63))] := hl
  rw [F_M_asked] at hf
  refine lv_aload_n hx hb d_M_asked_0 rfl (lv_at hl 0 rfl) ?_
  refine g_get (v := .int (σ.1 63 9)) hC hP o_63 co_M 9 (by decide) rfl fl_M_92 rfl d_M_asked_1 ?_
  cases hf
  exact g_iret hC rfl hP hS d_M_asked_4
set_option maxHeartbeats 4000000 in
set_option maxRecDepth 100000 in
theorem c_M_upper {l : Launch} {D : va_G} {K : Nat → ClassId} {ad : Nat → Nat} (hj : inj ad)    {σ : GS} {z0 : Int64} (hf : F_M_upper σ = some z0) : CT l D K ad y_M_upper b_M_upper 1 (some .long) 0 [.ref (ad 63)] σ (QL D K ad z0 σ) := by
  refine CT.intro hj (by decide) (Nat.le_of_ble_eq_true rfl) ?_
  intro p e s m args below meth c ls hC hP hS hl
  obtain ⟨hx, hb, -, hown, hts, -⟩ := id hC
  have hl : lv_has ls 1 [(0, .ref (ad 63))] := hl
  rw [F_M_upper] at hf
  refine lv_aload_n hx hb d_M_upper_0 rfl (lv_at hl 0 rfl) ?_
  refine g_get (v := .long (σ.2 63 10)) hC hP o_63 co_M 10 (by decide) rfl fl_M_95 rfl d_M_upper_1 ?_
  cases hf
  exact g_lret hC rfl hP hS d_M_upper_4
set_option maxHeartbeats 4000000 in
set_option maxRecDepth 100000 in
theorem c_M_lower {l : Launch} {D : va_G} {K : Nat → ClassId} {ad : Nat → Nat} (hj : inj ad)    {σ : GS} {z0 : Int64} (hf : F_M_lower σ = some z0) : CT l D K ad y_M_lower b_M_lower 1 (some .long) 0 [.ref (ad 63)] σ (QL D K ad z0 σ) := by
  refine CT.intro hj (by decide) (Nat.le_of_ble_eq_true rfl) ?_
  intro p e s m args below meth c ls hC hP hS hl
  obtain ⟨hx, hb, -, hown, hts, -⟩ := id hC
  have hl : lv_has ls 1 [(0, .ref (ad 63))] := hl
  rw [F_M_lower] at hf
  refine lv_aload_n hx hb d_M_lower_0 rfl (lv_at hl 0 rfl) ?_
  refine g_get (v := .long (σ.2 63 11)) hC hP o_63 co_M 11 (by decide) rfl fl_M_38 rfl d_M_lower_1 ?_
  cases hf
  exact g_lret hC rfl hP hS d_M_lower_4
set_option maxHeartbeats 4000000 in
set_option maxRecDepth 100000 in
theorem c_M_counted {l : Launch} {D : va_G} {K : Nat → ClassId} {ad : Nat → Nat} (hj : inj ad)   {x1 : Int32} {σ : GS} {z0 : Int32} (hf : F_M_counted x1 σ = some z0) : CT l D K ad y_M_counted b_M_counted 5 (some .int) 1 [.ref (ad 63), .int x1] σ (QI D K ad z0 σ) := by
  refine CT.intro hj (by decide) (Nat.le_of_ble_eq_true rfl) ?_
  intro p e s m args below meth c ls hC hP hS hl
  obtain ⟨hx, hb, -, hown, hts, -⟩ := id hC
  have hl : lv_has ls 5 [(0, .ref (ad 63)), (1, .int x1)] := hl
  rw [F_M_counted] at hf
  refine lv_iconst (v := (0 : Int32)) hx hb d_M_counted_0 (by decide) ?_
  refine lv_istore_n (lv' := [(2, .int (0 : Int32)), (0, .ref (ad 63)), (1, .int x1)]) hx hb d_M_counted_1 rfl hl (by decide) rfl (fun ls hl => ?_)
  refine lv_iconst (v := (0 : Int32)) hx hb d_M_counted_2 (by decide) ?_
  refine lv_istore_n (lv' := [(3, .int (0 : Int32)), (2, .int (0 : Int32)), (0, .ref (ad 63)), (1, .int x1)]) hx hb d_M_counted_3 rfl hl (by decide) rfl (fun ls hl => ?_)
  obtain ⟨KL1_97, eKL1_97, hf⟩ := jn_some hf
  have hKL1_97 : ∀ (v2_1 : Int32) (v3_1 : Int32) (H : Heap) (locs : List Loc) (ls : Array Slot), va_P D vwCl (wG K ad σ) H → va_S (GA ad) s.heap H locs → lv_has ls 5 [(0, .ref (ad 63)), (1, .int x1), (2, .int v2_1)] → KL1_97 v2_1 v3_1 = some z0 → W p l e (rmd 1) s m args below meth c H locs 0 0 (MQ below (QI D K ad z0 σ) args s 0 0 (GA ad)) (F0 m 97 ls []) := by
    clear hf
    intro v2_1 v3_1 H locs ls hP hS hl hf
    rw [eKL1_97] at hf
    try dsimp only at hf
    refine lv_iconst (v := (0 : Int32)) hx hb d_M_counted_97 (by decide) ?_
    refine lv_istore_n (lv' := [(3, .int (0 : Int32)), (0, .ref (ad 63)), (1, .int x1), (2, .int v2_1)]) hx hb d_M_counted_98 rfl hl (by decide) rfl (fun ls hl => ?_)
    obtain ⟨KL2_132, eKL2_132, hf⟩ := jn_some hf
    have hKL2_132 : ∀ (v2_2 : Int32) (v3_2 : Int32) (H : Heap) (locs : List Loc) (ls : Array Slot), va_P D vwCl (wG K ad σ) H → va_S (GA ad) s.heap H locs → lv_has ls 5 [(0, .ref (ad 63)), (1, .int x1), (2, .int v2_2)] → KL2_132 v2_2 v3_2 = some z0 → W p l e (rmd 1) s m args below meth c H locs 0 0 (MQ below (QI D K ad z0 σ) args s 0 0 (GA ad)) (F0 m 132 ls []) := by
      clear hf
      intro v2_2 v3_2 H locs ls hP hS hl hf
      rw [eKL2_132] at hf
      try dsimp only at hf
      refine lv_iconst (v := (0 : Int32)) hx hb d_M_counted_132 (by decide) ?_
      refine lv_istore_n (lv' := [(3, .int (0 : Int32)), (0, .ref (ad 63)), (1, .int x1), (2, .int v2_2)]) hx hb d_M_counted_133 rfl hl (by decide) rfl (fun ls hl => ?_)
      obtain ⟨KL3_169, eKL3_169, hf⟩ := jn_some hf
      have hKL3_169 : ∀ (v2_3 : Int32) (v3_3 : Int32) (H : Heap) (locs : List Loc) (ls : Array Slot), va_P D vwCl (wG K ad σ) H → va_S (GA ad) s.heap H locs → lv_has ls 5 [(0, .ref (ad 63)), (1, .int x1), (2, .int v2_3)] → KL3_169 v2_3 v3_3 = some z0 → W p l e (rmd 1) s m args below meth c H locs 0 0 (MQ below (QI D K ad z0 σ) args s 0 0 (GA ad)) (F0 m 169 ls []) := by
        clear hf
        intro v2_3 v3_3 H locs ls hP hS hl hf
        rw [eKL3_169] at hf
        try dsimp only at hf
        refine lv_iconst (v := (0 : Int32)) hx hb d_M_counted_169 (by decide) ?_
        refine lv_istore_n (lv' := [(3, .int (0 : Int32)), (0, .ref (ad 63)), (1, .int x1), (2, .int v2_3)]) hx hb d_M_counted_170 rfl hl (by decide) rfl (fun ls hl => ?_)
        obtain ⟨KL4_205, eKL4_205, hf⟩ := jn_some hf
        have hKL4_205 : ∀ (v2_4 : Int32) (v3_4 : Int32) (H : Heap) (locs : List Loc) (ls : Array Slot), va_P D vwCl (wG K ad σ) H → va_S (GA ad) s.heap H locs → lv_has ls 5 [(0, .ref (ad 63)), (1, .int x1), (2, .int v2_4)] → KL4_205 v2_4 v3_4 = some z0 → W p l e (rmd 1) s m args below meth c H locs 0 0 (MQ below (QI D K ad z0 σ) args s 0 0 (GA ad)) (F0 m 205 ls []) := by
          clear hf
          intro v2_4 v3_4 H locs ls hP hS hl hf
          rw [eKL4_205] at hf
          try dsimp only at hf
          refine lv_iload_n hx hb d_M_counted_205 rfl (lv_at hl 1 rfl) ?_
          refine lv_iconst (v := (2 : Int32)) hx hb d_M_counted_206 (by decide) ?_
          refine lv_icmp_ge (tgt := 219) hx hb d_M_counted_207 (by decide) (fun hc6 => ?_) (fun hc6 => ?_)
          · rw [if_pos hc6] at hf
            refine lv_iload_n hx hb d_M_counted_219 rfl (lv_at hl 2 rfl) ?_
            cases hf
            exact g_iret hC rfl hP hS d_M_counted_220
          · rw [if_neg hc6] at hf
            refine lv_aload_n hx hb d_M_counted_210 rfl (lv_at hl 0 rfl) ?_
            refine g_get (v := .ref (ad 68)) hC hP o_63 co_M 4 (by decide) rfl fl_M_22 rfl d_M_counted_211 ?_
            refine lv_iload_n hx hb d_M_counted_214 rfl (lv_at hl 1 rfl) ?_
            obtain ⟨hg5, hf⟩ := gd_some hf
            refine g_iald2 (j := x1.toNatClampNeg) hC hP a_68 hg5 rfl d_M_counted_215 ?_
            refine lv_goto (tgt := 220) hx hb d_M_counted_216 (by decide) ?_
            cases hf
            exact g_iret hC rfl hP hS d_M_counted_220
        clear eKL4_205
        have hL4 : ∀ (n : Nat) (v2_4 : Int32) (v3_4 : Int32) (H : Heap) (locs : List Loc) (ls : Array Slot), va_P D vwCl (wG K ad σ) H → va_S (GA ad) s.heap H locs → lv_has ls 5 [(0, .ref (ad 63)), (1, .int x1), (2, .int v2_4), (3, .int v3_4)] → F_M_counted_171 x1 σ KL4_205 n v2_4 v3_4 = some z0 → W p l e (rmd 1) s m args below meth c H locs 0 0 (MQ below (QI D K ad z0 σ) args s 0 0 (GA ad)) (F0 m 171 ls []) := by
          clear hf
          intro n
          induction n with
          | zero =>
            intro v2_4 v3_4 H locs ls hP hS hl hf
            rw [F_M_counted_171.eq_1] at hf
            cases hf
          | succ n ih =>
            intro v2_4 v3_4 H locs ls hP hS hl hf
            rw [F_M_counted_171.eq_2] at hf
            refine lv_iload_n hx hb d_M_counted_171 rfl (lv_at hl 3 rfl) ?_
            refine lv_iconst (v := (4 : Int32)) hx hb d_M_counted_172 (by decide) ?_
            refine lv_icmp_ge (tgt := 205) hx hb d_M_counted_173 (by decide) (fun hc10 => ?_) (fun hc10 => ?_)
            · rw [if_pos hc10] at hf
              exact hKL4_205 _ _ _ _ _ hP hS (lv_sub hl [0, 1, 2] rfl) hf
            · rw [if_neg hc10] at hf
              refine lv_iload_n hx hb d_M_counted_176 rfl (lv_at hl 1 rfl) ?_
              refine lv_bipush (v := (7 : Int32)) hx hb d_M_counted_177 (by decide) ?_
              refine lv_icmp_ne (tgt := 205) hx hb d_M_counted_179 (by decide) (fun hc9 => ?_) (fun hc9 => ?_)
              · rw [if_neg hc9] at hf
                exact hKL4_205 _ _ _ _ _ hP hS (lv_sub hl [0, 1, 2] rfl) hf
              · rw [if_pos hc9] at hf
                refine lv_iload_n hx hb d_M_counted_182 rfl (lv_at hl 2 rfl) ?_
                refine lv_aload_n hx hb d_M_counted_183 rfl (lv_at hl 0 rfl) ?_
                refine g_get (v := .ref (ad 66)) hC hP o_63 co_M 2 (by decide) rfl fl_M_16 rfl d_M_counted_184 ?_
                refine lv_iload_n hx hb d_M_counted_187 rfl (lv_at hl 3 rfl) ?_
                obtain ⟨hg7, hf⟩ := gd_some hf
                refine g_iald2 (j := v3_4.toNatClampNeg) hC hP a_66 hg7 rfl d_M_counted_188 ?_
                refine lv_if_ge (tgt := 196) hx hb d_M_counted_189 (by decide) (fun hc8 => ?_) (fun hc8 => ?_)
                · rw [if_pos hc8] at hf
                  refine lv_iconst (v := (1 : Int32)) hx hb d_M_counted_196 (by decide) ?_
                  refine lv_iadd hx hb d_M_counted_197 ?_
                  refine lv_istore_n (lv' := [(2, .int (v2_4 + (1 : Int32))), (0, .ref (ad 63)), (1, .int x1), (3, .int v3_4)]) hx hb d_M_counted_198 rfl hl (by decide) rfl (fun ls hl => ?_)
                  refine lv_iinc (v := v3_4 + 1) (lv' := [(3, .int (v3_4 + 1)), (2, .int (v2_4 + (1 : Int32))), (0, .ref (ad 63)), (1, .int x1)]) hx hb d_M_counted_199 hl (k := 3) rfl rfl (by decide) rfl (fun ls hl => ?_)
                  refine lv_goto (tgt := 171) hx hb d_M_counted_202 (by decide) ?_
                  exact ih _ _ _ _ _ hP hS (lv_sub hl [2, 3, 1, 0] rfl) hf
                · rw [if_neg hc8] at hf
                  refine lv_iconst (v := (0 : Int32)) hx hb d_M_counted_192 (by decide) ?_
                  refine lv_goto (tgt := 197) hx hb d_M_counted_193 (by decide) ?_
                  refine lv_iadd hx hb d_M_counted_197 ?_
                  refine lv_istore_n (lv' := [(2, .int (v2_4 + (0 : Int32))), (0, .ref (ad 63)), (1, .int x1), (3, .int v3_4)]) hx hb d_M_counted_198 rfl hl (by decide) rfl (fun ls hl => ?_)
                  refine lv_iinc (v := v3_4 + 1) (lv' := [(3, .int (v3_4 + 1)), (2, .int (v2_4 + (0 : Int32))), (0, .ref (ad 63)), (1, .int x1)]) hx hb d_M_counted_199 hl (k := 3) rfl rfl (by decide) rfl (fun ls hl => ?_)
                  refine lv_goto (tgt := 171) hx hb d_M_counted_202 (by decide) ?_
                  exact ih _ _ _ _ _ hP hS (lv_sub hl [2, 3, 1, 0] rfl) hf
        exact hL4 _ _ _ _ _ _ hP hS (lv_sub hl [1, 2, 3, 0] rfl) hf
      clear eKL3_169
      have hL3 : ∀ (n : Nat) (v2_3 : Int32) (v3_3 : Int32) (H : Heap) (locs : List Loc) (ls : Array Slot), va_P D vwCl (wG K ad σ) H → va_S (GA ad) s.heap H locs → lv_has ls 5 [(0, .ref (ad 63)), (1, .int x1), (2, .int v2_3), (3, .int v3_3)] → F_M_counted_134 x1 σ KL3_169 n v2_3 v3_3 = some z0 → W p l e (rmd 1) s m args below meth c H locs 0 0 (MQ below (QI D K ad z0 σ) args s 0 0 (GA ad)) (F0 m 134 ls []) := by
        clear hf
        intro n
        induction n with
        | zero =>
          intro v2_3 v3_3 H locs ls hP hS hl hf
          rw [F_M_counted_134.eq_1] at hf
          cases hf
        | succ n ih =>
          intro v2_3 v3_3 H locs ls hP hS hl hf
          rw [F_M_counted_134.eq_2] at hf
          refine lv_iload_n hx hb d_M_counted_134 rfl (lv_at hl 3 rfl) ?_
          refine lv_bipush (v := (6 : Int32)) hx hb d_M_counted_135 (by decide) ?_
          refine lv_icmp_ge (tgt := 169) hx hb d_M_counted_137 (by decide) (fun hc14 => ?_) (fun hc14 => ?_)
          · rw [if_pos hc14] at hf
            exact hKL3_169 _ _ _ _ _ hP hS (lv_sub hl [0, 1, 2] rfl) hf
          · rw [if_neg hc14] at hf
            refine lv_iload_n hx hb d_M_counted_140 rfl (lv_at hl 1 rfl) ?_
            refine lv_bipush (v := (6 : Int32)) hx hb d_M_counted_141 (by decide) ?_
            refine lv_icmp_ne (tgt := 169) hx hb d_M_counted_143 (by decide) (fun hc13 => ?_) (fun hc13 => ?_)
            · rw [if_neg hc13] at hf
              exact hKL3_169 _ _ _ _ _ hP hS (lv_sub hl [0, 1, 2] rfl) hf
            · rw [if_pos hc13] at hf
              refine lv_iload_n hx hb d_M_counted_146 rfl (lv_at hl 2 rfl) ?_
              refine lv_aload_n hx hb d_M_counted_147 rfl (lv_at hl 0 rfl) ?_
              refine g_get (v := .ref (ad 64)) hC hP o_63 co_M 0 (by decide) rfl fl_M_7 rfl d_M_counted_148 ?_
              refine lv_iload_n hx hb d_M_counted_151 rfl (lv_at hl 3 rfl) ?_
              obtain ⟨hg11, hf⟩ := gd_some hf
              refine g_iald2 (j := v3_3.toNatClampNeg) hC hP a_64 hg11 rfl d_M_counted_152 ?_
              refine lv_if_ge (tgt := 160) hx hb d_M_counted_153 (by decide) (fun hc12 => ?_) (fun hc12 => ?_)
              · rw [if_pos hc12] at hf
                refine lv_iconst (v := (1 : Int32)) hx hb d_M_counted_160 (by decide) ?_
                refine lv_iadd hx hb d_M_counted_161 ?_
                refine lv_istore_n (lv' := [(2, .int (v2_3 + (1 : Int32))), (0, .ref (ad 63)), (1, .int x1), (3, .int v3_3)]) hx hb d_M_counted_162 rfl hl (by decide) rfl (fun ls hl => ?_)
                refine lv_iinc (v := v3_3 + 1) (lv' := [(3, .int (v3_3 + 1)), (2, .int (v2_3 + (1 : Int32))), (0, .ref (ad 63)), (1, .int x1)]) hx hb d_M_counted_163 hl (k := 3) rfl rfl (by decide) rfl (fun ls hl => ?_)
                refine lv_goto (tgt := 134) hx hb d_M_counted_166 (by decide) ?_
                exact ih _ _ _ _ _ hP hS (lv_sub hl [2, 3, 1, 0] rfl) hf
              · rw [if_neg hc12] at hf
                refine lv_iconst (v := (0 : Int32)) hx hb d_M_counted_156 (by decide) ?_
                refine lv_goto (tgt := 161) hx hb d_M_counted_157 (by decide) ?_
                refine lv_iadd hx hb d_M_counted_161 ?_
                refine lv_istore_n (lv' := [(2, .int (v2_3 + (0 : Int32))), (0, .ref (ad 63)), (1, .int x1), (3, .int v3_3)]) hx hb d_M_counted_162 rfl hl (by decide) rfl (fun ls hl => ?_)
                refine lv_iinc (v := v3_3 + 1) (lv' := [(3, .int (v3_3 + 1)), (2, .int (v2_3 + (0 : Int32))), (0, .ref (ad 63)), (1, .int x1)]) hx hb d_M_counted_163 hl (k := 3) rfl rfl (by decide) rfl (fun ls hl => ?_)
                refine lv_goto (tgt := 134) hx hb d_M_counted_166 (by decide) ?_
                exact ih _ _ _ _ _ hP hS (lv_sub hl [2, 3, 1, 0] rfl) hf
      exact hL3 _ _ _ _ _ _ hP hS (lv_sub hl [1, 2, 3, 0] rfl) hf
    clear eKL2_132
    have hL2 : ∀ (n : Nat) (v2_2 : Int32) (v3_2 : Int32) (H : Heap) (locs : List Loc) (ls : Array Slot), va_P D vwCl (wG K ad σ) H → va_S (GA ad) s.heap H locs → lv_has ls 5 [(0, .ref (ad 63)), (1, .int x1), (2, .int v2_2), (3, .int v3_2)] → F_M_counted_99 x1 σ KL2_132 n v2_2 v3_2 = some z0 → W p l e (rmd 1) s m args below meth c H locs 0 0 (MQ below (QI D K ad z0 σ) args s 0 0 (GA ad)) (F0 m 99 ls []) := by
      clear hf
      intro n
      induction n with
      | zero =>
        intro v2_2 v3_2 H locs ls hP hS hl hf
        rw [F_M_counted_99.eq_1] at hf
        cases hf
      | succ n ih =>
        intro v2_2 v3_2 H locs ls hP hS hl hf
        rw [F_M_counted_99.eq_2] at hf
        refine lv_iload_n hx hb d_M_counted_99 rfl (lv_at hl 3 rfl) ?_
        refine lv_iconst (v := (3 : Int32)) hx hb d_M_counted_100 (by decide) ?_
        refine lv_icmp_ge (tgt := 132) hx hb d_M_counted_101 (by decide) (fun hc18 => ?_) (fun hc18 => ?_)
        · rw [if_pos hc18] at hf
          exact hKL2_132 _ _ _ _ _ hP hS (lv_sub hl [0, 1, 2] rfl) hf
        · rw [if_neg hc18] at hf
          refine lv_iload_n hx hb d_M_counted_104 rfl (lv_at hl 1 rfl) ?_
          refine lv_iconst (v := (5 : Int32)) hx hb d_M_counted_105 (by decide) ?_
          refine lv_icmp_ne (tgt := 132) hx hb d_M_counted_106 (by decide) (fun hc17 => ?_) (fun hc17 => ?_)
          · rw [if_neg hc17] at hf
            exact hKL2_132 _ _ _ _ _ hP hS (lv_sub hl [0, 1, 2] rfl) hf
          · rw [if_pos hc17] at hf
            refine lv_iload_n hx hb d_M_counted_109 rfl (lv_at hl 2 rfl) ?_
            refine lv_aload_n hx hb d_M_counted_110 rfl (lv_at hl 0 rfl) ?_
            refine g_get (v := .ref (ad 72)) hC hP o_63 co_M 8 (by decide) rfl fl_M_34 rfl d_M_counted_111 ?_
            refine lv_iload_n hx hb d_M_counted_114 rfl (lv_at hl 3 rfl) ?_
            obtain ⟨hg15, hf⟩ := gd_some hf
            refine g_zald2 (j := v3_2.toNatClampNeg) hC hP a_72 hg15 rfl d_M_counted_115 ?_
            refine lv_if_eq (tgt := 123) hx hb d_M_counted_116 (by decide) (fun hc16 => ?_) (fun hc16 => ?_)
            · rw [if_pos hc16] at hf
              refine lv_iconst (v := (0 : Int32)) hx hb d_M_counted_123 (by decide) ?_
              refine lv_iadd hx hb d_M_counted_124 ?_
              refine lv_istore_n (lv' := [(2, .int (v2_2 + (0 : Int32))), (0, .ref (ad 63)), (1, .int x1), (3, .int v3_2)]) hx hb d_M_counted_125 rfl hl (by decide) rfl (fun ls hl => ?_)
              refine lv_iinc (v := v3_2 + 1) (lv' := [(3, .int (v3_2 + 1)), (2, .int (v2_2 + (0 : Int32))), (0, .ref (ad 63)), (1, .int x1)]) hx hb d_M_counted_126 hl (k := 3) rfl rfl (by decide) rfl (fun ls hl => ?_)
              refine lv_goto (tgt := 99) hx hb d_M_counted_129 (by decide) ?_
              exact ih _ _ _ _ _ hP hS (lv_sub hl [2, 3, 1, 0] rfl) hf
            · rw [if_neg hc16] at hf
              refine lv_iconst (v := (1 : Int32)) hx hb d_M_counted_119 (by decide) ?_
              refine lv_goto (tgt := 124) hx hb d_M_counted_120 (by decide) ?_
              refine lv_iadd hx hb d_M_counted_124 ?_
              refine lv_istore_n (lv' := [(2, .int (v2_2 + (1 : Int32))), (0, .ref (ad 63)), (1, .int x1), (3, .int v3_2)]) hx hb d_M_counted_125 rfl hl (by decide) rfl (fun ls hl => ?_)
              refine lv_iinc (v := v3_2 + 1) (lv' := [(3, .int (v3_2 + 1)), (2, .int (v2_2 + (1 : Int32))), (0, .ref (ad 63)), (1, .int x1)]) hx hb d_M_counted_126 hl (k := 3) rfl rfl (by decide) rfl (fun ls hl => ?_)
              refine lv_goto (tgt := 99) hx hb d_M_counted_129 (by decide) ?_
              exact ih _ _ _ _ _ hP hS (lv_sub hl [2, 3, 1, 0] rfl) hf
    exact hL2 _ _ _ _ _ _ hP hS (lv_sub hl [1, 2, 3, 0] rfl) hf
  clear eKL1_97
  have hL1 : ∀ (n : Nat) (v2_1 : Int32) (v3_1 : Int32) (H : Heap) (locs : List Loc) (ls : Array Slot), va_P D vwCl (wG K ad σ) H → va_S (GA ad) s.heap H locs → lv_has ls 5 [(0, .ref (ad 63)), (1, .int x1), (2, .int v2_1), (3, .int v3_1)] → F_M_counted_4 x1 σ KL1_97 n v2_1 v3_1 = some z0 → W p l e (rmd 1) s m args below meth c H locs 0 0 (MQ below (QI D K ad z0 σ) args s 0 0 (GA ad)) (F0 m 4 ls []) := by
    clear hf
    intro n
    induction n with
    | zero =>
      intro v2_1 v3_1 H locs ls hP hS hl hf
      rw [F_M_counted_4.eq_1] at hf
      cases hf
    | succ n ih =>
      intro v2_1 v3_1 H locs ls hP hS hl hf
      rw [F_M_counted_4.eq_2] at hf
      refine lv_iload_n hx hb d_M_counted_4 rfl (lv_at hl 3 rfl) ?_
      refine lv_aload_n hx hb d_M_counted_5 rfl (lv_at hl 0 rfl) ?_
      refine g_get (v := .ref (ad 68)) hC hP o_63 co_M 4 (by decide) rfl fl_M_22 rfl d_M_counted_6 ?_
      refine lv_iconst (v := (0 : Int32)) hx hb d_M_counted_9 (by decide) ?_
      refine g_iald2 (j := 0) hC hP a_68 (by decide) rfl d_M_counted_10 ?_
      refine lv_icmp_ge (tgt := 97) hx hb d_M_counted_11 (by decide) (fun hc32 => ?_) (fun hc32 => ?_)
      · rw [if_pos hc32] at hf
        exact hKL1_97 _ _ _ _ _ hP hS (lv_sub hl [0, 1, 2] rfl) hf
      · rw [if_neg hc32] at hf
        refine lv_iload_n hx hb d_M_counted_14 rfl (lv_at hl 1 rfl) ?_
        refine lv_iconst (v := (2 : Int32)) hx hb d_M_counted_15 (by decide) ?_
        obtain ⟨J19, eJ19, hf⟩ := jn_some hf
        have hJ19 : ∀ (tJ19 : Int32) (H : Heap) (locs : List Loc) (ls : Array Slot), va_P D vwCl (wG K ad σ) H → va_S (GA ad) s.heap H locs → lv_has ls 5 [(0, .ref (ad 63)), (1, .int x1), (2, .int v2_1), (3, .int v3_1)] → J19 tJ19 = some z0 → W p l e (rmd 1) s m args below meth c H locs 0 0 (MQ below (QI D K ad z0 σ) args s 0 0 (GA ad)) (F0 m 76 ls [.int tJ19]) := by
          clear hf
          intro tJ19 H locs ls hP hS hl hf
          rw [eJ19] at hf
          try dsimp only at hf
          refine lv_istore (lv' := [(4, .int tJ19), (0, .ref (ad 63)), (1, .int x1), (2, .int v2_1), (3, .int v3_1)]) hx hb d_M_counted_76 hl (by decide) rfl (fun ls hl => ?_)
          refine lv_iload_n hx hb d_M_counted_78 rfl (lv_at hl 3 rfl) ?_
          refine lv_iload hx hb d_M_counted_79 (lv_at hl 0 rfl) ?_
          refine lv_if_eq (tgt := 88) hx hb d_M_counted_81 (by decide) (fun hc20 => ?_) (fun hc20 => ?_)
          · rw [if_pos hc20] at hf
            refine lv_iconst (v := (0 : Int32)) hx hb d_M_counted_88 (by decide) ?_
            refine lv_iadd hx hb d_M_counted_89 ?_
            refine lv_istore_n (lv' := [(2, .int (v2_1 + (0 : Int32))), (4, .int tJ19), (0, .ref (ad 63)), (1, .int x1), (3, .int v3_1)]) hx hb d_M_counted_90 rfl hl (by decide) rfl (fun ls hl => ?_)
            refine lv_iinc (v := v3_1 + 1) (lv' := [(3, .int (v3_1 + 1)), (2, .int (v2_1 + (0 : Int32))), (4, .int tJ19), (0, .ref (ad 63)), (1, .int x1)]) hx hb d_M_counted_91 hl (k := 4) rfl rfl (by decide) rfl (fun ls hl => ?_)
            refine lv_goto (tgt := 4) hx hb d_M_counted_94 (by decide) ?_
            exact ih _ _ _ _ _ hP hS (lv_sub hl [3, 4, 1, 0] rfl) hf
          · rw [if_neg hc20] at hf
            refine lv_iconst (v := (1 : Int32)) hx hb d_M_counted_84 (by decide) ?_
            refine lv_goto (tgt := 89) hx hb d_M_counted_85 (by decide) ?_
            refine lv_iadd hx hb d_M_counted_89 ?_
            refine lv_istore_n (lv' := [(2, .int (v2_1 + (1 : Int32))), (4, .int tJ19), (0, .ref (ad 63)), (1, .int x1), (3, .int v3_1)]) hx hb d_M_counted_90 rfl hl (by decide) rfl (fun ls hl => ?_)
            refine lv_iinc (v := v3_1 + 1) (lv' := [(3, .int (v3_1 + 1)), (2, .int (v2_1 + (1 : Int32))), (4, .int tJ19), (0, .ref (ad 63)), (1, .int x1)]) hx hb d_M_counted_91 hl (k := 4) rfl rfl (by decide) rfl (fun ls hl => ?_)
            refine lv_goto (tgt := 4) hx hb d_M_counted_94 (by decide) ?_
            exact ih _ _ _ _ _ hP hS (lv_sub hl [3, 4, 1, 0] rfl) hf
        clear eJ19
        refine lv_icmp_ne (tgt := 34) hx hb d_M_counted_16 (by decide) (fun hc31 => ?_) (fun hc31 => ?_)
        · rw [if_neg hc31] at hf
          refine lv_iload_n hx hb d_M_counted_34 rfl (lv_at hl 1 rfl) ?_
          refine lv_iconst (v := (3 : Int32)) hx hb d_M_counted_35 (by decide) ?_
          refine lv_icmp_ne (tgt := 54) hx hb d_M_counted_36 (by decide) (fun hc27 => ?_) (fun hc27 => ?_)
          · rw [if_neg hc27] at hf
            refine lv_iload_n hx hb d_M_counted_54 rfl (lv_at hl 1 rfl) ?_
            refine lv_iconst (v := (4 : Int32)) hx hb d_M_counted_55 (by decide) ?_
            refine lv_icmp_ne (tgt := 75) hx hb d_M_counted_56 (by decide) (fun hc23 => ?_) (fun hc23 => ?_)
            · rw [if_neg hc23] at hf
              refine lv_iconst (v := (0 : Int32)) hx hb d_M_counted_75 (by decide) ?_
              exact hJ19 _ _ _ _ hP hS (lv_sub hl [0, 1, 2, 3] rfl) hf
            · rw [if_pos hc23] at hf
              refine lv_aload_n hx hb d_M_counted_59 rfl (lv_at hl 0 rfl) ?_
              refine g_get (v := .ref (ad 68)) hC hP o_63 co_M 4 (by decide) rfl fl_M_22 rfl d_M_counted_60 ?_
              refine lv_bipush (v := (7 : Int32)) hx hb d_M_counted_63 (by decide) ?_
              refine lv_iload_n hx hb d_M_counted_65 rfl (lv_at hl 3 rfl) ?_
              refine lv_iadd hx hb d_M_counted_66 ?_
              obtain ⟨hg21, hf⟩ := gd_some hf
              refine g_iald2 (j := ((7 : Int32) + v3_1).toNatClampNeg) hC hP a_68 hg21 rfl d_M_counted_67 ?_
              refine lv_if_ne (tgt := 75) hx hb d_M_counted_68 (by decide) (fun hc22 => ?_) (fun hc22 => ?_)
              · rw [if_neg hc22] at hf
                refine lv_iconst (v := (0 : Int32)) hx hb d_M_counted_75 (by decide) ?_
                exact hJ19 _ _ _ _ hP hS (lv_sub hl [0, 1, 2, 3] rfl) hf
              · rw [if_pos hc22] at hf
                refine lv_iconst (v := (1 : Int32)) hx hb d_M_counted_71 (by decide) ?_
                refine lv_goto (tgt := 76) hx hb d_M_counted_72 (by decide) ?_
                exact hJ19 _ _ _ _ hP hS (lv_sub hl [0, 1, 2, 3] rfl) hf
          · rw [if_pos hc27] at hf
            refine lv_aload_n hx hb d_M_counted_39 rfl (lv_at hl 0 rfl) ?_
            refine g_get (v := .ref (ad 68)) hC hP o_63 co_M 4 (by decide) rfl fl_M_22 rfl d_M_counted_40 ?_
            refine lv_iconst (v := (2 : Int32)) hx hb d_M_counted_43 (by decide) ?_
            refine lv_iload_n hx hb d_M_counted_44 rfl (lv_at hl 3 rfl) ?_
            refine lv_iadd hx hb d_M_counted_45 ?_
            obtain ⟨hg24, hf⟩ := gd_some hf
            refine g_iald2 (j := ((2 : Int32) + v3_1).toNatClampNeg) hC hP a_68 hg24 rfl d_M_counted_46 ?_
            refine lv_iconst (v := (2 : Int32)) hx hb d_M_counted_47 (by decide) ?_
            obtain ⟨r26, hk25, hf⟩ := bp_some hf
            refine g_calli hS (g_runS (As := [.int (σ.1 68 ((2 : Int32) + v3_1).toNatClampNeg), .int (2 : Int32)]) (rest := []) hC hP (c_M_isOf hj  hk25) (rk (by decide) (by decide)) nm_M_isOf cd_M_isOf it_WideTownModel ml_M_198 sc_M_isOf rfl hl.1 rfl (Nat.le_of_ble_eq_true rfl) d_M_counted_48 zz) (fun H locs hP hS => ?_)
            refine lv_goto (tgt := 76) hx hb d_M_counted_51 (by decide) ?_
            exact hJ19 _ _ _ _ hP hS (lv_sub hl [0, 1, 2, 3] rfl) hf
        · rw [if_pos hc31] at hf
          refine lv_aload_n hx hb d_M_counted_19 rfl (lv_at hl 0 rfl) ?_
          refine g_get (v := .ref (ad 68)) hC hP o_63 co_M 4 (by decide) rfl fl_M_22 rfl d_M_counted_20 ?_
          refine lv_iconst (v := (2 : Int32)) hx hb d_M_counted_23 (by decide) ?_
          refine lv_iload_n hx hb d_M_counted_24 rfl (lv_at hl 3 rfl) ?_
          refine lv_iadd hx hb d_M_counted_25 ?_
          obtain ⟨hg28, hf⟩ := gd_some hf
          refine g_iald2 (j := ((2 : Int32) + v3_1).toNatClampNeg) hC hP a_68 hg28 rfl d_M_counted_26 ?_
          refine lv_iconst (v := (1 : Int32)) hx hb d_M_counted_27 (by decide) ?_
          obtain ⟨r30, hk29, hf⟩ := bp_some hf
          refine g_calli hS (g_runS (As := [.int (σ.1 68 ((2 : Int32) + v3_1).toNatClampNeg), .int (1 : Int32)]) (rest := []) hC hP (c_M_isOf hj  hk29) (rk (by decide) (by decide)) nm_M_isOf cd_M_isOf it_WideTownModel ml_M_198 sc_M_isOf rfl hl.1 rfl (Nat.le_of_ble_eq_true rfl) d_M_counted_28 zz) (fun H locs hP hS => ?_)
          refine lv_goto (tgt := 76) hx hb d_M_counted_31 (by decide) ?_
          exact hJ19 _ _ _ _ hP hS (lv_sub hl [0, 1, 2, 3] rfl) hf
  exact hL1 _ _ _ _ _ _ hP hS (lv_sub hl [2, 3, 1, 0] rfl) hf
set_option maxHeartbeats 4000000 in
set_option maxRecDepth 100000 in
theorem c_M_count {l : Launch} {D : va_G} {K : Nat → ClassId} {ad : Nat → Nat} (hj : inj ad)   {x1 : Int32} {σ : GS} {z0 : Int32} (hf : F_M_count x1 σ = some z0) : CT l D K ad y_M_count b_M_count 2 (some .int) 2 [.ref (ad 63), .int x1] σ (QI D K ad z0 σ) := by
  refine CT.intro hj (by decide) (Nat.le_of_ble_eq_true rfl) ?_
  intro p e s m args below meth c ls hC hP hS hl
  obtain ⟨hx, hb, -, hown, hts, -⟩ := id hC
  have hl : lv_has ls 2 [(0, .ref (ad 63)), (1, .int x1)] := hl
  rw [F_M_count] at hf
  refine lv_iload_n hx hb d_M_count_0 rfl (lv_at hl 1 rfl) ?_
  refine lv_i2l hx hb d_M_count_1 rfl ?_
  refine lv_lconst (v := (0 : Int64)) hx hb d_M_count_2 (by decide) ?_
  refine lv_ldc2 hx hb hown (hts _ cn_M_291) d_M_count_3 ?_
  obtain ⟨r2, hk1, hf⟩ := bp_some hf
  refine g_calli hS (g_runS (As := [.long x1.toInt64, .long (0 : Int64), .long (7 : Int64)]) (rest := []) hC hP (c_M_in hj  hk1) (rk (by decide) (by decide)) nm_M_in cd_M_in it_WideTownModel ml_M_100 sc_M_in rfl hl.1 rfl (Nat.le_of_ble_eq_true rfl) d_M_count_6 zz) (fun H locs hP hS => ?_)
  refine lv_if_eq (tgt := 20) hx hb d_M_count_9 (by decide) (fun hc5 => ?_) (fun hc5 => ?_)
  · rw [if_pos hc5] at hf
    refine lv_iconst (v := (-1 : Int32)) hx hb d_M_count_20 (by decide) ?_
    cases hf
    exact g_iret hC rfl hP hS d_M_count_21
  · rw [if_neg hc5] at hf
    refine lv_aload_n hx hb d_M_count_12 rfl (lv_at hl 0 rfl) ?_
    refine lv_iload_n hx hb d_M_count_13 rfl (lv_at hl 1 rfl) ?_
    obtain ⟨r4, hk3, hf⟩ := bp_some hf
    refine g_calli hS (g_runV (As := [.int x1]) (rest := []) hC hP (c_M_counted hj  hk3) (rk (by decide) (by decide)) nm_M_counted cd_M_counted it_WideTownModel ml_M_293 im_M_counted sl_M_counted o_63 co_M rfl hl.1 rfl (Nat.le_of_ble_eq_true rfl) d_M_count_14 zz) (fun H locs hP hS => ?_)
    refine lv_goto (tgt := 21) hx hb d_M_count_17 (by decide) ?_
    cases hf
    exact g_iret hC rfl hP hS d_M_count_21
set_option maxHeartbeats 4000000 in
set_option maxRecDepth 100000 in
theorem c_M_finding {l : Launch} {D : va_G} {K : Nat → ClassId} {ad : Nat → Nat} (hj : inj ad)    {σ : GS} {z0 : Int32} (hf : F_M_finding σ = some z0) : CT l D K ad y_M_finding b_M_finding 1 (some .int) 0 [.ref (ad 63)] σ (QI D K ad z0 σ) := by
  refine CT.intro hj (by decide) (Nat.le_of_ble_eq_true rfl) ?_
  intro p e s m args below meth c ls hC hP hS hl
  obtain ⟨hx, hb, -, hown, hts, -⟩ := id hC
  have hl : lv_has ls 1 [(0, .ref (ad 63))] := hl
  rw [F_M_finding] at hf
  refine lv_aload_n hx hb d_M_finding_0 rfl (lv_at hl 0 rfl) ?_
  refine g_get (v := .int (σ.1 63 12)) hC hP o_63 co_M 12 (by decide) rfl fl_M_88 rfl d_M_finding_1 ?_
  cases hf
  exact g_iret hC rfl hP hS d_M_finding_4
set_option maxHeartbeats 4000000 in
set_option maxRecDepth 100000 in
theorem c_M_findings {l : Launch} {D : va_G} {K : Nat → ClassId} {ad : Nat → Nat} (hj : inj ad)   {x1 : Int32} {σ : GS} {z0 : Int32} (hf : F_M_findings x1 σ = some z0) : CT l D K ad y_M_findings b_M_findings 2 (some .int) 1 [.ref (ad 63), .int x1] σ (QI D K ad z0 σ) := by
  refine CT.intro hj (by decide) (Nat.le_of_ble_eq_true rfl) ?_
  intro p e s m args below meth c ls hC hP hS hl
  obtain ⟨hx, hb, -, hown, hts, -⟩ := id hC
  have hl : lv_has ls 2 [(0, .ref (ad 63)), (1, .int x1)] := hl
  rw [F_M_findings] at hf
  refine lv_iload_n hx hb d_M_findings_0 rfl (lv_at hl 1 rfl) ?_
  refine lv_i2l hx hb d_M_findings_1 rfl ?_
  refine lv_lconst (v := (1 : Int64)) hx hb d_M_findings_2 (by decide) ?_
  refine lv_ldc2 hx hb hown (hts _ cn_M_98) d_M_findings_3 ?_
  obtain ⟨r2, hk1, hf⟩ := bp_some hf
  refine g_calli hS (g_runS (As := [.long x1.toInt64, .long (1 : Int64), .long (5 : Int64)]) (rest := []) hC hP (c_M_in hj  hk1) (rk (by decide) (by decide)) nm_M_in cd_M_in it_WideTownModel ml_M_100 sc_M_in rfl hl.1 rfl (Nat.le_of_ble_eq_true rfl) d_M_findings_6 zz) (fun H locs hP hS => ?_)
  refine lv_if_eq (tgt := 21) hx hb d_M_findings_9 (by decide) (fun hc4 => ?_) (fun hc4 => ?_)
  · rw [if_pos hc4] at hf
    refine lv_iconst (v := (-1 : Int32)) hx hb d_M_findings_21 (by decide) ?_
    cases hf
    exact g_iret hC rfl hP hS d_M_findings_22
  · rw [if_neg hc4] at hf
    refine lv_aload_n hx hb d_M_findings_12 rfl (lv_at hl 0 rfl) ?_
    refine g_get (v := .ref (ad 73)) hC hP o_63 co_M 13 (by decide) rfl fl_M_42 rfl d_M_findings_13 ?_
    refine lv_iload_n hx hb d_M_findings_16 rfl (lv_at hl 1 rfl) ?_
    obtain ⟨hg3, hf⟩ := gd_some hf
    refine g_iald2 (j := x1.toNatClampNeg) hC hP a_73 hg3 rfl d_M_findings_17 ?_
    refine lv_goto (tgt := 22) hx hb d_M_findings_18 (by decide) ?_
    cases hf
    exact g_iret hC rfl hP hS d_M_findings_22
set_option maxHeartbeats 4000000 in
set_option maxRecDepth 100000 in
theorem c_M_digest {l : Launch} {D : va_G} {K : Nat → ClassId} {ad : Nat → Nat} (hj : inj ad)    {σ : GS} {z0 : Int64} (hf : F_M_digest σ = some z0) : CT l D K ad y_M_digest b_M_digest 5 (some .long) 2 [.ref (ad 63)] σ (QL D K ad z0 σ) := by
  refine CT.intro hj (by decide) (Nat.le_of_ble_eq_true rfl) ?_
  intro p e s m args below meth c ls hC hP hS hl
  obtain ⟨hx, hb, -, hown, hts, -⟩ := id hC
  have hl : lv_has ls 5 [(0, .ref (ad 63))] := hl
  rw [F_M_digest] at hf
  refine lv_ldc2 hx hb hown (hts _ cn_M_296) d_M_digest_0 ?_
  refine lv_lstore_n (lv' := [(1, .long (17 : Int64)), (0, .ref (ad 63))]) hx hb d_M_digest_3 rfl hl (by decide) rfl (fun ls hl => ?_)
  refine lv_iconst (v := (0 : Int32)) hx hb d_M_digest_4 (by decide) ?_
  refine lv_istore_n (lv' := [(3, .int (0 : Int32)), (1, .long (17 : Int64)), (0, .ref (ad 63))]) hx hb d_M_digest_5 rfl hl (by decide) rfl (fun ls hl => ?_)
  obtain ⟨KL1_31, eKL1_31, hf⟩ := jn_some hf
  have hKL1_31 : ∀ (v1_1 : Int64) (v3_1 : Int32) (H : Heap) (locs : List Loc) (ls : Array Slot), va_P D vwCl (wG K ad σ) H → va_S (GA ad) s.heap H locs → lv_has ls 5 [(0, .ref (ad 63)), (1, .long v1_1)] → KL1_31 v1_1 v3_1 = some z0 → W p l e (rmd 2) s m args below meth c H locs 0 0 (MQ below (QL D K ad z0 σ) args s 0 0 (GA ad)) (F0 m 31 ls []) := by
    clear hf
    intro v1_1 v3_1 H locs ls hP hS hl hf
    rw [eKL1_31] at hf
    try dsimp only at hf
    refine lv_iconst (v := (0 : Int32)) hx hb d_M_digest_31 (by decide) ?_
    refine lv_istore_n (lv' := [(3, .int (0 : Int32)), (0, .ref (ad 63)), (1, .long v1_1)]) hx hb d_M_digest_32 rfl hl (by decide) rfl (fun ls hl => ?_)
    obtain ⟨KL2_79, eKL2_79, hf⟩ := jn_some hf
    have hKL2_79 : ∀ (v1_2 : Int64) (v3_2 : Int32) (H : Heap) (locs : List Loc) (ls : Array Slot), va_P D vwCl (wG K ad σ) H → va_S (GA ad) s.heap H locs → lv_has ls 5 [(0, .ref (ad 63)), (1, .long v1_2)] → KL2_79 v1_2 v3_2 = some z0 → W p l e (rmd 2) s m args below meth c H locs 0 0 (MQ below (QL D K ad z0 σ) args s 0 0 (GA ad)) (F0 m 79 ls []) := by
      clear hf
      intro v1_2 v3_2 H locs ls hP hS hl hf
      rw [eKL2_79] at hf
      try dsimp only at hf
      refine lv_iconst (v := (0 : Int32)) hx hb d_M_digest_79 (by decide) ?_
      refine lv_istore_n (lv' := [(3, .int (0 : Int32)), (0, .ref (ad 63)), (1, .long v1_2)]) hx hb d_M_digest_80 rfl hl (by decide) rfl (fun ls hl => ?_)
      obtain ⟨KL3_124, eKL3_124, hf⟩ := jn_some hf
      have hKL3_124 : ∀ (v1_3 : Int64) (v3_3 : Int32) (H : Heap) (locs : List Loc) (ls : Array Slot), va_P D vwCl (wG K ad σ) H → va_S (GA ad) s.heap H locs → lv_has ls 5 [(0, .ref (ad 63)), (1, .long v1_3)] → KL3_124 v1_3 v3_3 = some z0 → W p l e (rmd 2) s m args below meth c H locs 0 0 (MQ below (QL D K ad z0 σ) args s 0 0 (GA ad)) (F0 m 124 ls []) := by
        clear hf
        intro v1_3 v3_3 H locs ls hP hS hl hf
        rw [eKL3_124] at hf
        try dsimp only at hf
        refine lv_iconst (v := (0 : Int32)) hx hb d_M_digest_124 (by decide) ?_
        refine lv_istore_n (lv' := [(3, .int (0 : Int32)), (0, .ref (ad 63)), (1, .long v1_3)]) hx hb d_M_digest_125 rfl hl (by decide) rfl (fun ls hl => ?_)
        obtain ⟨KL4_192, eKL4_192, hf⟩ := jn_some hf
        have hKL4_192 : ∀ (v1_4 : Int64) (v3_4 : Int32) (H : Heap) (locs : List Loc) (ls : Array Slot), va_P D vwCl (wG K ad σ) H → va_S (GA ad) s.heap H locs → lv_has ls 5 [(0, .ref (ad 63)), (1, .long v1_4)] → KL4_192 v1_4 v3_4 = some z0 → W p l e (rmd 2) s m args below meth c H locs 0 0 (MQ below (QL D K ad z0 σ) args s 0 0 (GA ad)) (F0 m 192 ls []) := by
          clear hf
          intro v1_4 v3_4 H locs ls hP hS hl hf
          rw [eKL4_192] at hf
          try dsimp only at hf
          refine lv_iconst (v := (0 : Int32)) hx hb d_M_digest_192 (by decide) ?_
          refine lv_istore_n (lv' := [(3, .int (0 : Int32)), (0, .ref (ad 63)), (1, .long v1_4)]) hx hb d_M_digest_193 rfl hl (by decide) rfl (fun ls hl => ?_)
          obtain ⟨KL5_259, eKL5_259, hf⟩ := jn_some hf
          have hKL5_259 : ∀ (v1_5 : Int64) (v3_5 : Int32) (H : Heap) (locs : List Loc) (ls : Array Slot), va_P D vwCl (wG K ad σ) H → va_S (GA ad) s.heap H locs → lv_has ls 5 [(1, .long v1_5)] → KL5_259 v1_5 v3_5 = some z0 → W p l e (rmd 2) s m args below meth c H locs 0 0 (MQ below (QL D K ad z0 σ) args s 0 0 (GA ad)) (F0 m 259 ls []) := by
            clear hf
            intro v1_5 v3_5 H locs ls hP hS hl hf
            rw [eKL5_259] at hf
            try dsimp only at hf
            refine lv_lload_n hx hb d_M_digest_259 rfl (lv_at hl 0 rfl) ?_
            cases hf
            exact g_lret hC rfl hP hS d_M_digest_260
          clear eKL5_259
          have hL5 : ∀ (n : Nat) (v1_5 : Int64) (v3_5 : Int32) (H : Heap) (locs : List Loc) (ls : Array Slot), va_P D vwCl (wG K ad σ) H → va_S (GA ad) s.heap H locs → lv_has ls 5 [(0, .ref (ad 63)), (1, .long v1_5), (3, .int v3_5)] → F_M_digest_194 σ KL5_259 n v1_5 v3_5 = some z0 → W p l e (rmd 2) s m args below meth c H locs 0 0 (MQ below (QL D K ad z0 σ) args s 0 0 (GA ad)) (F0 m 194 ls []) := by
            clear hf
            intro n
            induction n with
            | zero =>
              intro v1_5 v3_5 H locs ls hP hS hl hf
              rw [F_M_digest_194.eq_1] at hf
              cases hf
            | succ n ih =>
              intro v1_5 v3_5 H locs ls hP hS hl hf
              rw [F_M_digest_194.eq_2] at hf
              refine lv_iload_n hx hb d_M_digest_194 rfl (lv_at hl 2 rfl) ?_
              refine lv_iconst (v := (4 : Int32)) hx hb d_M_digest_195 (by decide) ?_
              refine lv_icmp_ge (tgt := 259) hx hb d_M_digest_196 (by decide) (fun hc11 => ?_) (fun hc11 => ?_)
              · rw [if_pos hc11] at hf
                exact hKL5_259 _ _ _ _ _ hP hS (lv_sub hl [1] rfl) hf
              · rw [if_neg hc11] at hf
                refine lv_ldc2 hx hb hown (hts _ cn_M_298) d_M_digest_199 ?_
                refine lv_lload_n hx hb d_M_digest_202 rfl (lv_at hl 1 rfl) ?_
                refine lv_lmul hx hb d_M_digest_203 ?_
                refine lv_aload_n hx hb d_M_digest_204 rfl (lv_at hl 0 rfl) ?_
                refine g_get (v := .ref (ad 66)) hC hP o_63 co_M 2 (by decide) rfl fl_M_16 rfl d_M_digest_205 ?_
                refine lv_iload_n hx hb d_M_digest_208 rfl (lv_at hl 2 rfl) ?_
                obtain ⟨hg6, hf⟩ := gd_some hf
                refine g_iald2 (j := v3_5.toNatClampNeg) hC hP a_66 hg6 rfl d_M_digest_209 ?_
                refine lv_i2l hx hb d_M_digest_210 rfl ?_
                refine lv_ladd hx hb d_M_digest_211 ?_
                refine lv_lstore_n (lv' := [(1, .long (((31 : Int64) * v1_5) + ((σ.1 66 v3_5.toNatClampNeg).toInt64))), (0, .ref (ad 63)), (3, .int v3_5)]) hx hb d_M_digest_212 rfl hl (by decide) rfl (fun ls hl => ?_)
                refine lv_iconst (v := (0 : Int32)) hx hb d_M_digest_213 (by decide) ?_
                refine lv_istore (lv' := [(4, .int (0 : Int32)), (1, .long (((31 : Int64) * v1_5) + ((σ.1 66 v3_5.toNatClampNeg).toInt64))), (0, .ref (ad 63)), (3, .int v3_5)]) hx hb d_M_digest_214 hl (by decide) rfl (fun ls hl => ?_)
                obtain ⟨KL7_253, eKL7_253, hf⟩ := jn_some hf
                have hKL7_253 : ∀ (v1_7 : Int64) (v4_7 : Int32) (H : Heap) (locs : List Loc) (ls : Array Slot), va_P D vwCl (wG K ad σ) H → va_S (GA ad) s.heap H locs → lv_has ls 5 [(0, .ref (ad 63)), (1, .long v1_7), (3, .int v3_5)] → KL7_253 v1_7 v4_7 = some z0 → W p l e (rmd 2) s m args below meth c H locs 0 0 (MQ below (QL D K ad z0 σ) args s 0 0 (GA ad)) (F0 m 253 ls []) := by
                  clear hf
                  intro v1_7 v4_7 H locs ls hP hS hl hf
                  rw [eKL7_253] at hf
                  try dsimp only at hf
                  refine lv_iinc (v := v3_5 + 1) (lv' := [(3, .int (v3_5 + 1)), (0, .ref (ad 63)), (1, .long v1_7)]) hx hb d_M_digest_253 hl (k := 2) rfl rfl (by decide) rfl (fun ls hl => ?_)
                  refine lv_goto (tgt := 194) hx hb d_M_digest_256 (by decide) ?_
                  exact ih _ _ _ _ _ hP hS (lv_sub hl [1, 2, 0] rfl) hf
                clear eKL7_253
                have hL7 : ∀ (n : Nat) (v1_7 : Int64) (v4_7 : Int32) (H : Heap) (locs : List Loc) (ls : Array Slot), va_P D vwCl (wG K ad σ) H → va_S (GA ad) s.heap H locs → lv_has ls 5 [(0, .ref (ad 63)), (1, .long v1_7), (3, .int v3_5), (4, .int v4_7)] → F_M_digest_216 v3_5 σ KL7_253 n v1_7 v4_7 = some z0 → W p l e (rmd 2) s m args below meth c H locs 0 0 (MQ below (QL D K ad z0 σ) args s 0 0 (GA ad)) (F0 m 216 ls []) := by
                  clear hf
                  intro n
                  induction n with
                  | zero =>
                    intro v1_7 v4_7 H locs ls hP hS hl hf
                    rw [F_M_digest_216.eq_1] at hf
                    cases hf
                  | succ n ih =>
                    intro v1_7 v4_7 H locs ls hP hS hl hf
                    rw [F_M_digest_216.eq_2] at hf
                    refine lv_iload hx hb d_M_digest_216 (lv_at hl 3 rfl) ?_
                    refine lv_aload_n hx hb d_M_digest_218 rfl (lv_at hl 0 rfl) ?_
                    refine g_get (v := .ref (ad 66)) hC hP o_63 co_M 2 (by decide) rfl fl_M_16 rfl d_M_digest_219 ?_
                    refine lv_iload_n hx hb d_M_digest_222 rfl (lv_at hl 2 rfl) ?_
                    obtain ⟨hg8, hf⟩ := gd_some hf
                    refine g_iald2 (j := v3_5.toNatClampNeg) hC hP a_66 hg8 rfl d_M_digest_223 ?_
                    refine lv_icmp_ge (tgt := 253) hx hb d_M_digest_224 (by decide) (fun hc10 => ?_) (fun hc10 => ?_)
                    · rw [if_pos hc10] at hf
                      exact hKL7_253 _ _ _ _ _ hP hS (lv_sub hl [0, 1, 2] rfl) hf
                    · rw [if_neg hc10] at hf
                      refine lv_ldc2 hx hb hown (hts _ cn_M_298) d_M_digest_227 ?_
                      refine lv_lload_n hx hb d_M_digest_230 rfl (lv_at hl 1 rfl) ?_
                      refine lv_lmul hx hb d_M_digest_231 ?_
                      refine lv_aload_n hx hb d_M_digest_232 rfl (lv_at hl 0 rfl) ?_
                      refine g_get (v := .ref (ad 67)) hC hP o_63 co_M 3 (by decide) rfl fl_M_19 rfl d_M_digest_233 ?_
                      refine lv_bipush (v := (80 : Int32)) hx hb d_M_digest_236 (by decide) ?_
                      refine lv_iload_n hx hb d_M_digest_238 rfl (lv_at hl 2 rfl) ?_
                      refine lv_imul hx hb d_M_digest_239 ?_
                      refine lv_iload hx hb d_M_digest_240 (lv_at hl 3 rfl) ?_
                      refine lv_iadd hx hb d_M_digest_242 ?_
                      obtain ⟨hg9, hf⟩ := gd_some hf
                      refine g_iald2 (j := (((80 : Int32) * v3_5) + v4_7).toNatClampNeg) hC hP a_67 hg9 rfl d_M_digest_243 ?_
                      refine lv_i2l hx hb d_M_digest_244 rfl ?_
                      refine lv_ladd hx hb d_M_digest_245 ?_
                      refine lv_lstore_n (lv' := [(1, .long (((31 : Int64) * v1_7) + ((σ.1 67 (((80 : Int32) * v3_5) + v4_7).toNatClampNeg).toInt64))), (0, .ref (ad 63)), (3, .int v3_5), (4, .int v4_7)]) hx hb d_M_digest_246 rfl hl (by decide) rfl (fun ls hl => ?_)
                      refine lv_iinc (v := v4_7 + 1) (lv' := [(4, .int (v4_7 + 1)), (1, .long (((31 : Int64) * v1_7) + ((σ.1 67 (((80 : Int32) * v3_5) + v4_7).toNatClampNeg).toInt64))), (0, .ref (ad 63)), (3, .int v3_5)]) hx hb d_M_digest_247 hl (k := 3) rfl rfl (by decide) rfl (fun ls hl => ?_)
                      refine lv_goto (tgt := 216) hx hb d_M_digest_250 (by decide) ?_
                      exact ih _ _ _ _ _ hP hS (lv_sub hl [2, 1, 3, 0] rfl) hf
                exact hL7 _ _ _ _ _ _ hP hS (lv_sub hl [2, 1, 3, 0] rfl) hf
          exact hL5 _ _ _ _ _ _ hP hS (lv_sub hl [1, 2, 0] rfl) hf
        clear eKL4_192
        have hL4 : ∀ (n : Nat) (v1_4 : Int64) (v3_4 : Int32) (H : Heap) (locs : List Loc) (ls : Array Slot), va_P D vwCl (wG K ad σ) H → va_S (GA ad) s.heap H locs → lv_has ls 5 [(0, .ref (ad 63)), (1, .long v1_4), (3, .int v3_4)] → F_M_digest_126 σ KL4_192 n v1_4 v3_4 = some z0 → W p l e (rmd 2) s m args below meth c H locs 0 0 (MQ below (QL D K ad z0 σ) args s 0 0 (GA ad)) (F0 m 126 ls []) := by
          clear hf
          intro n
          induction n with
          | zero =>
            intro v1_4 v3_4 H locs ls hP hS hl hf
            rw [F_M_digest_126.eq_1] at hf
            cases hf
          | succ n ih =>
            intro v1_4 v3_4 H locs ls hP hS hl hf
            rw [F_M_digest_126.eq_2] at hf
            refine lv_iload_n hx hb d_M_digest_126 rfl (lv_at hl 2 rfl) ?_
            refine lv_bipush (v := (6 : Int32)) hx hb d_M_digest_127 (by decide) ?_
            refine lv_icmp_ge (tgt := 192) hx hb d_M_digest_129 (by decide) (fun hc17 => ?_) (fun hc17 => ?_)
            · rw [if_pos hc17] at hf
              exact hKL4_192 _ _ _ _ _ hP hS (lv_sub hl [0, 1] rfl) hf
            · rw [if_neg hc17] at hf
              refine lv_ldc2 hx hb hown (hts _ cn_M_298) d_M_digest_132 ?_
              refine lv_lload_n hx hb d_M_digest_135 rfl (lv_at hl 1 rfl) ?_
              refine lv_lmul hx hb d_M_digest_136 ?_
              refine lv_aload_n hx hb d_M_digest_137 rfl (lv_at hl 0 rfl) ?_
              refine g_get (v := .ref (ad 64)) hC hP o_63 co_M 0 (by decide) rfl fl_M_7 rfl d_M_digest_138 ?_
              refine lv_iload_n hx hb d_M_digest_141 rfl (lv_at hl 2 rfl) ?_
              obtain ⟨hg12, hf⟩ := gd_some hf
              refine g_iald2 (j := v3_4.toNatClampNeg) hC hP a_64 hg12 rfl d_M_digest_142 ?_
              refine lv_i2l hx hb d_M_digest_143 rfl ?_
              refine lv_ladd hx hb d_M_digest_144 ?_
              refine lv_lstore_n (lv' := [(1, .long (((31 : Int64) * v1_4) + ((σ.1 64 v3_4.toNatClampNeg).toInt64))), (0, .ref (ad 63)), (3, .int v3_4)]) hx hb d_M_digest_145 rfl hl (by decide) rfl (fun ls hl => ?_)
              refine lv_iconst (v := (0 : Int32)) hx hb d_M_digest_146 (by decide) ?_
              refine lv_istore (lv' := [(4, .int (0 : Int32)), (1, .long (((31 : Int64) * v1_4) + ((σ.1 64 v3_4.toNatClampNeg).toInt64))), (0, .ref (ad 63)), (3, .int v3_4)]) hx hb d_M_digest_147 hl (by decide) rfl (fun ls hl => ?_)
              obtain ⟨KL13_186, eKL13_186, hf⟩ := jn_some hf
              have hKL13_186 : ∀ (v1_13 : Int64) (v4_13 : Int32) (H : Heap) (locs : List Loc) (ls : Array Slot), va_P D vwCl (wG K ad σ) H → va_S (GA ad) s.heap H locs → lv_has ls 5 [(0, .ref (ad 63)), (1, .long v1_13), (3, .int v3_4)] → KL13_186 v1_13 v4_13 = some z0 → W p l e (rmd 2) s m args below meth c H locs 0 0 (MQ below (QL D K ad z0 σ) args s 0 0 (GA ad)) (F0 m 186 ls []) := by
                clear hf
                intro v1_13 v4_13 H locs ls hP hS hl hf
                rw [eKL13_186] at hf
                try dsimp only at hf
                refine lv_iinc (v := v3_4 + 1) (lv' := [(3, .int (v3_4 + 1)), (0, .ref (ad 63)), (1, .long v1_13)]) hx hb d_M_digest_186 hl (k := 2) rfl rfl (by decide) rfl (fun ls hl => ?_)
                refine lv_goto (tgt := 126) hx hb d_M_digest_189 (by decide) ?_
                exact ih _ _ _ _ _ hP hS (lv_sub hl [1, 2, 0] rfl) hf
              clear eKL13_186
              have hL13 : ∀ (n : Nat) (v1_13 : Int64) (v4_13 : Int32) (H : Heap) (locs : List Loc) (ls : Array Slot), va_P D vwCl (wG K ad σ) H → va_S (GA ad) s.heap H locs → lv_has ls 5 [(0, .ref (ad 63)), (1, .long v1_13), (3, .int v3_4), (4, .int v4_13)] → F_M_digest_149 v3_4 σ KL13_186 n v1_13 v4_13 = some z0 → W p l e (rmd 2) s m args below meth c H locs 0 0 (MQ below (QL D K ad z0 σ) args s 0 0 (GA ad)) (F0 m 149 ls []) := by
                clear hf
                intro n
                induction n with
                | zero =>
                  intro v1_13 v4_13 H locs ls hP hS hl hf
                  rw [F_M_digest_149.eq_1] at hf
                  cases hf
                | succ n ih =>
                  intro v1_13 v4_13 H locs ls hP hS hl hf
                  rw [F_M_digest_149.eq_2] at hf
                  refine lv_iload hx hb d_M_digest_149 (lv_at hl 3 rfl) ?_
                  refine lv_aload_n hx hb d_M_digest_151 rfl (lv_at hl 0 rfl) ?_
                  refine g_get (v := .ref (ad 64)) hC hP o_63 co_M 0 (by decide) rfl fl_M_7 rfl d_M_digest_152 ?_
                  refine lv_iload_n hx hb d_M_digest_155 rfl (lv_at hl 2 rfl) ?_
                  obtain ⟨hg14, hf⟩ := gd_some hf
                  refine g_iald2 (j := v3_4.toNatClampNeg) hC hP a_64 hg14 rfl d_M_digest_156 ?_
                  refine lv_icmp_ge (tgt := 186) hx hb d_M_digest_157 (by decide) (fun hc16 => ?_) (fun hc16 => ?_)
                  · rw [if_pos hc16] at hf
                    exact hKL13_186 _ _ _ _ _ hP hS (lv_sub hl [0, 1, 2] rfl) hf
                  · rw [if_neg hc16] at hf
                    refine lv_ldc2 hx hb hown (hts _ cn_M_298) d_M_digest_160 ?_
                    refine lv_lload_n hx hb d_M_digest_163 rfl (lv_at hl 1 rfl) ?_
                    refine lv_lmul hx hb d_M_digest_164 ?_
                    refine lv_aload_n hx hb d_M_digest_165 rfl (lv_at hl 0 rfl) ?_
                    refine g_get (v := .ref (ad 65)) hC hP o_63 co_M 1 (by decide) rfl fl_M_13 rfl d_M_digest_166 ?_
                    refine lv_bipush (v := (40 : Int32)) hx hb d_M_digest_169 (by decide) ?_
                    refine lv_iload_n hx hb d_M_digest_171 rfl (lv_at hl 2 rfl) ?_
                    refine lv_imul hx hb d_M_digest_172 ?_
                    refine lv_iload hx hb d_M_digest_173 (lv_at hl 3 rfl) ?_
                    refine lv_iadd hx hb d_M_digest_175 ?_
                    obtain ⟨hg15, hf⟩ := gd_some hf
                    refine g_iald2 (j := (((40 : Int32) * v3_4) + v4_13).toNatClampNeg) hC hP a_65 hg15 rfl d_M_digest_176 ?_
                    refine lv_i2l hx hb d_M_digest_177 rfl ?_
                    refine lv_ladd hx hb d_M_digest_178 ?_
                    refine lv_lstore_n (lv' := [(1, .long (((31 : Int64) * v1_13) + ((σ.1 65 (((40 : Int32) * v3_4) + v4_13).toNatClampNeg).toInt64))), (0, .ref (ad 63)), (3, .int v3_4), (4, .int v4_13)]) hx hb d_M_digest_179 rfl hl (by decide) rfl (fun ls hl => ?_)
                    refine lv_iinc (v := v4_13 + 1) (lv' := [(4, .int (v4_13 + 1)), (1, .long (((31 : Int64) * v1_13) + ((σ.1 65 (((40 : Int32) * v3_4) + v4_13).toNatClampNeg).toInt64))), (0, .ref (ad 63)), (3, .int v3_4)]) hx hb d_M_digest_180 hl (k := 3) rfl rfl (by decide) rfl (fun ls hl => ?_)
                    refine lv_goto (tgt := 149) hx hb d_M_digest_183 (by decide) ?_
                    exact ih _ _ _ _ _ hP hS (lv_sub hl [2, 1, 3, 0] rfl) hf
              exact hL13 _ _ _ _ _ _ hP hS (lv_sub hl [2, 1, 3, 0] rfl) hf
        exact hL4 _ _ _ _ _ _ hP hS (lv_sub hl [1, 2, 0] rfl) hf
      clear eKL3_124
      have hL3 : ∀ (n : Nat) (v1_3 : Int64) (v3_3 : Int32) (H : Heap) (locs : List Loc) (ls : Array Slot), va_P D vwCl (wG K ad σ) H → va_S (GA ad) s.heap H locs → lv_has ls 5 [(0, .ref (ad 63)), (1, .long v1_3), (3, .int v3_3)] → F_M_digest_81 σ KL3_124 n v1_3 v3_3 = some z0 → W p l e (rmd 2) s m args below meth c H locs 0 0 (MQ below (QL D K ad z0 σ) args s 0 0 (GA ad)) (F0 m 81 ls []) := by
        clear hf
        intro n
        induction n with
        | zero =>
          intro v1_3 v3_3 H locs ls hP hS hl hf
          rw [F_M_digest_81.eq_1] at hf
          cases hf
        | succ n ih =>
          intro v1_3 v3_3 H locs ls hP hS hl hf
          rw [F_M_digest_81.eq_2] at hf
          refine lv_iload_n hx hb d_M_digest_81 rfl (lv_at hl 2 rfl) ?_
          refine lv_iconst (v := (3 : Int32)) hx hb d_M_digest_82 (by decide) ?_
          refine lv_icmp_ge (tgt := 124) hx hb d_M_digest_83 (by decide) (fun hc22 => ?_) (fun hc22 => ?_)
          · rw [if_pos hc22] at hf
            exact hKL3_124 _ _ _ _ _ hP hS (lv_sub hl [0, 1] rfl) hf
          · rw [if_neg hc22] at hf
            refine lv_ldc2 hx hb hown (hts _ cn_M_298) d_M_digest_86 ?_
            refine lv_lload_n hx hb d_M_digest_89 rfl (lv_at hl 1 rfl) ?_
            refine lv_lmul hx hb d_M_digest_90 ?_
            refine lv_aload_n hx hb d_M_digest_91 rfl (lv_at hl 0 rfl) ?_
            refine g_get (v := .ref (ad 72)) hC hP o_63 co_M 8 (by decide) rfl fl_M_34 rfl d_M_digest_92 ?_
            refine lv_iload_n hx hb d_M_digest_95 rfl (lv_at hl 2 rfl) ?_
            obtain ⟨hg18, hf⟩ := gd_some hf
            refine g_zald2 (j := v3_3.toNatClampNeg) hC hP a_72 hg18 rfl d_M_digest_96 ?_
            obtain ⟨J19, eJ19, hf⟩ := jn_some hf
            have hJ19 : ∀ (tJ19 : Int32) (H : Heap) (locs : List Loc) (ls : Array Slot), va_P D vwCl (wG K ad σ) H → va_S (GA ad) s.heap H locs → lv_has ls 5 [(0, .ref (ad 63)), (3, .int v3_3)] → J19 tJ19 = some z0 → W p l e (rmd 2) s m args below meth c H locs 0 0 (MQ below (QL D K ad z0 σ) args s 0 0 (GA ad)) (F0 m 115 ls [.int tJ19, .long ((31 : Int64) * v1_3)]) := by
              clear hf
              intro tJ19 H locs ls hP hS hl hf
              rw [eJ19] at hf
              try dsimp only at hf
              refine lv_i2l hx hb d_M_digest_115 rfl ?_
              refine lv_ladd hx hb d_M_digest_116 ?_
              refine lv_lstore_n (lv' := [(1, .long (((31 : Int64) * v1_3) + tJ19.toInt64)), (0, .ref (ad 63)), (3, .int v3_3)]) hx hb d_M_digest_117 rfl hl (by decide) rfl (fun ls hl => ?_)
              refine lv_iinc (v := v3_3 + 1) (lv' := [(3, .int (v3_3 + 1)), (1, .long (((31 : Int64) * v1_3) + tJ19.toInt64)), (0, .ref (ad 63))]) hx hb d_M_digest_118 hl (k := 2) rfl rfl (by decide) rfl (fun ls hl => ?_)
              refine lv_goto (tgt := 81) hx hb d_M_digest_121 (by decide) ?_
              exact ih _ _ _ _ _ hP hS (lv_sub hl [2, 1, 0] rfl) hf
            clear eJ19
            refine lv_if_eq (tgt := 114) hx hb d_M_digest_97 (by decide) (fun hc21 => ?_) (fun hc21 => ?_)
            · rw [if_pos hc21] at hf
              refine lv_iconst (v := (-1 : Int32)) hx hb d_M_digest_114 (by decide) ?_
              exact hJ19 _ _ _ _ hP hS (lv_sub hl [0, 2] rfl) hf
            · rw [if_neg hc21] at hf
              refine lv_aload_n hx hb d_M_digest_100 rfl (lv_at hl 0 rfl) ?_
              refine g_get (v := .ref (ad 70)) hC hP o_63 co_M 6 (by decide) rfl fl_M_28 rfl d_M_digest_101 ?_
              refine lv_bipush (v := (27 : Int32)) hx hb d_M_digest_104 (by decide) ?_
              refine lv_iload_n hx hb d_M_digest_106 rfl (lv_at hl 2 rfl) ?_
              refine lv_imul hx hb d_M_digest_107 ?_
              refine lv_iconst (v := (1 : Int32)) hx hb d_M_digest_108 (by decide) ?_
              refine lv_iadd hx hb d_M_digest_109 ?_
              obtain ⟨hg20, hf⟩ := gd_some hf
              refine g_iald2 (j := (((27 : Int32) * v3_3) + (1 : Int32)).toNatClampNeg) hC hP a_70 hg20 rfl d_M_digest_110 ?_
              refine lv_goto (tgt := 115) hx hb d_M_digest_111 (by decide) ?_
              exact hJ19 _ _ _ _ hP hS (lv_sub hl [0, 2] rfl) hf
      exact hL3 _ _ _ _ _ _ hP hS (lv_sub hl [1, 2, 0] rfl) hf
    clear eKL2_79
    have hL2 : ∀ (n : Nat) (v1_2 : Int64) (v3_2 : Int32) (H : Heap) (locs : List Loc) (ls : Array Slot), va_P D vwCl (wG K ad σ) H → va_S (GA ad) s.heap H locs → lv_has ls 5 [(0, .ref (ad 63)), (1, .long v1_2), (3, .int v3_2)] → F_M_digest_33 σ KL2_79 n v1_2 v3_2 = some z0 → W p l e (rmd 2) s m args below meth c H locs 0 0 (MQ below (QL D K ad z0 σ) args s 0 0 (GA ad)) (F0 m 33 ls []) := by
      clear hf
      intro n
      induction n with
      | zero =>
        intro v1_2 v3_2 H locs ls hP hS hl hf
        rw [F_M_digest_33.eq_1] at hf
        cases hf
      | succ n ih =>
        intro v1_2 v3_2 H locs ls hP hS hl hf
        rw [F_M_digest_33.eq_2] at hf
        refine lv_iload_n hx hb d_M_digest_33 rfl (lv_at hl 2 rfl) ?_
        refine lv_aload_n hx hb d_M_digest_34 rfl (lv_at hl 0 rfl) ?_
        refine g_get (v := .ref (ad 68)) hC hP o_63 co_M 4 (by decide) rfl fl_M_22 rfl d_M_digest_35 ?_
        refine lv_iconst (v := (0 : Int32)) hx hb d_M_digest_38 (by decide) ?_
        refine g_iald2 (j := 0) hC hP a_68 (by decide) rfl d_M_digest_39 ?_
        refine lv_icmp_ge (tgt := 79) hx hb d_M_digest_40 (by decide) (fun hc27 => ?_) (fun hc27 => ?_)
        · rw [if_pos hc27] at hf
          exact hKL2_79 _ _ _ _ _ hP hS (lv_sub hl [0, 1] rfl) hf
        · rw [if_neg hc27] at hf
          refine lv_iconst (v := (0 : Int32)) hx hb d_M_digest_43 (by decide) ?_
          refine lv_istore (lv' := [(4, .int (0 : Int32)), (0, .ref (ad 63)), (1, .long v1_2), (3, .int v3_2)]) hx hb d_M_digest_44 hl (by decide) rfl (fun ls hl => ?_)
          obtain ⟨KL23_73, eKL23_73, hf⟩ := jn_some hf
          have hKL23_73 : ∀ (v1_23 : Int64) (v4_23 : Int32) (H : Heap) (locs : List Loc) (ls : Array Slot), va_P D vwCl (wG K ad σ) H → va_S (GA ad) s.heap H locs → lv_has ls 5 [(0, .ref (ad 63)), (1, .long v1_23), (3, .int v3_2)] → KL23_73 v1_23 v4_23 = some z0 → W p l e (rmd 2) s m args below meth c H locs 0 0 (MQ below (QL D K ad z0 σ) args s 0 0 (GA ad)) (F0 m 73 ls []) := by
            clear hf
            intro v1_23 v4_23 H locs ls hP hS hl hf
            rw [eKL23_73] at hf
            try dsimp only at hf
            refine lv_iinc (v := v3_2 + 1) (lv' := [(3, .int (v3_2 + 1)), (0, .ref (ad 63)), (1, .long v1_23)]) hx hb d_M_digest_73 hl (k := 2) rfl rfl (by decide) rfl (fun ls hl => ?_)
            refine lv_goto (tgt := 33) hx hb d_M_digest_76 (by decide) ?_
            exact ih _ _ _ _ _ hP hS (lv_sub hl [1, 2, 0] rfl) hf
          clear eKL23_73
          have hL23 : ∀ (n : Nat) (v1_23 : Int64) (v4_23 : Int32) (H : Heap) (locs : List Loc) (ls : Array Slot), va_P D vwCl (wG K ad σ) H → va_S (GA ad) s.heap H locs → lv_has ls 5 [(0, .ref (ad 63)), (1, .long v1_23), (3, .int v3_2), (4, .int v4_23)] → F_M_digest_46 v3_2 σ KL23_73 n v1_23 v4_23 = some z0 → W p l e (rmd 2) s m args below meth c H locs 0 0 (MQ below (QL D K ad z0 σ) args s 0 0 (GA ad)) (F0 m 46 ls []) := by
            clear hf
            intro n
            induction n with
            | zero =>
              intro v1_23 v4_23 H locs ls hP hS hl hf
              rw [F_M_digest_46.eq_1] at hf
              cases hf
            | succ n ih =>
              intro v1_23 v4_23 H locs ls hP hS hl hf
              rw [F_M_digest_46.eq_2] at hf
              refine lv_iload hx hb d_M_digest_46 (lv_at hl 3 rfl) ?_
              refine lv_iconst (v := (5 : Int32)) hx hb d_M_digest_48 (by decide) ?_
              refine lv_icmp_ge (tgt := 73) hx hb d_M_digest_49 (by decide) (fun hc26 => ?_) (fun hc26 => ?_)
              · rw [if_pos hc26] at hf
                exact hKL23_73 _ _ _ _ _ hP hS (lv_sub hl [0, 1, 2] rfl) hf
              · rw [if_neg hc26] at hf
                refine lv_ldc2 hx hb hown (hts _ cn_M_298) d_M_digest_52 ?_
                refine lv_lload_n hx hb d_M_digest_55 rfl (lv_at hl 1 rfl) ?_
                refine lv_lmul hx hb d_M_digest_56 ?_
                refine lv_aload_n hx hb d_M_digest_57 rfl (lv_at hl 0 rfl) ?_
                refine lv_iload_n hx hb d_M_digest_58 rfl (lv_at hl 2 rfl) ?_
                refine lv_iload hx hb d_M_digest_59 (lv_at hl 3 rfl) ?_
                obtain ⟨r25, hk24, hf⟩ := bp_some hf
                refine g_calli hS (g_runV (As := [.int v3_2, .int v4_23]) (rest := [.long ((31 : Int64) * v1_23)]) hC hP (c_M_told hj  hk24) (rk (by decide) (by decide)) nm_M_told cd_M_told it_WideTownModel ml_M_194 im_M_told sl_M_told o_63 co_M rfl hl.1 rfl (Nat.le_of_ble_eq_true rfl) d_M_digest_61 zz) (fun H locs hP hS => ?_)
                refine lv_i2l hx hb d_M_digest_64 rfl ?_
                refine lv_ladd hx hb d_M_digest_65 ?_
                refine lv_lstore_n (lv' := [(1, .long (((31 : Int64) * v1_23) + r25.toInt64)), (0, .ref (ad 63)), (3, .int v3_2), (4, .int v4_23)]) hx hb d_M_digest_66 rfl hl (by decide) rfl (fun ls hl => ?_)
                refine lv_iinc (v := v4_23 + 1) (lv' := [(4, .int (v4_23 + 1)), (1, .long (((31 : Int64) * v1_23) + r25.toInt64)), (0, .ref (ad 63)), (3, .int v3_2)]) hx hb d_M_digest_67 hl (k := 3) rfl rfl (by decide) rfl (fun ls hl => ?_)
                refine lv_goto (tgt := 46) hx hb d_M_digest_70 (by decide) ?_
                exact ih _ _ _ _ _ hP hS (lv_sub hl [2, 1, 3, 0] rfl) hf
          exact hL23 _ _ _ _ _ _ hP hS (lv_sub hl [1, 2, 3, 0] rfl) hf
    exact hL2 _ _ _ _ _ _ hP hS (lv_sub hl [1, 2, 0] rfl) hf
  clear eKL1_31
  have hL1 : ∀ (n : Nat) (v1_1 : Int64) (v3_1 : Int32) (H : Heap) (locs : List Loc) (ls : Array Slot), va_P D vwCl (wG K ad σ) H → va_S (GA ad) s.heap H locs → lv_has ls 5 [(0, .ref (ad 63)), (1, .long v1_1), (3, .int v3_1)] → F_M_digest_6 σ KL1_31 n v1_1 v3_1 = some z0 → W p l e (rmd 2) s m args below meth c H locs 0 0 (MQ below (QL D K ad z0 σ) args s 0 0 (GA ad)) (F0 m 6 ls []) := by
    clear hf
    intro n
    induction n with
    | zero =>
      intro v1_1 v3_1 H locs ls hP hS hl hf
      rw [F_M_digest_6.eq_1] at hf
      cases hf
    | succ n ih =>
      intro v1_1 v3_1 H locs ls hP hS hl hf
      rw [F_M_digest_6.eq_2] at hf
      refine lv_iload_n hx hb d_M_digest_6 rfl (lv_at hl 2 rfl) ?_
      refine lv_bipush (v := (8 : Int32)) hx hb d_M_digest_7 (by decide) ?_
      refine lv_icmp_ge (tgt := 31) hx hb d_M_digest_9 (by decide) (fun hc30 => ?_) (fun hc30 => ?_)
      · rw [if_pos hc30] at hf
        exact hKL1_31 _ _ _ _ _ hP hS (lv_sub hl [0, 1] rfl) hf
      · rw [if_neg hc30] at hf
        refine lv_ldc2 hx hb hown (hts _ cn_M_298) d_M_digest_12 ?_
        refine lv_lload_n hx hb d_M_digest_15 rfl (lv_at hl 1 rfl) ?_
        refine lv_lmul hx hb d_M_digest_16 ?_
        refine lv_aload_n hx hb d_M_digest_17 rfl (lv_at hl 0 rfl) ?_
        refine lv_iload_n hx hb d_M_digest_18 rfl (lv_at hl 2 rfl) ?_
        obtain ⟨r29, hk28, hf⟩ := bp_some hf
        refine g_calli hS (g_runV (As := [.int v3_1]) (rest := [.long ((31 : Int64) * v1_1)]) hC hP (c_M_counted hj  hk28) (rk (by decide) (by decide)) nm_M_counted cd_M_counted it_WideTownModel ml_M_293 im_M_counted sl_M_counted o_63 co_M rfl hl.1 rfl (Nat.le_of_ble_eq_true rfl) d_M_digest_19 zz) (fun H locs hP hS => ?_)
        refine lv_i2l hx hb d_M_digest_22 rfl ?_
        refine lv_ladd hx hb d_M_digest_23 ?_
        refine lv_lstore_n (lv' := [(1, .long (((31 : Int64) * v1_1) + r29.toInt64)), (0, .ref (ad 63)), (3, .int v3_1)]) hx hb d_M_digest_24 rfl hl (by decide) rfl (fun ls hl => ?_)
        refine lv_iinc (v := v3_1 + 1) (lv' := [(3, .int (v3_1 + 1)), (1, .long (((31 : Int64) * v1_1) + r29.toInt64)), (0, .ref (ad 63))]) hx hb d_M_digest_25 hl (k := 2) rfl rfl (by decide) rfl (fun ls hl => ?_)
        refine lv_goto (tgt := 6) hx hb d_M_digest_28 (by decide) ?_
        exact ih _ _ _ _ _ hP hS (lv_sub hl [2, 1, 0] rfl) hf
  exact hL1 _ _ _ _ _ _ hP hS (lv_sub hl [2, 1, 0] rfl) hf
