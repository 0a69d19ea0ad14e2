set_option maxHeartbeats 4000000 in
set_option maxRecDepth 100000 in
theorem c_Wd_areNeighbours {l : Launch} {D : va_G} {K : Nat → ClassId} {ad : Nat → Nat} (hj : inj ad)   {x0 : Int32} {x1 : Int32} {σ : GS} {z0 : Int32} (hf : F_Wd_areNeighbours x0 x1 = some z0) : CT l D K ad y_Wd_areNeighbours b_Wd_areNeighbours 3 (some .boolean) 0 [.int x0, .int x1] σ (QI D K ad z0 σ) := by
  refine CT.intro hj (by decide) (Nat.le_of_ble_eq_true rfl) ?_
  intro p e s m args below meth c ls hC hP hS hl
  obtain ⟨hx, hb, -, hown, hts, -⟩ := id hC
  have hl : lv_has ls 3 [(0, .int x0), (1, .int x1)] := hl
  rw [F_Wd_areNeighbours] at hf
  refine lv_iload_n hx hb d_Wd_areNeighbours_0 rfl (lv_at hl 0 rfl) ?_
  refine lv_iload_n hx hb d_Wd_areNeighbours_1 rfl (lv_at hl 1 rfl) ?_
  obtain ⟨J1, eJ1, hf⟩ := jn_some hf
  have hJ1 : ∀ (tJ1 : Int32) (H : Heap) (locs : List Loc) (ls : Array Slot), va_P D vwCl (wG K ad σ) H → va_S (GA ad) s.heap H locs → lv_has ls 3 [] → J1 tJ1 = some z0 → W p l e (rmd 0) s m args below meth c H locs 0 0 (MQ below (QI D K ad z0 σ) args s 0 0 (GA ad)) (F0 m 14 ls [.int tJ1]) := by
    clear hf
    intro tJ1 H locs ls hP hS hl hf
    rw [eJ1] at hf
    try dsimp only at hf
    refine lv_istore_n (lv' := [(2, .int tJ1)]) hx hb d_Wd_areNeighbours_14 rfl hl (by decide) rfl (fun ls hl => ?_)
    refine lv_iload_n hx hb d_Wd_areNeighbours_15 rfl (lv_at hl 0 rfl) ?_
    refine lv_iconst (v := (1 : Int32)) hx hb d_Wd_areNeighbours_16 (by decide) ?_
    refine lv_icmp_eq (tgt := 25) hx hb d_Wd_areNeighbours_17 (by decide) (fun hc3 => ?_) (fun hc3 => ?_)
    · rw [if_pos hc3] at hf
      refine lv_iconst (v := (1 : Int32)) hx hb d_Wd_areNeighbours_25 (by decide) ?_
      refine lv_goto (tgt := 30) hx hb d_Wd_areNeighbours_26 (by decide) ?_
      cases hf
      exact g_zret hC rfl (by decide) hP hS d_Wd_areNeighbours_30
    · rw [if_neg hc3] at hf
      refine lv_iload_n hx hb d_Wd_areNeighbours_20 rfl (lv_at hl 0 rfl) ?_
      refine lv_iconst (v := (4 : Int32)) hx hb d_Wd_areNeighbours_21 (by decide) ?_
      refine lv_icmp_ne (tgt := 29) hx hb d_Wd_areNeighbours_22 (by decide) (fun hc2 => ?_) (fun hc2 => ?_)
      · rw [if_neg hc2] at hf
        refine lv_iconst (v := (0 : Int32)) hx hb d_Wd_areNeighbours_29 (by decide) ?_
        cases hf
        exact g_zret hC rfl (by decide) hP hS d_Wd_areNeighbours_30
      · rw [if_pos hc2] at hf
        refine lv_iconst (v := (1 : Int32)) hx hb d_Wd_areNeighbours_25 (by decide) ?_
        refine lv_goto (tgt := 30) hx hb d_Wd_areNeighbours_26 (by decide) ?_
        cases hf
        exact g_zret hC rfl (by decide) hP hS d_Wd_areNeighbours_30
  clear eJ1
  refine lv_icmp_le (tgt := 11) hx hb d_Wd_areNeighbours_2 (by decide) (fun hc4 => ?_) (fun hc4 => ?_)
  · rw [if_pos hc4] at hf
    refine lv_iload_n hx hb d_Wd_areNeighbours_11 rfl (lv_at hl 1 rfl) ?_
    refine lv_iload_n hx hb d_Wd_areNeighbours_12 rfl (lv_at hl 0 rfl) ?_
    refine lv_isub hx hb d_Wd_areNeighbours_13 ?_
    exact hJ1 _ _ _ _ hP hS (lv_sub hl [] rfl) hf
  · rw [if_neg hc4] at hf
    refine lv_iload_n hx hb d_Wd_areNeighbours_5 rfl (lv_at hl 0 rfl) ?_
    refine lv_iload_n hx hb d_Wd_areNeighbours_6 rfl (lv_at hl 1 rfl) ?_
    refine lv_isub hx hb d_Wd_areNeighbours_7 ?_
    refine lv_goto (tgt := 14) hx hb d_Wd_areNeighbours_8 (by decide) ?_
    exact hJ1 _ _ _ _ hP hS (lv_sub hl [] rfl) hf
set_option maxHeartbeats 4000000 in
set_option maxRecDepth 100000 in
theorem c_Wd_canBeLast {l : Launch} {D : va_G} {K : Nat → ClassId} {ad : Nat → Nat} (hj : inj ad) {w : Nat} (h_w : WdOK K ad w) {x1 : Int32} {x2 : Int32} {σ : GS} {z0 : Int32} (hf : F_Wd_canBeLast w x1 x2 σ = some z0) : CT l D K ad y_Wd_canBeLast b_Wd_canBeLast 4 (some .boolean) 1 [.ref (ad w), .int x1, .int x2] σ (QI D K ad z0 σ) := by
  refine CT.intro hj (by decide) (Nat.le_of_ble_eq_true rfl) ?_
  intro p e s m args below meth c ls hC hP hS hl
  obtain ⟨hx, hb, -, hown, hts, -⟩ := id hC
  have hl : lv_has ls 4 [(0, .ref (ad w)), (1, .int x1), (2, .int x2)] := hl
  rw [F_Wd_canBeLast] at hf
  refine lv_iload_n hx hb d_Wd_canBeLast_0 rfl (lv_at hl 1 rfl) ?_
  refine lv_iconst (v := (1 : Int32)) hx hb d_Wd_canBeLast_1 (by decide) ?_
  refine lv_iadd hx hb d_Wd_canBeLast_2 ?_
  refine lv_istore_n (lv' := [(3, .int (x1 + (1 : Int32))), (0, .ref (ad w)), (1, .int x1), (2, .int x2)]) hx hb d_Wd_canBeLast_3 rfl hl (by decide) rfl (fun ls hl => ?_)
  obtain ⟨KL1_47, eKL1_47, hf⟩ := jn_some hf
  have hKL1_47 : ∀ (v3_1 : Int32) (H : Heap) (locs : List Loc) (ls : Array Slot), va_P D vwCl (wG K ad σ) H → va_S (GA ad) s.heap H locs → lv_has ls 4 [] → KL1_47 v3_1 = some z0 → W p l e (rmd 1) s m args below meth c H locs 0 0 (MQ below (QI D K ad z0 σ) args s 0 0 (GA ad)) (F0 m 47 ls []) := by
    clear hf
    intro v3_1 H locs ls hP hS hl hf
    rw [eKL1_47] at hf
    try dsimp only at hf
    refine lv_iconst (v := (1 : Int32)) hx hb d_Wd_canBeLast_47 (by decide) ?_
    cases hf
    exact g_zret hC rfl (by decide) hP hS d_Wd_canBeLast_48
  clear eKL1_47
  have hL1 : ∀ (n : Nat) (v3_1 : Int32) (H : Heap) (locs : List Loc) (ls : Array Slot), va_P D vwCl (wG K ad σ) H → va_S (GA ad) s.heap H locs → lv_has ls 4 [(0, .ref (ad w)), (1, .int x1), (2, .int x2), (3, .int v3_1)] → F_Wd_canBeLast_4 w x1 x2 σ KL1_47 n v3_1 = some z0 → W p l e (rmd 1) s m args below meth c H locs 0 0 (MQ below (QI D K ad z0 σ) args s 0 0 (GA ad)) (F0 m 4 ls []) := by
    clear hf
    intro n
    induction n with
    | zero =>
      intro v3_1 H locs ls hP hS hl hf
      rw [F_Wd_canBeLast_4.eq_1] at hf
      cases hf
    | succ n ih =>
      intro v3_1 H locs ls hP hS hl hf
      rw [F_Wd_canBeLast_4.eq_2] at hf
      refine lv_iload_n hx hb d_Wd_canBeLast_4 rfl (lv_at hl 3 rfl) ?_
      refine lv_aload_n hx hb d_Wd_canBeLast_5 rfl (lv_at hl 0 rfl) ?_
      refine g_get (v := .int (σ.1 w 1)) hC hP h_w.1 co_Wd 1 (by decide) rfl fl_Wd_15 rfl d_Wd_canBeLast_6 ?_
      refine lv_icmp_ge (tgt := 47) hx hb d_Wd_canBeLast_9 (by decide) (fun hc8 => ?_) (fun hc8 => ?_)
      · rw [if_pos hc8] at hf
        exact hKL1_47 _ _ _ _ hP hS (lv_sub hl [] rfl) hf
      · rw [if_neg hc8] at hf
        refine lv_iload_n hx hb d_Wd_canBeLast_12 rfl (lv_at hl 2 rfl) ?_
        refine lv_iload_n hx hb d_Wd_canBeLast_13 rfl (lv_at hl 3 rfl) ?_
        refine lv_ishr hx hb d_Wd_canBeLast_14 ?_
        refine lv_iconst (v := (1 : Int32)) hx hb d_Wd_canBeLast_15 (by decide) ?_
        refine lv_iand hx hb d_Wd_canBeLast_16 ?_
        refine lv_iconst (v := (1 : Int32)) hx hb d_Wd_canBeLast_17 (by decide) ?_
        refine lv_icmp_ne (tgt := 41) hx hb d_Wd_canBeLast_18 (by decide) (fun hc7 => ?_) (fun hc7 => ?_)
        · rw [if_neg hc7] at hf
          refine lv_iinc (v := v3_1 + 1) (lv' := [(3, .int (v3_1 + 1)), (0, .ref (ad w)), (1, .int x1), (2, .int x2)]) hx hb d_Wd_canBeLast_41 hl (k := 3) rfl rfl (by decide) rfl (fun ls hl => ?_)
          refine lv_goto (tgt := 4) hx hb d_Wd_canBeLast_44 (by decide) ?_
          exact ih _ _ _ _ hP hS (lv_sub hl [1, 2, 3, 0] rfl) hf
        · rw [if_pos hc7] at hf
          refine lv_aload_n hx hb d_Wd_canBeLast_21 rfl (lv_at hl 0 rfl) ?_
          refine g_get (v := .ref (ad (w + 1))) hC hP h_w.1 co_Wd 0 (by decide) rfl fl_Wd_11 rfl d_Wd_canBeLast_22 ?_
          refine lv_iload_n hx hb d_Wd_canBeLast_25 rfl (lv_at hl 1 rfl) ?_
          obtain ⟨hg2, hf⟩ := gd_some hf
          refine g_iald2 (j := x1.toNatClampNeg) hC hP h_w.2 hg2 rfl d_Wd_canBeLast_26 ?_
          refine lv_aload_n hx hb d_Wd_canBeLast_27 rfl (lv_at hl 0 rfl) ?_
          refine g_get (v := .ref (ad (w + 1))) hC hP h_w.1 co_Wd 0 (by decide) rfl fl_Wd_11 rfl d_Wd_canBeLast_28 ?_
          refine lv_iload_n hx hb d_Wd_canBeLast_31 rfl (lv_at hl 3 rfl) ?_
          obtain ⟨hg3, hf⟩ := gd_some hf
          refine g_iald2 (j := v3_1.toNatClampNeg) hC hP h_w.2 hg3 rfl d_Wd_canBeLast_32 ?_
          obtain ⟨r5, hk4, hf⟩ := bp_some hf
          refine g_calli hS (g_runS (As := [.int (σ.1 (w + 1) x1.toNatClampNeg), .int (σ.1 (w + 1) v3_1.toNatClampNeg)]) (rest := []) hC hP (c_Wd_areNeighbours hj  hk4) (rk (by decide) (by decide)) nm_Wd_areNeighbours cd_Wd_areNeighbours it_WideTown_Word ml_Wd_33 sc_Wd_areNeighbours rfl hl.1 rfl (Nat.le_of_ble_eq_true rfl) d_Wd_canBeLast_33 zz) (fun H locs hP hS => ?_)
          refine lv_if_ne (tgt := 41) hx hb d_Wd_canBeLast_36 (by decide) (fun hc6 => ?_) (fun hc6 => ?_)
          · rw [if_neg hc6] at hf
            refine lv_iinc (v := v3_1 + 1) (lv' := [(3, .int (v3_1 + 1)), (0, .ref (ad w)), (1, .int x1), (2, .int x2)]) hx hb d_Wd_canBeLast_41 hl (k := 3) rfl rfl (by decide) rfl (fun ls hl => ?_)
            refine lv_goto (tgt := 4) hx hb d_Wd_canBeLast_44 (by decide) ?_
            exact ih _ _ _ _ hP hS (lv_sub hl [1, 2, 3, 0] rfl) hf
          · rw [if_pos hc6] at hf
            refine lv_iconst (v := (0 : Int32)) hx hb d_Wd_canBeLast_39 (by decide) ?_
            cases hf
            exact g_zret hC rfl (by decide) hP hS d_Wd_canBeLast_40
  exact hL1 _ _ _ _ _ hP hS (lv_sub hl [1, 2, 3, 0] rfl) hf
set_option maxHeartbeats 4000000 in
set_option maxRecDepth 100000 in
theorem c_Id_add {l : Launch} {D : va_G} {K : Nat → ClassId} {ad : Nat → Nat} (hj : inj ad)   {x1 : Int32} {x2 : Int64} {σ : GS} {z0 : GS} (hf : F_Id_add x1 x2 σ = some z0) : CT l D K ad y_Id_add b_Id_add 5 none 0 [.ref (ad 36), .int x1, .long x2] σ (QV D K ad z0) := by
  refine CT.intro hj (by decide) (Nat.le_of_ble_eq_true rfl) ?_
  intro p e s m args below meth c ls hC hP hS hl
  obtain ⟨hx, hb, -, hown, hts, -⟩ := id hC
  have hl : lv_has ls 5 [(0, .ref (ad 36)), (1, .int x1), (2, .long x2)] := hl
  rw [F_Id_add] at hf
  refine lv_iconst (v := (0 : Int32)) hx hb d_Id_add_0 (by decide) ?_
  refine lv_istore (lv' := [(4, .int (0 : Int32)), (0, .ref (ad 36)), (1, .int x1), (2, .long x2)]) hx hb d_Id_add_1 hl (by decide) rfl (fun ls hl => ?_)
  obtain ⟨KL1_41, eKL1_41, hf⟩ := jn_some hf
  have hKL1_41 : ∀ (v4_1 : Int32) (σL1 : GS) (H : Heap) (locs : List Loc) (ls : Array Slot), va_P D vwCl (wG K ad σL1) H → va_S (GA ad) s.heap H locs → lv_has ls 5 [(0, .ref (ad 36)), (1, .int x1), (2, .long x2)] → KL1_41 v4_1 σL1 = some z0 → W p l e (rmd 0) s m args below meth c H locs 0 0 (MQ below (QV D K ad z0) args s 0 0 (GA ad)) (F0 m 41 ls []) := by
    clear hf
    intro v4_1 σL1 H locs ls hP hS hl hf
    rw [eKL1_41] at hf
    try dsimp only at hf
    refine lv_aload_n hx hb d_Id_add_41 rfl (lv_at hl 0 rfl) ?_
    refine g_get (v := .int (σL1.1 36 4)) hC hP o_36 co_Id 4 (by decide) rfl fl_Id_23 rfl d_Id_add_42 ?_
    refine lv_bipush (v := (40 : Int32)) hx hb d_Id_add_45 (by decide) ?_
    refine lv_icmp_ge (tgt := 80) hx hb d_Id_add_47 (by decide) (fun hc9 => ?_) (fun hc9 => ?_)
    · rw [if_pos hc9] at hf
      cases hf
      exact g_vret hC rfl hP hS d_Id_add_80
    · rw [if_neg hc9] at hf
      refine lv_aload_n hx hb d_Id_add_50 rfl (lv_at hl 0 rfl) ?_
      refine g_get (v := .ref (ad ((σL1.1 36 1).toNatClampNeg))) hC hP o_36 co_Id 1 (by decide) rfl fl_Id_13 rfl d_Id_add_51 ?_
      refine lv_aload_n hx hb d_Id_add_54 rfl (lv_at hl 0 rfl) ?_
      refine g_get (v := .int (σL1.1 36 4)) hC hP o_36 co_Id 4 (by decide) rfl fl_Id_23 rfl d_Id_add_55 ?_
      refine lv_iload_n hx hb d_Id_add_58 rfl (lv_at hl 1 rfl) ?_
      obtain ⟨hg2, hf⟩ := gd_some hf
      obtain ⟨hg3, hf⟩ := gd_some hf
      obtain ⟨σ4, eσ4, hf⟩ := jn_some hf
      refine g_iast2 (j := (σL1.1 36 4).toNatClampNeg) hC hP hS (idA hg2) hg3 rfl d_Id_add_59 (fun H locs hP hS => ?_)
      rw [← eσ4] at hP
      refine lv_aload_n hx hb d_Id_add_60 rfl (lv_at hl 0 rfl) ?_
      refine g_get (v := .ref (ad ((σ4.1 36 3).toNatClampNeg))) hC hP o_36 co_Id 3 (by decide) rfl fl_Id_20 rfl d_Id_add_61 ?_
      refine lv_aload_n hx hb d_Id_add_64 rfl (lv_at hl 0 rfl) ?_
      refine g_get (v := .int (σ4.1 36 4)) hC hP o_36 co_Id 4 (by decide) rfl fl_Id_23 rfl d_Id_add_65 ?_
      refine lv_lload_n hx hb d_Id_add_68 rfl (lv_at hl 2 rfl) ?_
      obtain ⟨hg5, hf⟩ := gd_some hf
      obtain ⟨hg6, hf⟩ := gd_some hf
      obtain ⟨σ7, eσ7, hf⟩ := jn_some hf
      refine g_last2 (j := (σ4.1 36 4).toNatClampNeg) hC hP hS (idL hg5) hg6 rfl d_Id_add_69 (fun H locs hP hS => ?_)
      rw [← eσ7] at hP
      refine lv_aload_n hx hb d_Id_add_70 rfl (lv_at hl 0 rfl) ?_
      refine lv_dup hx hb d_Id_add_71 rfl ?_
      refine g_get (v := .int (σ7.1 36 4)) hC hP o_36 co_Id 4 (by decide) rfl fl_Id_23 rfl d_Id_add_72 ?_
      refine lv_iconst (v := (1 : Int32)) hx hb d_Id_add_75 (by decide) ?_
      refine lv_iadd hx hb d_Id_add_76 ?_
      obtain ⟨σ8, eσ8, hf⟩ := jn_some hf
      refine g_puti hC hP hS o_36 co_Id 4 (by decide) rfl fl_Id_23 rfl (to_Id 4 (by decide)) (Nat.le_of_ble_eq_true rfl) rfl d_Id_add_77 (fun H locs hP hS => ?_)
      rw [← eσ8] at hP
      cases hf
      exact g_vret hC rfl hP hS d_Id_add_80
  clear eKL1_41
  have hL1 : ∀ (n : Nat) (v4_1 : Int32) (σL1 : GS) (H : Heap) (locs : List Loc) (ls : Array Slot), va_P D vwCl (wG K ad σL1) H → va_S (GA ad) s.heap H locs → lv_has ls 5 [(0, .ref (ad 36)), (1, .int x1), (2, .long x2), (4, .int v4_1)] → F_Id_add_3 x1 x2 KL1_41 n v4_1 σL1 = some z0 → W p l e (rmd 0) s m args below meth c H locs 0 0 (MQ below (QV D K ad z0) args s 0 0 (GA ad)) (F0 m 3 ls []) := by
    clear hf
    intro n
    induction n with
    | zero =>
      intro v4_1 σL1 H locs ls hP hS hl hf
      rw [F_Id_add_3.eq_1] at hf
      cases hf
    | succ n ih =>
      intro v4_1 σL1 H locs ls hP hS hl hf
      rw [F_Id_add_3.eq_2] at hf
      refine lv_iload hx hb d_Id_add_3 (lv_at hl 3 rfl) ?_
      refine lv_aload_n hx hb d_Id_add_5 rfl (lv_at hl 0 rfl) ?_
      refine g_get (v := .int (σL1.1 36 4)) hC hP o_36 co_Id 4 (by decide) rfl fl_Id_23 rfl d_Id_add_6 ?_
      refine lv_icmp_ge (tgt := 41) hx hb d_Id_add_9 (by decide) (fun hc18 => ?_) (fun hc18 => ?_)
      · rw [if_pos hc18] at hf
        exact hKL1_41 _ _ _ _ _ hP hS (lv_sub hl [0, 1, 2] rfl) hf
      · rw [if_neg hc18] at hf
        refine lv_aload_n hx hb d_Id_add_12 rfl (lv_at hl 0 rfl) ?_
        refine g_get (v := .ref (ad ((σL1.1 36 1).toNatClampNeg))) hC hP o_36 co_Id 1 (by decide) rfl fl_Id_13 rfl d_Id_add_13 ?_
        refine lv_iload hx hb d_Id_add_16 (lv_at hl 3 rfl) ?_
        obtain ⟨hg10, hf⟩ := gd_some hf
        obtain ⟨hg11, hf⟩ := gd_some hf
        refine g_iald2 (j := v4_1.toNatClampNeg) hC hP (idA hg10) hg11 rfl d_Id_add_18 ?_
        refine lv_iload_n hx hb d_Id_add_19 rfl (lv_at hl 1 rfl) ?_
        refine lv_icmp_ne (tgt := 35) hx hb d_Id_add_20 (by decide) (fun hc17 => ?_) (fun hc17 => ?_)
        · rw [if_neg hc17] at hf
          refine lv_iinc (v := v4_1 + 1) (lv' := [(4, .int (v4_1 + 1)), (0, .ref (ad 36)), (1, .int x1), (2, .long x2)]) hx hb d_Id_add_35 hl (k := 3) rfl rfl (by decide) rfl (fun ls hl => ?_)
          refine lv_goto (tgt := 3) hx hb d_Id_add_38 (by decide) ?_
          exact ih _ _ _ _ _ hP hS (lv_sub hl [1, 2, 3, 0] rfl) hf
        · rw [if_pos hc17] at hf
          refine lv_aload_n hx hb d_Id_add_23 rfl (lv_at hl 0 rfl) ?_
          refine g_get (v := .ref (ad ((σL1.1 36 3).toNatClampNeg))) hC hP o_36 co_Id 3 (by decide) rfl fl_Id_20 rfl d_Id_add_24 ?_
          refine lv_iload hx hb d_Id_add_27 (lv_at hl 3 rfl) ?_
          refine lv_dup2_11 hx hb d_Id_add_29 rfl rfl ?_
          obtain ⟨hg12, hf⟩ := gd_some hf
          obtain ⟨hg13, hf⟩ := gd_some hf
          refine g_lald2 (j := v4_1.toNatClampNeg) hC hP (idL hg12) hg13 rfl d_Id_add_30 ?_
          refine lv_lload_n hx hb d_Id_add_31 rfl (lv_at hl 2 rfl) ?_
          refine lv_ladd hx hb d_Id_add_32 ?_
          obtain ⟨hg14, hf⟩ := gd_some hf
          obtain ⟨hg15, hf⟩ := gd_some hf
          obtain ⟨σ16, eσ16, hf⟩ := jn_some hf
          refine g_last2 (j := v4_1.toNatClampNeg) hC hP hS (idL hg14) hg15 rfl d_Id_add_33 (fun H locs hP hS => ?_)
          rw [← eσ16] at hP
          cases hf
          exact g_vret hC rfl hP hS d_Id_add_34
  exact hL1 _ _ _ _ _ _ hP hS (lv_sub hl [1, 2, 3, 0] rfl) hf
set_option maxHeartbeats 4000000 in
set_option maxRecDepth 100000 in
theorem c_Id_takeOff {l : Launch} {D : va_G} {K : Nat → ClassId} {ad : Nat → Nat} (hj : inj ad)   {x2 : Int32} {x3 : Int32} {σ : GS} {z0 : GS} (hf : F_Id_takeOff x2 x3 σ = some z0) : CT l D K ad y_Id_takeOff b_Id_takeOff 6 none 2 [.ref (ad 36), .ref (ad 32), .int x2, .int x3] σ (QV D K ad z0) := by
  refine CT.intro hj (by decide) (Nat.le_of_ble_eq_true rfl) ?_
  intro p e s m args below meth c ls hC hP hS hl
  obtain ⟨hx, hb, -, hown, hts, -⟩ := id hC
  have hl : lv_has ls 6 [(0, .ref (ad 36)), (1, .ref (ad 32)), (2, .int x2), (3, .int x3)] := hl
  rw [F_Id_takeOff] at hf
  refine lv_aload_n hx hb d_Id_takeOff_0 rfl (lv_at hl 0 rfl) ?_
  refine lv_iconst (v := (0 : Int32)) hx hb d_Id_takeOff_1 (by decide) ?_
  obtain ⟨σ1, eσ1, hf⟩ := jn_some hf
  refine g_puti hC hP hS o_36 co_Id 4 (by decide) rfl fl_Id_23 rfl (to_Id 4 (by decide)) (Nat.le_of_ble_eq_true rfl) rfl d_Id_takeOff_2 (fun H locs hP hS => ?_)
  rw [← eσ1] at hP
  refine lv_iconst (v := (0 : Int32)) hx hb d_Id_takeOff_5 (by decide) ?_
  refine lv_istore (lv' := [(4, .int (0 : Int32)), (0, .ref (ad 36)), (1, .ref (ad 32)), (2, .int x2), (3, .int x3)]) hx hb d_Id_takeOff_6 hl (by decide) rfl (fun ls hl => ?_)
  obtain ⟨KL2_92, eKL2_92, hf⟩ := jn_some hf
  have hKL2_92 : ∀ (v4_2 : Int32) (σL2 : GS) (H : Heap) (locs : List Loc) (ls : Array Slot), va_P D vwCl (wG K ad σL2) H → va_S (GA ad) s.heap H locs → lv_has ls 6 [] → KL2_92 v4_2 σL2 = some z0 → W p l e (rmd 2) s m args below meth c H locs 0 0 (MQ below (QV D K ad z0) args s 0 0 (GA ad)) (F0 m 92 ls []) := by
    clear hf
    intro v4_2 σL2 H locs ls hP hS hl hf
    rw [eKL2_92] at hf
    try dsimp only at hf
    cases hf
    exact g_vret hC rfl hP hS d_Id_takeOff_92
  clear eKL2_92
  have hL2 : ∀ (n : Nat) (v4_2 : Int32) (σL2 : GS) (H : Heap) (locs : List Loc) (ls : Array Slot), va_P D vwCl (wG K ad σL2) H → va_S (GA ad) s.heap H locs → lv_has ls 6 [(0, .ref (ad 36)), (1, .ref (ad 32)), (2, .int x2), (3, .int x3), (4, .int v4_2)] → F_Id_takeOff_8 x2 x3 KL2_92 n v4_2 σL2 = some z0 → W p l e (rmd 2) s m args below meth c H locs 0 0 (MQ below (QV D K ad z0) args s 0 0 (GA ad)) (F0 m 8 ls []) := by
    clear hf
    intro n
    induction n with
    | zero =>
      intro v4_2 σL2 H locs ls hP hS hl hf
      rw [F_Id_takeOff_8.eq_1] at hf
      cases hf
    | succ n ih =>
      intro v4_2 σL2 H locs ls hP hS hl hf
      rw [F_Id_takeOff_8.eq_2] at hf
      refine lv_iload hx hb d_Id_takeOff_8 (lv_at hl 4 rfl) ?_
      refine lv_iload_n hx hb d_Id_takeOff_10 rfl (lv_at hl 2 rfl) ?_
      refine lv_icmp_ge (tgt := 92) hx hb d_Id_takeOff_11 (by decide) (fun hc19 => ?_) (fun hc19 => ?_)
      · rw [if_pos hc19] at hf
        exact hKL2_92 _ _ _ _ _ hP hS (lv_sub hl [] rfl) hf
      · rw [if_neg hc19] at hf
        refine lv_iconst (v := (0 : Int32)) hx hb d_Id_takeOff_14 (by decide) ?_
        refine lv_istore (lv' := [(5, .int (0 : Int32)), (0, .ref (ad 36)), (1, .ref (ad 32)), (2, .int x2), (3, .int x3), (4, .int v4_2)]) hx hb d_Id_takeOff_15 hl (by decide) rfl (fun ls hl => ?_)
        obtain ⟨KL3_86, eKL3_86, hf⟩ := jn_some hf
        have hKL3_86 : ∀ (v5_3 : Int32) (σL3 : GS) (H : Heap) (locs : List Loc) (ls : Array Slot), va_P D vwCl (wG K ad σL3) H → va_S (GA ad) s.heap H locs → lv_has ls 6 [(0, .ref (ad 36)), (1, .ref (ad 32)), (2, .int x2), (3, .int x3), (4, .int v4_2)] → KL3_86 v5_3 σL3 = some z0 → W p l e (rmd 2) s m args below meth c H locs 0 0 (MQ below (QV D K ad z0) args s 0 0 (GA ad)) (F0 m 86 ls []) := by
          clear hf
          intro v5_3 σL3 H locs ls hP hS hl hf
          rw [eKL3_86] at hf
          try dsimp only at hf
          refine lv_iinc (v := v4_2 + 1) (lv' := [(4, .int (v4_2 + 1)), (0, .ref (ad 36)), (1, .ref (ad 32)), (2, .int x2), (3, .int x3)]) hx hb d_Id_takeOff_86 hl (k := 4) rfl rfl (by decide) rfl (fun ls hl => ?_)
          refine lv_goto (tgt := 8) hx hb d_Id_takeOff_89 (by decide) ?_
          exact ih _ _ _ _ _ hP hS (lv_sub hl [1, 2, 3, 4, 0] rfl) hf
        clear eKL3_86
        have hL3 : ∀ (n : Nat) (v5_3 : Int32) (σL3 : GS) (H : Heap) (locs : List Loc) (ls : Array Slot), va_P D vwCl (wG K ad σL3) H → va_S (GA ad) s.heap H locs → lv_has ls 6 [(0, .ref (ad 36)), (1, .ref (ad 32)), (2, .int x2), (3, .int x3), (4, .int v4_2), (5, .int v5_3)] → F_Id_takeOff_17 x2 x3 v4_2 KL3_86 n v5_3 σL3 = some z0 → W p l e (rmd 2) s m args below meth c H locs 0 0 (MQ below (QV D K ad z0) args s 0 0 (GA ad)) (F0 m 17 ls []) := by
          clear hf
          intro n
          induction n with
          | zero =>
            intro v5_3 σL3 H locs ls hP hS hl hf
            rw [F_Id_takeOff_17.eq_1] at hf
            cases hf
          | succ n ih =>
            intro v5_3 σL3 H locs ls hP hS hl hf
            rw [F_Id_takeOff_17.eq_2] at hf
            refine lv_iload hx hb d_Id_takeOff_17 (lv_at hl 5 rfl) ?_
            refine lv_iload_n hx hb d_Id_takeOff_19 rfl (lv_at hl 3 rfl) ?_
            refine lv_icmp_ge (tgt := 86) hx hb d_Id_takeOff_20 (by decide) (fun hc18 => ?_) (fun hc18 => ?_)
            · rw [if_pos hc18] at hf
              exact hKL3_86 _ _ _ _ _ hP hS (lv_sub hl [0, 1, 2, 3, 4] rfl) hf
            · rw [if_neg hc18] at hf
              refine lv_aload_n hx hb d_Id_takeOff_23 rfl (lv_at hl 0 rfl) ?_
              refine g_get (v := .ref (ad ((σL3.1 36 0).toNatClampNeg))) hC hP o_36 co_Id 0 (by decide) rfl fl_Id_9 rfl d_Id_takeOff_24 ?_
              refine lv_iload hx hb d_Id_takeOff_27 (lv_at hl 4 rfl) ?_
              obtain ⟨hg4, hf⟩ := gd_some hf
              obtain ⟨hg5, hf⟩ := gd_some hf
              refine g_iald2 (j := v4_2.toNatClampNeg) hC hP (idA hg4) hg5 rfl d_Id_takeOff_29 ?_
              refine lv_iload hx hb d_Id_takeOff_30 (lv_at hl 5 rfl) ?_
              refine lv_ishr hx hb d_Id_takeOff_32 ?_
              refine lv_iconst (v := (1 : Int32)) hx hb d_Id_takeOff_33 (by decide) ?_
              refine lv_iand hx hb d_Id_takeOff_34 ?_
              refine lv_iconst (v := (1 : Int32)) hx hb d_Id_takeOff_35 (by decide) ?_
              refine lv_icmp_ne (tgt := 80) hx hb d_Id_takeOff_36 (by decide) (fun hc17 => ?_) (fun hc17 => ?_)
              · rw [if_neg hc17] at hf
                refine lv_iinc (v := v5_3 + 1) (lv' := [(5, .int (v5_3 + 1)), (0, .ref (ad 36)), (1, .ref (ad 32)), (2, .int x2), (3, .int x3), (4, .int v4_2)]) hx hb d_Id_takeOff_80 hl (k := 5) rfl rfl (by decide) rfl (fun ls hl => ?_)
                refine lv_goto (tgt := 17) hx hb d_Id_takeOff_83 (by decide) ?_
                exact ih _ _ _ _ _ hP hS (lv_sub hl [1, 2, 3, 4, 5, 0] rfl) hf
              · rw [if_pos hc17] at hf
                refine lv_aload_n hx hb d_Id_takeOff_39 rfl (lv_at hl 1 rfl) ?_
                refine lv_iload hx hb d_Id_takeOff_40 (lv_at hl 5 rfl) ?_
                refine lv_aload_n hx hb d_Id_takeOff_42 rfl (lv_at hl 0 rfl) ?_
                refine g_get (v := .ref (ad ((σL3.1 36 0).toNatClampNeg))) hC hP o_36 co_Id 0 (by decide) rfl fl_Id_9 rfl d_Id_takeOff_43 ?_
                refine lv_iload hx hb d_Id_takeOff_46 (lv_at hl 4 rfl) ?_
                obtain ⟨hg6, hf⟩ := gd_some hf
                obtain ⟨hg7, hf⟩ := gd_some hf
                refine g_iald2 (j := v4_2.toNatClampNeg) hC hP (idA hg6) hg7 rfl d_Id_takeOff_48 ?_
                obtain ⟨r9, hk8, hf⟩ := bp_some hf
                refine g_calli hS (g_runV (As := [.int v5_3, .int (σL3.1 ((σL3.1 36 0).toNatClampNeg) v4_2.toNatClampNeg)]) (rest := []) hC hP (c_Wd_canBeLast hj ⟨o_32, a_33⟩ hk8) (rk (by decide) (by decide)) nm_Wd_canBeLast cd_Wd_canBeLast it_WideTown_Word ml_Id_52 im_Wd_canBeLast sl_Wd_canBeLast o_32 co_Wd rfl hl.1 rfl (Nat.le_of_ble_eq_true rfl) d_Id_takeOff_49 zz) (fun H locs hP hS => ?_)
                refine lv_if_eq (tgt := 80) hx hb d_Id_takeOff_52 (by decide) (fun hc16 => ?_) (fun hc16 => ?_)
                · rw [if_pos hc16] at hf
                  refine lv_iinc (v := v5_3 + 1) (lv' := [(5, .int (v5_3 + 1)), (0, .ref (ad 36)), (1, .ref (ad 32)), (2, .int x2), (3, .int x3), (4, .int v4_2)]) hx hb d_Id_takeOff_80 hl (k := 5) rfl rfl (by decide) rfl (fun ls hl => ?_)
                  refine lv_goto (tgt := 17) hx hb d_Id_takeOff_83 (by decide) ?_
                  exact ih _ _ _ _ _ hP hS (lv_sub hl [1, 2, 3, 4, 5, 0] rfl) hf
                · rw [if_neg hc16] at hf
                  refine lv_aload_n hx hb d_Id_takeOff_55 rfl (lv_at hl 0 rfl) ?_
                  refine lv_aload_n hx hb d_Id_takeOff_56 rfl (lv_at hl 0 rfl) ?_
                  refine g_get (v := .ref (ad ((σL3.1 36 0).toNatClampNeg))) hC hP o_36 co_Id 0 (by decide) rfl fl_Id_9 rfl d_Id_takeOff_57 ?_
                  refine lv_iload hx hb d_Id_takeOff_60 (lv_at hl 4 rfl) ?_
                  obtain ⟨hg10, hf⟩ := gd_some hf
                  obtain ⟨hg11, hf⟩ := gd_some hf
                  refine g_iald2 (j := v4_2.toNatClampNeg) hC hP (idA hg10) hg11 rfl d_Id_takeOff_62 ?_
                  refine lv_iconst (v := (1 : Int32)) hx hb d_Id_takeOff_63 (by decide) ?_
                  refine lv_iload hx hb d_Id_takeOff_64 (lv_at hl 5 rfl) ?_
                  refine lv_ishl hx hb d_Id_takeOff_66 ?_
                  refine lv_iconst (v := (-1 : Int32)) hx hb d_Id_takeOff_67 (by decide) ?_
                  refine lv_ixor hx hb d_Id_takeOff_68 ?_
                  refine lv_iand hx hb d_Id_takeOff_69 ?_
                  refine lv_aload_n hx hb d_Id_takeOff_70 rfl (lv_at hl 0 rfl) ?_
                  refine g_get (v := .ref (ad ((σL3.1 36 2).toNatClampNeg))) hC hP o_36 co_Id 2 (by decide) rfl fl_Id_16 rfl d_Id_takeOff_71 ?_
                  refine lv_iload hx hb d_Id_takeOff_74 (lv_at hl 4 rfl) ?_
                  obtain ⟨hg12, hf⟩ := gd_some hf
                  obtain ⟨hg13, hf⟩ := gd_some hf
                  refine g_lald2 (j := v4_2.toNatClampNeg) hC hP (idL hg12) hg13 rfl d_Id_takeOff_76 ?_
                  obtain ⟨σ15, hk14, hf⟩ := bv_some hf
                  refine g_callv hS (g_runV (As := [.int ((σL3.1 ((σL3.1 36 0).toNatClampNeg) v4_2.toNatClampNeg) &&& (((1 : Int32) <<< (v5_3 &&& 31)) ^^^ (-1 : Int32))), .long (σL3.2 ((σL3.1 36 2).toNatClampNeg) v4_2.toNatClampNeg)]) (rest := []) hC hP (c_Id_add hj  hk14) (rk (by decide) (by decide)) nm_Id_add cd_Id_add it_WideTown_Ideals ml_Id_56 im_Id_add sl_Id_add o_36 co_Id rfl hl.1 rfl (Nat.le_of_ble_eq_true rfl) d_Id_takeOff_77 zz) (fun H locs hP hS => ?_)
                  refine lv_iinc (v := v5_3 + 1) (lv' := [(5, .int (v5_3 + 1)), (0, .ref (ad 36)), (1, .ref (ad 32)), (2, .int x2), (3, .int x3), (4, .int v4_2)]) hx hb d_Id_takeOff_80 hl (k := 5) rfl rfl (by decide) rfl (fun ls hl => ?_)
                  refine lv_goto (tgt := 17) hx hb d_Id_takeOff_83 (by decide) ?_
                  exact ih _ _ _ _ _ hP hS (lv_sub hl [1, 2, 3, 4, 5, 0] rfl) hf
        exact hL3 _ _ _ _ _ _ hP hS (lv_sub hl [1, 2, 3, 4, 5, 0] rfl) hf
  exact hL2 _ _ _ _ _ _ hP hS (lv_sub hl [1, 2, 3, 4, 0] rfl) hf
set_option maxHeartbeats 4000000 in
set_option maxRecDepth 100000 in
theorem c_Id_swap {l : Launch} {D : va_G} {K : Nat → ClassId} {ad : Nat → Nat} (hj : inj ad)    {σ : GS} {z0 : GS} (hf : F_Id_swap σ = some z0) : CT l D K ad y_Id_swap b_Id_swap 3 none 0 [.ref (ad 36)] σ (QV D K ad z0) := by
  refine CT.intro hj (by decide) (Nat.le_of_ble_eq_true rfl) ?_
  intro p e s m args below meth c ls hC hP hS hl
  obtain ⟨hx, hb, -, hown, hts, -⟩ := id hC
  have hl : lv_has ls 3 [(0, .ref (ad 36))] := hl
  rw [F_Id_swap] at hf
  refine lv_aload_n hx hb d_Id_swap_0 rfl (lv_at hl 0 rfl) ?_
  refine g_get (v := .ref (ad ((σ.1 36 0).toNatClampNeg))) hC hP o_36 co_Id 0 (by decide) rfl fl_Id_9 rfl d_Id_swap_1 ?_
  refine lv_astore_n (lv' := [(1, .ref (ad ((σ.1 36 0).toNatClampNeg))), (0, .ref (ad 36))]) hx hb d_Id_swap_4 rfl hl (by decide) rfl (fun ls hl => ?_)
  refine lv_aload_n hx hb d_Id_swap_5 rfl (lv_at hl 1 rfl) ?_
  refine lv_aload_n hx hb d_Id_swap_6 rfl (lv_at hl 1 rfl) ?_
  refine g_get (v := .ref (ad ((σ.1 36 1).toNatClampNeg))) hC hP o_36 co_Id 1 (by decide) rfl fl_Id_13 rfl d_Id_swap_7 ?_
  obtain ⟨σ1, eσ1, hf⟩ := jn_some hf
  refine g_putr hC hP hS (x := σ.1 36 1) o_36 co_Id 0 (by decide) rfl fl_Id_9 rfl (to_Id 0 (by decide)) rfl rfl (Nat.le_of_ble_eq_true rfl) rfl d_Id_swap_10 (fun H locs hP hS => ?_)
  rw [← eσ1] at hP
  refine lv_aload_n hx hb d_Id_swap_13 rfl (lv_at hl 1 rfl) ?_
  refine lv_aload_n hx hb d_Id_swap_14 rfl (lv_at hl 0 rfl) ?_
  obtain ⟨σ2, eσ2, hf⟩ := jn_some hf
  refine g_putr hC hP hS (x := σ.1 36 0) o_36 co_Id 1 (by decide) rfl fl_Id_13 rfl (to_Id 1 (by decide)) rfl rfl (Nat.le_of_ble_eq_true rfl) rfl d_Id_swap_15 (fun H locs hP hS => ?_)
  rw [← eσ2] at hP
  refine lv_aload_n hx hb d_Id_swap_18 rfl (lv_at hl 1 rfl) ?_
  refine g_get (v := .ref (ad ((σ2.1 36 2).toNatClampNeg))) hC hP o_36 co_Id 2 (by decide) rfl fl_Id_16 rfl d_Id_swap_19 ?_
  refine lv_astore_n (lv' := [(2, .ref (ad ((σ2.1 36 2).toNatClampNeg))), (1, .ref (ad ((σ.1 36 0).toNatClampNeg))), (0, .ref (ad 36))]) hx hb d_Id_swap_22 rfl hl (by decide) rfl (fun ls hl => ?_)
  refine lv_aload_n hx hb d_Id_swap_23 rfl (lv_at hl 2 rfl) ?_
  refine lv_aload_n hx hb d_Id_swap_24 rfl (lv_at hl 2 rfl) ?_
  refine g_get (v := .ref (ad ((σ2.1 36 3).toNatClampNeg))) hC hP o_36 co_Id 3 (by decide) rfl fl_Id_20 rfl d_Id_swap_25 ?_
  obtain ⟨σ3, eσ3, hf⟩ := jn_some hf
  refine g_putr hC hP hS (x := σ2.1 36 3) o_36 co_Id 2 (by decide) rfl fl_Id_16 rfl (to_Id 2 (by decide)) rfl rfl (Nat.le_of_ble_eq_true rfl) rfl d_Id_swap_28 (fun H locs hP hS => ?_)
  rw [← eσ3] at hP
  refine lv_aload_n hx hb d_Id_swap_31 rfl (lv_at hl 2 rfl) ?_
  refine lv_aload_n hx hb d_Id_swap_32 rfl (lv_at hl 0 rfl) ?_
  obtain ⟨σ4, eσ4, hf⟩ := jn_some hf
  refine g_putr hC hP hS (x := σ2.1 36 2) o_36 co_Id 3 (by decide) rfl fl_Id_20 rfl (to_Id 3 (by decide)) rfl rfl (Nat.le_of_ble_eq_true rfl) rfl d_Id_swap_33 (fun H locs hP hS => ?_)
  rw [← eσ4] at hP
  cases hf
  exact g_vret hC rfl hP hS d_Id_swap_36
set_option maxHeartbeats 4000000 in
set_option maxRecDepth 100000 in
theorem c_Id_tally {l : Launch} {D : va_G} {K : Nat → ClassId} {ad : Nat → Nat} (hj : inj ad)    {σ : GS} {z0 : GS} (hf : F_Id_tally σ = some z0) : CT l D K ad y_Id_tally b_Id_tally 5 none 3 [.ref (ad 36), .ref (ad 32)] σ (QV D K ad z0) := by
  refine CT.intro hj (by decide) (Nat.le_of_ble_eq_true rfl) ?_
  intro p e s m args below meth c ls hC hP hS hl
  obtain ⟨hx, hb, -, hown, hts, -⟩ := id hC
  have hl : lv_has ls 5 [(0, .ref (ad 36)), (1, .ref (ad 32))] := hl
  rw [F_Id_tally] at hf
  refine lv_aload_n hx hb d_Id_tally_0 rfl (lv_at hl 1 rfl) ?_
  refine g_get (v := .int (σ.1 32 1)) hC hP o_32 co_Wd 1 (by decide) rfl fl_Id_34 rfl d_Id_tally_1 ?_
  refine lv_bipush (v := (18 : Int32)) hx hb d_Id_tally_4 (by decide) ?_
  refine g_mmin hC hl.1 ml_Id_39 sc_Mmin cd_Mmin it_java_lang_Math (Nat.le_of_ble_eq_true rfl) (Nat.le_of_ble_eq_true rfl) zz d_Id_tally_6 ?_
  refine lv_istore_n (lv' := [(2, .int (if (18 : Int32) < (σ.1 32 1) then (18 : Int32) else (σ.1 32 1))), (0, .ref (ad 36)), (1, .ref (ad 32))]) hx hb d_Id_tally_9 rfl hl (by decide) rfl (fun ls hl => ?_)
  refine lv_iconst (v := (1 : Int32)) hx hb d_Id_tally_10 (by decide) ?_
  refine lv_istore_n (lv' := [(3, .int (1 : Int32)), (2, .int (if (18 : Int32) < (σ.1 32 1) then (18 : Int32) else (σ.1 32 1))), (0, .ref (ad 36)), (1, .ref (ad 32))]) hx hb d_Id_tally_11 rfl hl (by decide) rfl (fun ls hl => ?_)
  refine lv_aload_n hx hb d_Id_tally_12 rfl (lv_at hl 2 rfl) ?_
  refine g_get (v := .ref (ad ((σ.1 36 0).toNatClampNeg))) hC hP o_36 co_Id 0 (by decide) rfl fl_Id_9 rfl d_Id_tally_13 ?_
  refine lv_iconst (v := (0 : Int32)) hx hb d_Id_tally_16 (by decide) ?_
  refine lv_iconst (v := (1 : Int32)) hx hb d_Id_tally_17 (by decide) ?_
  refine lv_iload_n hx hb d_Id_tally_18 rfl (lv_at hl 1 rfl) ?_
  refine lv_ishl hx hb d_Id_tally_19 ?_
  refine lv_iconst (v := (1 : Int32)) hx hb d_Id_tally_20 (by decide) ?_
  refine lv_isub hx hb d_Id_tally_21 ?_
  obtain ⟨hg1, hf⟩ := gd_some hf
  obtain ⟨σ2, eσ2, hf⟩ := jn_some hf
  refine g_iast2 (j := 0) hC hP hS (idA hg1) (by decide) rfl d_Id_tally_22 (fun H locs hP hS => ?_)
  rw [← eσ2] at hP
  refine lv_aload_n hx hb d_Id_tally_23 rfl (lv_at hl 2 rfl) ?_
  refine g_get (v := .ref (ad ((σ2.1 36 2).toNatClampNeg))) hC hP o_36 co_Id 2 (by decide) rfl fl_Id_16 rfl d_Id_tally_24 ?_
  refine lv_iconst (v := (0 : Int32)) hx hb d_Id_tally_27 (by decide) ?_
  refine lv_lconst (v := (1 : Int64)) hx hb d_Id_tally_28 (by decide) ?_
  obtain ⟨hg3, hf⟩ := gd_some hf
  obtain ⟨σ4, eσ4, hf⟩ := jn_some hf
  refine g_last2 (j := 0) hC hP hS (idL hg3) (by decide) rfl d_Id_tally_29 (fun H locs hP hS => ?_)
  rw [← eσ4] at hP
  refine lv_aload_n hx hb d_Id_tally_30 rfl (lv_at hl 2 rfl) ?_
  refine lv_iconst (v := (1 : Int32)) hx hb d_Id_tally_31 (by decide) ?_
  obtain ⟨σ5, eσ5, hf⟩ := jn_some hf
  refine g_puti hC hP hS o_36 co_Id 6 (by decide) rfl fl_Id_31 rfl (to_Id 6 (by decide)) (Nat.le_of_ble_eq_true rfl) rfl d_Id_tally_32 (fun H locs hP hS => ?_)
  rw [← eσ5] at hP
  refine lv_iconst (v := (0 : Int32)) hx hb d_Id_tally_35 (by decide) ?_
  refine lv_istore (lv' := [(4, .int (0 : Int32)), (3, .int (1 : Int32)), (2, .int (if (18 : Int32) < (σ.1 32 1) then (18 : Int32) else (σ.1 32 1))), (0, .ref (ad 36)), (1, .ref (ad 32))]) hx hb d_Id_tally_36 hl (by decide) rfl (fun ls hl => ?_)
  obtain ⟨u2_6, eu2_6, hf⟩ := jn_some hf
  have hl : lv_has ls 5 [(4, .int (0 : Int32)), (3, .int (1 : Int32)), (2, .int u2_6), (0, .ref (ad 36)), (1, .ref (ad 32))] := by rw [eu2_6]; exact hl
  obtain ⟨KL7_76, eKL7_76, hf⟩ := jn_some hf
  have hKL7_76 : ∀ (v3_7 : Int32) (v4_7 : Int32) (σL7 : GS) (H : Heap) (locs : List Loc) (ls : Array Slot), va_P D vwCl (wG K ad σL7) H → va_S (GA ad) s.heap H locs → lv_has ls 5 [(0, .ref (ad 36))] → KL7_76 v3_7 v4_7 σL7 = some z0 → W p l e (rmd 3) s m args below meth c H locs 0 0 (MQ below (QV D K ad z0) args s 0 0 (GA ad)) (F0 m 76 ls []) := by
    clear hf
    intro v3_7 v4_7 σL7 H locs ls hP hS hl hf
    rw [eKL7_76] at hf
    try dsimp only at hf
    refine lv_aload_n hx hb d_Id_tally_76 rfl (lv_at hl 0 rfl) ?_
    refine lv_aload_n hx hb d_Id_tally_77 rfl (lv_at hl 0 rfl) ?_
    refine g_get (v := .ref (ad ((σL7.1 36 2).toNatClampNeg))) hC hP o_36 co_Id 2 (by decide) rfl fl_Id_16 rfl d_Id_tally_78 ?_
    refine lv_iconst (v := (0 : Int32)) hx hb d_Id_tally_81 (by decide) ?_
    obtain ⟨hg8, hf⟩ := gd_some hf
    refine g_lald2 (j := 0) hC hP (idL hg8) (by decide) rfl d_Id_tally_82 ?_
    obtain ⟨σ9, eσ9, hf⟩ := jn_some hf
    refine g_putl hC hP hS o_36 co_Id 5 (by decide) rfl fl_Id_27 rfl (to_Id 5 (by decide)) (Nat.le_of_ble_eq_true rfl) rfl d_Id_tally_83 (fun H locs hP hS => ?_)
    rw [← eσ9] at hP
    cases hf
    exact g_vret hC rfl hP hS d_Id_tally_86
  clear eKL7_76
  have hL7 : ∀ (n : Nat) (v3_7 : Int32) (v4_7 : Int32) (σL7 : GS) (H : Heap) (locs : List Loc) (ls : Array Slot), va_P D vwCl (wG K ad σL7) H → va_S (GA ad) s.heap H locs → lv_has ls 5 [(0, .ref (ad 36)), (1, .ref (ad 32)), (2, .int u2_6), (3, .int v3_7), (4, .int v4_7)] → F_Id_tally_38 u2_6 KL7_76 n v3_7 v4_7 σL7 = some z0 → W p l e (rmd 3) s m args below meth c H locs 0 0 (MQ below (QV D K ad z0) args s 0 0 (GA ad)) (F0 m 38 ls []) := by
    clear hf
    intro n
    induction n with
    | zero =>
      intro v3_7 v4_7 σL7 H locs ls hP hS hl hf
      rw [F_Id_tally_38.eq_1] at hf
      cases hf
    | succ n ih =>
      intro v3_7 v4_7 σL7 H locs ls hP hS hl hf
      rw [F_Id_tally_38.eq_2] at hf
      refine lv_iload hx hb d_Id_tally_38 (lv_at hl 4 rfl) ?_
      refine lv_iload_n hx hb d_Id_tally_40 rfl (lv_at hl 2 rfl) ?_
      refine lv_icmp_ge (tgt := 76) hx hb d_Id_tally_41 (by decide) (fun hc15 => ?_) (fun hc15 => ?_)
      · rw [if_pos hc15] at hf
        exact hKL7_76 _ _ _ _ _ _ hP hS (lv_sub hl [0] rfl) hf
      · rw [if_neg hc15] at hf
        refine lv_aload_n hx hb d_Id_tally_44 rfl (lv_at hl 0 rfl) ?_
        refine lv_aload_n hx hb d_Id_tally_45 rfl (lv_at hl 1 rfl) ?_
        refine lv_iload_n hx hb d_Id_tally_46 rfl (lv_at hl 3 rfl) ?_
        refine lv_iload_n hx hb d_Id_tally_47 rfl (lv_at hl 2 rfl) ?_
        obtain ⟨σ11, hk10, hf⟩ := bv_some hf
        refine g_callv hS (g_runV (As := [.ref (ad 32), .int v3_7, .int u2_6]) (rest := []) hC hP (c_Id_takeOff hj  hk10) (rk (by decide) (by decide)) nm_Id_takeOff cd_Id_takeOff it_WideTown_Ideals ml_Id_45 im_Id_takeOff sl_Id_takeOff o_36 co_Id rfl hl.1 rfl (Nat.le_of_ble_eq_true rfl) d_Id_tally_48 zz) (fun H locs hP hS => ?_)
        refine lv_aload_n hx hb d_Id_tally_51 rfl (lv_at hl 0 rfl) ?_
        obtain ⟨σ13, hk12, hf⟩ := bv_some hf
        refine g_callv hS (g_runV (As := []) (rest := []) hC hP (c_Id_swap hj  hk12) (rk (by decide) (by decide)) nm_Id_swap cd_Id_swap it_WideTown_Ideals ml_Id_49 im_Id_swap sl_Id_swap o_36 co_Id rfl hl.1 rfl (Nat.le_of_ble_eq_true rfl) d_Id_tally_52 zz) (fun H locs hP hS => ?_)
        refine lv_aload_n hx hb d_Id_tally_55 rfl (lv_at hl 0 rfl) ?_
        refine g_get (v := .int (σ13.1 36 4)) hC hP o_36 co_Id 4 (by decide) rfl fl_Id_23 rfl d_Id_tally_56 ?_
        refine lv_istore_n (lv' := [(3, .int (σ13.1 36 4)), (0, .ref (ad 36)), (1, .ref (ad 32)), (2, .int u2_6), (4, .int v4_7)]) hx hb d_Id_tally_59 rfl hl (by decide) rfl (fun ls hl => ?_)
        refine lv_aload_n hx hb d_Id_tally_60 rfl (lv_at hl 1 rfl) ?_
        refine lv_dup hx hb d_Id_tally_61 rfl ?_
        refine g_get (v := .int (σ13.1 36 6)) hC hP o_36 co_Id 6 (by decide) rfl fl_Id_31 rfl d_Id_tally_62 ?_
        refine lv_iload_n hx hb d_Id_tally_65 rfl (lv_at hl 0 rfl) ?_
        refine lv_iadd hx hb d_Id_tally_66 ?_
        obtain ⟨σ14, eσ14, hf⟩ := jn_some hf
        refine g_puti hC hP hS o_36 co_Id 6 (by decide) rfl fl_Id_31 rfl (to_Id 6 (by decide)) (Nat.le_of_ble_eq_true rfl) rfl d_Id_tally_67 (fun H locs hP hS => ?_)
        rw [← eσ14] at hP
        refine lv_iinc (v := v4_7 + 1) (lv' := [(4, .int (v4_7 + 1)), (3, .int (σ13.1 36 4)), (0, .ref (ad 36)), (1, .ref (ad 32)), (2, .int u2_6)]) hx hb d_Id_tally_70 hl (k := 4) rfl rfl (by decide) rfl (fun ls hl => ?_)
        refine lv_goto (tgt := 38) hx hb d_Id_tally_73 (by decide) ?_
        exact ih _ _ _ _ _ _ hP hS (lv_sub hl [2, 3, 4, 1, 0] rfl) hf
  exact hL7 _ _ _ _ _ _ _ hP hS (lv_sub hl [3, 4, 2, 1, 0] rfl) hf
set_option maxHeartbeats 4000000 in
set_option maxRecDepth 100000 in
theorem c_J_fillI {l : Launch} {D : va_G} {K : Nat → ClassId} {ad : Nat → Nat} (hj : inj ad) {q0 : Nat} {n0 : Nat} (h_q0 : isA K ad q0 0 n0) {x1 : Int32} {σ : GS} {z0 : GS} (hf : F_J_fillI q0 n0 x1 σ = some z0) : CT l D K ad y_J_fillI b_J_fillI 4 none 0 [.ref (ad q0), .int x1] σ (QV D K ad z0) := by
  refine CT.intro hj (by decide) (Nat.le_of_ble_eq_true rfl) ?_
  intro p e s m args below meth c ls hC hP hS hl
  obtain ⟨hx, hb, -, hown, hts, -⟩ := id hC
  have hl : lv_has ls 4 [(0, .ref (ad q0)), (1, .int x1)] := hl
  rw [F_J_fillI] at hf
  refine lv_iconst (v := (0 : Int32)) hx hb d_J_fillI_0 (by decide) ?_
  refine lv_istore_n (lv' := [(2, .int (0 : Int32)), (0, .ref (ad q0)), (1, .int x1)]) hx hb d_J_fillI_1 rfl hl (by decide) rfl (fun ls hl => ?_)
  refine lv_aload_n hx hb d_J_fillI_2 rfl (lv_at hl 1 rfl) ?_
  refine g_alen (v := Int32.ofNat n0) hC hP h_q0 rfl rfl d_J_fillI_3 ?_
  refine lv_istore_n (lv' := [(3, .int (Int32.ofNat n0)), (2, .int (0 : Int32)), (0, .ref (ad q0)), (1, .int x1)]) hx hb d_J_fillI_4 rfl hl (by decide) rfl (fun ls hl => ?_)
  obtain ⟨u3_1, eu3_1, hf⟩ := jn_some hf
  have hl : lv_has ls 4 [(3, .int u3_1), (2, .int (0 : Int32)), (0, .ref (ad q0)), (1, .int x1)] := by rw [eu3_1]; exact hl
  obtain ⟨KL2_20, eKL2_20, hf⟩ := jn_some hf
  have hKL2_20 : ∀ (v2_2 : Int32) (σL2 : GS) (H : Heap) (locs : List Loc) (ls : Array Slot), va_P D vwCl (wG K ad σL2) H → va_S (GA ad) s.heap H locs → lv_has ls 4 [] → KL2_20 v2_2 σL2 = some z0 → W p l e (rmd 0) s m args below meth c H locs 0 0 (MQ below (QV D K ad z0) args s 0 0 (GA ad)) (F0 m 20 ls []) := by
    clear hf
    intro v2_2 σL2 H locs ls hP hS hl hf
    rw [eKL2_20] at hf
    try dsimp only at hf
    cases hf
    exact g_vret hC rfl hP hS d_J_fillI_20
  clear eKL2_20
  have hL2 : ∀ (n : Nat) (v2_2 : Int32) (σL2 : GS) (H : Heap) (locs : List Loc) (ls : Array Slot), va_P D vwCl (wG K ad σL2) H → va_S (GA ad) s.heap H locs → lv_has ls 4 [(0, .ref (ad q0)), (1, .int x1), (2, .int v2_2), (3, .int u3_1)] → F_J_fillI_5 q0 n0 x1 u3_1 KL2_20 n v2_2 σL2 = some z0 → W p l e (rmd 0) s m args below meth c H locs 0 0 (MQ below (QV D K ad z0) args s 0 0 (GA ad)) (F0 m 5 ls []) := by
    clear hf
    intro n
    induction n with
    | zero =>
      intro v2_2 σL2 H locs ls hP hS hl hf
      rw [F_J_fillI_5.eq_1] at hf
      cases hf
    | succ n ih =>
      intro v2_2 σL2 H locs ls hP hS hl hf
      rw [F_J_fillI_5.eq_2] at hf
      refine lv_iload_n hx hb d_J_fillI_5 rfl (lv_at hl 2 rfl) ?_
      refine lv_iload_n hx hb d_J_fillI_6 rfl (lv_at hl 3 rfl) ?_
      refine lv_icmp_ge (tgt := 20) hx hb d_J_fillI_7 (by decide) (fun hc5 => ?_) (fun hc5 => ?_)
      · rw [if_pos hc5] at hf
        exact hKL2_20 _ _ _ _ _ hP hS (lv_sub hl [] rfl) hf
      · rw [if_neg hc5] at hf
        refine lv_aload_n hx hb d_J_fillI_10 rfl (lv_at hl 0 rfl) ?_
        refine lv_iload_n hx hb d_J_fillI_11 rfl (lv_at hl 2 rfl) ?_
        refine lv_iload_n hx hb d_J_fillI_12 rfl (lv_at hl 1 rfl) ?_
        obtain ⟨hg3, hf⟩ := gd_some hf
        obtain ⟨σ4, eσ4, hf⟩ := jn_some hf
        refine g_iast2 (j := v2_2.toNatClampNeg) hC hP hS h_q0 hg3 rfl d_J_fillI_13 (fun H locs hP hS => ?_)
        rw [← eσ4] at hP
        refine lv_iinc (v := v2_2 + 1) (lv' := [(2, .int (v2_2 + 1)), (0, .ref (ad q0)), (1, .int x1), (3, .int u3_1)]) hx hb d_J_fillI_14 hl (k := 2) rfl rfl (by decide) rfl (fun ls hl => ?_)
        refine lv_goto (tgt := 5) hx hb d_J_fillI_17 (by decide) ?_
        exact ih _ _ _ _ _ hP hS (lv_sub hl [1, 2, 0, 3] rfl) hf
  exact hL2 _ _ _ _ _ _ hP hS (lv_sub hl [2, 3, 1, 0] rfl) hf
set_option maxHeartbeats 4000000 in
set_option maxRecDepth 100000 in
theorem c_Qu_numberOfCode {l : Launch} {D : va_G} {K : Nat → ClassId} {ad : Nat → Nat} (hj : inj ad)   {x0 : Int32} {σ : GS} {z0 : Int32} (hf : F_Qu_numberOfCode x0 = some z0) : CT l D K ad y_Qu_numberOfCode b_Qu_numberOfCode 4 (some .int) 0 [.int x0] σ (QI D K ad z0 σ) := by
  refine CT.intro hj (by decide) (Nat.le_of_ble_eq_true rfl) ?_
  intro p e s m args below meth c ls hC hP hS hl
  obtain ⟨hx, hb, -, hown, hts, -⟩ := id hC
  have hl : lv_has ls 4 [(0, .int x0)] := hl
  rw [F_Qu_numberOfCode] at hf
  refine lv_iconst (v := (0 : Int32)) hx hb d_Qu_numberOfCode_0 (by decide) ?_
  refine lv_istore_n (lv' := [(1, .int (0 : Int32)), (0, .int x0)]) hx hb d_Qu_numberOfCode_1 rfl hl (by decide) rfl (fun ls hl => ?_)
  refine lv_iconst (v := (1 : Int32)) hx hb d_Qu_numberOfCode_2 (by decide) ?_
  refine lv_istore_n (lv' := [(2, .int (1 : Int32)), (1, .int (0 : Int32)), (0, .int x0)]) hx hb d_Qu_numberOfCode_3 rfl hl (by decide) rfl (fun ls hl => ?_)
  refine lv_iload_n hx hb d_Qu_numberOfCode_4 rfl (lv_at hl 2 rfl) ?_
  refine lv_istore_n (lv' := [(3, .int x0), (2, .int (1 : Int32)), (1, .int (0 : Int32)), (0, .int x0)]) hx hb d_Qu_numberOfCode_5 rfl hl (by decide) rfl (fun ls hl => ?_)
  obtain ⟨KL1_31, eKL1_31, hf⟩ := jn_some hf
  have hKL1_31 : ∀ (v1_1 : Int32) (v2_1 : Int32) (v3_1 : Int32) (H : Heap) (locs : List Loc) (ls : Array Slot), va_P D vwCl (wG K ad σ) H → va_S (GA ad) s.heap H locs → lv_has ls 4 [(1, .int v1_1)] → KL1_31 v1_1 v2_1 v3_1 = some z0 → W p l e (rmd 0) s m args below meth c H locs 0 0 (MQ below (QI D K ad z0 σ) args s 0 0 (GA ad)) (F0 m 31 ls []) := by
    clear hf
    intro v1_1 v2_1 v3_1 H locs ls hP hS hl hf
    rw [eKL1_31] at hf
    try dsimp only at hf
    refine lv_iload_n hx hb d_Qu_numberOfCode_31 rfl (lv_at hl 0 rfl) ?_
    cases hf
    exact g_iret hC rfl hP hS d_Qu_numberOfCode_32
  clear eKL1_31
  have hL1 : ∀ (n : Nat) (v1_1 : Int32) (v2_1 : Int32) (v3_1 : Int32) (H : Heap) (locs : List Loc) (ls : Array Slot), va_P D vwCl (wG K ad σ) H → va_S (GA ad) s.heap H locs → lv_has ls 4 [(1, .int v1_1), (2, .int v2_1), (3, .int v3_1)] → F_Qu_numberOfCode_6 KL1_31 n v1_1 v2_1 v3_1 = some z0 → W p l e (rmd 0) s m args below meth c H locs 0 0 (MQ below (QI D K ad z0 σ) args s 0 0 (GA ad)) (F0 m 6 ls []) := by
    clear hf
    intro n
    induction n with
    | zero =>
      intro v1_1 v2_1 v3_1 H locs ls hP hS hl hf
      rw [F_Qu_numberOfCode_6.eq_1] at hf
      cases hf
    | succ n ih =>
      intro v1_1 v2_1 v3_1 H locs ls hP hS hl hf
      rw [F_Qu_numberOfCode_6.eq_2] at hf
      refine lv_iload_n hx hb d_Qu_numberOfCode_6 rfl (lv_at hl 2 rfl) ?_
      refine lv_if_le (tgt := 31) hx hb d_Qu_numberOfCode_7 (by decide) (fun hc2 => ?_) (fun hc2 => ?_)
      · rw [if_pos hc2] at hf
        exact hKL1_31 _ _ _ _ _ _ hP hS (lv_sub hl [0] rfl) hf
      · rw [if_neg hc2] at hf
        refine lv_iload_n hx hb d_Qu_numberOfCode_10 rfl (lv_at hl 0 rfl) ?_
        refine lv_iload_n hx hb d_Qu_numberOfCode_11 rfl (lv_at hl 2 rfl) ?_
        refine lv_bipush (v := (10 : Int32)) hx hb d_Qu_numberOfCode_12 (by decide) ?_
        refine lv_irem hx hb d_Qu_numberOfCode_14 (by decide) ?_
        refine lv_iload_n hx hb d_Qu_numberOfCode_15 rfl (lv_at hl 1 rfl) ?_
        refine lv_imul hx hb d_Qu_numberOfCode_16 ?_
        refine lv_iadd hx hb d_Qu_numberOfCode_17 ?_
        refine lv_istore_n (lv' := [(1, .int (v1_1 + ((v3_1 - v3_1 / (10 : Int32) * (10 : Int32)) * v2_1))), (2, .int v2_1), (3, .int v3_1)]) hx hb d_Qu_numberOfCode_18 rfl hl (by decide) rfl (fun ls hl => ?_)
        refine lv_iload_n hx hb d_Qu_numberOfCode_19 rfl (lv_at hl 1 rfl) ?_
        refine lv_iconst (v := (5 : Int32)) hx hb d_Qu_numberOfCode_20 (by decide) ?_
        refine lv_imul hx hb d_Qu_numberOfCode_21 ?_
        refine lv_istore_n (lv' := [(2, .int (v2_1 * (5 : Int32))), (1, .int (v1_1 + ((v3_1 - v3_1 / (10 : Int32) * (10 : Int32)) * v2_1))), (3, .int v3_1)]) hx hb d_Qu_numberOfCode_22 rfl hl (by decide) rfl (fun ls hl => ?_)
        refine lv_iload_n hx hb d_Qu_numberOfCode_23 rfl (lv_at hl 2 rfl) ?_
        refine lv_bipush (v := (10 : Int32)) hx hb d_Qu_numberOfCode_24 (by decide) ?_
        refine lv_idiv hx hb d_Qu_numberOfCode_26 (by decide) ?_
        refine lv_istore_n (lv' := [(3, .int (v3_1 / (10 : Int32))), (2, .int (v2_1 * (5 : Int32))), (1, .int (v1_1 + ((v3_1 - v3_1 / (10 : Int32) * (10 : Int32)) * v2_1)))]) hx hb d_Qu_numberOfCode_27 rfl hl (by decide) rfl (fun ls hl => ?_)
        refine lv_goto (tgt := 6) hx hb d_Qu_numberOfCode_28 (by decide) ?_
        exact ih _ _ _ _ _ _ hP hS (lv_sub hl [2, 1, 0] rfl) hf
  exact hL1 _ _ _ _ _ _ _ hP hS (lv_sub hl [2, 1, 0] rfl) hf
set_option maxHeartbeats 4000000 in
set_option maxRecDepth 100000 in
theorem c_Qu_numberOf {l : Launch} {D : va_G} {K : Nat → ClassId} {ad : Nat → Nat} (hj : inj ad)   {x1 : Int32} {x2 : Int32} {σ : GS} {z0 : Int32 × GS} (hf : F_Qu_numberOf x1 x2 σ = some z0) : CT l D K ad y_Qu_numberOf b_Qu_numberOf 4 (some .int) 1 [.ref (ad 54), .int x1, .int x2] σ (QI D K ad z0.1 z0.2) := by
  refine CT.intro hj (by decide) (Nat.le_of_ble_eq_true rfl) ?_
  intro p e s m args below meth c ls hC hP hS hl
  obtain ⟨hx, hb, -, hown, hts, -⟩ := id hC
  have hl : lv_has ls 4 [(0, .ref (ad 54)), (1, .int x1), (2, .int x2)] := hl
  rw [F_Qu_numberOf] at hf
  refine lv_iload_n hx hb d_Qu_numberOf_0 rfl (lv_at hl 1 rfl) ?_
  obtain ⟨r2, hk1, hf⟩ := bp_some hf
  refine g_calli hS (g_runS (As := [.int x1]) (rest := []) hC hP (c_Qu_numberOfCode hj  hk1) (rk (by decide) (by decide)) nm_Qu_numberOfCode cd_Qu_numberOfCode it_WideTown_Quarter ml_Qu_67 sc_Qu_numberOfCode rfl hl.1 rfl (Nat.le_of_ble_eq_true rfl) d_Qu_numberOf_1 zz) (fun H locs hP hS => ?_)
  refine lv_istore_n (lv' := [(3, .int r2), (0, .ref (ad 54)), (1, .int x1), (2, .int x2)]) hx hb d_Qu_numberOf_4 rfl hl (by decide) rfl (fun ls hl => ?_)
  refine lv_iload_n hx hb d_Qu_numberOf_5 rfl (lv_at hl 0 rfl) ?_
  refine lv_if_lt (tgt := 16) hx hb d_Qu_numberOf_6 (by decide) (fun hc16 => ?_) (fun hc16 => ?_)
  · rw [if_pos hc16] at hf
    refine lv_iconst (v := (-1 : Int32)) hx hb d_Qu_numberOf_16 (by decide) ?_
    cases hf
    exact g_iret hC rfl hP hS d_Qu_numberOf_17
  · rw [if_neg hc16] at hf
    refine lv_iload_n hx hb d_Qu_numberOf_9 rfl (lv_at hl 0 rfl) ?_
    refine lv_sipush (v := (781 : Int32)) hx hb d_Qu_numberOf_10 (by decide) ?_
    refine lv_icmp_lt (tgt := 18) hx hb d_Qu_numberOf_13 (by decide) (fun hc15 => ?_) (fun hc15 => ?_)
    · rw [if_pos hc15] at hf
      refine lv_aload_n hx hb d_Qu_numberOf_18 rfl (lv_at hl 1 rfl) ?_
      refine g_get (v := .ref (ad 58)) hC hP o_54 co_Qu 3 (by decide) rfl fl_Qu_21 rfl d_Qu_numberOf_19 ?_
      refine lv_iload_n hx hb d_Qu_numberOf_22 rfl (lv_at hl 0 rfl) ?_
      obtain ⟨hg3, hf⟩ := gd_some hf
      refine g_iald2 (j := r2.toNatClampNeg) hC hP a_58 hg3 rfl d_Qu_numberOf_23 ?_
      refine lv_iconst (v := (-1 : Int32)) hx hb d_Qu_numberOf_24 (by decide) ?_
      obtain ⟨J4, eJ4, hf⟩ := jn_some hf
      have hJ4 : ∀ (σJ4 : GS) (H : Heap) (locs : List Loc) (ls : Array Slot), va_P D vwCl (wG K ad σJ4) H → va_S (GA ad) s.heap H locs → lv_has ls 4 [(0, .ref (ad 54)), (3, .int r2)] → J4 σJ4 = some z0 → W p l e (rmd 1) s m args below meth c H locs 0 0 (MQ below (QI D K ad z0.1 z0.2) args s 0 0 (GA ad)) (F0 m 78 ls []) := by
        clear hf
        intro σJ4 H locs ls hP hS hl hf
        rw [eJ4] at hf
        try dsimp only at hf
        refine lv_aload_n hx hb d_Qu_numberOf_78 rfl (lv_at hl 0 rfl) ?_
        refine g_get (v := .ref (ad 58)) hC hP o_54 co_Qu 3 (by decide) rfl fl_Qu_21 rfl d_Qu_numberOf_79 ?_
        refine lv_iload_n hx hb d_Qu_numberOf_82 rfl (lv_at hl 1 rfl) ?_
        obtain ⟨hg5, hf⟩ := gd_some hf
        refine g_iald2 (j := r2.toNatClampNeg) hC hP a_58 hg5 rfl d_Qu_numberOf_83 ?_
        cases hf
        exact g_iret hC rfl hP hS d_Qu_numberOf_84
      clear eJ4
      refine lv_icmp_ne (tgt := 78) hx hb d_Qu_numberOf_25 (by decide) (fun hc14 => ?_) (fun hc14 => ?_)
      · rw [if_neg hc14] at hf
        exact hJ4 _ _ _ _ hP hS (lv_sub hl [1, 0] rfl) hf
      · rw [if_pos hc14] at hf
        refine lv_aload_n hx hb d_Qu_numberOf_28 rfl (lv_at hl 1 rfl) ?_
        refine g_get (v := .int (σ.1 54 9)) hC hP o_54 co_Qu 9 (by decide) rfl fl_Qu_40 rfl d_Qu_numberOf_29 ?_
        refine lv_sipush (v := (166 : Int32)) hx hb d_Qu_numberOf_32 (by decide) ?_
        refine lv_icmp_ge (tgt := 78) hx hb d_Qu_numberOf_35 (by decide) (fun hc13 => ?_) (fun hc13 => ?_)
        · rw [if_pos hc13] at hf
          exact hJ4 _ _ _ _ hP hS (lv_sub hl [1, 0] rfl) hf
        · rw [if_neg hc13] at hf
          refine lv_aload_n hx hb d_Qu_numberOf_38 rfl (lv_at hl 1 rfl) ?_
          refine g_get (v := .ref (ad 55)) hC hP o_54 co_Qu 0 (by decide) rfl fl_Qu_11 rfl d_Qu_numberOf_39 ?_
          refine lv_aload_n hx hb d_Qu_numberOf_42 rfl (lv_at hl 1 rfl) ?_
          refine g_get (v := .int (σ.1 54 9)) hC hP o_54 co_Qu 9 (by decide) rfl fl_Qu_40 rfl d_Qu_numberOf_43 ?_
          refine lv_iload_n hx hb d_Qu_numberOf_46 rfl (lv_at hl 2 rfl) ?_
          obtain ⟨hg6, hf⟩ := gd_some hf
          obtain ⟨σ7, eσ7, hf⟩ := jn_some hf
          refine g_iast2 (j := (σ.1 54 9).toNatClampNeg) hC hP hS a_55 hg6 rfl d_Qu_numberOf_47 (fun H locs hP hS => ?_)
          rw [← eσ7] at hP
          refine lv_aload_n hx hb d_Qu_numberOf_48 rfl (lv_at hl 1 rfl) ?_
          refine g_get (v := .ref (ad 56)) hC hP o_54 co_Qu 1 (by decide) rfl fl_Qu_15 rfl d_Qu_numberOf_49 ?_
          refine lv_aload_n hx hb d_Qu_numberOf_52 rfl (lv_at hl 1 rfl) ?_
          refine g_get (v := .int (σ7.1 54 9)) hC hP o_54 co_Qu 9 (by decide) rfl fl_Qu_40 rfl d_Qu_numberOf_53 ?_
          refine lv_iload_n hx hb d_Qu_numberOf_56 rfl (lv_at hl 3 rfl) ?_
          obtain ⟨hg8, hf⟩ := gd_some hf
          obtain ⟨σ9, eσ9, hf⟩ := jn_some hf
          refine g_iast2 (j := (σ7.1 54 9).toNatClampNeg) hC hP hS a_56 hg8 rfl d_Qu_numberOf_57 (fun H locs hP hS => ?_)
          rw [← eσ9] at hP
          refine lv_aload_n hx hb d_Qu_numberOf_58 rfl (lv_at hl 1 rfl) ?_
          refine g_get (v := .ref (ad 58)) hC hP o_54 co_Qu 3 (by decide) rfl fl_Qu_21 rfl d_Qu_numberOf_59 ?_
          refine lv_iload_n hx hb d_Qu_numberOf_62 rfl (lv_at hl 0 rfl) ?_
          refine lv_aload_n hx hb d_Qu_numberOf_63 rfl (lv_at hl 1 rfl) ?_
          refine g_get (v := .int (σ9.1 54 9)) hC hP o_54 co_Qu 9 (by decide) rfl fl_Qu_40 rfl d_Qu_numberOf_64 ?_
          obtain ⟨hg10, hf⟩ := gd_some hf
          obtain ⟨σ11, eσ11, hf⟩ := jn_some hf
          refine g_iast2 (j := r2.toNatClampNeg) hC hP hS a_58 hg10 rfl d_Qu_numberOf_67 (fun H locs hP hS => ?_)
          rw [← eσ11] at hP
          refine lv_aload_n hx hb d_Qu_numberOf_68 rfl (lv_at hl 1 rfl) ?_
          refine lv_dup hx hb d_Qu_numberOf_69 rfl ?_
          refine g_get (v := .int (σ11.1 54 9)) hC hP o_54 co_Qu 9 (by decide) rfl fl_Qu_40 rfl d_Qu_numberOf_70 ?_
          refine lv_iconst (v := (1 : Int32)) hx hb d_Qu_numberOf_73 (by decide) ?_
          refine lv_iadd hx hb d_Qu_numberOf_74 ?_
          obtain ⟨σ12, eσ12, hf⟩ := jn_some hf
          refine g_puti hC hP hS o_54 co_Qu 9 (by decide) rfl fl_Qu_40 rfl (to_Qu 9 (by decide)) (Nat.le_of_ble_eq_true rfl) rfl d_Qu_numberOf_75 (fun H locs hP hS => ?_)
          rw [← eσ12] at hP
          exact hJ4 _ _ _ _ hP hS (lv_sub hl [1, 0] rfl) hf
    · rw [if_neg hc15] at hf
      refine lv_iconst (v := (-1 : Int32)) hx hb d_Qu_numberOf_16 (by decide) ?_
      cases hf
      exact g_iret hC rfl hP hS d_Qu_numberOf_17
set_option maxHeartbeats 4000000 in
set_option maxRecDepth 100000 in
theorem c_X_isStreet {l : Launch} {D : va_G} {K : Nat → ClassId} {ad : Nat → Nat} (hj : inj ad)   {x0 : Int32} {σ : GS} {z0 : Int32} (hf : F_X_isStreet x0 = some z0) : CT l D K ad y_X_isStreet b_X_isStreet 1 (some .boolean) 0 [.int x0] σ (QI D K ad z0 σ) := by
  refine CT.intro hj (by decide) (Nat.le_of_ble_eq_true rfl) ?_
  intro p e s m args below meth c ls hC hP hS hl
  obtain ⟨hx, hb, -, hown, hts, -⟩ := id hC
  have hl : lv_has ls 1 [(0, .int x0)] := hl
  rw [F_X_isStreet] at hf
  refine lv_iload_n hx hb d_X_isStreet_0 rfl (lv_at hl 0 rfl) ?_
  refine lv_if_lt (tgt := 13) hx hb d_X_isStreet_1 (by decide) (fun hc2 => ?_) (fun hc2 => ?_)
  · rw [if_pos hc2] at hf
    refine lv_iconst (v := (0 : Int32)) hx hb d_X_isStreet_13 (by decide) ?_
    cases hf
    exact g_zret hC rfl (by decide) hP hS d_X_isStreet_14
  · rw [if_neg hc2] at hf
    refine lv_iload_n hx hb d_X_isStreet_4 rfl (lv_at hl 0 rfl) ?_
    refine lv_iconst (v := (5 : Int32)) hx hb d_X_isStreet_5 (by decide) ?_
    refine lv_icmp_ge (tgt := 13) hx hb d_X_isStreet_6 (by decide) (fun hc1 => ?_) (fun hc1 => ?_)
    · rw [if_pos hc1] at hf
      refine lv_iconst (v := (0 : Int32)) hx hb d_X_isStreet_13 (by decide) ?_
      cases hf
      exact g_zret hC rfl (by decide) hP hS d_X_isStreet_14
    · rw [if_neg hc1] at hf
      refine lv_iconst (v := (1 : Int32)) hx hb d_X_isStreet_9 (by decide) ?_
      refine lv_goto (tgt := 14) hx hb d_X_isStreet_10 (by decide) ?_
      cases hf
      exact g_zret hC rfl (by decide) hP hS d_X_isStreet_14
set_option maxHeartbeats 4000000 in
set_option maxRecDepth 100000 in
theorem c_Wd_takeOut {l : Launch} {D : va_G} {K : Nat → ClassId} {ad : Nat → Nat} (hj : inj ad) {w : Nat} (h_w : WdOK K ad w) {x1 : Int32} {σ : GS} {z0 : GS} (hf : F_Wd_takeOut w x1 σ = some z0) : CT l D K ad y_Wd_takeOut b_Wd_takeOut 3 none 0 [.ref (ad w), .int x1] σ (QV D K ad z0) := by
  refine CT.intro hj (by decide) (Nat.le_of_ble_eq_true rfl) ?_
  intro p e s m args below meth c ls hC hP hS hl
  obtain ⟨hx, hb, -, hown, hts, -⟩ := id hC
  have hl : lv_has ls 3 [(0, .ref (ad w)), (1, .int x1)] := hl
  rw [F_Wd_takeOut] at hf
  refine lv_iload_n hx hb d_Wd_takeOut_0 rfl (lv_at hl 1 rfl) ?_
  refine lv_istore_n (lv' := [(2, .int x1), (0, .ref (ad w)), (1, .int x1)]) hx hb d_Wd_takeOut_1 rfl hl (by decide) rfl (fun ls hl => ?_)
  obtain ⟨KL1_32, eKL1_32, hf⟩ := jn_some hf
  have hKL1_32 : ∀ (v2_1 : Int32) (σL1 : GS) (H : Heap) (locs : List Loc) (ls : Array Slot), va_P D vwCl (wG K ad σL1) H → va_S (GA ad) s.heap H locs → lv_has ls 3 [(0, .ref (ad w))] → KL1_32 v2_1 σL1 = some z0 → W p l e (rmd 0) s m args below meth c H locs 0 0 (MQ below (QV D K ad z0) args s 0 0 (GA ad)) (F0 m 32 ls []) := by
    clear hf
    intro v2_1 σL1 H locs ls hP hS hl hf
    rw [eKL1_32] at hf
    try dsimp only at hf
    refine lv_aload_n hx hb d_Wd_takeOut_32 rfl (lv_at hl 0 rfl) ?_
    refine lv_dup hx hb d_Wd_takeOut_33 rfl ?_
    refine g_get (v := .int (σL1.1 w 1)) hC hP h_w.1 co_Wd 1 (by decide) rfl fl_Wd_15 rfl d_Wd_takeOut_34 ?_
    refine lv_iconst (v := (1 : Int32)) hx hb d_Wd_takeOut_37 (by decide) ?_
    refine lv_isub hx hb d_Wd_takeOut_38 ?_
    obtain ⟨σ2, eσ2, hf⟩ := jn_some hf
    refine g_puti hC hP hS h_w.1 co_Wd 1 (by decide) rfl fl_Wd_15 rfl (to_Wd 1 (by decide)) (Nat.le_of_ble_eq_true rfl) rfl d_Wd_takeOut_39 (fun H locs hP hS => ?_)
    rw [← eσ2] at hP
    cases hf
    exact g_vret hC rfl hP hS d_Wd_takeOut_42
  clear eKL1_32
  have hL1 : ∀ (n : Nat) (v2_1 : Int32) (σL1 : GS) (H : Heap) (locs : List Loc) (ls : Array Slot), va_P D vwCl (wG K ad σL1) H → va_S (GA ad) s.heap H locs → lv_has ls 3 [(0, .ref (ad w)), (2, .int v2_1)] → F_Wd_takeOut_2 w KL1_32 n v2_1 σL1 = some z0 → W p l e (rmd 0) s m args below meth c H locs 0 0 (MQ below (QV D K ad z0) args s 0 0 (GA ad)) (F0 m 2 ls []) := by
    clear hf
    intro n
    induction n with
    | zero =>
      intro v2_1 σL1 H locs ls hP hS hl hf
      rw [F_Wd_takeOut_2.eq_1] at hf
      cases hf
    | succ n ih =>
      intro v2_1 σL1 H locs ls hP hS hl hf
      rw [F_Wd_takeOut_2.eq_2] at hf
      refine lv_iload_n hx hb d_Wd_takeOut_2 rfl (lv_at hl 1 rfl) ?_
      refine lv_iconst (v := (1 : Int32)) hx hb d_Wd_takeOut_3 (by decide) ?_
      refine lv_iadd hx hb d_Wd_takeOut_4 ?_
      refine lv_aload_n hx hb d_Wd_takeOut_5 rfl (lv_at hl 0 rfl) ?_
      refine g_get (v := .int (σL1.1 w 1)) hC hP h_w.1 co_Wd 1 (by decide) rfl fl_Wd_15 rfl d_Wd_takeOut_6 ?_
      refine lv_icmp_ge (tgt := 32) hx hb d_Wd_takeOut_9 (by decide) (fun hc6 => ?_) (fun hc6 => ?_)
      · rw [if_pos hc6] at hf
        exact hKL1_32 _ _ _ _ _ hP hS (lv_sub hl [0] rfl) hf
      · rw [if_neg hc6] at hf
        refine lv_aload_n hx hb d_Wd_takeOut_12 rfl (lv_at hl 0 rfl) ?_
        refine g_get (v := .ref (ad (w + 1))) hC hP h_w.1 co_Wd 0 (by decide) rfl fl_Wd_11 rfl d_Wd_takeOut_13 ?_
        refine lv_iload_n hx hb d_Wd_takeOut_16 rfl (lv_at hl 1 rfl) ?_
        refine lv_aload_n hx hb d_Wd_takeOut_17 rfl (lv_at hl 0 rfl) ?_
        refine g_get (v := .ref (ad (w + 1))) hC hP h_w.1 co_Wd 0 (by decide) rfl fl_Wd_11 rfl d_Wd_takeOut_18 ?_
        refine lv_iload_n hx hb d_Wd_takeOut_21 rfl (lv_at hl 1 rfl) ?_
        refine lv_iconst (v := (1 : Int32)) hx hb d_Wd_takeOut_22 (by decide) ?_
        refine lv_iadd hx hb d_Wd_takeOut_23 ?_
        obtain ⟨hg3, hf⟩ := gd_some hf
        refine g_iald2 (j := (v2_1 + (1 : Int32)).toNatClampNeg) hC hP h_w.2 hg3 rfl d_Wd_takeOut_24 ?_
        obtain ⟨hg4, hf⟩ := gd_some hf
        obtain ⟨σ5, eσ5, hf⟩ := jn_some hf
        refine g_iast2 (j := v2_1.toNatClampNeg) hC hP hS h_w.2 hg4 rfl d_Wd_takeOut_25 (fun H locs hP hS => ?_)
        rw [← eσ5] at hP
        refine lv_iinc (v := v2_1 + 1) (lv' := [(2, .int (v2_1 + 1)), (0, .ref (ad w))]) hx hb d_Wd_takeOut_26 hl (k := 1) rfl rfl (by decide) rfl (fun ls hl => ?_)
        refine lv_goto (tgt := 2) hx hb d_Wd_takeOut_29 (by decide) ?_
        exact ih _ _ _ _ _ hP hS (lv_sub hl [1, 0] rfl) hf
  exact hL1 _ _ _ _ _ _ hP hS (lv_sub hl [1, 0] rfl) hf
set_option maxHeartbeats 4000000 in
set_option maxRecDepth 100000 in
theorem c_Wd_putIn {l : Launch} {D : va_G} {K : Nat → ClassId} {ad : Nat → Nat} (hj : inj ad) {w : Nat} (h_w : WdOK K ad w) {x1 : Int32} {x2 : Int32} {σ : GS} {z0 : GS} (hf : F_Wd_putIn w x1 x2 σ = some z0) : CT l D K ad y_Wd_putIn b_Wd_putIn 4 none 0 [.ref (ad w), .int x1, .int x2] σ (QV D K ad z0) := by
  refine CT.intro hj (by decide) (Nat.le_of_ble_eq_true rfl) ?_
  intro p e s m args below meth c ls hC hP hS hl
  obtain ⟨hx, hb, -, hown, hts, -⟩ := id hC
  have hl : lv_has ls 4 [(0, .ref (ad w)), (1, .int x1), (2, .int x2)] := hl
  rw [F_Wd_putIn] at hf
  refine lv_aload_n hx hb d_Wd_putIn_0 rfl (lv_at hl 0 rfl) ?_
  refine g_get (v := .int (σ.1 w 1)) hC hP h_w.1 co_Wd 1 (by decide) rfl fl_Wd_15 rfl d_Wd_putIn_1 ?_
  refine lv_bipush (v := (64 : Int32)) hx hb d_Wd_putIn_4 (by decide) ?_
  refine lv_icmp_lt (tgt := 10) hx hb d_Wd_putIn_6 (by decide) (fun hc9 => ?_) (fun hc9 => ?_)
  · rw [if_pos hc9] at hf
    refine lv_aload_n hx hb d_Wd_putIn_10 rfl (lv_at hl 0 rfl) ?_
    refine g_get (v := .int (σ.1 w 1)) hC hP h_w.1 co_Wd 1 (by decide) rfl fl_Wd_15 rfl d_Wd_putIn_11 ?_
    refine lv_istore_n (lv' := [(3, .int (σ.1 w 1)), (0, .ref (ad w)), (1, .int x1), (2, .int x2)]) hx hb d_Wd_putIn_14 rfl hl (by decide) rfl (fun ls hl => ?_)
    obtain ⟨KL1_40, eKL1_40, hf⟩ := jn_some hf
    have hKL1_40 : ∀ (v3_1 : Int32) (σL1 : GS) (H : Heap) (locs : List Loc) (ls : Array Slot), va_P D vwCl (wG K ad σL1) H → va_S (GA ad) s.heap H locs → lv_has ls 4 [(0, .ref (ad w)), (1, .int x1), (2, .int x2)] → KL1_40 v3_1 σL1 = some z0 → W p l e (rmd 0) s m args below meth c H locs 0 0 (MQ below (QV D K ad z0) args s 0 0 (GA ad)) (F0 m 40 ls []) := by
      clear hf
      intro v3_1 σL1 H locs ls hP hS hl hf
      rw [eKL1_40] at hf
      try dsimp only at hf
      refine lv_aload_n hx hb d_Wd_putIn_40 rfl (lv_at hl 0 rfl) ?_
      refine g_get (v := .ref (ad (w + 1))) hC hP h_w.1 co_Wd 0 (by decide) rfl fl_Wd_11 rfl d_Wd_putIn_41 ?_
      refine lv_iload_n hx hb d_Wd_putIn_44 rfl (lv_at hl 1 rfl) ?_
      refine lv_iload_n hx hb d_Wd_putIn_45 rfl (lv_at hl 2 rfl) ?_
      obtain ⟨hg2, hf⟩ := gd_some hf
      obtain ⟨σ3, eσ3, hf⟩ := jn_some hf
      refine g_iast2 (j := x1.toNatClampNeg) hC hP hS h_w.2 hg2 rfl d_Wd_putIn_46 (fun H locs hP hS => ?_)
      rw [← eσ3] at hP
      refine lv_aload_n hx hb d_Wd_putIn_47 rfl (lv_at hl 0 rfl) ?_
      refine lv_dup hx hb d_Wd_putIn_48 rfl ?_
      refine g_get (v := .int (σ3.1 w 1)) hC hP h_w.1 co_Wd 1 (by decide) rfl fl_Wd_15 rfl d_Wd_putIn_49 ?_
      refine lv_iconst (v := (1 : Int32)) hx hb d_Wd_putIn_52 (by decide) ?_
      refine lv_iadd hx hb d_Wd_putIn_53 ?_
      obtain ⟨σ4, eσ4, hf⟩ := jn_some hf
      refine g_puti hC hP hS h_w.1 co_Wd 1 (by decide) rfl fl_Wd_15 rfl (to_Wd 1 (by decide)) (Nat.le_of_ble_eq_true rfl) rfl d_Wd_putIn_54 (fun H locs hP hS => ?_)
      rw [← eσ4] at hP
      cases hf
      exact g_vret hC rfl hP hS d_Wd_putIn_57
    clear eKL1_40
    have hL1 : ∀ (n : Nat) (v3_1 : Int32) (σL1 : GS) (H : Heap) (locs : List Loc) (ls : Array Slot), va_P D vwCl (wG K ad σL1) H → va_S (GA ad) s.heap H locs → lv_has ls 4 [(0, .ref (ad w)), (1, .int x1), (2, .int x2), (3, .int v3_1)] → F_Wd_putIn_15 w x1 x2 KL1_40 n v3_1 σL1 = some z0 → W p l e (rmd 0) s m args below meth c H locs 0 0 (MQ below (QV D K ad z0) args s 0 0 (GA ad)) (F0 m 15 ls []) := by
      clear hf
      intro n
      induction n with
      | zero =>
        intro v3_1 σL1 H locs ls hP hS hl hf
        rw [F_Wd_putIn_15.eq_1] at hf
        cases hf
      | succ n ih =>
        intro v3_1 σL1 H locs ls hP hS hl hf
        rw [F_Wd_putIn_15.eq_2] at hf
        refine lv_iload_n hx hb d_Wd_putIn_15 rfl (lv_at hl 3 rfl) ?_
        refine lv_iload_n hx hb d_Wd_putIn_16 rfl (lv_at hl 1 rfl) ?_
        refine lv_icmp_le (tgt := 40) hx hb d_Wd_putIn_17 (by decide) (fun hc8 => ?_) (fun hc8 => ?_)
        · rw [if_pos hc8] at hf
          exact hKL1_40 _ _ _ _ _ hP hS (lv_sub hl [0, 1, 2] rfl) hf
        · rw [if_neg hc8] at hf
          refine lv_aload_n hx hb d_Wd_putIn_20 rfl (lv_at hl 0 rfl) ?_
          refine g_get (v := .ref (ad (w + 1))) hC hP h_w.1 co_Wd 0 (by decide) rfl fl_Wd_11 rfl d_Wd_putIn_21 ?_
          refine lv_iload_n hx hb d_Wd_putIn_24 rfl (lv_at hl 3 rfl) ?_
          refine lv_aload_n hx hb d_Wd_putIn_25 rfl (lv_at hl 0 rfl) ?_
          refine g_get (v := .ref (ad (w + 1))) hC hP h_w.1 co_Wd 0 (by decide) rfl fl_Wd_11 rfl d_Wd_putIn_26 ?_
          refine lv_iload_n hx hb d_Wd_putIn_29 rfl (lv_at hl 3 rfl) ?_
          refine lv_iconst (v := (1 : Int32)) hx hb d_Wd_putIn_30 (by decide) ?_
          refine lv_isub hx hb d_Wd_putIn_31 ?_
          obtain ⟨hg5, hf⟩ := gd_some hf
          refine g_iald2 (j := (v3_1 - (1 : Int32)).toNatClampNeg) hC hP h_w.2 hg5 rfl d_Wd_putIn_32 ?_
          obtain ⟨hg6, hf⟩ := gd_some hf
          obtain ⟨σ7, eσ7, hf⟩ := jn_some hf
          refine g_iast2 (j := v3_1.toNatClampNeg) hC hP hS h_w.2 hg6 rfl d_Wd_putIn_33 (fun H locs hP hS => ?_)
          rw [← eσ7] at hP
          refine lv_iinc (v := v3_1 + (-1)) (lv' := [(3, .int (v3_1 + (-1))), (0, .ref (ad w)), (1, .int x1), (2, .int x2)]) hx hb d_Wd_putIn_34 hl (k := 3) rfl rfl (by decide) rfl (fun ls hl => ?_)
          refine lv_goto (tgt := 15) hx hb d_Wd_putIn_37 (by decide) ?_
          exact ih _ _ _ _ _ hP hS (lv_sub hl [1, 2, 3, 0] rfl) hf
    exact hL1 _ _ _ _ _ _ hP hS (lv_sub hl [1, 2, 3, 0] rfl) hf
  · rw [if_neg hc9] at hf
    cases hf
    exact g_vret hC rfl hP hS d_Wd_putIn_9
set_option maxHeartbeats 4000000 in
set_option maxRecDepth 100000 in
theorem c_Wd_go {l : Launch} {D : va_G} {K : Nat → ClassId} {ad : Nat → Nat} (hj : inj ad) {w : Nat} (h_w : WdOK K ad w) {x1 : Int32} {σ : GS} {z0 : GS} (hf : F_Wd_go w x1 σ = some z0) : CT l D K ad y_Wd_go b_Wd_go 3 none 1 [.ref (ad w), .int x1] σ (QV D K ad z0) := by
  refine CT.intro hj (by decide) (Nat.le_of_ble_eq_true rfl) ?_
  intro p e s m args below meth c ls hC hP hS hl
  obtain ⟨hx, hb, -, hown, hts, -⟩ := id hC
  have hl : lv_has ls 3 [(0, .ref (ad w)), (1, .int x1)] := hl
  rw [F_Wd_go] at hf
  refine lv_iload_n hx hb d_Wd_go_0 rfl (lv_at hl 1 rfl) ?_
  obtain ⟨r2, hk1, hf⟩ := bp_some hf
  refine g_calli hS (g_runSN (As := [.int x1]) (rest := []) hC hP (c_X_isStreet hj  hk1) (rk (by decide) (by decide)) nm_X_isStreet cd_X_isStreet it_WideTown nl_Wd_29 sc_X_isStreet rfl hl.1 rfl (Nat.le_of_ble_eq_true rfl) d_Wd_go_1 zz) (fun H locs hP hS => ?_)
  refine lv_if_ne (tgt := 8) hx hb d_Wd_go_4 (by decide) (fun hc21 => ?_) (fun hc21 => ?_)
  · rw [if_neg hc21] at hf
    refine lv_aload_n hx hb d_Wd_go_8 rfl (lv_at hl 0 rfl) ?_
    refine g_get (v := .int (σ.1 w 1)) hC hP h_w.1 co_Wd 1 (by decide) rfl fl_Wd_15 rfl d_Wd_go_9 ?_
    refine lv_istore_n (lv' := [(2, .int (σ.1 w 1)), (0, .ref (ad w)), (1, .int x1)]) hx hb d_Wd_go_12 rfl hl (by decide) rfl (fun ls hl => ?_)
    obtain ⟨KL3_38, eKL3_38, hf⟩ := jn_some hf
    have hKL3_38 : ∀ (v2_3 : Int32) (H : Heap) (locs : List Loc) (ls : Array Slot), va_P D vwCl (wG K ad σ) H → va_S (GA ad) s.heap H locs → lv_has ls 3 [(0, .ref (ad w)), (1, .int x1), (2, .int v2_3)] → KL3_38 v2_3 = some z0 → W p l e (rmd 1) s m args below meth c H locs 0 0 (MQ below (QV D K ad z0) args s 0 0 (GA ad)) (F0 m 38 ls []) := by
      clear hf
      intro v2_3 H locs ls hP hS hl hf
      rw [eKL3_38] at hf
      try dsimp only at hf
      refine lv_iload_n hx hb d_Wd_go_38 rfl (lv_at hl 2 rfl) ?_
      obtain ⟨J4, eJ4, hf⟩ := jn_some hf
      have hJ4 : ∀ (σJ4 : GS) (H : Heap) (locs : List Loc) (ls : Array Slot), va_P D vwCl (wG K ad σJ4) H → va_S (GA ad) s.heap H locs → lv_has ls 3 [(0, .ref (ad w)), (1, .int x1), (2, .int v2_3)] → J4 σJ4 = some z0 → W p l e (rmd 1) s m args below meth c H locs 0 0 (MQ below (QV D K ad z0) args s 0 0 (GA ad)) (F0 m 62 ls []) := by
        clear hf
        intro σJ4 H locs ls hP hS hl hf
        rw [eJ4] at hf
        try dsimp only at hf
        obtain ⟨KL5_86, eKL5_86, hf⟩ := jn_some hf
        have hKL5_86 : ∀ (v2_5 : Int32) (H : Heap) (locs : List Loc) (ls : Array Slot), va_P D vwCl (wG K ad σJ4) H → va_S (GA ad) s.heap H locs → lv_has ls 3 [(0, .ref (ad w)), (1, .int x1), (2, .int v2_5)] → KL5_86 v2_5 = some z0 → W p l e (rmd 1) s m args below meth c H locs 0 0 (MQ below (QV D K ad z0) args s 0 0 (GA ad)) (F0 m 86 ls []) := by
          clear hf
          intro v2_5 H locs ls hP hS hl hf
          rw [eKL5_86] at hf
          try dsimp only at hf
          refine lv_aload_n hx hb d_Wd_go_86 rfl (lv_at hl 0 rfl) ?_
          refine lv_iload_n hx hb d_Wd_go_87 rfl (lv_at hl 2 rfl) ?_
          refine lv_iload_n hx hb d_Wd_go_88 rfl (lv_at hl 1 rfl) ?_
          obtain ⟨σ7, hk6, hf⟩ := bv_some hf
          refine g_callv hS (g_runV (As := [.int v2_5, .int x1]) (rest := []) hC hP (c_Wd_putIn hj h_w hk6) (rk (by decide) (by decide)) nm_Wd_putIn cd_Wd_putIn it_WideTown_Word ml_Wd_40 im_Wd_putIn sl_Wd_putIn h_w.1 co_Wd rfl hl.1 rfl (Nat.le_of_ble_eq_true rfl) d_Wd_go_89 zz) (fun H locs hP hS => ?_)
          cases hf
          exact g_vret hC rfl hP hS d_Wd_go_92
        clear eKL5_86
        have hL5 : ∀ (n : Nat) (v2_5 : Int32) (H : Heap) (locs : List Loc) (ls : Array Slot), va_P D vwCl (wG K ad σJ4) H → va_S (GA ad) s.heap H locs → lv_has ls 3 [(0, .ref (ad w)), (1, .int x1), (2, .int v2_5)] → F_Wd_go_62 w x1 σJ4 KL5_86 n v2_5 = some z0 → W p l e (rmd 1) s m args below meth c H locs 0 0 (MQ below (QV D K ad z0) args s 0 0 (GA ad)) (F0 m 62 ls []) := by
          clear hf
          intro n
          induction n with
          | zero =>
            intro v2_5 H locs ls hP hS hl hf
            rw [F_Wd_go_62.eq_1] at hf
            cases hf
          | succ n ih =>
            intro v2_5 H locs ls hP hS hl hf
            rw [F_Wd_go_62.eq_2] at hf
            refine lv_iload_n hx hb d_Wd_go_62 rfl (lv_at hl 2 rfl) ?_
            refine lv_aload_n hx hb d_Wd_go_63 rfl (lv_at hl 0 rfl) ?_
            refine g_get (v := .int (σJ4.1 w 1)) hC hP h_w.1 co_Wd 1 (by decide) rfl fl_Wd_15 rfl d_Wd_go_64 ?_
            refine lv_icmp_ge (tgt := 86) hx hb d_Wd_go_67 (by decide) (fun hc10 => ?_) (fun hc10 => ?_)
            · rw [if_pos hc10] at hf
              exact hKL5_86 _ _ _ _ hP hS (lv_sub hl [0, 1, 2] rfl) hf
            · rw [if_neg hc10] at hf
              refine lv_aload_n hx hb d_Wd_go_70 rfl (lv_at hl 0 rfl) ?_
              refine g_get (v := .ref (ad (w + 1))) hC hP h_w.1 co_Wd 0 (by decide) rfl fl_Wd_11 rfl d_Wd_go_71 ?_
              refine lv_iload_n hx hb d_Wd_go_74 rfl (lv_at hl 2 rfl) ?_
              obtain ⟨hg8, hf⟩ := gd_some hf
              refine g_iald2 (j := v2_5.toNatClampNeg) hC hP h_w.2 hg8 rfl d_Wd_go_75 ?_
              refine lv_iload_n hx hb d_Wd_go_76 rfl (lv_at hl 1 rfl) ?_
              refine lv_icmp_ge (tgt := 86) hx hb d_Wd_go_77 (by decide) (fun hc9 => ?_) (fun hc9 => ?_)
              · rw [if_pos hc9] at hf
                exact hKL5_86 _ _ _ _ hP hS (lv_sub hl [0, 1, 2] rfl) hf
              · rw [if_neg hc9] at hf
                refine lv_iinc (v := v2_5 + 1) (lv' := [(2, .int (v2_5 + 1)), (0, .ref (ad w)), (1, .int x1)]) hx hb d_Wd_go_80 hl (k := 2) rfl rfl (by decide) rfl (fun ls hl => ?_)
                refine lv_goto (tgt := 62) hx hb d_Wd_go_83 (by decide) ?_
                exact ih _ _ _ _ hP hS (lv_sub hl [1, 2, 0] rfl) hf
        exact hL5 _ _ _ _ _ hP hS (lv_sub hl [0, 1, 2] rfl) hf
      clear eJ4
      refine lv_if_le (tgt := 62) hx hb d_Wd_go_39 (by decide) (fun hc15 => ?_) (fun hc15 => ?_)
      · rw [if_pos hc15] at hf
        exact hJ4 _ _ _ _ hP hS (lv_sub hl [0, 1, 2] rfl) hf
      · rw [if_neg hc15] at hf
        refine lv_aload_n hx hb d_Wd_go_42 rfl (lv_at hl 0 rfl) ?_
        refine g_get (v := .ref (ad (w + 1))) hC hP h_w.1 co_Wd 0 (by decide) rfl fl_Wd_11 rfl d_Wd_go_43 ?_
        refine lv_iload_n hx hb d_Wd_go_46 rfl (lv_at hl 2 rfl) ?_
        refine lv_iconst (v := (1 : Int32)) hx hb d_Wd_go_47 (by decide) ?_
        refine lv_isub hx hb d_Wd_go_48 ?_
        obtain ⟨hg11, hf⟩ := gd_some hf
        refine g_iald2 (j := (v2_3 - (1 : Int32)).toNatClampNeg) hC hP h_w.2 hg11 rfl d_Wd_go_49 ?_
        refine lv_iload_n hx hb d_Wd_go_50 rfl (lv_at hl 1 rfl) ?_
        refine lv_icmp_ne (tgt := 62) hx hb d_Wd_go_51 (by decide) (fun hc14 => ?_) (fun hc14 => ?_)
        · rw [if_neg hc14] at hf
          exact hJ4 _ _ _ _ hP hS (lv_sub hl [0, 1, 2] rfl) hf
        · rw [if_pos hc14] at hf
          refine lv_aload_n hx hb d_Wd_go_54 rfl (lv_at hl 0 rfl) ?_
          refine lv_iload_n hx hb d_Wd_go_55 rfl (lv_at hl 2 rfl) ?_
          refine lv_iconst (v := (1 : Int32)) hx hb d_Wd_go_56 (by decide) ?_
          refine lv_isub hx hb d_Wd_go_57 ?_
          obtain ⟨σ13, hk12, hf⟩ := bv_some hf
          refine g_callv hS (g_runV (As := [.int (v2_3 - (1 : Int32))]) (rest := []) hC hP (c_Wd_takeOut hj h_w hk12) (rk (by decide) (by decide)) nm_Wd_takeOut cd_Wd_takeOut it_WideTown_Word ml_Wd_37 im_Wd_takeOut sl_Wd_takeOut h_w.1 co_Wd rfl hl.1 rfl (Nat.le_of_ble_eq_true rfl) d_Wd_go_58 zz) (fun H locs hP hS => ?_)
          cases hf
          exact g_vret hC rfl hP hS d_Wd_go_61
    clear eKL3_38
    have hL3 : ∀ (n : Nat) (v2_3 : Int32) (H : Heap) (locs : List Loc) (ls : Array Slot), va_P D vwCl (wG K ad σ) H → va_S (GA ad) s.heap H locs → lv_has ls 3 [(0, .ref (ad w)), (1, .int x1), (2, .int v2_3)] → F_Wd_go_13 w x1 σ KL3_38 n v2_3 = some z0 → W p l e (rmd 1) s m args below meth c H locs 0 0 (MQ below (QV D K ad z0) args s 0 0 (GA ad)) (F0 m 13 ls []) := by
      clear hf
      intro n
      induction n with
      | zero =>
        intro v2_3 H locs ls hP hS hl hf
        rw [F_Wd_go_13.eq_1] at hf
        cases hf
      | succ n ih =>
        intro v2_3 H locs ls hP hS hl hf
        rw [F_Wd_go_13.eq_2] at hf
        refine lv_iload_n hx hb d_Wd_go_13 rfl (lv_at hl 2 rfl) ?_
        refine lv_if_le (tgt := 38) hx hb d_Wd_go_14 (by decide) (fun hc20 => ?_) (fun hc20 => ?_)
        · rw [if_pos hc20] at hf
          exact hKL3_38 _ _ _ _ hP hS (lv_sub hl [0, 1, 2] rfl) hf
        · rw [if_neg hc20] at hf
          refine lv_aload_n hx hb d_Wd_go_17 rfl (lv_at hl 0 rfl) ?_
          refine g_get (v := .ref (ad (w + 1))) hC hP h_w.1 co_Wd 0 (by decide) rfl fl_Wd_11 rfl d_Wd_go_18 ?_
          refine lv_iload_n hx hb d_Wd_go_21 rfl (lv_at hl 2 rfl) ?_
          refine lv_iconst (v := (1 : Int32)) hx hb d_Wd_go_22 (by decide) ?_
          refine lv_isub hx hb d_Wd_go_23 ?_
          obtain ⟨hg16, hf⟩ := gd_some hf
          refine g_iald2 (j := (v2_3 - (1 : Int32)).toNatClampNeg) hC hP h_w.2 hg16 rfl d_Wd_go_24 ?_
          refine lv_iload_n hx hb d_Wd_go_25 rfl (lv_at hl 1 rfl) ?_
          obtain ⟨r18, hk17, hf⟩ := bp_some hf
          refine g_calli hS (g_runS (As := [.int (σ.1 (w + 1) (v2_3 - (1 : Int32)).toNatClampNeg), .int x1]) (rest := []) hC hP (c_Wd_areNeighbours hj  hk17) (rk (by decide) (by decide)) nm_Wd_areNeighbours cd_Wd_areNeighbours it_WideTown_Word ml_Wd_33 sc_Wd_areNeighbours rfl hl.1 rfl (Nat.le_of_ble_eq_true rfl) d_Wd_go_26 zz) (fun H locs hP hS => ?_)
          refine lv_if_eq (tgt := 38) hx hb d_Wd_go_29 (by decide) (fun hc19 => ?_) (fun hc19 => ?_)
          · rw [if_pos hc19] at hf
            exact hKL3_38 _ _ _ _ hP hS (lv_sub hl [0, 1, 2] rfl) hf
          · rw [if_neg hc19] at hf
            refine lv_iinc (v := v2_3 + (-1)) (lv' := [(2, .int (v2_3 + (-1))), (0, .ref (ad w)), (1, .int x1)]) hx hb d_Wd_go_32 hl (k := 2) rfl rfl (by decide) rfl (fun ls hl => ?_)
            refine lv_goto (tgt := 13) hx hb d_Wd_go_35 (by decide) ?_
            exact ih _ _ _ _ hP hS (lv_sub hl [1, 2, 0] rfl) hf
    exact hL3 _ _ _ _ _ hP hS (lv_sub hl [1, 2, 0] rfl) hf
  · rw [if_pos hc21] at hf
    cases hf
    exact g_vret hC rfl hP hS d_Wd_go_7
set_option maxHeartbeats 4000000 in
set_option maxRecDepth 100000 in
theorem c_Wd_goAlong {l : Launch} {D : va_G} {K : Nat → ClassId} {ad : Nat → Nat} (hj : inj ad) {w : Nat} (h_w : WdOK K ad w) {x1 : Int32} {σ : GS} {z0 : GS} (hf : F_Wd_goAlong w x1 σ = some z0) : CT l D K ad y_Wd_goAlong b_Wd_goAlong 4 none 2 [.ref (ad w), .int x1] σ (QV D K ad z0) := by
  refine CT.intro hj (by decide) (Nat.le_of_ble_eq_true rfl) ?_
  intro p e s m args below meth c ls hC hP hS hl
  obtain ⟨hx, hb, -, hown, hts, -⟩ := id hC
  have hl : lv_has ls 4 [(0, .ref (ad w)), (1, .int x1)] := hl
  rw [F_Wd_goAlong] at hf
  refine lv_iconst (v := (1 : Int32)) hx hb d_Wd_goAlong_0 (by decide) ?_
  refine lv_istore_n (lv' := [(2, .int (1 : Int32)), (0, .ref (ad w)), (1, .int x1)]) hx hb d_Wd_goAlong_1 rfl hl (by decide) rfl (fun ls hl => ?_)
  refine lv_iconst (v := (1 : Int32)) hx hb d_Wd_goAlong_2 (by decide) ?_
  refine lv_istore_n (lv' := [(3, .int (1 : Int32)), (2, .int (1 : Int32)), (0, .ref (ad w)), (1, .int x1)]) hx hb d_Wd_goAlong_3 rfl hl (by decide) rfl (fun ls hl => ?_)
  obtain ⟨KL1_29, eKL1_29, hf⟩ := jn_some hf
  have hKL1_29 : ∀ (v2_1 : Int32) (v3_1 : Int32) (H : Heap) (locs : List Loc) (ls : Array Slot), va_P D vwCl (wG K ad σ) H → va_S (GA ad) s.heap H locs → lv_has ls 4 [(0, .ref (ad w)), (1, .int x1), (2, .int v2_1)] → KL1_29 v2_1 v3_1 = some z0 → W p l e (rmd 2) s m args below meth c H locs 0 0 (MQ below (QV D K ad z0) args s 0 0 (GA ad)) (F0 m 29 ls []) := by
    clear hf
    intro v2_1 v3_1 H locs ls hP hS hl hf
    rw [eKL1_29] at hf
    try dsimp only at hf
    obtain ⟨KL2_53, eKL2_53, hf⟩ := jn_some hf
    have hKL2_53 : ∀ (v2_2 : Int32) (σL2 : GS) (H : Heap) (locs : List Loc) (ls : Array Slot), va_P D vwCl (wG K ad σL2) H → va_S (GA ad) s.heap H locs → lv_has ls 4 [] → KL2_53 v2_2 σL2 = some z0 → W p l e (rmd 2) s m args below meth c H locs 0 0 (MQ below (QV D K ad z0) args s 0 0 (GA ad)) (F0 m 53 ls []) := by
      clear hf
      intro v2_2 σL2 H locs ls hP hS hl hf
      rw [eKL2_53] at hf
      try dsimp only at hf
      cases hf
      exact g_vret hC rfl hP hS d_Wd_goAlong_53
    clear eKL2_53
    have hL2 : ∀ (n : Nat) (v2_2 : Int32) (σL2 : GS) (H : Heap) (locs : List Loc) (ls : Array Slot), va_P D vwCl (wG K ad σL2) H → va_S (GA ad) s.heap H locs → lv_has ls 4 [(0, .ref (ad w)), (1, .int x1), (2, .int v2_2)] → F_Wd_goAlong_29 w x1 KL2_53 n v2_2 σL2 = some z0 → W p l e (rmd 2) s m args below meth c H locs 0 0 (MQ below (QV D K ad z0) args s 0 0 (GA ad)) (F0 m 29 ls []) := by
      clear hf
      intro n
      induction n with
      | zero =>
        intro v2_2 σL2 H locs ls hP hS hl hf
        rw [F_Wd_goAlong_29.eq_1] at hf
        cases hf
      | succ n ih =>
        intro v2_2 σL2 H locs ls hP hS hl hf
        rw [F_Wd_goAlong_29.eq_2] at hf
        refine lv_iload_n hx hb d_Wd_goAlong_29 rfl (lv_at hl 2 rfl) ?_
        refine lv_if_le (tgt := 53) hx hb d_Wd_goAlong_30 (by decide) (fun hc5 => ?_) (fun hc5 => ?_)
        · rw [if_pos hc5] at hf
          exact hKL2_53 _ _ _ _ _ hP hS (lv_sub hl [] rfl) hf
        · rw [if_neg hc5] at hf
          refine lv_aload_n hx hb d_Wd_goAlong_33 rfl (lv_at hl 0 rfl) ?_
          refine lv_iload_n hx hb d_Wd_goAlong_34 rfl (lv_at hl 1 rfl) ?_
          refine lv_iload_n hx hb d_Wd_goAlong_35 rfl (lv_at hl 2 rfl) ?_
          obtain ⟨hg, hf⟩ := gd_some hf
          refine lv_idiv hx hb d_Wd_goAlong_36 (zB_in hg) ?_
          refine lv_bipush (v := (10 : Int32)) hx hb d_Wd_goAlong_37 (by decide) ?_
          refine lv_irem hx hb d_Wd_goAlong_39 (by decide) ?_
          refine lv_iconst (v := (1 : Int32)) hx hb d_Wd_goAlong_40 (by decide) ?_
          refine lv_isub hx hb d_Wd_goAlong_41 ?_
          obtain ⟨σ4, hk3, hf⟩ := bv_some hf
          refine g_callv hS (g_runV (As := [.int (((x1 / v2_2) - (x1 / v2_2) / (10 : Int32) * (10 : Int32)) - (1 : Int32))]) (rest := []) hC hP (c_Wd_go hj h_w hk3) (rk (by decide) (by decide)) nm_Wd_go cd_Wd_go it_WideTown_Word ml_Wd_26 im_Wd_go sl_Wd_go h_w.1 co_Wd rfl hl.1 rfl (Nat.le_of_ble_eq_true rfl) d_Wd_goAlong_42 zz) (fun H locs hP hS => ?_)
          refine lv_iload_n hx hb d_Wd_goAlong_45 rfl (lv_at hl 2 rfl) ?_
          refine lv_bipush (v := (10 : Int32)) hx hb d_Wd_goAlong_46 (by decide) ?_
          refine lv_idiv hx hb d_Wd_goAlong_48 (by decide) ?_
          refine lv_istore_n (lv' := [(2, .int (v2_2 / (10 : Int32))), (0, .ref (ad w)), (1, .int x1)]) hx hb d_Wd_goAlong_49 rfl hl (by decide) rfl (fun ls hl => ?_)
          refine lv_goto (tgt := 29) hx hb d_Wd_goAlong_50 (by decide) ?_
          exact ih _ _ _ _ _ hP hS (lv_sub hl [1, 2, 0] rfl) hf
    exact hL2 _ _ _ _ _ _ hP hS (lv_sub hl [0, 1, 2] rfl) hf
  clear eKL1_29
  have hL1 : ∀ (n : Nat) (v2_1 : Int32) (v3_1 : Int32) (H : Heap) (locs : List Loc) (ls : Array Slot), va_P D vwCl (wG K ad σ) H → va_S (GA ad) s.heap H locs → lv_has ls 4 [(0, .ref (ad w)), (1, .int x1), (2, .int v2_1), (3, .int v3_1)] → F_Wd_goAlong_4 w x1 σ KL1_29 n v2_1 v3_1 = some z0 → W p l e (rmd 2) s m args below meth c H locs 0 0 (MQ below (QV D K ad z0) args s 0 0 (GA ad)) (F0 m 4 ls []) := by
    clear hf
    intro n
    induction n with
    | zero =>
      intro v2_1 v3_1 H locs ls hP hS hl hf
      rw [F_Wd_goAlong_4.eq_1] at hf
      cases hf
    | succ n ih =>
      intro v2_1 v3_1 H locs ls hP hS hl hf
      rw [F_Wd_goAlong_4.eq_2] at hf
      refine lv_iload_n hx hb d_Wd_goAlong_4 rfl (lv_at hl 3 rfl) ?_
      refine lv_bipush (v := (9 : Int32)) hx hb d_Wd_goAlong_5 (by decide) ?_
      refine lv_icmp_ge (tgt := 29) hx hb d_Wd_goAlong_7 (by decide) (fun hc7 => ?_) (fun hc7 => ?_)
      · rw [if_pos hc7] at hf
        exact hKL1_29 _ _ _ _ _ hP hS (lv_sub hl [0, 1, 2] rfl) hf
      · rw [if_neg hc7] at hf
        refine lv_iload_n hx hb d_Wd_goAlong_10 rfl (lv_at hl 1 rfl) ?_
        refine lv_iload_n hx hb d_Wd_goAlong_11 rfl (lv_at hl 2 rfl) ?_
        obtain ⟨hg, hf⟩ := gd_some hf
        refine lv_idiv hx hb d_Wd_goAlong_12 (zB_in hg) ?_
        refine lv_bipush (v := (10 : Int32)) hx hb d_Wd_goAlong_13 (by decide) ?_
        refine lv_icmp_lt (tgt := 29) hx hb d_Wd_goAlong_15 (by decide) (fun hc6 => ?_) (fun hc6 => ?_)
        · rw [if_pos hc6] at hf
          exact hKL1_29 _ _ _ _ _ hP hS (lv_sub hl [0, 1, 2] rfl) hf
        · rw [if_neg hc6] at hf
          refine lv_iload_n hx hb d_Wd_goAlong_18 rfl (lv_at hl 2 rfl) ?_
          refine lv_bipush (v := (10 : Int32)) hx hb d_Wd_goAlong_19 (by decide) ?_
          refine lv_imul hx hb d_Wd_goAlong_21 ?_
          refine lv_istore_n (lv' := [(2, .int (v2_1 * (10 : Int32))), (0, .ref (ad w)), (1, .int x1), (3, .int v3_1)]) hx hb d_Wd_goAlong_22 rfl hl (by decide) rfl (fun ls hl => ?_)
          refine lv_iinc (v := v3_1 + 1) (lv' := [(3, .int (v3_1 + 1)), (2, .int (v2_1 * (10 : Int32))), (0, .ref (ad w)), (1, .int x1)]) hx hb d_Wd_goAlong_23 hl (k := 3) rfl rfl (by decide) rfl (fun ls hl => ?_)
          refine lv_goto (tgt := 4) hx hb d_Wd_goAlong_26 (by decide) ?_
          exact ih _ _ _ _ _ hP hS (lv_sub hl [2, 3, 1, 0] rfl) hf
  exact hL1 _ _ _ _ _ _ hP hS (lv_sub hl [2, 3, 1, 0] rfl) hf
set_option maxHeartbeats 4000000 in
set_option maxRecDepth 100000 in
theorem c_Wd_becomes {l : Launch} {D : va_G} {K : Nat → ClassId} {ad : Nat → Nat} (hj : inj ad) {w : Nat} (h_w : WdOK K ad w) {x1 : Int32} {σ : GS} {z0 : GS} (hf : F_Wd_becomes w x1 σ = some z0) : CT l D K ad y_Wd_becomes b_Wd_becomes 2 none 3 [.ref (ad w), .int x1] σ (QV D K ad z0) := by
  refine CT.intro hj (by decide) (Nat.le_of_ble_eq_true rfl) ?_
  intro p e s m args below meth c ls hC hP hS hl
  obtain ⟨hx, hb, -, hown, hts, -⟩ := id hC
  have hl : lv_has ls 2 [(0, .ref (ad w)), (1, .int x1)] := hl
  rw [F_Wd_becomes] at hf
  refine lv_aload_n hx hb d_Wd_becomes_0 rfl (lv_at hl 0 rfl) ?_
  refine lv_iconst (v := (0 : Int32)) hx hb d_Wd_becomes_1 (by decide) ?_
  obtain ⟨σ1, eσ1, hf⟩ := jn_some hf
  refine g_puti hC hP hS h_w.1 co_Wd 1 (by decide) rfl fl_Wd_15 rfl (to_Wd 1 (by decide)) (Nat.le_of_ble_eq_true rfl) rfl d_Wd_becomes_2 (fun H locs hP hS => ?_)
  rw [← eσ1] at hP
  refine lv_aload_n hx hb d_Wd_becomes_5 rfl (lv_at hl 0 rfl) ?_
  refine lv_iload_n hx hb d_Wd_becomes_6 rfl (lv_at hl 1 rfl) ?_
  obtain ⟨σ3, hk2, hf⟩ := bv_some hf
  refine g_callv hS (g_runV (As := [.int x1]) (rest := []) hC hP (c_Wd_goAlong hj h_w hk2) (rk (by decide) (by decide)) nm_Wd_goAlong cd_Wd_goAlong it_WideTown_Word ml_Wd_19 im_Wd_goAlong sl_Wd_goAlong h_w.1 co_Wd rfl hl.1 rfl (Nat.le_of_ble_eq_true rfl) d_Wd_becomes_7 zz) (fun H locs hP hS => ?_)
  cases hf
  exact g_vret hC rfl hP hS d_Wd_becomes_10
set_option maxHeartbeats 4000000 in
set_option maxRecDepth 100000 in
theorem c_Wd_code {l : Launch} {D : va_G} {K : Nat → ClassId} {ad : Nat → Nat} (hj : inj ad) {w : Nat} (h_w : WdOK K ad w)  {σ : GS} {z0 : Int32} (hf : F_Wd_code w σ = some z0) : CT l D K ad y_Wd_code b_Wd_code 3 (some .int) 0 [.ref (ad w)] σ (QI D K ad z0 σ) := by
  refine CT.intro hj (by decide) (Nat.le_of_ble_eq_true rfl) ?_
  intro p e s m args below meth c ls hC hP hS hl
  obtain ⟨hx, hb, -, hown, hts, -⟩ := id hC
  have hl : lv_has ls 3 [(0, .ref (ad w))] := hl
  rw [F_Wd_code] at hf
  refine lv_aload_n hx hb d_Wd_code_0 rfl (lv_at hl 0 rfl) ?_
  refine g_get (v := .int (σ.1 w 1)) hC hP h_w.1 co_Wd 1 (by decide) rfl fl_Wd_15 rfl d_Wd_code_1 ?_
  refine lv_bipush (v := (9 : Int32)) hx hb d_Wd_code_4 (by decide) ?_
  refine lv_icmp_le (tgt := 12) hx hb d_Wd_code_6 (by decide) (fun hc4 => ?_) (fun hc4 => ?_)
  · rw [if_pos hc4] at hf
    refine lv_iconst (v := (0 : Int32)) hx hb d_Wd_code_12 (by decide) ?_
    refine lv_istore_n (lv' := [(1, .int (0 : Int32)), (0, .ref (ad w))]) hx hb d_Wd_code_13 rfl hl (by decide) rfl (fun ls hl => ?_)
    refine lv_iconst (v := (0 : Int32)) hx hb d_Wd_code_14 (by decide) ?_
    refine lv_istore_n (lv' := [(2, .int (0 : Int32)), (1, .int (0 : Int32)), (0, .ref (ad w))]) hx hb d_Wd_code_15 rfl hl (by decide) rfl (fun ls hl => ?_)
    obtain ⟨KL1_44, eKL1_44, hf⟩ := jn_some hf
    have hKL1_44 : ∀ (v1_1 : Int32) (v2_1 : Int32) (H : Heap) (locs : List Loc) (ls : Array Slot), va_P D vwCl (wG K ad σ) H → va_S (GA ad) s.heap H locs → lv_has ls 3 [(1, .int v1_1)] → KL1_44 v1_1 v2_1 = some z0 → W p l e (rmd 0) s m args below meth c H locs 0 0 (MQ below (QI D K ad z0 σ) args s 0 0 (GA ad)) (F0 m 44 ls []) := by
      clear hf
      intro v1_1 v2_1 H locs ls hP hS hl hf
      rw [eKL1_44] at hf
      try dsimp only at hf
      refine lv_iload_n hx hb d_Wd_code_44 rfl (lv_at hl 0 rfl) ?_
      cases hf
      exact g_iret hC rfl hP hS d_Wd_code_45
    clear eKL1_44
    have hL1 : ∀ (n : Nat) (v1_1 : Int32) (v2_1 : Int32) (H : Heap) (locs : List Loc) (ls : Array Slot), va_P D vwCl (wG K ad σ) H → va_S (GA ad) s.heap H locs → lv_has ls 3 [(0, .ref (ad w)), (1, .int v1_1), (2, .int v2_1)] → F_Wd_code_16 w σ KL1_44 n v1_1 v2_1 = some z0 → W p l e (rmd 0) s m args below meth c H locs 0 0 (MQ below (QI D K ad z0 σ) args s 0 0 (GA ad)) (F0 m 16 ls []) := by
      clear hf
      intro n
      induction n with
      | zero =>
        intro v1_1 v2_1 H locs ls hP hS hl hf
        rw [F_Wd_code_16.eq_1] at hf
        cases hf
      | succ n ih =>
        intro v1_1 v2_1 H locs ls hP hS hl hf
        rw [F_Wd_code_16.eq_2] at hf
        refine lv_iload_n hx hb d_Wd_code_16 rfl (lv_at hl 2 rfl) ?_
        refine lv_aload_n hx hb d_Wd_code_17 rfl (lv_at hl 0 rfl) ?_
        refine g_get (v := .int (σ.1 w 1)) hC hP h_w.1 co_Wd 1 (by decide) rfl fl_Wd_15 rfl d_Wd_code_18 ?_
        refine lv_icmp_ge (tgt := 44) hx hb d_Wd_code_21 (by decide) (fun hc3 => ?_) (fun hc3 => ?_)
        · rw [if_pos hc3] at hf
          exact hKL1_44 _ _ _ _ _ hP hS (lv_sub hl [1] rfl) hf
        · rw [if_neg hc3] at hf
          refine lv_iload_n hx hb d_Wd_code_24 rfl (lv_at hl 1 rfl) ?_
          refine lv_bipush (v := (10 : Int32)) hx hb d_Wd_code_25 (by decide) ?_
          refine lv_imul hx hb d_Wd_code_27 ?_
          refine lv_aload_n hx hb d_Wd_code_28 rfl (lv_at hl 0 rfl) ?_
          refine g_get (v := .ref (ad (w + 1))) hC hP h_w.1 co_Wd 0 (by decide) rfl fl_Wd_11 rfl d_Wd_code_29 ?_
          refine lv_iload_n hx hb d_Wd_code_32 rfl (lv_at hl 2 rfl) ?_
          obtain ⟨hg2, hf⟩ := gd_some hf
          refine g_iald2 (j := v2_1.toNatClampNeg) hC hP h_w.2 hg2 rfl d_Wd_code_33 ?_
          refine lv_iadd hx hb d_Wd_code_34 ?_
          refine lv_iconst (v := (1 : Int32)) hx hb d_Wd_code_35 (by decide) ?_
          refine lv_iadd hx hb d_Wd_code_36 ?_
          refine lv_istore_n (lv' := [(1, .int (((v1_1 * (10 : Int32)) + (σ.1 (w + 1) v2_1.toNatClampNeg)) + (1 : Int32))), (0, .ref (ad w)), (2, .int v2_1)]) hx hb d_Wd_code_37 rfl hl (by decide) rfl (fun ls hl => ?_)
          refine lv_iinc (v := v2_1 + 1) (lv' := [(2, .int (v2_1 + 1)), (1, .int (((v1_1 * (10 : Int32)) + (σ.1 (w + 1) v2_1.toNatClampNeg)) + (1 : Int32))), (0, .ref (ad w))]) hx hb d_Wd_code_38 hl (k := 2) rfl rfl (by decide) rfl (fun ls hl => ?_)
          refine lv_goto (tgt := 16) hx hb d_Wd_code_41 (by decide) ?_
          exact ih _ _ _ _ _ hP hS (lv_sub hl [2, 1, 0] rfl) hf
    exact hL1 _ _ _ _ _ _ hP hS (lv_sub hl [2, 1, 0] rfl) hf
  · rw [if_neg hc4] at hf
    refine lv_bipush (v := (-6 : Int32)) hx hb d_Wd_code_9 (by decide) ?_
    cases hf
    exact g_iret hC rfl hP hS d_Wd_code_11
set_option maxHeartbeats 4000000 in
set_option maxRecDepth 100000 in
theorem c_Qu_survey {l : Launch} {D : va_G} {K : Nat → ClassId} {ad : Nat → Nat} (hj : inj ad)    {σ : GS} {z0 : GS} (hf : F_Qu_survey σ = some z0) : CT l D K ad y_Qu_survey b_Qu_survey 4 none 4 [.ref (ad 54), .ref (ad 32)] σ (QV D K ad z0) := by
  refine CT.intro hj (by decide) (Nat.le_of_ble_eq_true rfl) ?_
  intro p e s m args below meth c ls hC hP hS hl
  obtain ⟨hx, hb, -, hown, hts, -⟩ := id hC
  have hl : lv_has ls 4 [(0, .ref (ad 54)), (1, .ref (ad 32))] := hl
  rw [F_Qu_survey] at hf
  refine lv_aload_n hx hb d_Qu_survey_0 rfl (lv_at hl 0 rfl) ?_
  refine g_get (v := .int (σ.1 54 9)) hC hP o_54 co_Qu 9 (by decide) rfl fl_Qu_40 rfl d_Qu_survey_1 ?_
  refine lv_if_le (tgt := 8) hx hb d_Qu_survey_4 (by decide) (fun hc26 => ?_) (fun hc26 => ?_)
  · rw [if_pos hc26] at hf
    refine lv_aload_n hx hb d_Qu_survey_8 rfl (lv_at hl 0 rfl) ?_
    refine g_get (v := .ref (ad 58)) hC hP o_54 co_Qu 3 (by decide) rfl fl_Qu_21 rfl d_Qu_survey_9 ?_
    refine lv_iconst (v := (-1 : Int32)) hx hb d_Qu_survey_12 (by decide) ?_
    obtain ⟨σ2, hk1, hf⟩ := bv_some hf
    refine g_callv hS (g_runS (As := [.ref (ad 58), .int (-1 : Int32)]) (rest := []) hC hP (c_J_fillI hj a_58 hk1) (rk (by decide) (by decide)) nm_J_fillI cd_J_fillI it_java_util_Arrays ml_Qu_43 sc_J_fillI rfl hl.1 rfl (Nat.le_of_ble_eq_true rfl) d_Qu_survey_13 zz) (fun H locs hP hS => ?_)
    refine lv_aload_n hx hb d_Qu_survey_16 rfl (lv_at hl 0 rfl) ?_
    refine lv_iconst (v := (0 : Int32)) hx hb d_Qu_survey_17 (by decide) ?_
    refine lv_iconst (v := (0 : Int32)) hx hb d_Qu_survey_18 (by decide) ?_
    obtain ⟨r4, σ5, hk3, hf⟩ := bc_some hf
    refine g_calli hS (g_runV (As := [.int (0 : Int32), .int (0 : Int32)]) (rest := []) hC hP (c_Qu_numberOf hj  hk3) (rk (by decide) (by decide)) nm_Qu_numberOf cd_Qu_numberOf it_WideTown_Quarter ml_Qu_49 im_Qu_numberOf sl_Qu_numberOf o_54 co_Qu rfl hl.1 rfl (Nat.le_of_ble_eq_true rfl) d_Qu_survey_19 zz) (fun H locs hP hS => ?_)
    refine lv_pop hx hb d_Qu_survey_22 rfl ?_
    refine lv_iconst (v := (0 : Int32)) hx hb d_Qu_survey_23 (by decide) ?_
    refine lv_istore_n (lv' := [(2, .int (0 : Int32)), (0, .ref (ad 54)), (1, .ref (ad 32))]) hx hb d_Qu_survey_24 rfl hl (by decide) rfl (fun ls hl => ?_)
    obtain ⟨KL6_108, eKL6_108, hf⟩ := jn_some hf
    have hKL6_108 : ∀ (v2_6 : Int32) (σL6 : GS) (H : Heap) (locs : List Loc) (ls : Array Slot), va_P D vwCl (wG K ad σL6) H → va_S (GA ad) s.heap H locs → lv_has ls 4 [] → KL6_108 v2_6 σL6 = some z0 → W p l e (rmd 4) s m args below meth c H locs 0 0 (MQ below (QV D K ad z0) args s 0 0 (GA ad)) (F0 m 108 ls []) := by
      clear hf
      intro v2_6 σL6 H locs ls hP hS hl hf
      rw [eKL6_108] at hf
      try dsimp only at hf
      cases hf
      exact g_vret hC rfl hP hS d_Qu_survey_108
    clear eKL6_108
    have hL6 : ∀ (n : Nat) (v2_6 : Int32) (σL6 : GS) (H : Heap) (locs : List Loc) (ls : Array Slot), va_P D vwCl (wG K ad σL6) H → va_S (GA ad) s.heap H locs → lv_has ls 4 [(0, .ref (ad 54)), (1, .ref (ad 32)), (2, .int v2_6)] → F_Qu_survey_25 KL6_108 n v2_6 σL6 = some z0 → W p l e (rmd 4) s m args below meth c H locs 0 0 (MQ below (QV D K ad z0) args s 0 0 (GA ad)) (F0 m 25 ls []) := by
      clear hf
      intro n
      induction n with
      | zero =>
        intro v2_6 σL6 H locs ls hP hS hl hf
        rw [F_Qu_survey_25.eq_1] at hf
        cases hf
      | succ n ih =>
        intro v2_6 σL6 H locs ls hP hS hl hf
        rw [F_Qu_survey_25.eq_2] at hf
        refine lv_iload_n hx hb d_Qu_survey_25 rfl (lv_at hl 2 rfl) ?_
        refine lv_sipush (v := (166 : Int32)) hx hb d_Qu_survey_26 (by decide) ?_
        refine lv_icmp_ge (tgt := 108) hx hb d_Qu_survey_29 (by decide) (fun hc25 => ?_) (fun hc25 => ?_)
        · rw [if_pos hc25] at hf
          exact hKL6_108 _ _ _ _ _ hP hS (lv_sub hl [] rfl) hf
        · rw [if_neg hc25] at hf
          refine lv_iload_n hx hb d_Qu_survey_32 rfl (lv_at hl 2 rfl) ?_
          refine lv_aload_n hx hb d_Qu_survey_33 rfl (lv_at hl 0 rfl) ?_
          refine g_get (v := .int (σL6.1 54 9)) hC hP o_54 co_Qu 9 (by decide) rfl fl_Qu_40 rfl d_Qu_survey_34 ?_
          refine lv_icmp_ge (tgt := 108) hx hb d_Qu_survey_37 (by decide) (fun hc24 => ?_) (fun hc24 => ?_)
          · rw [if_pos hc24] at hf
            exact hKL6_108 _ _ _ _ _ hP hS (lv_sub hl [] rfl) hf
          · rw [if_neg hc24] at hf
            refine lv_iconst (v := (0 : Int32)) hx hb d_Qu_survey_40 (by decide) ?_
            refine lv_istore_n (lv' := [(3, .int (0 : Int32)), (0, .ref (ad 54)), (1, .ref (ad 32)), (2, .int v2_6)]) hx hb d_Qu_survey_41 rfl hl (by decide) rfl (fun ls hl => ?_)
            obtain ⟨KL7_102, eKL7_102, hf⟩ := jn_some hf
            have hKL7_102 : ∀ (v3_7 : Int32) (σL7 : GS) (H : Heap) (locs : List Loc) (ls : Array Slot), va_P D vwCl (wG K ad σL7) H → va_S (GA ad) s.heap H locs → lv_has ls 4 [(0, .ref (ad 54)), (1, .ref (ad 32)), (2, .int v2_6)] → KL7_102 v3_7 σL7 = some z0 → W p l e (rmd 4) s m args below meth c H locs 0 0 (MQ below (QV D K ad z0) args s 0 0 (GA ad)) (F0 m 102 ls []) := by
              clear hf
              intro v3_7 σL7 H locs ls hP hS hl hf
              rw [eKL7_102] at hf
              try dsimp only at hf
              refine lv_iinc (v := v2_6 + 1) (lv' := [(2, .int (v2_6 + 1)), (0, .ref (ad 54)), (1, .ref (ad 32))]) hx hb d_Qu_survey_102 hl (k := 2) rfl rfl (by decide) rfl (fun ls hl => ?_)
              refine lv_goto (tgt := 25) hx hb d_Qu_survey_105 (by decide) ?_
              exact ih _ _ _ _ _ hP hS (lv_sub hl [1, 2, 0] rfl) hf
            clear eKL7_102
            have hL7 : ∀ (n : Nat) (v3_7 : Int32) (σL7 : GS) (H : Heap) (locs : List Loc) (ls : Array Slot), va_P D vwCl (wG K ad σL7) H → va_S (GA ad) s.heap H locs → lv_has ls 4 [(0, .ref (ad 54)), (1, .ref (ad 32)), (2, .int v2_6), (3, .int v3_7)] → F_Qu_survey_42 v2_6 KL7_102 n v3_7 σL7 = some z0 → W p l e (rmd 4) s m args below meth c H locs 0 0 (MQ below (QV D K ad z0) args s 0 0 (GA ad)) (F0 m 42 ls []) := by
              clear hf
              intro n
              induction n with
              | zero =>
                intro v3_7 σL7 H locs ls hP hS hl hf
                rw [F_Qu_survey_42.eq_1] at hf
                cases hf
              | succ n ih =>
                intro v3_7 σL7 H locs ls hP hS hl hf
                rw [F_Qu_survey_42.eq_2] at hf
                refine lv_iload_n hx hb d_Qu_survey_42 rfl (lv_at hl 3 rfl) ?_
                refine lv_iconst (v := (5 : Int32)) hx hb d_Qu_survey_43 (by decide) ?_
                refine lv_icmp_ge (tgt := 102) hx hb d_Qu_survey_44 (by decide) (fun hc23 => ?_) (fun hc23 => ?_)
                · rw [if_pos hc23] at hf
                  exact hKL7_102 _ _ _ _ _ hP hS (lv_sub hl [0, 1, 2] rfl) hf
                · rw [if_neg hc23] at hf
                  refine lv_aload_n hx hb d_Qu_survey_47 rfl (lv_at hl 1 rfl) ?_
                  refine lv_aload_n hx hb d_Qu_survey_48 rfl (lv_at hl 0 rfl) ?_
                  refine g_get (v := .ref (ad 55)) hC hP o_54 co_Qu 0 (by decide) rfl fl_Qu_11 rfl d_Qu_survey_49 ?_
                  refine lv_iload_n hx hb d_Qu_survey_52 rfl (lv_at hl 2 rfl) ?_
                  obtain ⟨hg8, hf⟩ := gd_some hf
                  refine g_iald2 (j := v2_6.toNatClampNeg) hC hP a_55 hg8 rfl d_Qu_survey_53 ?_
                  obtain ⟨σ10, hk9, hf⟩ := bv_some hf
                  refine g_callv hS (g_runV (As := [.int (σL7.1 55 v2_6.toNatClampNeg)]) (rest := []) hC hP (c_Wd_becomes hj ⟨o_32, a_33⟩ hk9) (rk (by decide) (by decide)) nm_Wd_becomes cd_Wd_becomes it_WideTown_Word ml_Qu_53 im_Wd_becomes sl_Wd_becomes o_32 co_Wd rfl hl.1 rfl (Nat.le_of_ble_eq_true rfl) d_Qu_survey_54 zz) (fun H locs hP hS => ?_)
                  refine lv_aload_n hx hb d_Qu_survey_57 rfl (lv_at hl 1 rfl) ?_
                  refine lv_iload_n hx hb d_Qu_survey_58 rfl (lv_at hl 3 rfl) ?_
                  obtain ⟨σ12, hk11, hf⟩ := bv_some hf
                  refine g_callv hS (g_runV (As := [.int v3_7]) (rest := []) hC hP (c_Wd_go hj ⟨o_32, a_33⟩ hk11) (rk (by decide) (by decide)) nm_Wd_go cd_Wd_go it_WideTown_Word ml_Qu_59 im_Wd_go sl_Wd_go o_32 co_Wd rfl hl.1 rfl (Nat.le_of_ble_eq_true rfl) d_Qu_survey_59 zz) (fun H locs hP hS => ?_)
                  refine lv_aload_n hx hb d_Qu_survey_62 rfl (lv_at hl 0 rfl) ?_
                  refine g_get (v := .ref (ad 57)) hC hP o_54 co_Qu 2 (by decide) rfl fl_Qu_18 rfl d_Qu_survey_63 ?_
                  refine lv_iload_n hx hb d_Qu_survey_66 rfl (lv_at hl 2 rfl) ?_
                  refine lv_iconst (v := (5 : Int32)) hx hb d_Qu_survey_67 (by decide) ?_
                  refine lv_imul hx hb d_Qu_survey_68 ?_
                  refine lv_iload_n hx hb d_Qu_survey_69 rfl (lv_at hl 3 rfl) ?_
                  refine lv_iadd hx hb d_Qu_survey_70 ?_
                  refine lv_aload_n hx hb d_Qu_survey_71 rfl (lv_at hl 1 rfl) ?_
                  refine g_get (v := .int (σ12.1 32 1)) hC hP o_32 co_Wd 1 (by decide) rfl fl_Qu_62 rfl d_Qu_survey_72 ?_
                  refine lv_iconst (v := (4 : Int32)) hx hb d_Qu_survey_75 (by decide) ?_
                  refine lv_icmp_le (tgt := 83) hx hb d_Qu_survey_76 (by decide) (fun hc22 => ?_) (fun hc22 => ?_)
                  · rw [if_pos hc22] at hf
                    refine lv_aload_n hx hb d_Qu_survey_83 rfl (lv_at hl 0 rfl) ?_
                    refine lv_aload_n hx hb d_Qu_survey_84 rfl (lv_at hl 1 rfl) ?_
                    obtain ⟨r14, hk13, hf⟩ := bp_some hf
                    refine g_calli hS (g_runV (As := []) (rest := [.ref (ad 54), .int ((v2_6 * (5 : Int32)) + v3_7), .ref (ad 57)]) hC hP (c_Wd_code hj ⟨o_32, a_33⟩ hk13) (rk (by decide) (by decide)) nm_Wd_code cd_Wd_code it_WideTown_Word ml_Qu_63 im_Wd_code sl_Wd_code o_32 co_Wd rfl hl.1 rfl (Nat.le_of_ble_eq_true rfl) d_Qu_survey_85 zz) (fun H locs hP hS => ?_)
                    refine lv_aload_n hx hb d_Qu_survey_88 rfl (lv_at hl 1 rfl) ?_
                    refine g_get (v := .int (σ12.1 32 1)) hC hP o_32 co_Wd 1 (by decide) rfl fl_Qu_62 rfl d_Qu_survey_89 ?_
                    obtain ⟨r16, σ17, hk15, hf⟩ := bc_some hf
                    refine g_calli hS (g_runV (As := [.int r14, .int (σ12.1 32 1)]) (rest := [.int ((v2_6 * (5 : Int32)) + v3_7), .ref (ad 57)]) hC hP (c_Qu_numberOf hj  hk15) (rk (by decide) (by decide)) nm_Qu_numberOf cd_Qu_numberOf it_WideTown_Quarter ml_Qu_49 im_Qu_numberOf sl_Qu_numberOf o_54 co_Qu rfl hl.1 rfl (Nat.le_of_ble_eq_true rfl) d_Qu_survey_92 zz) (fun H locs hP hS => ?_)
                    obtain ⟨hg18, hf⟩ := gd_some hf
                    obtain ⟨σ19, eσ19, hf⟩ := jn_some hf
                    refine g_iast2 (j := ((v2_6 * (5 : Int32)) + v3_7).toNatClampNeg) hC hP hS a_57 hg18 rfl d_Qu_survey_95 (fun H locs hP hS => ?_)
                    rw [← eσ19] at hP
                    refine lv_iinc (v := v3_7 + 1) (lv' := [(3, .int (v3_7 + 1)), (0, .ref (ad 54)), (1, .ref (ad 32)), (2, .int v2_6)]) hx hb d_Qu_survey_96 hl (k := 3) rfl rfl (by decide) rfl (fun ls hl => ?_)
                    refine lv_goto (tgt := 42) hx hb d_Qu_survey_99 (by decide) ?_
                    exact ih _ _ _ _ _ hP hS (lv_sub hl [1, 2, 3, 0] rfl) hf
                  · rw [if_neg hc22] at hf
                    refine lv_iconst (v := (-1 : Int32)) hx hb d_Qu_survey_79 (by decide) ?_
                    refine lv_goto (tgt := 95) hx hb d_Qu_survey_80 (by decide) ?_
                    obtain ⟨hg20, hf⟩ := gd_some hf
                    obtain ⟨σ21, eσ21, hf⟩ := jn_some hf
                    refine g_iast2 (j := ((v2_6 * (5 : Int32)) + v3_7).toNatClampNeg) hC hP hS a_57 hg20 rfl d_Qu_survey_95 (fun H locs hP hS => ?_)
                    rw [← eσ21] at hP
                    refine lv_iinc (v := v3_7 + 1) (lv' := [(3, .int (v3_7 + 1)), (0, .ref (ad 54)), (1, .ref (ad 32)), (2, .int v2_6)]) hx hb d_Qu_survey_96 hl (k := 3) rfl rfl (by decide) rfl (fun ls hl => ?_)
                    refine lv_goto (tgt := 42) hx hb d_Qu_survey_99 (by decide) ?_
                    exact ih _ _ _ _ _ hP hS (lv_sub hl [1, 2, 3, 0] rfl) hf
            exact hL7 _ _ _ _ _ _ hP hS (lv_sub hl [1, 2, 3, 0] rfl) hf
    exact hL6 _ _ _ _ _ _ hP hS (lv_sub hl [1, 2, 0] rfl) hf
  · rw [if_neg hc26] at hf
    cases hf
    exact g_vret hC rfl hP hS d_Qu_survey_7
set_option maxHeartbeats 4000000 in
set_option maxRecDepth 100000 in
theorem c_Qu_addGuard {l : Launch} {D : va_G} {K : Nat → ClassId} {ad : Nat → Nat} (hj : inj ad)   {x1 : Int32} {σ : GS} {z0 : GS} (hf : F_Qu_addGuard x1 σ = some z0) : CT l D K ad y_Qu_addGuard b_Qu_addGuard 3 none 1 [.ref (ad 54), .int x1] σ (QV D K ad z0) := by
  refine CT.intro hj (by decide) (Nat.le_of_ble_eq_true rfl) ?_
  intro p e s m args below meth c ls hC hP hS hl
  obtain ⟨hx, hb, -, hown, hts, -⟩ := id hC
  have hl : lv_has ls 3 [(0, .ref (ad 54)), (1, .int x1)] := hl
  rw [F_Qu_addGuard] at hf
  refine lv_aload_n hx hb d_Qu_addGuard_0 rfl (lv_at hl 0 rfl) ?_
  refine g_get (v := .int (σ.1 54 8)) hC hP o_54 co_Qu 8 (by decide) rfl fl_Qu_37 rfl d_Qu_addGuard_1 ?_
  refine lv_bipush (v := (20 : Int32)) hx hb d_Qu_addGuard_4 (by decide) ?_
  refine lv_icmp_lt (tgt := 10) hx hb d_Qu_addGuard_6 (by decide) (fun hc11 => ?_) (fun hc11 => ?_)
  · rw [if_pos hc11] at hf
    refine lv_iload_n hx hb d_Qu_addGuard_10 rfl (lv_at hl 1 rfl) ?_
    obtain ⟨r2, hk1, hf⟩ := bp_some hf
    refine g_calli hS (g_runS (As := [.int x1]) (rest := []) hC hP (c_Qu_numberOfCode hj  hk1) (rk (by decide) (by decide)) nm_Qu_numberOfCode cd_Qu_numberOfCode it_WideTown_Quarter ml_Qu_67 sc_Qu_numberOfCode rfl hl.1 rfl (Nat.le_of_ble_eq_true rfl) d_Qu_addGuard_11 zz) (fun H locs hP hS => ?_)
    refine lv_istore_n (lv' := [(2, .int r2), (0, .ref (ad 54)), (1, .int x1)]) hx hb d_Qu_addGuard_14 rfl hl (by decide) rfl (fun ls hl => ?_)
    refine lv_aload_n hx hb d_Qu_addGuard_15 rfl (lv_at hl 1 rfl) ?_
    refine g_get (v := .ref (ad 61)) hC hP o_54 co_Qu 6 (by decide) rfl fl_Qu_30 rfl d_Qu_addGuard_16 ?_
    refine lv_aload_n hx hb d_Qu_addGuard_19 rfl (lv_at hl 1 rfl) ?_
    refine g_get (v := .int (σ.1 54 8)) hC hP o_54 co_Qu 8 (by decide) rfl fl_Qu_37 rfl d_Qu_addGuard_20 ?_
    refine lv_iload_n hx hb d_Qu_addGuard_23 rfl (lv_at hl 0 rfl) ?_
    obtain ⟨J3, eJ3, hf⟩ := jn_some hf
    have hJ3 : ∀ (tJ3 : Int32) (H : Heap) (locs : List Loc) (ls : Array Slot), va_P D vwCl (wG K ad σ) H → va_S (GA ad) s.heap H locs → lv_has ls 3 [(0, .ref (ad 54))] → J3 tJ3 = some z0 → W p l e (rmd 1) s m args below meth c H locs 0 0 (MQ below (QV D K ad z0) args s 0 0 (GA ad)) (F0 m 44 ls [.int tJ3, .int (σ.1 54 8), .ref (ad 61)]) := by
      clear hf
      intro tJ3 H locs ls hP hS hl hf
      rw [eJ3] at hf
      try dsimp only at hf
      obtain ⟨hg4, hf⟩ := gd_some hf
      obtain ⟨σ5, eσ5, hf⟩ := jn_some hf
      refine g_iast2 (j := (σ.1 54 8).toNatClampNeg) hC hP hS a_61 hg4 rfl d_Qu_addGuard_44 (fun H locs hP hS => ?_)
      rw [← eσ5] at hP
      refine lv_aload_n hx hb d_Qu_addGuard_45 rfl (lv_at hl 0 rfl) ?_
      refine lv_dup hx hb d_Qu_addGuard_46 rfl ?_
      refine g_get (v := .int (σ5.1 54 8)) hC hP o_54 co_Qu 8 (by decide) rfl fl_Qu_37 rfl d_Qu_addGuard_47 ?_
      refine lv_iconst (v := (1 : Int32)) hx hb d_Qu_addGuard_50 (by decide) ?_
      refine lv_iadd hx hb d_Qu_addGuard_51 ?_
      obtain ⟨σ6, eσ6, hf⟩ := jn_some hf
      refine g_puti hC hP hS o_54 co_Qu 8 (by decide) rfl fl_Qu_37 rfl (to_Qu 8 (by decide)) (Nat.le_of_ble_eq_true rfl) rfl d_Qu_addGuard_52 (fun H locs hP hS => ?_)
      rw [← eσ6] at hP
      cases hf
      exact g_vret hC rfl hP hS d_Qu_addGuard_55
    clear eJ3
    obtain ⟨J7, eJ7, hf⟩ := jn_some hf
    have hJ7 : ∀ (dJ7 : Unit) (H : Heap) (locs : List Loc) (ls : Array Slot), va_P D vwCl (wG K ad σ) H → va_S (GA ad) s.heap H locs → lv_has ls 3 [(0, .ref (ad 54))] → J7 dJ7 = some z0 → W p l e (rmd 1) s m args below meth c H locs 0 0 (MQ below (QV D K ad z0) args s 0 0 (GA ad)) (F0 m 43 ls [.int (σ.1 54 8), .ref (ad 61)]) := by
      clear hf
      intro dJ7 H locs ls hP hS hl hf
      rw [eJ7] at hf
      try dsimp only at hf
      refine lv_iconst (v := (-1 : Int32)) hx hb d_Qu_addGuard_43 (by decide) ?_
      exact hJ3 _ _ _ _ hP hS (lv_sub hl [0] rfl) hf
    clear eJ7
    refine lv_if_lt (tgt := 43) hx hb d_Qu_addGuard_24 (by decide) (fun hc10 => ?_) (fun hc10 => ?_)
    · rw [if_pos hc10] at hf
      exact hJ7 _ _ _ _ hP hS (lv_sub hl [1] rfl) hf
    · rw [if_neg hc10] at hf
      refine lv_iload_n hx hb d_Qu_addGuard_27 rfl (lv_at hl 0 rfl) ?_
      refine lv_sipush (v := (781 : Int32)) hx hb d_Qu_addGuard_28 (by decide) ?_
      refine lv_icmp_ge (tgt := 43) hx hb d_Qu_addGuard_31 (by decide) (fun hc9 => ?_) (fun hc9 => ?_)
      · rw [if_pos hc9] at hf
        exact hJ7 _ _ _ _ hP hS (lv_sub hl [1] rfl) hf
      · rw [if_neg hc9] at hf
        refine lv_aload_n hx hb d_Qu_addGuard_34 rfl (lv_at hl 1 rfl) ?_
        refine g_get (v := .ref (ad 58)) hC hP o_54 co_Qu 3 (by decide) rfl fl_Qu_21 rfl d_Qu_addGuard_35 ?_
        refine lv_iload_n hx hb d_Qu_addGuard_38 rfl (lv_at hl 0 rfl) ?_
        obtain ⟨hg8, hf⟩ := gd_some hf
        refine g_iald2 (j := r2.toNatClampNeg) hC hP a_58 hg8 rfl d_Qu_addGuard_39 ?_
        refine lv_goto (tgt := 44) hx hb d_Qu_addGuard_40 (by decide) ?_
        exact hJ3 _ _ _ _ hP hS (lv_sub hl [1] rfl) hf
  · rw [if_neg hc11] at hf
    cases hf
    exact g_vret hC rfl hP hS d_Qu_addGuard_9
set_option maxHeartbeats 4000000 in
set_option maxRecDepth 100000 in
theorem c_Qu_catchFire {l : Launch} {D : va_G} {K : Nat → ClassId} {ad : Nat → Nat} (hj : inj ad)   {x1 : Int32} {σ : GS} {z0 : GS} (hf : F_Qu_catchFire x1 σ = some z0) : CT l D K ad y_Qu_catchFire b_Qu_catchFire 2 none 0 [.ref (ad 54), .int x1] σ (QV D K ad z0) := by
  refine CT.intro hj (by decide) (Nat.le_of_ble_eq_true rfl) ?_
  intro p e s m args below meth c ls hC hP hS hl
  obtain ⟨hx, hb, -, hown, hts, -⟩ := id hC
  have hl : lv_has ls 2 [(0, .ref (ad 54)), (1, .int x1)] := hl
  rw [F_Qu_catchFire] at hf
  refine lv_aload_n hx hb d_Qu_catchFire_0 rfl (lv_at hl 0 rfl) ?_
  refine g_get (v := .int (σ.1 54 7)) hC hP o_54 co_Qu 7 (by decide) rfl fl_Qu_33 rfl d_Qu_catchFire_1 ?_
  refine lv_sipush (v := (166 : Int32)) hx hb d_Qu_catchFire_4 (by decide) ?_
  refine lv_icmp_ge (tgt := 37) hx hb d_Qu_catchFire_7 (by decide) (fun hc6 => ?_) (fun hc6 => ?_)
  · rw [if_pos hc6] at hf
    cases hf
    exact g_vret hC rfl hP hS d_Qu_catchFire_37
  · rw [if_neg hc6] at hf
    refine lv_aload_n hx hb d_Qu_catchFire_10 rfl (lv_at hl 0 rfl) ?_
    refine g_get (v := .ref (ad 60)) hC hP o_54 co_Qu 5 (by decide) rfl fl_Qu_27 rfl d_Qu_catchFire_11 ?_
    refine lv_aload_n hx hb d_Qu_catchFire_14 rfl (lv_at hl 0 rfl) ?_
    refine g_get (v := .int (σ.1 54 7)) hC hP o_54 co_Qu 7 (by decide) rfl fl_Qu_33 rfl d_Qu_catchFire_15 ?_
    refine lv_iload_n hx hb d_Qu_catchFire_18 rfl (lv_at hl 1 rfl) ?_
    obtain ⟨hg1, hf⟩ := gd_some hf
    obtain ⟨σ2, eσ2, hf⟩ := jn_some hf
    refine g_iast2 (j := (σ.1 54 7).toNatClampNeg) hC hP hS a_60 hg1 rfl d_Qu_catchFire_19 (fun H locs hP hS => ?_)
    rw [← eσ2] at hP
    refine lv_aload_n hx hb d_Qu_catchFire_20 rfl (lv_at hl 0 rfl) ?_
    refine lv_dup hx hb d_Qu_catchFire_21 rfl ?_
    refine g_get (v := .int (σ2.1 54 7)) hC hP o_54 co_Qu 7 (by decide) rfl fl_Qu_33 rfl d_Qu_catchFire_22 ?_
    refine lv_iconst (v := (1 : Int32)) hx hb d_Qu_catchFire_25 (by decide) ?_
    refine lv_iadd hx hb d_Qu_catchFire_26 ?_
    obtain ⟨σ3, eσ3, hf⟩ := jn_some hf
    refine g_puti hC hP hS o_54 co_Qu 7 (by decide) rfl fl_Qu_33 rfl (to_Qu 7 (by decide)) (Nat.le_of_ble_eq_true rfl) rfl d_Qu_catchFire_27 (fun H locs hP hS => ?_)
    rw [← eσ3] at hP
    refine lv_aload_n hx hb d_Qu_catchFire_30 rfl (lv_at hl 0 rfl) ?_
    refine g_get (v := .ref (ad 59)) hC hP o_54 co_Qu 4 (by decide) rfl fl_Qu_24 rfl d_Qu_catchFire_31 ?_
    refine lv_iload_n hx hb d_Qu_catchFire_34 rfl (lv_at hl 1 rfl) ?_
    refine lv_iconst (v := (1 : Int32)) hx hb d_Qu_catchFire_35 (by decide) ?_
    obtain ⟨hg4, hf⟩ := gd_some hf
    obtain ⟨σ5, eσ5, hf⟩ := jn_some hf
    refine g_iast2 (j := x1.toNatClampNeg) hC hP hS a_59 hg4 rfl d_Qu_catchFire_36 (fun H locs hP hS => ?_)
    rw [← eσ5] at hP
    cases hf
    exact g_vret hC rfl hP hS d_Qu_catchFire_37
set_option maxHeartbeats 4000000 in
set_option maxRecDepth 100000 in
theorem c_Qu_spread {l : Launch} {D : va_G} {K : Nat → ClassId} {ad : Nat → Nat} (hj : inj ad)   {x1 : Int32} {σ : GS} {z0 : GS} (hf : F_Qu_spread x1 σ = some z0) : CT l D K ad y_Qu_spread b_Qu_spread 4 none 1 [.ref (ad 54), .int x1] σ (QV D K ad z0) := by
  refine CT.intro hj (by decide) (Nat.le_of_ble_eq_true rfl) ?_
  intro p e s m args below meth c ls hC hP hS hl
  obtain ⟨hx, hb, -, hown, hts, -⟩ := id hC
  have hl : lv_has ls 4 [(0, .ref (ad 54)), (1, .int x1)] := hl
  rw [F_Qu_spread] at hf
  refine lv_iconst (v := (0 : Int32)) hx hb d_Qu_spread_0 (by decide) ?_
  refine lv_istore_n (lv' := [(2, .int (0 : Int32)), (0, .ref (ad 54)), (1, .int x1)]) hx hb d_Qu_spread_1 rfl hl (by decide) rfl (fun ls hl => ?_)
  obtain ⟨KL1_43, eKL1_43, hf⟩ := jn_some hf
  have hKL1_43 : ∀ (v2_1 : Int32) (σL1 : GS) (H : Heap) (locs : List Loc) (ls : Array Slot), va_P D vwCl (wG K ad σL1) H → va_S (GA ad) s.heap H locs → lv_has ls 4 [] → KL1_43 v2_1 σL1 = some z0 → W p l e (rmd 1) s m args below meth c H locs 0 0 (MQ below (QV D K ad z0) args s 0 0 (GA ad)) (F0 m 43 ls []) := by
    clear hf
    intro v2_1 σL1 H locs ls hP hS hl hf
    rw [eKL1_43] at hf
    try dsimp only at hf
    cases hf
    exact g_vret hC rfl hP hS d_Qu_spread_43
  clear eKL1_43
  have hL1 : ∀ (n : Nat) (v2_1 : Int32) (σL1 : GS) (H : Heap) (locs : List Loc) (ls : Array Slot), va_P D vwCl (wG K ad σL1) H → va_S (GA ad) s.heap H locs → lv_has ls 4 [(0, .ref (ad 54)), (1, .int x1), (2, .int v2_1)] → F_Qu_spread_2 x1 KL1_43 n v2_1 σL1 = some z0 → W p l e (rmd 1) s m args below meth c H locs 0 0 (MQ below (QV D K ad z0) args s 0 0 (GA ad)) (F0 m 2 ls []) := by
    clear hf
    intro n
    induction n with
    | zero =>
      intro v2_1 σL1 H locs ls hP hS hl hf
      rw [F_Qu_spread_2.eq_1] at hf
      cases hf
    | succ n ih =>
      intro v2_1 σL1 H locs ls hP hS hl hf
      rw [F_Qu_spread_2.eq_2] at hf
      refine lv_iload_n hx hb d_Qu_spread_2 rfl (lv_at hl 2 rfl) ?_
      refine lv_iconst (v := (5 : Int32)) hx hb d_Qu_spread_3 (by decide) ?_
      refine lv_icmp_ge (tgt := 43) hx hb d_Qu_spread_4 (by decide) (fun hc8 => ?_) (fun hc8 => ?_)
      · rw [if_pos hc8] at hf
        exact hKL1_43 _ _ _ _ _ hP hS (lv_sub hl [] rfl) hf
      · rw [if_neg hc8] at hf
        refine lv_aload_n hx hb d_Qu_spread_7 rfl (lv_at hl 0 rfl) ?_
        refine g_get (v := .ref (ad 57)) hC hP o_54 co_Qu 2 (by decide) rfl fl_Qu_18 rfl d_Qu_spread_8 ?_
        refine lv_iload_n hx hb d_Qu_spread_11 rfl (lv_at hl 1 rfl) ?_
        refine lv_iconst (v := (5 : Int32)) hx hb d_Qu_spread_12 (by decide) ?_
        refine lv_imul hx hb d_Qu_spread_13 ?_
        refine lv_iload_n hx hb d_Qu_spread_14 rfl (lv_at hl 2 rfl) ?_
        refine lv_iadd hx hb d_Qu_spread_15 ?_
        obtain ⟨hg2, hf⟩ := gd_some hf
        refine g_iald2 (j := ((x1 * (5 : Int32)) + v2_1).toNatClampNeg) hC hP a_57 hg2 rfl d_Qu_spread_16 ?_
        refine lv_istore_n (lv' := [(3, .int (σL1.1 57 ((x1 * (5 : Int32)) + v2_1).toNatClampNeg)), (0, .ref (ad 54)), (1, .int x1), (2, .int v2_1)]) hx hb d_Qu_spread_17 rfl hl (by decide) rfl (fun ls hl => ?_)
        refine lv_iload_n hx hb d_Qu_spread_18 rfl (lv_at hl 0 rfl) ?_
        refine lv_iconst (v := (-1 : Int32)) hx hb d_Qu_spread_19 (by decide) ?_
        refine lv_icmp_eq (tgt := 37) hx hb d_Qu_spread_20 (by decide) (fun hc7 => ?_) (fun hc7 => ?_)
        · rw [if_pos hc7] at hf
          refine lv_iinc (v := v2_1 + 1) (lv' := [(2, .int (v2_1 + 1)), (3, .int (σL1.1 57 ((x1 * (5 : Int32)) + v2_1).toNatClampNeg)), (0, .ref (ad 54)), (1, .int x1)]) hx hb d_Qu_spread_37 hl (k := 3) rfl rfl (by decide) rfl (fun ls hl => ?_)
          refine lv_goto (tgt := 2) hx hb d_Qu_spread_40 (by decide) ?_
          exact ih _ _ _ _ _ hP hS (lv_sub hl [2, 3, 0] rfl) hf
        · rw [if_neg hc7] at hf
          refine lv_aload_n hx hb d_Qu_spread_23 rfl (lv_at hl 1 rfl) ?_
          refine g_get (v := .ref (ad 59)) hC hP o_54 co_Qu 4 (by decide) rfl fl_Qu_24 rfl d_Qu_spread_24 ?_
          refine lv_iload_n hx hb d_Qu_spread_27 rfl (lv_at hl 0 rfl) ?_
          obtain ⟨hg3, hf⟩ := gd_some hf
          refine g_iald2 (j := (σL1.1 57 ((x1 * (5 : Int32)) + v2_1).toNatClampNeg).toNatClampNeg) hC hP a_59 hg3 rfl d_Qu_spread_28 ?_
          refine lv_if_ne (tgt := 37) hx hb d_Qu_spread_29 (by decide) (fun hc6 => ?_) (fun hc6 => ?_)
          · rw [if_neg hc6] at hf
            refine lv_iinc (v := v2_1 + 1) (lv' := [(2, .int (v2_1 + 1)), (3, .int (σL1.1 57 ((x1 * (5 : Int32)) + v2_1).toNatClampNeg)), (0, .ref (ad 54)), (1, .int x1)]) hx hb d_Qu_spread_37 hl (k := 3) rfl rfl (by decide) rfl (fun ls hl => ?_)
            refine lv_goto (tgt := 2) hx hb d_Qu_spread_40 (by decide) ?_
            exact ih _ _ _ _ _ hP hS (lv_sub hl [2, 3, 0] rfl) hf
          · rw [if_pos hc6] at hf
            refine lv_aload_n hx hb d_Qu_spread_32 rfl (lv_at hl 1 rfl) ?_
            refine lv_iload_n hx hb d_Qu_spread_33 rfl (lv_at hl 0 rfl) ?_
            obtain ⟨σ5, hk4, hf⟩ := bv_some hf
            refine g_callv hS (g_runV (As := [.int (σL1.1 57 ((x1 * (5 : Int32)) + v2_1).toNatClampNeg)]) (rest := []) hC hP (c_Qu_catchFire hj  hk4) (rk (by decide) (by decide)) nm_Qu_catchFire cd_Qu_catchFire it_WideTown_Quarter ml_Qu_71 im_Qu_catchFire sl_Qu_catchFire o_54 co_Qu rfl hl.1 rfl (Nat.le_of_ble_eq_true rfl) d_Qu_spread_34 zz) (fun H locs hP hS => ?_)
            refine lv_iinc (v := v2_1 + 1) (lv' := [(2, .int (v2_1 + 1)), (3, .int (σL1.1 57 ((x1 * (5 : Int32)) + v2_1).toNatClampNeg)), (0, .ref (ad 54)), (1, .int x1)]) hx hb d_Qu_spread_37 hl (k := 3) rfl rfl (by decide) rfl (fun ls hl => ?_)
            refine lv_goto (tgt := 2) hx hb d_Qu_spread_40 (by decide) ?_
            exact ih _ _ _ _ _ hP hS (lv_sub hl [2, 3, 0] rfl) hf
  exact hL1 _ _ _ _ _ _ hP hS (lv_sub hl [1, 2, 0] rfl) hf
