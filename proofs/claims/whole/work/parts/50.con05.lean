set_option maxHeartbeats 4000000 in
set_option maxRecDepth 100000 in
theorem c_X_postGuards {l : Launch} {D : va_G} {K : Nat → ClassId} {ad : Nat → Nat} (hj : inj ad)   {x1 : Int32} {σ : GS} {z0 : GS} (hf : F_X_postGuards x1 σ = some z0) : CT l D K ad y_X_postGuards b_X_postGuards 3 none 5 [.ref (ad 0), .int x1] σ (QV D K ad z0) := by
  refine CT.intro hj (by decide) (Nat.le_of_ble_eq_true rfl) ?_
  intro p e s m args below meth c ls hC hP hS hl
  obtain ⟨hx, hb, -, hown, hts, -⟩ := id hC
  have hl : lv_has ls 3 [(0, .ref (ad 0)), (1, .int x1)] := hl
  rw [F_X_postGuards] at hf
  refine lv_aload_n hx hb d_X_postGuards_0 rfl (lv_at hl 0 rfl) ?_
  refine g_get (v := .ref (ad 54)) hC hP o_0 co_X 13 (by decide) rfl fl_X_85 rfl d_X_postGuards_1 ?_
  refine lv_aload_n hx hb d_X_postGuards_4 rfl (lv_at hl 0 rfl) ?_
  refine g_get (v := .ref (ad 32)) hC hP o_0 co_X 7 (by decide) rfl fl_X_47 rfl d_X_postGuards_5 ?_
  obtain ⟨σ2, hk1, hf⟩ := bv_some hf
  refine g_callv hS (g_runV (As := [.ref (ad 32)]) (rest := []) hC hP (c_Qu_survey hj  hk1) (rk (by decide) (by decide)) nm_Qu_survey cd_Qu_survey it_WideTown_Quarter ml_X_314 im_Qu_survey sl_Qu_survey o_54 co_Qu rfl hl.1 rfl (Nat.le_of_ble_eq_true rfl) d_X_postGuards_8 zz) (fun H locs hP hS => ?_)
  refine lv_aload_n hx hb d_X_postGuards_11 rfl (lv_at hl 0 rfl) ?_
  refine g_get (v := .ref (ad 54)) hC hP o_0 co_X 13 (by decide) rfl fl_X_85 rfl d_X_postGuards_12 ?_
  refine lv_iconst (v := (0 : Int32)) hx hb d_X_postGuards_15 (by decide) ?_
  obtain ⟨σ3, eσ3, hf⟩ := jn_some hf
  refine g_puti hC hP hS o_54 co_Qu 8 (by decide) rfl fl_X_377 rfl (to_Qu 8 (by decide)) (Nat.le_of_ble_eq_true rfl) rfl d_X_postGuards_16 (fun H locs hP hS => ?_)
  rw [← eσ3] at hP
  refine lv_iconst (v := (0 : Int32)) hx hb d_X_postGuards_19 (by decide) ?_
  refine lv_istore_n (lv' := [(2, .int (0 : Int32)), (0, .ref (ad 0)), (1, .int x1)]) hx hb d_X_postGuards_20 rfl hl (by decide) rfl (fun ls hl => ?_)
  obtain ⟨KL4_56, eKL4_56, hf⟩ := jn_some hf
  have hKL4_56 : ∀ (v2_4 : Int32) (σL4 : GS) (H : Heap) (locs : List Loc) (ls : Array Slot), va_P D vwCl (wG K ad σL4) H → va_S (GA ad) s.heap H locs → lv_has ls 3 [] → KL4_56 v2_4 σL4 = some z0 → W p l e (rmd 5) s m args below meth c H locs 0 0 (MQ below (QV D K ad z0) args s 0 0 (GA ad)) (F0 m 56 ls []) := by
    clear hf
    intro v2_4 σL4 H locs ls hP hS hl hf
    rw [eKL4_56] at hf
    try dsimp only at hf
    cases hf
    exact g_vret hC rfl hP hS d_X_postGuards_56
  clear eKL4_56
  have hL4 : ∀ (n : Nat) (v2_4 : Int32) (σL4 : GS) (H : Heap) (locs : List Loc) (ls : Array Slot), va_P D vwCl (wG K ad σL4) H → va_S (GA ad) s.heap H locs → lv_has ls 3 [(0, .ref (ad 0)), (1, .int x1), (2, .int v2_4)] → F_X_postGuards_21 x1 KL4_56 n v2_4 σL4 = some z0 → W p l e (rmd 5) s m args below meth c H locs 0 0 (MQ below (QV D K ad z0) args s 0 0 (GA ad)) (F0 m 21 ls []) := by
    clear hf
    intro n
    induction n with
    | zero =>
      intro v2_4 σL4 H locs ls hP hS hl hf
      rw [F_X_postGuards_21.eq_1] at hf
      cases hf
    | succ n ih =>
      intro v2_4 σL4 H locs ls hP hS hl hf
      rw [F_X_postGuards_21.eq_2] at hf
      refine lv_iload_n hx hb d_X_postGuards_21 rfl (lv_at hl 2 rfl) ?_
      refine lv_aload_n hx hb d_X_postGuards_22 rfl (lv_at hl 0 rfl) ?_
      refine g_get (v := .ref (ad 8)) hC hP o_0 co_X 1 (by decide) rfl fl_X_14 rfl d_X_postGuards_23 ?_
      refine lv_iload_n hx hb d_X_postGuards_26 rfl (lv_at hl 1 rfl) ?_
      obtain ⟨hg5, hf⟩ := gd_some hf
      refine g_iald2 (j := x1.toNatClampNeg) hC hP a_8 hg5 rfl d_X_postGuards_27 ?_
      refine lv_icmp_ge (tgt := 56) hx hb d_X_postGuards_28 (by decide) (fun hc13 => ?_) (fun hc13 => ?_)
      · rw [if_pos hc13] at hf
        exact hKL4_56 _ _ _ _ _ hP hS (lv_sub hl [] rfl) hf
      · rw [if_neg hc13] at hf
        refine lv_aload_n hx hb d_X_postGuards_31 rfl (lv_at hl 0 rfl) ?_
        refine g_get (v := .ref (ad 54)) hC hP o_0 co_X 13 (by decide) rfl fl_X_85 rfl d_X_postGuards_32 ?_
        refine lv_aload_n hx hb d_X_postGuards_35 rfl (lv_at hl 0 rfl) ?_
        refine lv_aload_n hx hb d_X_postGuards_36 rfl (lv_at hl 0 rfl) ?_
        refine g_get (v := .ref (ad 1)) hC hP o_0 co_X 0 (by decide) rfl fl_X_11 rfl d_X_postGuards_37 ?_
        refine lv_iload_n hx hb d_X_postGuards_40 rfl (lv_at hl 1 rfl) ?_
        obtain ⟨hg6, hf⟩ := gd_some hf
        refine g_aald hC hP r_1 rfl rfl hg6 d_X_postGuards_41 ?_
        refine lv_iload_n hx hb d_X_postGuards_42 rfl (lv_at hl 2 rfl) ?_
        obtain ⟨hg7, hf⟩ := gd_some hf
        refine g_iald2 (j := v2_4.toNatClampNeg) hC hP (rowA hg6) hg7 rfl d_X_postGuards_43 ?_
        obtain ⟨r9, σ10, hk8, hf⟩ := bc_some hf
        refine g_calli hS (g_runV (As := [.int (σL4.1 (2 + x1.toNatClampNeg) v2_4.toNatClampNeg)]) (rest := [.ref (ad 54)]) hC hP (c_X_plainOf hj  hk8) (rk (by decide) (by decide)) nm_X_plainOf cd_X_plainOf it_WideTown ml_X_211 im_X_plainOf sl_X_plainOf o_0 co_X rfl hl.1 rfl (Nat.le_of_ble_eq_true rfl) d_X_postGuards_44 zz) (fun H locs hP hS => ?_)
        obtain ⟨σ12, hk11, hf⟩ := bv_some hf
        refine g_callv hS (g_runV (As := [.int r9]) (rest := []) hC hP (c_Qu_addGuard hj  hk11) (rk (by decide) (by decide)) nm_Qu_addGuard cd_Qu_addGuard it_WideTown_Quarter ml_X_380 im_Qu_addGuard sl_Qu_addGuard o_54 co_Qu rfl hl.1 rfl (Nat.le_of_ble_eq_true rfl) d_X_postGuards_47 zz) (fun H locs hP hS => ?_)
        refine lv_iinc (v := v2_4 + 1) (lv' := [(2, .int (v2_4 + 1)), (0, .ref (ad 0)), (1, .int x1)]) hx hb d_X_postGuards_50 hl (k := 2) rfl rfl (by decide) rfl (fun ls hl => ?_)
        refine lv_goto (tgt := 21) hx hb d_X_postGuards_53 (by decide) ?_
        exact ih _ _ _ _ _ hP hS (lv_sub hl [1, 2, 0] rfl) hf
  exact hL4 _ _ _ _ _ _ hP hS (lv_sub hl [1, 2, 0] rfl) hf
set_option maxHeartbeats 4000000 in
set_option maxRecDepth 100000 in
theorem c_X_burns {l : Launch} {D : va_G} {K : Nat → ClassId} {ad : Nat → Nat} (hj : inj ad)   {x1 : Int32} {x2 : Int32} {σ : GS} {z0 : Int32 × GS} (hf : F_X_burns x1 x2 σ = some z0) : CT l D K ad y_X_burns b_X_burns 4 (some .int) 6 [.ref (ad 0), .int x1, .int x2] σ (QI D K ad z0.1 z0.2) := by
  refine CT.intro hj (by decide) (Nat.le_of_ble_eq_true rfl) ?_
  intro p e s m args below meth c ls hC hP hS hl
  obtain ⟨hx, hb, -, hown, hts, -⟩ := id hC
  have hl : lv_has ls 4 [(0, .ref (ad 0)), (1, .int x1), (2, .int x2)] := hl
  rw [F_X_burns] at hf
  refine lv_iload_n hx hb d_X_burns_0 rfl (lv_at hl 2 rfl) ?_
  refine lv_if_lt (tgt := 9) hx hb d_X_burns_1 (by decide) (fun hc11 => ?_) (fun hc11 => ?_)
  · rw [if_pos hc11] at hf
    refine lv_iconst (v := (-1 : Int32)) hx hb d_X_burns_9 (by decide) ?_
    cases hf
    exact g_iret hC rfl hP hS d_X_burns_10
  · rw [if_neg hc11] at hf
    refine lv_iload_n hx hb d_X_burns_4 rfl (lv_at hl 2 rfl) ?_
    refine lv_iconst (v := (4 : Int32)) hx hb d_X_burns_5 (by decide) ?_
    refine lv_icmp_le (tgt := 11) hx hb d_X_burns_6 (by decide) (fun hc10 => ?_) (fun hc10 => ?_)
    · rw [if_pos hc10] at hf
      refine lv_aload_n hx hb d_X_burns_11 rfl (lv_at hl 0 rfl) ?_
      refine lv_iload_n hx hb d_X_burns_12 rfl (lv_at hl 1 rfl) ?_
      refine lv_bipush (v := (20 : Int32)) hx hb d_X_burns_13 (by decide) ?_
      obtain ⟨r2, σ3, hk1, hf⟩ := bc_some hf
      refine g_calli hS (g_runV (As := [.int x1, .int (20 : Int32)]) (rest := []) hC hP (c_X_codesRefusal hj  hk1) (rk (by decide) (by decide)) nm_X_codesRefusal cd_X_codesRefusal it_WideTown ml_X_298 im_X_codesRefusal sl_X_codesRefusal o_0 co_X rfl hl.1 rfl (Nat.le_of_ble_eq_true rfl) d_X_burns_15 zz) (fun H locs hP hS => ?_)
      refine lv_istore_n (lv' := [(3, .int r2), (0, .ref (ad 0)), (1, .int x1), (2, .int x2)]) hx hb d_X_burns_18 rfl hl (by decide) rfl (fun ls hl => ?_)
      refine lv_iload_n hx hb d_X_burns_19 rfl (lv_at hl 0 rfl) ?_
      refine lv_if_eq (tgt := 25) hx hb d_X_burns_20 (by decide) (fun hc9 => ?_) (fun hc9 => ?_)
      · rw [if_pos hc9] at hf
        refine lv_aload_n hx hb d_X_burns_25 rfl (lv_at hl 1 rfl) ?_
        refine lv_iload_n hx hb d_X_burns_26 rfl (lv_at hl 2 rfl) ?_
        obtain ⟨σ5, hk4, hf⟩ := bv_some hf
        refine g_callv hS (g_runV (As := [.int x1]) (rest := []) hC hP (c_X_postGuards hj  hk4) (rk (by decide) (by decide)) nm_X_postGuards cd_X_postGuards it_WideTown ml_X_325 im_X_postGuards sl_X_postGuards o_0 co_X rfl hl.1 rfl (Nat.le_of_ble_eq_true rfl) d_X_burns_27 zz) (fun H locs hP hS => ?_)
        refine lv_aload_n hx hb d_X_burns_30 rfl (lv_at hl 1 rfl) ?_
        refine g_get (v := .ref (ad 54)) hC hP o_0 co_X 13 (by decide) rfl fl_X_85 rfl d_X_burns_31 ?_
        refine lv_bipush (v := (-9 : Int32)) hx hb d_X_burns_34 (by decide) ?_
        refine lv_iload_n hx hb d_X_burns_36 rfl (lv_at hl 3 rfl) ?_
        obtain ⟨r7, σ8, hk6, hf⟩ := bc_some hf
        refine g_calli hS (g_runV (As := [.int (-9 : Int32), .int x2]) (rest := []) hC hP (c_Qu_burn hj  hk6) (rk (by decide) (by decide)) nm_Qu_burn cd_Qu_burn it_WideTown_Quarter ml_X_328 im_Qu_burn sl_Qu_burn o_54 co_Qu rfl hl.1 rfl (Nat.le_of_ble_eq_true rfl) d_X_burns_37 zz) (fun H locs hP hS => ?_)
        cases hf
        exact g_iret hC rfl hP hS d_X_burns_40
      · rw [if_neg hc9] at hf
        refine lv_iload_n hx hb d_X_burns_23 rfl (lv_at hl 0 rfl) ?_
        cases hf
        exact g_iret hC rfl hP hS d_X_burns_24
    · rw [if_neg hc10] at hf
      refine lv_iconst (v := (-1 : Int32)) hx hb d_X_burns_9 (by decide) ?_
      cases hf
      exact g_iret hC rfl hP hS d_X_burns_10
set_option maxHeartbeats 4000000 in
set_option maxRecDepth 100000 in
theorem c_X_held {l : Launch} {D : va_G} {K : Nat → ClassId} {ad : Nat → Nat} (hj : inj ad)   {x1 : Int32} {σ : GS} {z0 : Int32 × GS} (hf : F_X_held x1 σ = some z0) : CT l D K ad y_X_held b_X_held 3 (some .int) 6 [.ref (ad 0), .int x1] σ (QI D K ad z0.1 z0.2) := by
  refine CT.intro hj (by decide) (Nat.le_of_ble_eq_true rfl) ?_
  intro p e s m args below meth c ls hC hP hS hl
  obtain ⟨hx, hb, -, hown, hts, -⟩ := id hC
  have hl : lv_has ls 3 [(0, .ref (ad 0)), (1, .int x1)] := hl
  rw [F_X_held] at hf
  refine lv_aload_n hx hb d_X_held_0 rfl (lv_at hl 0 rfl) ?_
  refine lv_iload_n hx hb d_X_held_1 rfl (lv_at hl 1 rfl) ?_
  refine lv_bipush (v := (20 : Int32)) hx hb d_X_held_2 (by decide) ?_
  obtain ⟨r2, σ3, hk1, hf⟩ := bc_some hf
  refine g_calli hS (g_runV (As := [.int x1, .int (20 : Int32)]) (rest := []) hC hP (c_X_codesRefusal hj  hk1) (rk (by decide) (by decide)) nm_X_codesRefusal cd_X_codesRefusal it_WideTown ml_X_298 im_X_codesRefusal sl_X_codesRefusal o_0 co_X rfl hl.1 rfl (Nat.le_of_ble_eq_true rfl) d_X_held_4 zz) (fun H locs hP hS => ?_)
  refine lv_istore_n (lv' := [(2, .int r2), (0, .ref (ad 0)), (1, .int x1)]) hx hb d_X_held_7 rfl hl (by decide) rfl (fun ls hl => ?_)
  refine lv_iload_n hx hb d_X_held_8 rfl (lv_at hl 0 rfl) ?_
  refine lv_if_eq (tgt := 14) hx hb d_X_held_9 (by decide) (fun hc13 => ?_) (fun hc13 => ?_)
  · rw [if_pos hc13] at hf
    refine lv_aload_n hx hb d_X_held_14 rfl (lv_at hl 1 rfl) ?_
    refine lv_iload_n hx hb d_X_held_15 rfl (lv_at hl 2 rfl) ?_
    obtain ⟨σ5, hk4, hf⟩ := bv_some hf
    refine g_callv hS (g_runV (As := [.int x1]) (rest := []) hC hP (c_X_postGuards hj  hk4) (rk (by decide) (by decide)) nm_X_postGuards cd_X_postGuards it_WideTown ml_X_325 im_X_postGuards sl_X_postGuards o_0 co_X rfl hl.1 rfl (Nat.le_of_ble_eq_true rfl) d_X_held_16 zz) (fun H locs hP hS => ?_)
    refine lv_aload_n hx hb d_X_held_19 rfl (lv_at hl 1 rfl) ?_
    refine lv_aload_n hx hb d_X_held_20 rfl (lv_at hl 1 rfl) ?_
    refine g_get (v := .ref (ad 54)) hC hP o_0 co_X 13 (by decide) rfl fl_X_85 rfl d_X_held_21 ?_
    refine lv_bipush (v := (-9 : Int32)) hx hb d_X_held_24 (by decide) ?_
    refine lv_iconst (v := (4 : Int32)) hx hb d_X_held_26 (by decide) ?_
    obtain ⟨r7, σ8, hk6, hf⟩ := bc_some hf
    refine g_calli hS (g_runV (As := [.int (-9 : Int32), .int (4 : Int32)]) (rest := [.ref (ad 0)]) hC hP (c_Qu_burn hj  hk6) (rk (by decide) (by decide)) nm_Qu_burn cd_Qu_burn it_WideTown_Quarter ml_X_328 im_Qu_burn sl_Qu_burn o_54 co_Qu rfl hl.1 rfl (Nat.le_of_ble_eq_true rfl) d_X_held_27 zz) (fun H locs hP hS => ?_)
    obtain ⟨σ9, eσ9, hf⟩ := jn_some hf
    refine g_puti hC hP hS o_0 co_X 16 (by decide) rfl fl_X_96 rfl (to_X 16 (by decide)) (Nat.le_of_ble_eq_true rfl) rfl d_X_held_30 (fun H locs hP hS => ?_)
    rw [← eσ9] at hP
    refine lv_aload_n hx hb d_X_held_33 rfl (lv_at hl 1 rfl) ?_
    refine g_get (v := .ref (ad 54)) hC hP o_0 co_X 13 (by decide) rfl fl_X_85 rfl d_X_held_34 ?_
    obtain ⟨r11, hk10, hf⟩ := bp_some hf
    refine g_calli hS (g_runV (As := []) (rest := []) hC hP (c_Qu_edgeBurns hj  hk10) (rk (by decide) (by decide)) nm_Qu_edgeBurns cd_Qu_edgeBurns it_WideTown_Quarter ml_X_331 im_Qu_edgeBurns sl_Qu_edgeBurns o_54 co_Qu rfl hl.1 rfl (Nat.le_of_ble_eq_true rfl) d_X_held_37 zz) (fun H locs hP hS => ?_)
    refine lv_if_eq (tgt := 47) hx hb d_X_held_40 (by decide) (fun hc12 => ?_) (fun hc12 => ?_)
    · rw [if_pos hc12] at hf
      refine lv_iconst (v := (1 : Int32)) hx hb d_X_held_47 (by decide) ?_
      cases hf
      exact g_iret hC rfl hP hS d_X_held_48
    · rw [if_neg hc12] at hf
      refine lv_iconst (v := (0 : Int32)) hx hb d_X_held_43 (by decide) ?_
      refine lv_goto (tgt := 48) hx hb d_X_held_44 (by decide) ?_
      cases hf
      exact g_iret hC rfl hP hS d_X_held_48
  · rw [if_neg hc13] at hf
    refine lv_iload_n hx hb d_X_held_12 rfl (lv_at hl 0 rfl) ?_
    cases hf
    exact g_iret hC rfl hP hS d_X_held_13
set_option maxHeartbeats 4000000 in
set_option maxRecDepth 100000 in
theorem c_X_idle {l : Launch} {D : va_G} {K : Nat → ClassId} {ad : Nat → Nat} (hj : inj ad)   {x1 : Int32} {σ : GS} {z0 : Int32 × GS} (hf : F_X_idle x1 σ = some z0) : CT l D K ad y_X_idle b_X_idle 5 (some .int) 6 [.ref (ad 0), .int x1] σ (QI D K ad z0.1 z0.2) := by
  refine CT.intro hj (by decide) (Nat.le_of_ble_eq_true rfl) ?_
  intro p e s m args below meth c ls hC hP hS hl
  obtain ⟨hx, hb, -, hown, hts, -⟩ := id hC
  have hl : lv_has ls 5 [(0, .ref (ad 0)), (1, .int x1)] := hl
  rw [F_X_idle] at hf
  refine lv_aload_n hx hb d_X_idle_0 rfl (lv_at hl 0 rfl) ?_
  refine lv_iload_n hx hb d_X_idle_1 rfl (lv_at hl 1 rfl) ?_
  refine lv_bipush (v := (20 : Int32)) hx hb d_X_idle_2 (by decide) ?_
  obtain ⟨r2, σ3, hk1, hf⟩ := bc_some hf
  refine g_calli hS (g_runV (As := [.int x1, .int (20 : Int32)]) (rest := []) hC hP (c_X_codesRefusal hj  hk1) (rk (by decide) (by decide)) nm_X_codesRefusal cd_X_codesRefusal it_WideTown ml_X_298 im_X_codesRefusal sl_X_codesRefusal o_0 co_X rfl hl.1 rfl (Nat.le_of_ble_eq_true rfl) d_X_idle_4 zz) (fun H locs hP hS => ?_)
  refine lv_istore_n (lv' := [(2, .int r2), (0, .ref (ad 0)), (1, .int x1)]) hx hb d_X_idle_7 rfl hl (by decide) rfl (fun ls hl => ?_)
  refine lv_iload_n hx hb d_X_idle_8 rfl (lv_at hl 0 rfl) ?_
  refine lv_if_eq (tgt := 14) hx hb d_X_idle_9 (by decide) (fun hc16 => ?_) (fun hc16 => ?_)
  · rw [if_pos hc16] at hf
    refine lv_aload_n hx hb d_X_idle_14 rfl (lv_at hl 1 rfl) ?_
    refine lv_iload_n hx hb d_X_idle_15 rfl (lv_at hl 2 rfl) ?_
    obtain ⟨σ5, hk4, hf⟩ := bv_some hf
    refine g_callv hS (g_runV (As := [.int x1]) (rest := []) hC hP (c_X_postGuards hj  hk4) (rk (by decide) (by decide)) nm_X_postGuards cd_X_postGuards it_WideTown ml_X_325 im_X_postGuards sl_X_postGuards o_0 co_X rfl hl.1 rfl (Nat.le_of_ble_eq_true rfl) d_X_idle_16 zz) (fun H locs hP hS => ?_)
    refine lv_aload_n hx hb d_X_idle_19 rfl (lv_at hl 1 rfl) ?_
    refine g_get (v := .ref (ad 54)) hC hP o_0 co_X 13 (by decide) rfl fl_X_85 rfl d_X_idle_20 ?_
    refine lv_bipush (v := (-9 : Int32)) hx hb d_X_idle_23 (by decide) ?_
    refine lv_iconst (v := (4 : Int32)) hx hb d_X_idle_25 (by decide) ?_
    obtain ⟨r7, σ8, hk6, hf⟩ := bc_some hf
    refine g_calli hS (g_runV (As := [.int (-9 : Int32), .int (4 : Int32)]) (rest := []) hC hP (c_Qu_burn hj  hk6) (rk (by decide) (by decide)) nm_Qu_burn cd_Qu_burn it_WideTown_Quarter ml_X_328 im_Qu_burn sl_Qu_burn o_54 co_Qu rfl hl.1 rfl (Nat.le_of_ble_eq_true rfl) d_X_idle_26 zz) (fun H locs hP hS => ?_)
    refine lv_istore_n (lv' := [(3, .int r7), (2, .int r2), (0, .ref (ad 0)), (1, .int x1)]) hx hb d_X_idle_29 rfl hl (by decide) rfl (fun ls hl => ?_)
    refine lv_iconst (v := (0 : Int32)) hx hb d_X_idle_30 (by decide) ?_
    refine lv_istore (lv' := [(4, .int (0 : Int32)), (3, .int r7), (2, .int r2), (0, .ref (ad 0)), (1, .int x1)]) hx hb d_X_idle_31 hl (by decide) rfl (fun ls hl => ?_)
    obtain ⟨KL9_67, eKL9_67, hf⟩ := jn_some hf
    have hKL9_67 : ∀ (v4_9 : Int32) (σL9 : GS) (H : Heap) (locs : List Loc) (ls : Array Slot), va_P D vwCl (wG K ad σL9) H → va_S (GA ad) s.heap H locs → lv_has ls 5 [] → KL9_67 v4_9 σL9 = some z0 → W p l e (rmd 6) s m args below meth c H locs 0 0 (MQ below (QI D K ad z0.1 z0.2) args s 0 0 (GA ad)) (F0 m 67 ls []) := by
      clear hf
      intro v4_9 σL9 H locs ls hP hS hl hf
      rw [eKL9_67] at hf
      try dsimp only at hf
      refine lv_bipush (v := (-9 : Int32)) hx hb d_X_idle_67 (by decide) ?_
      cases hf
      exact g_iret hC rfl hP hS d_X_idle_69
    clear eKL9_67
    have hL9 : ∀ (n : Nat) (v4_9 : Int32) (σL9 : GS) (H : Heap) (locs : List Loc) (ls : Array Slot), va_P D vwCl (wG K ad σL9) H → va_S (GA ad) s.heap H locs → lv_has ls 5 [(0, .ref (ad 0)), (1, .int x1), (3, .int r7), (4, .int v4_9)] → F_X_idle_33 x1 r7 KL9_67 n v4_9 σL9 = some z0 → W p l e (rmd 6) s m args below meth c H locs 0 0 (MQ below (QI D K ad z0.1 z0.2) args s 0 0 (GA ad)) (F0 m 33 ls []) := by
      clear hf
      intro n
      induction n with
      | zero =>
        intro v4_9 σL9 H locs ls hP hS hl hf
        rw [F_X_idle_33.eq_1] at hf
        cases hf
      | succ n ih =>
        intro v4_9 σL9 H locs ls hP hS hl hf
        rw [F_X_idle_33.eq_2] at hf
        refine lv_iload hx hb d_X_idle_33 (lv_at hl 3 rfl) ?_
        refine lv_aload_n hx hb d_X_idle_35 rfl (lv_at hl 0 rfl) ?_
        refine g_get (v := .ref (ad 8)) hC hP o_0 co_X 1 (by decide) rfl fl_X_14 rfl d_X_idle_36 ?_
        refine lv_iload_n hx hb d_X_idle_39 rfl (lv_at hl 1 rfl) ?_
        obtain ⟨hg10, hf⟩ := gd_some hf
        refine g_iald2 (j := x1.toNatClampNeg) hC hP a_8 hg10 rfl d_X_idle_40 ?_
        refine lv_icmp_ge (tgt := 67) hx hb d_X_idle_41 (by decide) (fun hc15 => ?_) (fun hc15 => ?_)
        · rw [if_pos hc15] at hf
          exact hKL9_67 _ _ _ _ _ hP hS (lv_sub hl [] rfl) hf
        · rw [if_neg hc15] at hf
          refine lv_aload_n hx hb d_X_idle_44 rfl (lv_at hl 0 rfl) ?_
          refine g_get (v := .ref (ad 54)) hC hP o_0 co_X 13 (by decide) rfl fl_X_85 rfl d_X_idle_45 ?_
          refine lv_iload hx hb d_X_idle_48 (lv_at hl 3 rfl) ?_
          refine lv_iconst (v := (4 : Int32)) hx hb d_X_idle_50 (by decide) ?_
          obtain ⟨r12, σ13, hk11, hf⟩ := bc_some hf
          refine g_calli hS (g_runV (As := [.int v4_9, .int (4 : Int32)]) (rest := []) hC hP (c_Qu_burn hj  hk11) (rk (by decide) (by decide)) nm_Qu_burn cd_Qu_burn it_WideTown_Quarter ml_X_328 im_Qu_burn sl_Qu_burn o_54 co_Qu rfl hl.1 rfl (Nat.le_of_ble_eq_true rfl) d_X_idle_51 zz) (fun H locs hP hS => ?_)
          refine lv_iload_n hx hb d_X_idle_54 rfl (lv_at hl 2 rfl) ?_
          refine lv_icmp_ne (tgt := 61) hx hb d_X_idle_55 (by decide) (fun hc14 => ?_) (fun hc14 => ?_)
          · rw [if_neg hc14] at hf
            refine lv_iinc (v := v4_9 + 1) (lv' := [(4, .int (v4_9 + 1)), (0, .ref (ad 0)), (1, .int x1), (3, .int r7)]) hx hb d_X_idle_61 hl (k := 3) rfl rfl (by decide) rfl (fun ls hl => ?_)
            refine lv_goto (tgt := 33) hx hb d_X_idle_64 (by decide) ?_
            exact ih _ _ _ _ _ hP hS (lv_sub hl [1, 2, 3, 0] rfl) hf
          · rw [if_pos hc14] at hf
            refine lv_iload hx hb d_X_idle_58 (lv_at hl 3 rfl) ?_
            cases hf
            exact g_iret hC rfl hP hS d_X_idle_60
    exact hL9 _ _ _ _ _ _ hP hS (lv_sub hl [3, 4, 1, 0] rfl) hf
  · rw [if_neg hc16] at hf
    refine lv_iload_n hx hb d_X_idle_12 rfl (lv_at hl 0 rfl) ?_
    cases hf
    exact g_iret hC rfl hP hS d_X_idle_13
set_option maxHeartbeats 4000000 in
set_option maxRecDepth 100000 in
theorem c_X_meet {l : Launch} {D : va_G} {K : Nat → ClassId} {ad : Nat → Nat} (hj : inj ad)   {x1 : Int32} {x2 : Int32} {σ : GS} {z0 : Int32 × GS} (hf : F_X_meet x1 x2 σ = some z0) : CT l D K ad y_X_meet b_X_meet 4 (some .int) 6 [.ref (ad 0), .int x1, .int x2] σ (QI D K ad z0.1 z0.2) := by
  refine CT.intro hj (by decide) (Nat.le_of_ble_eq_true rfl) ?_
  intro p e s m args below meth c ls hC hP hS hl
  obtain ⟨hx, hb, -, hown, hts, -⟩ := id hC
  have hl : lv_has ls 4 [(0, .ref (ad 0)), (1, .int x1), (2, .int x2)] := hl
  rw [F_X_meet] at hf
  refine lv_aload_n hx hb d_X_meet_0 rfl (lv_at hl 0 rfl) ?_
  refine lv_iload_n hx hb d_X_meet_1 rfl (lv_at hl 1 rfl) ?_
  obtain ⟨r2, hk1, hf⟩ := bp_some hf
  refine g_calli hS (g_runV (As := [.int x1]) (rest := []) hC hP (c_X_isWalker hj  hk1) (rk (by decide) (by decide)) nm_X_isWalker cd_X_isWalker it_WideTown ml_X_161 im_X_isWalker sl_X_isWalker o_0 co_X rfl hl.1 rfl (Nat.le_of_ble_eq_true rfl) d_X_meet_2 zz) (fun H locs hP hS => ?_)
  refine lv_if_eq (tgt := 21) hx hb d_X_meet_5 (by decide) (fun hc19 => ?_) (fun hc19 => ?_)
  · rw [if_pos hc19] at hf
    refine lv_iconst (v := (-1 : Int32)) hx hb d_X_meet_21 (by decide) ?_
    cases hf
    exact g_iret hC rfl hP hS d_X_meet_22
  · rw [if_neg hc19] at hf
    refine lv_aload_n hx hb d_X_meet_8 rfl (lv_at hl 0 rfl) ?_
    refine lv_iload_n hx hb d_X_meet_9 rfl (lv_at hl 2 rfl) ?_
    obtain ⟨r4, hk3, hf⟩ := bp_some hf
    refine g_calli hS (g_runV (As := [.int x2]) (rest := []) hC hP (c_X_isWalker hj  hk3) (rk (by decide) (by decide)) nm_X_isWalker cd_X_isWalker it_WideTown ml_X_161 im_X_isWalker sl_X_isWalker o_0 co_X rfl hl.1 rfl (Nat.le_of_ble_eq_true rfl) d_X_meet_10 zz) (fun H locs hP hS => ?_)
    refine lv_if_eq (tgt := 21) hx hb d_X_meet_13 (by decide) (fun hc18 => ?_) (fun hc18 => ?_)
    · rw [if_pos hc18] at hf
      refine lv_iconst (v := (-1 : Int32)) hx hb d_X_meet_21 (by decide) ?_
      cases hf
      exact g_iret hC rfl hP hS d_X_meet_22
    · rw [if_neg hc18] at hf
      refine lv_iload_n hx hb d_X_meet_16 rfl (lv_at hl 1 rfl) ?_
      refine lv_iload_n hx hb d_X_meet_17 rfl (lv_at hl 2 rfl) ?_
      refine lv_icmp_ne (tgt := 23) hx hb d_X_meet_18 (by decide) (fun hc17 => ?_) (fun hc17 => ?_)
      · rw [if_neg hc17] at hf
        refine lv_aload_n hx hb d_X_meet_23 rfl (lv_at hl 0 rfl) ?_
        refine g_get (v := .ref (ad 19)) hC hP o_0 co_X 5 (by decide) rfl fl_X_36 rfl d_X_meet_24 ?_
        refine lv_iload_n hx hb d_X_meet_27 rfl (lv_at hl 1 rfl) ?_
        refine lv_aload_n hx hb d_X_meet_28 rfl (lv_at hl 0 rfl) ?_
        refine g_get (v := .ref (ad 34)) hC hP o_0 co_X 8 (by decide) rfl fl_X_54 rfl d_X_meet_29 ?_
        obtain ⟨σ6, hk5, hf⟩ := bv_some hf
        refine g_callv hS (g_runV (As := [.int x1, .ref (ad 34)]) (rest := []) hC hP (c_Tn_load hj o_34 hk5) (rk (by decide) (by decide)) nm_Tn_load cd_Tn_load it_WideTown_Town ml_X_167 im_Tn_load sl_Tn_load o_19 co_Tn rfl hl.1 rfl (Nat.le_of_ble_eq_true rfl) d_X_meet_32 zz) (fun H locs hP hS => ?_)
        refine lv_aload_n hx hb d_X_meet_35 rfl (lv_at hl 0 rfl) ?_
        refine g_get (v := .ref (ad 19)) hC hP o_0 co_X 5 (by decide) rfl fl_X_36 rfl d_X_meet_36 ?_
        refine lv_iload_n hx hb d_X_meet_39 rfl (lv_at hl 2 rfl) ?_
        refine lv_aload_n hx hb d_X_meet_40 rfl (lv_at hl 0 rfl) ?_
        refine g_get (v := .ref (ad 35)) hC hP o_0 co_X 9 (by decide) rfl fl_X_58 rfl d_X_meet_41 ?_
        obtain ⟨σ8, hk7, hf⟩ := bv_some hf
        refine g_callv hS (g_runV (As := [.int x2, .ref (ad 35)]) (rest := []) hC hP (c_Tn_load hj o_35 hk7) (rk (by decide) (by decide)) nm_Tn_load cd_Tn_load it_WideTown_Town ml_X_167 im_Tn_load sl_Tn_load o_19 co_Tn rfl hl.1 rfl (Nat.le_of_ble_eq_true rfl) d_X_meet_44 zz) (fun H locs hP hS => ?_)
        refine lv_iconst (v := (0 : Int32)) hx hb d_X_meet_47 (by decide) ?_
        refine lv_istore_n (lv' := [(3, .int (0 : Int32)), (0, .ref (ad 0)), (1, .int x1), (2, .int x2)]) hx hb d_X_meet_48 rfl hl (by decide) rfl (fun ls hl => ?_)
        obtain ⟨KL9_113, eKL9_113, hf⟩ := jn_some hf
        have hKL9_113 : ∀ (v3_9 : Int32) (σL9 : GS) (H : Heap) (locs : List Loc) (ls : Array Slot), va_P D vwCl (wG K ad σL9) H → va_S (GA ad) s.heap H locs → lv_has ls 4 [] → KL9_113 v3_9 σL9 = some z0 → W p l e (rmd 6) s m args below meth c H locs 0 0 (MQ below (QI D K ad z0.1 z0.2) args s 0 0 (GA ad)) (F0 m 113 ls []) := by
          clear hf
          intro v3_9 σL9 H locs ls hP hS hl hf
          rw [eKL9_113] at hf
          try dsimp only at hf
          refine lv_bipush (v := (-9 : Int32)) hx hb d_X_meet_113 (by decide) ?_
          cases hf
          exact g_iret hC rfl hP hS d_X_meet_115
        clear eKL9_113
        have hL9 : ∀ (n : Nat) (v3_9 : Int32) (σL9 : GS) (H : Heap) (locs : List Loc) (ls : Array Slot), va_P D vwCl (wG K ad σL9) H → va_S (GA ad) s.heap H locs → lv_has ls 4 [(0, .ref (ad 0)), (3, .int v3_9)] → F_X_meet_49 KL9_113 n v3_9 σL9 = some z0 → W p l e (rmd 6) s m args below meth c H locs 0 0 (MQ below (QI D K ad z0.1 z0.2) args s 0 0 (GA ad)) (F0 m 49 ls []) := by
          clear hf
          intro n
          induction n with
          | zero =>
            intro v3_9 σL9 H locs ls hP hS hl hf
            rw [F_X_meet_49.eq_1] at hf
            cases hf
          | succ n ih =>
            intro v3_9 σL9 H locs ls hP hS hl hf
            rw [F_X_meet_49.eq_2] at hf
            refine lv_iload_n hx hb d_X_meet_49 rfl (lv_at hl 1 rfl) ?_
            refine lv_bipush (v := (40 : Int32)) hx hb d_X_meet_50 (by decide) ?_
            refine lv_icmp_gt (tgt := 113) hx hb d_X_meet_52 (by decide) (fun hc16 => ?_) (fun hc16 => ?_)
            · rw [if_pos hc16] at hf
              exact hKL9_113 _ _ _ _ _ hP hS (lv_sub hl [] rfl) hf
            · rw [if_neg hc16] at hf
              refine lv_aload_n hx hb d_X_meet_55 rfl (lv_at hl 0 rfl) ?_
              refine g_get (v := .ref (ad 34)) hC hP o_0 co_X 8 (by decide) rfl fl_X_54 rfl d_X_meet_56 ?_
              refine g_get (v := .int (σL9.1 34 1)) hC hP o_34 co_Wk 1 (by decide) rfl fl_X_184 rfl d_X_meet_59 ?_
              refine lv_aload_n hx hb d_X_meet_62 rfl (lv_at hl 0 rfl) ?_
              refine g_get (v := .ref (ad 35)) hC hP o_0 co_X 9 (by decide) rfl fl_X_58 rfl d_X_meet_63 ?_
              refine g_get (v := .int (σL9.1 35 1)) hC hP o_35 co_Wk 1 (by decide) rfl fl_X_184 rfl d_X_meet_66 ?_
              refine lv_icmp_ne (tgt := 85) hx hb d_X_meet_69 (by decide) (fun hc15 => ?_) (fun hc15 => ?_)
              · rw [if_neg hc15] at hf
                refine lv_aload_n hx hb d_X_meet_85 rfl (lv_at hl 0 rfl) ?_
                refine g_get (v := .ref (ad 34)) hC hP o_0 co_X 8 (by decide) rfl fl_X_54 rfl d_X_meet_86 ?_
                refine lv_aload_n hx hb d_X_meet_89 rfl (lv_at hl 0 rfl) ?_
                refine g_get (v := .ref (ad 32)) hC hP o_0 co_X 7 (by decide) rfl fl_X_47 rfl d_X_meet_90 ?_
                obtain ⟨σ11, hk10, hf⟩ := bv_some hf
                refine g_callv hS (g_runV (As := [.ref (ad 32)]) (rest := []) hC hP (c_Wk_passHour hj o_34 hk10) (rk (by decide) (by decide)) nm_Wk_passHour cd_Wk_passHour it_WideTown_Walker ml_X_200 im_Wk_passHour sl_Wk_passHour o_34 co_Wk rfl hl.1 rfl (Nat.le_of_ble_eq_true rfl) d_X_meet_93 zz) (fun H locs hP hS => ?_)
                refine lv_aload_n hx hb d_X_meet_96 rfl (lv_at hl 0 rfl) ?_
                refine g_get (v := .ref (ad 35)) hC hP o_0 co_X 9 (by decide) rfl fl_X_58 rfl d_X_meet_97 ?_
                refine lv_aload_n hx hb d_X_meet_100 rfl (lv_at hl 0 rfl) ?_
                refine g_get (v := .ref (ad 32)) hC hP o_0 co_X 7 (by decide) rfl fl_X_47 rfl d_X_meet_101 ?_
                obtain ⟨σ13, hk12, hf⟩ := bv_some hf
                refine g_callv hS (g_runV (As := [.ref (ad 32)]) (rest := []) hC hP (c_Wk_passHour hj o_35 hk12) (rk (by decide) (by decide)) nm_Wk_passHour cd_Wk_passHour it_WideTown_Walker ml_X_200 im_Wk_passHour sl_Wk_passHour o_35 co_Wk rfl hl.1 rfl (Nat.le_of_ble_eq_true rfl) d_X_meet_104 zz) (fun H locs hP hS => ?_)
                refine lv_iinc (v := v3_9 + 1) (lv' := [(3, .int (v3_9 + 1)), (0, .ref (ad 0))]) hx hb d_X_meet_107 hl (k := 1) rfl rfl (by decide) rfl (fun ls hl => ?_)
                refine lv_goto (tgt := 49) hx hb d_X_meet_110 (by decide) ?_
                exact ih _ _ _ _ _ hP hS (lv_sub hl [1, 0] rfl) hf
              · rw [if_pos hc15] at hf
                refine lv_aload_n hx hb d_X_meet_72 rfl (lv_at hl 0 rfl) ?_
                refine lv_aload_n hx hb d_X_meet_73 rfl (lv_at hl 0 rfl) ?_
                refine g_get (v := .ref (ad 34)) hC hP o_0 co_X 8 (by decide) rfl fl_X_54 rfl d_X_meet_74 ?_
                refine g_get (v := .int (σL9.1 34 1)) hC hP o_34 co_Wk 1 (by decide) rfl fl_X_184 rfl d_X_meet_77 ?_
                obtain ⟨σ14, eσ14, hf⟩ := jn_some hf
                refine g_puti hC hP hS o_0 co_X 16 (by decide) rfl fl_X_96 rfl (to_X 16 (by decide)) (Nat.le_of_ble_eq_true rfl) rfl d_X_meet_80 (fun H locs hP hS => ?_)
                rw [← eσ14] at hP
                refine lv_iload_n hx hb d_X_meet_83 rfl (lv_at hl 1 rfl) ?_
                cases hf
                exact g_iret hC rfl hP hS d_X_meet_84
        exact hL9 _ _ _ _ _ _ hP hS (lv_sub hl [1, 0] rfl) hf
      · rw [if_pos hc17] at hf
        refine lv_iconst (v := (-1 : Int32)) hx hb d_X_meet_21 (by decide) ?_
        cases hf
        exact g_iret hC rfl hP hS d_X_meet_22
set_option maxHeartbeats 4000000 in
set_option maxRecDepth 100000 in
theorem c_X_part {l : Launch} {D : va_G} {K : Nat → ClassId} {ad : Nat → Nat} (hj : inj ad)   {x1 : Int32} {x2 : Int32} {x3 : Int32} {σ : GS} {z0 : Int32 × GS} (hf : F_X_part x1 x2 x3 σ = some z0) : CT l D K ad y_X_part b_X_part 5 (some .int) 6 [.ref (ad 0), .int x1, .int x2, .int x3] σ (QI D K ad z0.1 z0.2) := by
  refine CT.intro hj (by decide) (Nat.le_of_ble_eq_true rfl) ?_
  intro p e s m args below meth c ls hC hP hS hl
  obtain ⟨hx, hb, -, hown, hts, -⟩ := id hC
  have hl : lv_has ls 5 [(0, .ref (ad 0)), (1, .int x1), (2, .int x2), (3, .int x3)] := hl
  rw [F_X_part] at hf
  refine lv_aload_n hx hb d_X_part_0 rfl (lv_at hl 0 rfl) ?_
  refine lv_iload_n hx hb d_X_part_1 rfl (lv_at hl 1 rfl) ?_
  obtain ⟨r2, hk1, hf⟩ := bp_some hf
  refine g_calli hS (g_runV (As := [.int x1]) (rest := []) hC hP (c_X_isWalker hj  hk1) (rk (by decide) (by decide)) nm_X_isWalker cd_X_isWalker it_WideTown ml_X_161 im_X_isWalker sl_X_isWalker o_0 co_X rfl hl.1 rfl (Nat.le_of_ble_eq_true rfl) d_X_part_2 zz) (fun H locs hP hS => ?_)
  refine lv_if_eq (tgt := 31) hx hb d_X_part_5 (by decide) (fun hc22 => ?_) (fun hc22 => ?_)
  · rw [if_pos hc22] at hf
    refine lv_iconst (v := (-1 : Int32)) hx hb d_X_part_31 (by decide) ?_
    cases hf
    exact g_iret hC rfl hP hS d_X_part_32
  · rw [if_neg hc22] at hf
    refine lv_aload_n hx hb d_X_part_8 rfl (lv_at hl 0 rfl) ?_
    refine lv_iload_n hx hb d_X_part_9 rfl (lv_at hl 2 rfl) ?_
    obtain ⟨r4, hk3, hf⟩ := bp_some hf
    refine g_calli hS (g_runV (As := [.int x2]) (rest := []) hC hP (c_X_isWalker hj  hk3) (rk (by decide) (by decide)) nm_X_isWalker cd_X_isWalker it_WideTown ml_X_161 im_X_isWalker sl_X_isWalker o_0 co_X rfl hl.1 rfl (Nat.le_of_ble_eq_true rfl) d_X_part_10 zz) (fun H locs hP hS => ?_)
    refine lv_if_eq (tgt := 31) hx hb d_X_part_13 (by decide) (fun hc21 => ?_) (fun hc21 => ?_)
    · rw [if_pos hc21] at hf
      refine lv_iconst (v := (-1 : Int32)) hx hb d_X_part_31 (by decide) ?_
      cases hf
      exact g_iret hC rfl hP hS d_X_part_32
    · rw [if_neg hc21] at hf
      refine lv_iload_n hx hb d_X_part_16 rfl (lv_at hl 1 rfl) ?_
      refine lv_iload_n hx hb d_X_part_17 rfl (lv_at hl 2 rfl) ?_
      refine lv_icmp_eq (tgt := 31) hx hb d_X_part_18 (by decide) (fun hc20 => ?_) (fun hc20 => ?_)
      · rw [if_pos hc20] at hf
        refine lv_iconst (v := (-1 : Int32)) hx hb d_X_part_31 (by decide) ?_
        cases hf
        exact g_iret hC rfl hP hS d_X_part_32
      · rw [if_neg hc20] at hf
        refine lv_iload_n hx hb d_X_part_21 rfl (lv_at hl 3 rfl) ?_
        refine lv_if_lt (tgt := 31) hx hb d_X_part_22 (by decide) (fun hc19 => ?_) (fun hc19 => ?_)
        · rw [if_pos hc19] at hf
          refine lv_iconst (v := (-1 : Int32)) hx hb d_X_part_31 (by decide) ?_
          cases hf
          exact g_iret hC rfl hP hS d_X_part_32
        · rw [if_neg hc19] at hf
          refine lv_iload_n hx hb d_X_part_25 rfl (lv_at hl 3 rfl) ?_
          refine lv_bipush (v := (40 : Int32)) hx hb d_X_part_26 (by decide) ?_
          refine lv_icmp_le (tgt := 33) hx hb d_X_part_28 (by decide) (fun hc18 => ?_) (fun hc18 => ?_)
          · rw [if_pos hc18] at hf
            refine lv_aload_n hx hb d_X_part_33 rfl (lv_at hl 0 rfl) ?_
            refine g_get (v := .ref (ad 19)) hC hP o_0 co_X 5 (by decide) rfl fl_X_36 rfl d_X_part_34 ?_
            refine lv_iload_n hx hb d_X_part_37 rfl (lv_at hl 1 rfl) ?_
            refine lv_aload_n hx hb d_X_part_38 rfl (lv_at hl 0 rfl) ?_
            refine g_get (v := .ref (ad 34)) hC hP o_0 co_X 8 (by decide) rfl fl_X_54 rfl d_X_part_39 ?_
            obtain ⟨σ6, hk5, hf⟩ := bv_some hf
            refine g_callv hS (g_runV (As := [.int x1, .ref (ad 34)]) (rest := []) hC hP (c_Tn_load hj o_34 hk5) (rk (by decide) (by decide)) nm_Tn_load cd_Tn_load it_WideTown_Town ml_X_167 im_Tn_load sl_Tn_load o_19 co_Tn rfl hl.1 rfl (Nat.le_of_ble_eq_true rfl) d_X_part_42 zz) (fun H locs hP hS => ?_)
            refine lv_aload_n hx hb d_X_part_45 rfl (lv_at hl 0 rfl) ?_
            refine g_get (v := .ref (ad 19)) hC hP o_0 co_X 5 (by decide) rfl fl_X_36 rfl d_X_part_46 ?_
            refine lv_iload_n hx hb d_X_part_49 rfl (lv_at hl 2 rfl) ?_
            refine lv_aload_n hx hb d_X_part_50 rfl (lv_at hl 0 rfl) ?_
            refine g_get (v := .ref (ad 35)) hC hP o_0 co_X 9 (by decide) rfl fl_X_58 rfl d_X_part_51 ?_
            obtain ⟨σ8, hk7, hf⟩ := bv_some hf
            refine g_callv hS (g_runV (As := [.int x2, .ref (ad 35)]) (rest := []) hC hP (c_Tn_load hj o_35 hk7) (rk (by decide) (by decide)) nm_Tn_load cd_Tn_load it_WideTown_Town ml_X_167 im_Tn_load sl_Tn_load o_19 co_Tn rfl hl.1 rfl (Nat.le_of_ble_eq_true rfl) d_X_part_54 zz) (fun H locs hP hS => ?_)
            refine lv_iconst (v := (0 : Int32)) hx hb d_X_part_57 (by decide) ?_
            refine lv_istore (lv' := [(4, .int (0 : Int32)), (0, .ref (ad 0)), (1, .int x1), (2, .int x2), (3, .int x3)]) hx hb d_X_part_58 hl (by decide) rfl (fun ls hl => ?_)
            obtain ⟨KL9_94, eKL9_94, hf⟩ := jn_some hf
            have hKL9_94 : ∀ (v4_9 : Int32) (σL9 : GS) (H : Heap) (locs : List Loc) (ls : Array Slot), va_P D vwCl (wG K ad σL9) H → va_S (GA ad) s.heap H locs → lv_has ls 5 [(0, .ref (ad 0))] → KL9_94 v4_9 σL9 = some z0 → W p l e (rmd 6) s m args below meth c H locs 0 0 (MQ below (QI D K ad z0.1 z0.2) args s 0 0 (GA ad)) (F0 m 94 ls []) := by
              clear hf
              intro v4_9 σL9 H locs ls hP hS hl hf
              rw [eKL9_94] at hf
              try dsimp only at hf
              refine lv_aload_n hx hb d_X_part_94 rfl (lv_at hl 0 rfl) ?_
              refine lv_aload_n hx hb d_X_part_95 rfl (lv_at hl 0 rfl) ?_
              refine g_get (v := .ref (ad 34)) hC hP o_0 co_X 8 (by decide) rfl fl_X_54 rfl d_X_part_96 ?_
              refine g_get (v := .int (σL9.1 34 1)) hC hP o_34 co_Wk 1 (by decide) rfl fl_X_184 rfl d_X_part_99 ?_
              refine lv_aload_n hx hb d_X_part_102 rfl (lv_at hl 0 rfl) ?_
              refine g_get (v := .ref (ad 35)) hC hP o_0 co_X 9 (by decide) rfl fl_X_58 rfl d_X_part_103 ?_
              refine g_get (v := .int (σL9.1 35 1)) hC hP o_35 co_Wk 1 (by decide) rfl fl_X_184 rfl d_X_part_106 ?_
              obtain ⟨r11, σ12, hk10, hf⟩ := bc_some hf
              refine g_calli hS (g_runV (As := [.int (σL9.1 34 1), .int (σL9.1 35 1)]) (rest := []) hC hP (c_X_gap hj  hk10) (rk (by decide) (by decide)) nm_X_gap cd_X_gap it_WideTown ml_X_247 im_X_gap sl_X_gap o_0 co_X rfl hl.1 rfl (Nat.le_of_ble_eq_true rfl) d_X_part_109 zz) (fun H locs hP hS => ?_)
              cases hf
              exact g_iret hC rfl hP hS d_X_part_112
            clear eKL9_94
            have hL9 : ∀ (n : Nat) (v4_9 : Int32) (σL9 : GS) (H : Heap) (locs : List Loc) (ls : Array Slot), va_P D vwCl (wG K ad σL9) H → va_S (GA ad) s.heap H locs → lv_has ls 5 [(0, .ref (ad 0)), (3, .int x3), (4, .int v4_9)] → F_X_part_60 x3 KL9_94 n v4_9 σL9 = some z0 → W p l e (rmd 6) s m args below meth c H locs 0 0 (MQ below (QI D K ad z0.1 z0.2) args s 0 0 (GA ad)) (F0 m 60 ls []) := by
              clear hf
              intro n
              induction n with
              | zero =>
                intro v4_9 σL9 H locs ls hP hS hl hf
                rw [F_X_part_60.eq_1] at hf
                cases hf
              | succ n ih =>
                intro v4_9 σL9 H locs ls hP hS hl hf
                rw [F_X_part_60.eq_2] at hf
                refine lv_iload hx hb d_X_part_60 (lv_at hl 2 rfl) ?_
                refine lv_iload_n hx hb d_X_part_62 rfl (lv_at hl 1 rfl) ?_
                refine lv_icmp_ge (tgt := 94) hx hb d_X_part_63 (by decide) (fun hc17 => ?_) (fun hc17 => ?_)
                · rw [if_pos hc17] at hf
                  exact hKL9_94 _ _ _ _ _ hP hS (lv_sub hl [0] rfl) hf
                · rw [if_neg hc17] at hf
                  refine lv_aload_n hx hb d_X_part_66 rfl (lv_at hl 0 rfl) ?_
                  refine g_get (v := .ref (ad 34)) hC hP o_0 co_X 8 (by decide) rfl fl_X_54 rfl d_X_part_67 ?_
                  refine lv_aload_n hx hb d_X_part_70 rfl (lv_at hl 0 rfl) ?_
                  refine g_get (v := .ref (ad 32)) hC hP o_0 co_X 7 (by decide) rfl fl_X_47 rfl d_X_part_71 ?_
                  obtain ⟨σ14, hk13, hf⟩ := bv_some hf
                  refine g_callv hS (g_runV (As := [.ref (ad 32)]) (rest := []) hC hP (c_Wk_passHour hj o_34 hk13) (rk (by decide) (by decide)) nm_Wk_passHour cd_Wk_passHour it_WideTown_Walker ml_X_200 im_Wk_passHour sl_Wk_passHour o_34 co_Wk rfl hl.1 rfl (Nat.le_of_ble_eq_true rfl) d_X_part_74 zz) (fun H locs hP hS => ?_)
                  refine lv_aload_n hx hb d_X_part_77 rfl (lv_at hl 0 rfl) ?_
                  refine g_get (v := .ref (ad 35)) hC hP o_0 co_X 9 (by decide) rfl fl_X_58 rfl d_X_part_78 ?_
                  refine lv_aload_n hx hb d_X_part_81 rfl (lv_at hl 0 rfl) ?_
                  refine g_get (v := .ref (ad 32)) hC hP o_0 co_X 7 (by decide) rfl fl_X_47 rfl d_X_part_82 ?_
                  obtain ⟨σ16, hk15, hf⟩ := bv_some hf
                  refine g_callv hS (g_runV (As := [.ref (ad 32)]) (rest := []) hC hP (c_Wk_passHour hj o_35 hk15) (rk (by decide) (by decide)) nm_Wk_passHour cd_Wk_passHour it_WideTown_Walker ml_X_200 im_Wk_passHour sl_Wk_passHour o_35 co_Wk rfl hl.1 rfl (Nat.le_of_ble_eq_true rfl) d_X_part_85 zz) (fun H locs hP hS => ?_)
                  refine lv_iinc (v := v4_9 + 1) (lv' := [(4, .int (v4_9 + 1)), (0, .ref (ad 0)), (3, .int x3)]) hx hb d_X_part_88 hl (k := 2) rfl rfl (by decide) rfl (fun ls hl => ?_)
                  refine lv_goto (tgt := 60) hx hb d_X_part_91 (by decide) ?_
                  exact ih _ _ _ _ _ hP hS (lv_sub hl [1, 2, 0] rfl) hf
            exact hL9 _ _ _ _ _ _ hP hS (lv_sub hl [1, 4, 0] rfl) hf
          · rw [if_neg hc18] at hf
            refine lv_iconst (v := (-1 : Int32)) hx hb d_X_part_31 (by decide) ?_
            cases hf
            exact g_iret hC rfl hP hS d_X_part_32
set_option maxHeartbeats 4000000 in
set_option maxRecDepth 100000 in
theorem c_X_drunk {l : Launch} {D : va_G} {K : Nat → ClassId} {ad : Nat → Nat} (hj : inj ad)   {x1 : Int32} {x2 : Int32} {σ : GS} {z0 : Int32 × GS} (hf : F_X_drunk x1 x2 σ = some z0) : CT l D K ad y_X_drunk b_X_drunk 7 (some .int) 3 [.ref (ad 0), .int x1, .int x2] σ (QI D K ad z0.1 z0.2) := by
  refine CT.intro hj (by decide) (Nat.le_of_ble_eq_true rfl) ?_
  intro p e s m args below meth c ls hC hP hS hl
  obtain ⟨hx, hb, -, hown, hts, -⟩ := id hC
  have hl : lv_has ls 7 [(0, .ref (ad 0)), (1, .int x1), (2, .int x2)] := hl
  rw [F_X_drunk] at hf
  refine lv_iload_n hx hb d_X_drunk_0 rfl (lv_at hl 1 rfl) ?_
  refine lv_iconst (v := (1 : Int32)) hx hb d_X_drunk_1 (by decide) ?_
  refine lv_icmp_lt (tgt := 23) hx hb d_X_drunk_2 (by decide) (fun hc16 => ?_) (fun hc16 => ?_)
  · rw [if_pos hc16] at hf
    refine lv_iconst (v := (-1 : Int32)) hx hb d_X_drunk_23 (by decide) ?_
    cases hf
    exact g_iret hC rfl hP hS d_X_drunk_24
  · rw [if_neg hc16] at hf
    refine lv_iload_n hx hb d_X_drunk_5 rfl (lv_at hl 1 rfl) ?_
    refine lv_bipush (v := (60 : Int32)) hx hb d_X_drunk_6 (by decide) ?_
    refine lv_icmp_gt (tgt := 23) hx hb d_X_drunk_8 (by decide) (fun hc15 => ?_) (fun hc15 => ?_)
    · rw [if_pos hc15] at hf
      refine lv_iconst (v := (-1 : Int32)) hx hb d_X_drunk_23 (by decide) ?_
      cases hf
      exact g_iret hC rfl hP hS d_X_drunk_24
    · rw [if_neg hc15] at hf
      refine lv_iload_n hx hb d_X_drunk_11 rfl (lv_at hl 2 rfl) ?_
      refine lv_iconst (v := (1 : Int32)) hx hb d_X_drunk_12 (by decide) ?_
      refine lv_icmp_lt (tgt := 23) hx hb d_X_drunk_13 (by decide) (fun hc14 => ?_) (fun hc14 => ?_)
      · rw [if_pos hc14] at hf
        refine lv_iconst (v := (-1 : Int32)) hx hb d_X_drunk_23 (by decide) ?_
        cases hf
        exact g_iret hC rfl hP hS d_X_drunk_24
      · rw [if_neg hc14] at hf
        refine lv_iload_n hx hb d_X_drunk_16 rfl (lv_at hl 2 rfl) ?_
        refine lv_ldcw hx hb hown (hts _ cn_X_335) d_X_drunk_17 ?_
        refine lv_icmp_lt (tgt := 25) hx hb d_X_drunk_20 (by decide) (fun hc13 => ?_) (fun hc13 => ?_)
        · rw [if_pos hc13] at hf
          refine lv_iload_n hx hb d_X_drunk_25 rfl (lv_at hl 2 rfl) ?_
          refine lv_i2l hx hb d_X_drunk_26 rfl ?_
          refine lv_lstore_n (lv' := [(3, .long x2.toInt64), (0, .ref (ad 0)), (1, .int x1), (2, .int x2)]) hx hb d_X_drunk_27 rfl hl (by decide) rfl (fun ls hl => ?_)
          refine lv_iconst (v := (0 : Int32)) hx hb d_X_drunk_28 (by decide) ?_
          refine lv_istore (lv' := [(5, .int (0 : Int32)), (3, .long x2.toInt64), (0, .ref (ad 0)), (1, .int x1), (2, .int x2)]) hx hb d_X_drunk_29 hl (by decide) rfl (fun ls hl => ?_)
          refine lv_aload_n hx hb d_X_drunk_31 rfl (lv_at hl 2 rfl) ?_
          refine g_get (v := .ref (ad 32)) hC hP o_0 co_X 7 (by decide) rfl fl_X_47 rfl d_X_drunk_32 ?_
          obtain ⟨σ2, hk1, hf⟩ := bv_some hf
          refine g_callv hS (g_runV (As := []) (rest := []) hC hP (c_Wd_clear hj ⟨o_32, a_33⟩ hk1) (rk (by decide) (by decide)) nm_Wd_clear cd_Wd_clear it_WideTown_Word ml_X_241 im_Wd_clear sl_Wd_clear o_32 co_Wd rfl hl.1 rfl (Nat.le_of_ble_eq_true rfl) d_X_drunk_35 zz) (fun H locs hP hS => ?_)
          refine lv_iconst (v := (0 : Int32)) hx hb d_X_drunk_38 (by decide) ?_
          refine lv_istore (lv' := [(6, .int (0 : Int32)), (5, .int (0 : Int32)), (3, .long x2.toInt64), (0, .ref (ad 0)), (1, .int x1), (2, .int x2)]) hx hb d_X_drunk_39 hl (by decide) rfl (fun ls hl => ?_)
          obtain ⟨KL3_92, eKL3_92, hf⟩ := jn_some hf
          have hKL3_92 : ∀ (v3_3 : Int64) (v5_3 : Int32) (v6_3 : Int32) (σL3 : GS) (H : Heap) (locs : List Loc) (ls : Array Slot), va_P D vwCl (wG K ad σL3) H → va_S (GA ad) s.heap H locs → lv_has ls 7 [(0, .ref (ad 0)), (5, .int v5_3)] → KL3_92 v3_3 v5_3 v6_3 σL3 = some z0 → W p l e (rmd 3) s m args below meth c H locs 0 0 (MQ below (QI D K ad z0.1 z0.2) args s 0 0 (GA ad)) (F0 m 92 ls []) := by
            clear hf
            intro v3_3 v5_3 v6_3 σL3 H locs ls hP hS hl hf
            rw [eKL3_92] at hf
            try dsimp only at hf
            refine lv_aload_n hx hb d_X_drunk_92 rfl (lv_at hl 0 rfl) ?_
            refine lv_iload hx hb d_X_drunk_93 (lv_at hl 1 rfl) ?_
            obtain ⟨σ4, eσ4, hf⟩ := jn_some hf
            refine g_puti hC hP hS o_0 co_X 16 (by decide) rfl fl_X_96 rfl (to_X 16 (by decide)) (Nat.le_of_ble_eq_true rfl) rfl d_X_drunk_95 (fun H locs hP hS => ?_)
            rw [← eσ4] at hP
            refine lv_aload_n hx hb d_X_drunk_98 rfl (lv_at hl 0 rfl) ?_
            refine g_get (v := .ref (ad 32)) hC hP o_0 co_X 7 (by decide) rfl fl_X_47 rfl d_X_drunk_99 ?_
            obtain ⟨r6, hk5, hf⟩ := bp_some hf
            refine g_calli hS (g_runV (As := []) (rest := []) hC hP (c_Wd_code hj ⟨o_32, a_33⟩ hk5) (rk (by decide) (by decide)) nm_Wd_code cd_Wd_code it_WideTown_Word ml_X_238 im_Wd_code sl_Wd_code o_32 co_Wd rfl hl.1 rfl (Nat.le_of_ble_eq_true rfl) d_X_drunk_102 zz) (fun H locs hP hS => ?_)
            cases hf
            exact g_iret hC rfl hP hS d_X_drunk_105
          clear eKL3_92
          have hL3 : ∀ (n : Nat) (v3_3 : Int64) (v5_3 : Int32) (v6_3 : Int32) (σL3 : GS) (H : Heap) (locs : List Loc) (ls : Array Slot), va_P D vwCl (wG K ad σL3) H → va_S (GA ad) s.heap H locs → lv_has ls 7 [(0, .ref (ad 0)), (1, .int x1), (3, .long v3_3), (5, .int v5_3), (6, .int v6_3)] → F_X_drunk_41 x1 KL3_92 n v3_3 v5_3 v6_3 σL3 = some z0 → W p l e (rmd 3) s m args below meth c H locs 0 0 (MQ below (QI D K ad z0.1 z0.2) args s 0 0 (GA ad)) (F0 m 41 ls []) := by
            clear hf
            intro n
            induction n with
            | zero =>
              intro v3_3 v5_3 v6_3 σL3 H locs ls hP hS hl hf
              rw [F_X_drunk_41.eq_1] at hf
              cases hf
            | succ n ih =>
              intro v3_3 v5_3 v6_3 σL3 H locs ls hP hS hl hf
              rw [F_X_drunk_41.eq_2] at hf
              refine lv_iload hx hb d_X_drunk_41 (lv_at hl 4 rfl) ?_
              refine lv_iload_n hx hb d_X_drunk_43 rfl (lv_at hl 1 rfl) ?_
              refine lv_icmp_ge (tgt := 92) hx hb d_X_drunk_44 (by decide) (fun hc12 => ?_) (fun hc12 => ?_)
              · rw [if_pos hc12] at hf
                exact hKL3_92 _ _ _ _ _ _ _ hP hS (lv_sub hl [0, 3] rfl) hf
              · rw [if_neg hc12] at hf
                refine lv_lload_n hx hb d_X_drunk_47 rfl (lv_at hl 2 rfl) ?_
                refine lv_ldc2 hx hb hown (hts _ cn_X_336) d_X_drunk_48 ?_
                refine lv_lmul hx hb d_X_drunk_51 ?_
                refine lv_ldc2 hx hb hown (hts _ cn_X_338) d_X_drunk_52 ?_
                refine lv_lrem hx hb d_X_drunk_55 (by decide) ?_
                refine lv_lstore_n (lv' := [(3, .long ((v3_3 * (48271 : Int64)) - (v3_3 * (48271 : Int64)) / (2147483647 : Int64) * (2147483647 : Int64))), (0, .ref (ad 0)), (1, .int x1), (5, .int v5_3), (6, .int v6_3)]) hx hb d_X_drunk_56 rfl hl (by decide) rfl (fun ls hl => ?_)
                refine lv_aload_n hx hb d_X_drunk_57 rfl (lv_at hl 1 rfl) ?_
                refine g_get (v := .ref (ad 32)) hC hP o_0 co_X 7 (by decide) rfl fl_X_47 rfl d_X_drunk_58 ?_
                refine lv_lload_n hx hb d_X_drunk_61 rfl (lv_at hl 0 rfl) ?_
                refine lv_ldc2 hx hb hown (hts _ cn_X_286) d_X_drunk_62 ?_
                refine lv_lrem hx hb d_X_drunk_65 (by decide) ?_
                refine lv_l2i hx hb d_X_drunk_66 rfl ?_
                obtain ⟨r8, σ9, hk7, hf⟩ := bc_some hf
                refine g_calli hS (g_runV (As := [.int ((((v3_3 * (48271 : Int64)) - (v3_3 * (48271 : Int64)) / (2147483647 : Int64) * (2147483647 : Int64)) - ((v3_3 * (48271 : Int64)) - (v3_3 * (48271 : Int64)) / (2147483647 : Int64) * (2147483647 : Int64)) / (5 : Int64) * (5 : Int64)).toInt32)]) (rest := []) hC hP (c_Wd_goNear hj ⟨o_32, a_33⟩ hk7) (rk (by decide) (by decide)) nm_Wd_goNear cd_Wd_goNear it_WideTown_Word ml_X_340 im_Wd_goNear sl_Wd_goNear o_32 co_Wd rfl hl.1 rfl (Nat.le_of_ble_eq_true rfl) d_X_drunk_67 zz) (fun H locs hP hS => ?_)
                refine lv_if_eq (tgt := 86) hx hb d_X_drunk_70 (by decide) (fun hc11 => ?_) (fun hc11 => ?_)
                · rw [if_pos hc11] at hf
                  refine lv_iinc (v := v6_3 + 1) (lv' := [(6, .int (v6_3 + 1)), (3, .long ((v3_3 * (48271 : Int64)) - (v3_3 * (48271 : Int64)) / (2147483647 : Int64) * (2147483647 : Int64))), (0, .ref (ad 0)), (1, .int x1), (5, .int v5_3)]) hx hb d_X_drunk_86 hl (k := 4) rfl rfl (by decide) rfl (fun ls hl => ?_)
                  refine lv_goto (tgt := 41) hx hb d_X_drunk_89 (by decide) ?_
                  exact ih _ _ _ _ _ _ _ hP hS (lv_sub hl [2, 3, 1, 4, 0] rfl) hf
                · rw [if_neg hc11] at hf
                  refine lv_aload_n hx hb d_X_drunk_73 rfl (lv_at hl 1 rfl) ?_
                  refine g_get (v := .ref (ad 32)) hC hP o_0 co_X 7 (by decide) rfl fl_X_47 rfl d_X_drunk_74 ?_
                  refine g_get (v := .int (σ9.1 32 1)) hC hP o_32 co_Wd 1 (by decide) rfl fl_X_204 rfl d_X_drunk_77 ?_
                  refine lv_if_ne (tgt := 86) hx hb d_X_drunk_80 (by decide) (fun hc10 => ?_) (fun hc10 => ?_)
                  · rw [if_neg hc10] at hf
                    refine lv_iinc (v := v6_3 + 1) (lv' := [(6, .int (v6_3 + 1)), (3, .long ((v3_3 * (48271 : Int64)) - (v3_3 * (48271 : Int64)) / (2147483647 : Int64) * (2147483647 : Int64))), (0, .ref (ad 0)), (1, .int x1), (5, .int v5_3)]) hx hb d_X_drunk_86 hl (k := 4) rfl rfl (by decide) rfl (fun ls hl => ?_)
                    refine lv_goto (tgt := 41) hx hb d_X_drunk_89 (by decide) ?_
                    exact ih _ _ _ _ _ _ _ hP hS (lv_sub hl [2, 3, 1, 4, 0] rfl) hf
                  · rw [if_pos hc10] at hf
                    refine lv_iinc (v := v5_3 + 1) (lv' := [(5, .int (v5_3 + 1)), (3, .long ((v3_3 * (48271 : Int64)) - (v3_3 * (48271 : Int64)) / (2147483647 : Int64) * (2147483647 : Int64))), (0, .ref (ad 0)), (1, .int x1), (6, .int v6_3)]) hx hb d_X_drunk_83 hl (k := 3) rfl rfl (by decide) rfl (fun ls hl => ?_)
                    refine lv_iinc (v := v6_3 + 1) (lv' := [(6, .int (v6_3 + 1)), (5, .int (v5_3 + 1)), (3, .long ((v3_3 * (48271 : Int64)) - (v3_3 * (48271 : Int64)) / (2147483647 : Int64) * (2147483647 : Int64))), (0, .ref (ad 0)), (1, .int x1)]) hx hb d_X_drunk_86 hl (k := 4) rfl rfl (by decide) rfl (fun ls hl => ?_)
                    refine lv_goto (tgt := 41) hx hb d_X_drunk_89 (by decide) ?_
                    exact ih _ _ _ _ _ _ _ hP hS (lv_sub hl [3, 4, 2, 1, 0] rfl) hf
          exact hL3 _ _ _ _ _ _ _ _ hP hS (lv_sub hl [3, 4, 2, 1, 0] rfl) hf
        · rw [if_neg hc13] at hf
          refine lv_iconst (v := (-1 : Int32)) hx hb d_X_drunk_23 (by decide) ?_
          cases hf
          exact g_iret hC rfl hP hS d_X_drunk_24
set_option maxHeartbeats 4000000 in
set_option maxRecDepth 100000 in
theorem c_X_asked {l : Launch} {D : va_G} {K : Nat → ClassId} {ad : Nat → Nat} (hj : inj ad)    {σ : GS} {z0 : Int32} (hf : F_X_asked σ = some z0) : CT l D K ad y_X_asked b_X_asked 1 (some .int) 0 [.ref (ad 0)] σ (QI D K ad z0 σ) := by
  refine CT.intro hj (by decide) (Nat.le_of_ble_eq_true rfl) ?_
  intro p e s m args below meth c ls hC hP hS hl
  obtain ⟨hx, hb, -, hown, hts, -⟩ := id hC
  have hl : lv_has ls 1 [(0, .ref (ad 0))] := hl
  rw [F_X_asked] at hf
  refine lv_aload_n hx hb d_X_asked_0 rfl (lv_at hl 0 rfl) ?_
  refine g_get (v := .int (σ.1 0 16)) hC hP o_0 co_X 16 (by decide) rfl fl_X_96 rfl d_X_asked_1 ?_
  cases hf
  exact g_iret hC rfl hP hS d_X_asked_4
set_option maxHeartbeats 4000000 in
set_option maxRecDepth 100000 in
theorem c_X_upper {l : Launch} {D : va_G} {K : Nat → ClassId} {ad : Nat → Nat} (hj : inj ad)    {σ : GS} {z0 : Int64} (hf : F_X_upper σ = some z0) : CT l D K ad y_X_upper b_X_upper 1 (some .long) 0 [.ref (ad 0)] σ (QL D K ad z0 σ) := by
  refine CT.intro hj (by decide) (Nat.le_of_ble_eq_true rfl) ?_
  intro p e s m args below meth c ls hC hP hS hl
  obtain ⟨hx, hb, -, hown, hts, -⟩ := id hC
  have hl : lv_has ls 1 [(0, .ref (ad 0))] := hl
  rw [F_X_upper] at hf
  refine lv_aload_n hx hb d_X_upper_0 rfl (lv_at hl 0 rfl) ?_
  refine g_get (v := .long (σ.2 0 17)) hC hP o_0 co_X 17 (by decide) rfl fl_X_99 rfl d_X_upper_1 ?_
  cases hf
  exact g_lret hC rfl hP hS d_X_upper_4
set_option maxHeartbeats 4000000 in
set_option maxRecDepth 100000 in
theorem c_X_lower {l : Launch} {D : va_G} {K : Nat → ClassId} {ad : Nat → Nat} (hj : inj ad)    {σ : GS} {z0 : Int64} (hf : F_X_lower σ = some z0) : CT l D K ad y_X_lower b_X_lower 1 (some .long) 0 [.ref (ad 0)] σ (QL D K ad z0 σ) := by
  refine CT.intro hj (by decide) (Nat.le_of_ble_eq_true rfl) ?_
  intro p e s m args below meth c ls hC hP hS hl
  obtain ⟨hx, hb, -, hown, hts, -⟩ := id hC
  have hl : lv_has ls 1 [(0, .ref (ad 0))] := hl
  rw [F_X_lower] at hf
  refine lv_aload_n hx hb d_X_lower_0 rfl (lv_at hl 0 rfl) ?_
  refine g_get (v := .long (σ.2 0 18)) hC hP o_0 co_X 18 (by decide) rfl fl_X_103 rfl d_X_lower_1 ?_
  cases hf
  exact g_lret hC rfl hP hS d_X_lower_4
set_option maxHeartbeats 4000000 in
set_option maxRecDepth 100000 in
theorem c_X_howManyKept {l : Launch} {D : va_G} {K : Nat → ClassId} {ad : Nat → Nat} (hj : inj ad)    {σ : GS} {z0 : Int32} (hf : F_X_howManyKept σ = some z0) : CT l D K ad y_X_howManyKept b_X_howManyKept 3 (some .int) 0 [.ref (ad 0)] σ (QI D K ad z0 σ) := by
  refine CT.intro hj (by decide) (Nat.le_of_ble_eq_true rfl) ?_
  intro p e s m args below meth c ls hC hP hS hl
  obtain ⟨hx, hb, -, hown, hts, -⟩ := id hC
  have hl : lv_has ls 3 [(0, .ref (ad 0))] := hl
  rw [F_X_howManyKept] at hf
  refine lv_iconst (v := (0 : Int32)) hx hb d_X_howManyKept_0 (by decide) ?_
  refine lv_istore_n (lv' := [(1, .int (0 : Int32)), (0, .ref (ad 0))]) hx hb d_X_howManyKept_1 rfl hl (by decide) rfl (fun ls hl => ?_)
  refine lv_iconst (v := (0 : Int32)) hx hb d_X_howManyKept_2 (by decide) ?_
  refine lv_istore_n (lv' := [(2, .int (0 : Int32)), (1, .int (0 : Int32)), (0, .ref (ad 0))]) hx hb d_X_howManyKept_3 rfl hl (by decide) rfl (fun ls hl => ?_)
  obtain ⟨KL1_30, eKL1_30, hf⟩ := jn_some hf
  have hKL1_30 : ∀ (v1_1 : Int32) (v2_1 : Int32) (H : Heap) (locs : List Loc) (ls : Array Slot), va_P D vwCl (wG K ad σ) H → va_S (GA ad) s.heap H locs → lv_has ls 3 [(1, .int v1_1)] → KL1_30 v1_1 v2_1 = some z0 → W p l e (rmd 0) s m args below meth c H locs 0 0 (MQ below (QI D K ad z0 σ) args s 0 0 (GA ad)) (F0 m 30 ls []) := by
    clear hf
    intro v1_1 v2_1 H locs ls hP hS hl hf
    rw [eKL1_30] at hf
    try dsimp only at hf
    refine lv_iload_n hx hb d_X_howManyKept_30 rfl (lv_at hl 0 rfl) ?_
    cases hf
    exact g_iret hC rfl hP hS d_X_howManyKept_31
  clear eKL1_30
  have hL1 : ∀ (n : Nat) (v1_1 : Int32) (v2_1 : Int32) (H : Heap) (locs : List Loc) (ls : Array Slot), va_P D vwCl (wG K ad σ) H → va_S (GA ad) s.heap H locs → lv_has ls 3 [(0, .ref (ad 0)), (1, .int v1_1), (2, .int v2_1)] → F_X_howManyKept_4 σ KL1_30 n v1_1 v2_1 = some z0 → W p l e (rmd 0) s m args below meth c H locs 0 0 (MQ below (QI D K ad z0 σ) args s 0 0 (GA ad)) (F0 m 4 ls []) := by
    clear hf
    intro n
    induction n with
    | zero =>
      intro v1_1 v2_1 H locs ls hP hS hl hf
      rw [F_X_howManyKept_4.eq_1] at hf
      cases hf
    | succ n ih =>
      intro v1_1 v2_1 H locs ls hP hS hl hf
      rw [F_X_howManyKept_4.eq_2] at hf
      refine lv_iload_n hx hb d_X_howManyKept_4 rfl (lv_at hl 2 rfl) ?_
      refine lv_iconst (v := (3 : Int32)) hx hb d_X_howManyKept_5 (by decide) ?_
      refine lv_icmp_ge (tgt := 30) hx hb d_X_howManyKept_6 (by decide) (fun hc4 => ?_) (fun hc4 => ?_)
      · rw [if_pos hc4] at hf
        exact hKL1_30 _ _ _ _ _ hP hS (lv_sub hl [1] rfl) hf
      · rw [if_neg hc4] at hf
        refine lv_aload_n hx hb d_X_howManyKept_9 rfl (lv_at hl 0 rfl) ?_
        refine g_get (v := .ref (ad 22)) hC hP o_0 co_X 6 (by decide) rfl fl_X_40 rfl d_X_howManyKept_10 ?_
        refine lv_iload_n hx hb d_X_howManyKept_13 rfl (lv_at hl 2 rfl) ?_
        obtain ⟨hg2, hf⟩ := gd_some hf
        refine g_aald hC hP r_22 rfl rfl hg2 d_X_howManyKept_14 ?_
        refine g_get (v := .int (σ.1 (23 + 3 * v2_1.toNatClampNeg) 2)) hC hP (kepT hg2).1 co_Tn 2 (by decide) rfl fl_X_158 rfl d_X_howManyKept_15 ?_
        refine lv_if_le (tgt := 24) hx hb d_X_howManyKept_18 (by decide) (fun hc3 => ?_) (fun hc3 => ?_)
        · rw [if_pos hc3] at hf
          refine lv_iinc (v := v2_1 + 1) (lv' := [(2, .int (v2_1 + 1)), (0, .ref (ad 0)), (1, .int v1_1)]) hx hb d_X_howManyKept_24 hl (k := 2) rfl rfl (by decide) rfl (fun ls hl => ?_)
          refine lv_goto (tgt := 4) hx hb d_X_howManyKept_27 (by decide) ?_
          exact ih _ _ _ _ _ hP hS (lv_sub hl [1, 2, 0] rfl) hf
        · rw [if_neg hc3] at hf
          refine lv_iinc (v := v1_1 + 1) (lv' := [(1, .int (v1_1 + 1)), (0, .ref (ad 0)), (2, .int v2_1)]) hx hb d_X_howManyKept_21 hl (k := 1) rfl rfl (by decide) rfl (fun ls hl => ?_)
          refine lv_iinc (v := v2_1 + 1) (lv' := [(2, .int (v2_1 + 1)), (1, .int (v1_1 + 1)), (0, .ref (ad 0))]) hx hb d_X_howManyKept_24 hl (k := 2) rfl rfl (by decide) rfl (fun ls hl => ?_)
          refine lv_goto (tgt := 4) hx hb d_X_howManyKept_27 (by decide) ?_
          exact ih _ _ _ _ _ hP hS (lv_sub hl [2, 1, 0] rfl) hf
  exact hL1 _ _ _ _ _ _ hP hS (lv_sub hl [2, 1, 0] rfl) hf
set_option maxHeartbeats 4000000 in
set_option maxRecDepth 100000 in
theorem c_X_howManyThere {l : Launch} {D : va_G} {K : Nat → ClassId} {ad : Nat → Nat} (hj : inj ad) {q0 : Nat} {n0 : Nat} (h_q0 : isA K ad q0 0 n0)  {σ : GS} {z0 : Int32} (hf : F_X_howManyThere q0 n0 σ = some z0) : CT l D K ad y_X_howManyThere b_X_howManyThere 6 (some .int) 0 [.ref (ad q0)] σ (QI D K ad z0 σ) := by
  refine CT.intro hj (by decide) (Nat.le_of_ble_eq_true rfl) ?_
  intro p e s m args below meth c ls hC hP hS hl
  obtain ⟨hx, hb, -, hown, hts, -⟩ := id hC
  have hl : lv_has ls 6 [(0, .ref (ad q0))] := hl
  rw [F_X_howManyThere] at hf
  refine lv_iconst (v := (0 : Int32)) hx hb d_X_howManyThere_0 (by decide) ?_
  refine lv_istore_n (lv' := [(1, .int (0 : Int32)), (0, .ref (ad q0))]) hx hb d_X_howManyThere_1 rfl hl (by decide) rfl (fun ls hl => ?_)
  refine lv_aload_n hx hb d_X_howManyThere_2 rfl (lv_at hl 1 rfl) ?_
  refine lv_astore_n (lv' := [(2, .ref (ad q0)), (1, .int (0 : Int32)), (0, .ref (ad q0))]) hx hb d_X_howManyThere_3 rfl hl (by decide) rfl (fun ls hl => ?_)
  refine lv_aload_n hx hb d_X_howManyThere_4 rfl (lv_at hl 0 rfl) ?_
  refine g_alen (v := Int32.ofNat n0) hC hP h_q0 rfl rfl d_X_howManyThere_5 ?_
  refine lv_istore_n (lv' := [(3, .int (Int32.ofNat n0)), (2, .ref (ad q0)), (1, .int (0 : Int32)), (0, .ref (ad q0))]) hx hb d_X_howManyThere_6 rfl hl (by decide) rfl (fun ls hl => ?_)
  refine lv_iconst (v := (0 : Int32)) hx hb d_X_howManyThere_7 (by decide) ?_
  refine lv_istore (lv' := [(4, .int (0 : Int32)), (3, .int (Int32.ofNat n0)), (2, .ref (ad q0)), (1, .int (0 : Int32)), (0, .ref (ad q0))]) hx hb d_X_howManyThere_8 hl (by decide) rfl (fun ls hl => ?_)
  obtain ⟨u3_1, eu3_1, hf⟩ := jn_some hf
  have hl : lv_has ls 6 [(4, .int (0 : Int32)), (3, .int u3_1), (2, .ref (ad q0)), (1, .int (0 : Int32)), (0, .ref (ad q0))] := by rw [eu3_1]; exact hl
  obtain ⟨KL2_36, eKL2_36, hf⟩ := jn_some hf
  have hKL2_36 : ∀ (v1_2 : Int32) (v4_2 : Int32) (H : Heap) (locs : List Loc) (ls : Array Slot), va_P D vwCl (wG K ad σ) H → va_S (GA ad) s.heap H locs → lv_has ls 6 [(1, .int v1_2)] → KL2_36 v1_2 v4_2 = some z0 → W p l e (rmd 0) s m args below meth c H locs 0 0 (MQ below (QI D K ad z0 σ) args s 0 0 (GA ad)) (F0 m 36 ls []) := by
    clear hf
    intro v1_2 v4_2 H locs ls hP hS hl hf
    rw [eKL2_36] at hf
    try dsimp only at hf
    refine lv_iload_n hx hb d_X_howManyThere_36 rfl (lv_at hl 0 rfl) ?_
    cases hf
    exact g_iret hC rfl hP hS d_X_howManyThere_37
  clear eKL2_36
  have hL2 : ∀ (n : Nat) (v1_2 : Int32) (v4_2 : Int32) (H : Heap) (locs : List Loc) (ls : Array Slot), va_P D vwCl (wG K ad σ) H → va_S (GA ad) s.heap H locs → lv_has ls 6 [(1, .int v1_2), (2, .ref (ad q0)), (3, .int u3_1), (4, .int v4_2)] → F_X_howManyThere_10 q0 n0 u3_1 σ KL2_36 n v1_2 v4_2 = some z0 → W p l e (rmd 0) s m args below meth c H locs 0 0 (MQ below (QI D K ad z0 σ) args s 0 0 (GA ad)) (F0 m 10 ls []) := by
    clear hf
    intro n
    induction n with
    | zero =>
      intro v1_2 v4_2 H locs ls hP hS hl hf
      rw [F_X_howManyThere_10.eq_1] at hf
      cases hf
    | succ n ih =>
      intro v1_2 v4_2 H locs ls hP hS hl hf
      rw [F_X_howManyThere_10.eq_2] at hf
      refine lv_iload hx hb d_X_howManyThere_10 (lv_at hl 3 rfl) ?_
      refine lv_iload_n hx hb d_X_howManyThere_12 rfl (lv_at hl 2 rfl) ?_
      refine lv_icmp_ge (tgt := 36) hx hb d_X_howManyThere_13 (by decide) (fun hc5 => ?_) (fun hc5 => ?_)
      · rw [if_pos hc5] at hf
        exact hKL2_36 _ _ _ _ _ hP hS (lv_sub hl [0] rfl) hf
      · rw [if_neg hc5] at hf
        refine lv_aload_n hx hb d_X_howManyThere_16 rfl (lv_at hl 1 rfl) ?_
        refine lv_iload hx hb d_X_howManyThere_17 (lv_at hl 3 rfl) ?_
        obtain ⟨hg3, hf⟩ := gd_some hf
        refine g_iald2 (j := v4_2.toNatClampNeg) hC hP h_q0 hg3 rfl d_X_howManyThere_19 ?_
        refine lv_istore (lv' := [(5, .int (σ.1 q0 v4_2.toNatClampNeg)), (1, .int v1_2), (2, .ref (ad q0)), (3, .int u3_1), (4, .int v4_2)]) hx hb d_X_howManyThere_20 hl (by decide) rfl (fun ls hl => ?_)
        refine lv_iload hx hb d_X_howManyThere_22 (lv_at hl 0 rfl) ?_
        refine lv_if_lt (tgt := 30) hx hb d_X_howManyThere_24 (by decide) (fun hc4 => ?_) (fun hc4 => ?_)
        · rw [if_pos hc4] at hf
          refine lv_iinc (v := v4_2 + 1) (lv' := [(4, .int (v4_2 + 1)), (5, .int (σ.1 q0 v4_2.toNatClampNeg)), (1, .int v1_2), (2, .ref (ad q0)), (3, .int u3_1)]) hx hb d_X_howManyThere_30 hl (k := 4) rfl rfl (by decide) rfl (fun ls hl => ?_)
          refine lv_goto (tgt := 10) hx hb d_X_howManyThere_33 (by decide) ?_
          exact ih _ _ _ _ _ hP hS (lv_sub hl [2, 3, 4, 0] rfl) hf
        · rw [if_neg hc4] at hf
          refine lv_iinc (v := v1_2 + 1) (lv' := [(1, .int (v1_2 + 1)), (5, .int (σ.1 q0 v4_2.toNatClampNeg)), (2, .ref (ad q0)), (3, .int u3_1), (4, .int v4_2)]) hx hb d_X_howManyThere_27 hl (k := 1) rfl rfl (by decide) rfl (fun ls hl => ?_)
          refine lv_iinc (v := v4_2 + 1) (lv' := [(4, .int (v4_2 + 1)), (1, .int (v1_2 + 1)), (5, .int (σ.1 q0 v4_2.toNatClampNeg)), (2, .ref (ad q0)), (3, .int u3_1)]) hx hb d_X_howManyThere_30 hl (k := 4) rfl rfl (by decide) rfl (fun ls hl => ?_)
          refine lv_goto (tgt := 10) hx hb d_X_howManyThere_33 (by decide) ?_
          exact ih _ _ _ _ _ hP hS (lv_sub hl [1, 3, 4, 0] rfl) hf
  exact hL2 _ _ _ _ _ _ hP hS (lv_sub hl [3, 2, 1, 0] rfl) hf
set_option maxHeartbeats 4000000 in
set_option maxRecDepth 100000 in
theorem c_X_count {l : Launch} {D : va_G} {K : Nat → ClassId} {ad : Nat → Nat} (hj : inj ad)   {x1 : Int32} {σ : GS} {z0 : Int32} (hf : F_X_count x1 σ = some z0) : CT l D K ad y_X_count b_X_count 2 (some .int) 2 [.ref (ad 0), .int x1] σ (QI D K ad z0 σ) := by
  refine CT.intro hj (by decide) (Nat.le_of_ble_eq_true rfl) ?_
  intro p e s m args below meth c ls hC hP hS hl
  obtain ⟨hx, hb, -, hown, hts, -⟩ := id hC
  have hl : lv_has ls 2 [(0, .ref (ad 0)), (1, .int x1)] := hl
  rw [F_X_count] at hf
  refine lv_iload_n hx hb d_X_count_0 rfl (lv_at hl 1 rfl) ?_
  by_cases h_s0 : x1 = 0
  · rw [if_pos h_s0] at hf
    refine lv_tableIn (off := 47) (tgt := 48) hx hb d_X_count_1 (by rw [h_s0]; decide) (by rw [h_s0]; decide) (by rw [h_s0]; decide) (by decide) ?_
    refine lv_aload_n hx hb d_X_count_48 rfl (lv_at hl 0 rfl) ?_
    refine g_get (v := .ref (ad 19)) hC hP o_0 co_X 5 (by decide) rfl fl_X_36 rfl d_X_count_49 ?_
    refine g_get (v := .int (σ.1 19 2)) hC hP o_19 co_Tn 2 (by decide) rfl fl_X_158 rfl d_X_count_52 ?_
    cases hf
    exact g_iret hC rfl hP hS d_X_count_55
  · rw [if_neg h_s0] at hf
    by_cases h_s1 : x1 = 1
    · rw [if_pos h_s1] at hf
      refine lv_tableIn (off := 55) (tgt := 56) hx hb d_X_count_1 (by rw [h_s1]; decide) (by rw [h_s1]; decide) (by rw [h_s1]; decide) (by decide) ?_
      refine lv_aload_n hx hb d_X_count_56 rfl (lv_at hl 0 rfl) ?_
      refine g_get (v := .ref (ad 19)) hC hP o_0 co_X 5 (by decide) rfl fl_X_36 rfl d_X_count_57 ?_
      refine g_get (v := .int (σ.1 19 3)) hC hP o_19 co_Tn 3 (by decide) rfl fl_X_223 rfl d_X_count_60 ?_
      cases hf
      exact g_iret hC rfl hP hS d_X_count_63
    · rw [if_neg h_s1] at hf
      by_cases h_s2 : x1 = 2
      · rw [if_pos h_s2] at hf
        refine lv_tableIn (off := 63) (tgt := 64) hx hb d_X_count_1 (by rw [h_s2]; decide) (by rw [h_s2]; decide) (by rw [h_s2]; decide) (by decide) ?_
        refine lv_aload_n hx hb d_X_count_64 rfl (lv_at hl 0 rfl) ?_
        refine g_get (v := .ref (ad 19)) hC hP o_0 co_X 5 (by decide) rfl fl_X_36 rfl d_X_count_65 ?_
        refine lv_iconst (v := (1 : Int32)) hx hb d_X_count_68 (by decide) ?_
        obtain ⟨r2, hk1, hf⟩ := bp_some hf
        refine g_calli hS (g_runV (As := [.int (1 : Int32)]) (rest := []) hC hP (c_Tn_howManyAre hj  hk1) (rk (by decide) (by decide)) nm_Tn_howManyAre cd_Tn_howManyAre it_WideTown_Town ml_X_343 im_Tn_howManyAre sl_Tn_howManyAre o_19 co_Tn rfl hl.1 rfl (Nat.le_of_ble_eq_true rfl) d_X_count_69 zz) (fun H locs hP hS => ?_)
        cases hf
        exact g_iret hC rfl hP hS d_X_count_72
      · rw [if_neg h_s2] at hf
        by_cases h_s3 : x1 = 3
        · rw [if_pos h_s3] at hf
          refine lv_tableIn (off := 72) (tgt := 73) hx hb d_X_count_1 (by rw [h_s3]; decide) (by rw [h_s3]; decide) (by rw [h_s3]; decide) (by decide) ?_
          refine lv_aload_n hx hb d_X_count_73 rfl (lv_at hl 0 rfl) ?_
          refine g_get (v := .ref (ad 19)) hC hP o_0 co_X 5 (by decide) rfl fl_X_36 rfl d_X_count_74 ?_
          refine lv_iconst (v := (2 : Int32)) hx hb d_X_count_77 (by decide) ?_
          obtain ⟨r4, hk3, hf⟩ := bp_some hf
          refine g_calli hS (g_runV (As := [.int (2 : Int32)]) (rest := []) hC hP (c_Tn_howManyAre hj  hk3) (rk (by decide) (by decide)) nm_Tn_howManyAre cd_Tn_howManyAre it_WideTown_Town ml_X_343 im_Tn_howManyAre sl_Tn_howManyAre o_19 co_Tn rfl hl.1 rfl (Nat.le_of_ble_eq_true rfl) d_X_count_78 zz) (fun H locs hP hS => ?_)
          cases hf
          exact g_iret hC rfl hP hS d_X_count_81
        · rw [if_neg h_s3] at hf
          by_cases h_s4 : x1 = 4
          · rw [if_pos h_s4] at hf
            refine lv_tableIn (off := 81) (tgt := 82) hx hb d_X_count_1 (by rw [h_s4]; decide) (by rw [h_s4]; decide) (by rw [h_s4]; decide) (by decide) ?_
            refine lv_aload_n hx hb d_X_count_82 rfl (lv_at hl 0 rfl) ?_
            refine g_get (v := .ref (ad 19)) hC hP o_0 co_X 5 (by decide) rfl fl_X_36 rfl d_X_count_83 ?_
            obtain ⟨r6, hk5, hf⟩ := bp_some hf
            refine g_calli hS (g_runV (As := []) (rest := []) hC hP (c_Tn_howManyAtHome hj  hk5) (rk (by decide) (by decide)) nm_Tn_howManyAtHome cd_Tn_howManyAtHome it_WideTown_Town ml_X_346 im_Tn_howManyAtHome sl_Tn_howManyAtHome o_19 co_Tn rfl hl.1 rfl (Nat.le_of_ble_eq_true rfl) d_X_count_86 zz) (fun H locs hP hS => ?_)
            cases hf
            exact g_iret hC rfl hP hS d_X_count_89
          · rw [if_neg h_s4] at hf
            by_cases h_s5 : x1 = 5
            · rw [if_pos h_s5] at hf
              refine lv_tableIn (off := 89) (tgt := 90) hx hb d_X_count_1 (by rw [h_s5]; decide) (by rw [h_s5]; decide) (by rw [h_s5]; decide) (by decide) ?_
              refine lv_aload_n hx hb d_X_count_90 rfl (lv_at hl 0 rfl) ?_
              obtain ⟨r8, hk7, hf⟩ := bp_some hf
              refine g_calli hS (g_runV (As := []) (rest := []) hC hP (c_X_howManyKept hj  hk7) (rk (by decide) (by decide)) nm_X_howManyKept cd_X_howManyKept it_WideTown ml_X_349 im_X_howManyKept sl_X_howManyKept o_0 co_X rfl hl.1 rfl (Nat.le_of_ble_eq_true rfl) d_X_count_91 zz) (fun H locs hP hS => ?_)
              cases hf
              exact g_iret hC rfl hP hS d_X_count_94
            · rw [if_neg h_s5] at hf
              by_cases h_s6 : x1 = 6
              · rw [if_pos h_s6] at hf
                refine lv_tableIn (off := 94) (tgt := 95) hx hb d_X_count_1 (by rw [h_s6]; decide) (by rw [h_s6]; decide) (by rw [h_s6]; decide) (by decide) ?_
                refine lv_aload_n hx hb d_X_count_95 rfl (lv_at hl 0 rfl) ?_
                refine g_get (v := .ref (ad 8)) hC hP o_0 co_X 1 (by decide) rfl fl_X_14 rfl d_X_count_96 ?_
                obtain ⟨r10, hk9, hf⟩ := bp_some hf
                refine g_calli hS (g_runS (As := [.ref (ad 8)]) (rest := []) hC hP (c_X_howManyThere hj a_8 hk9) (rk (by decide) (by decide)) nm_X_howManyThere cd_X_howManyThere it_WideTown ml_X_352 sc_X_howManyThere rfl hl.1 rfl (Nat.le_of_ble_eq_true rfl) d_X_count_99 zz) (fun H locs hP hS => ?_)
                cases hf
                exact g_iret hC rfl hP hS d_X_count_102
              · rw [if_neg h_s6] at hf
                by_cases h_s7 : x1 = 7
                · rw [if_pos h_s7] at hf
                  refine lv_tableIn (off := 102) (tgt := 103) hx hb d_X_count_1 (by rw [h_s7]; decide) (by rw [h_s7]; decide) (by rw [h_s7]; decide) (by decide) ?_
                  refine lv_aload_n hx hb d_X_count_103 rfl (lv_at hl 0 rfl) ?_
                  refine g_get (v := .ref (ad 14)) hC hP o_0 co_X 3 (by decide) rfl fl_X_23 rfl d_X_count_104 ?_
                  obtain ⟨r12, hk11, hf⟩ := bp_some hf
                  refine g_calli hS (g_runS (As := [.ref (ad 14)]) (rest := []) hC hP (c_X_howManyThere hj a_14 hk11) (rk (by decide) (by decide)) nm_X_howManyThere cd_X_howManyThere it_WideTown ml_X_352 sc_X_howManyThere rfl hl.1 rfl (Nat.le_of_ble_eq_true rfl) d_X_count_107 zz) (fun H locs hP hS => ?_)
                  cases hf
                  exact g_iret hC rfl hP hS d_X_count_110
                · rw [if_neg h_s7] at hf
                  refine lv_tableOut (tgt := 111) hx hb d_X_count_1 (sw_out 0 7 (by intro k h1 h2; rcases (show k = 0 ∨ k = 1 ∨ k = 2 ∨ k = 3 ∨ k = 4 ∨ k = 5 ∨ k = 6 ∨ k = 7 by omega) with rfl | rfl | rfl | rfl | rfl | rfl | rfl | rfl <;> first | exact lv_neT h_s0 (by decide) | exact lv_neT h_s1 (by decide) | exact lv_neT h_s2 (by decide) | exact lv_neT h_s3 (by decide) | exact lv_neT h_s4 (by decide) | exact lv_neT h_s5 (by decide) | exact lv_neT h_s6 (by decide) | exact lv_neT h_s7 (by decide))) (by decide) ?_
                  refine lv_iconst (v := (-1 : Int32)) hx hb d_X_count_111 (by decide) ?_
                  cases hf
                  exact g_iret hC rfl hP hS d_X_count_112
set_option maxHeartbeats 4000000 in
set_option maxRecDepth 100000 in
theorem c_X_finding {l : Launch} {D : va_G} {K : Nat → ClassId} {ad : Nat → Nat} (hj : inj ad)    {σ : GS} {z0 : Int32} (hf : F_X_finding σ = some z0) : CT l D K ad y_X_finding b_X_finding 1 (some .int) 0 [.ref (ad 0)] σ (QI D K ad z0 σ) := by
  refine CT.intro hj (by decide) (Nat.le_of_ble_eq_true rfl) ?_
  intro p e s m args below meth c ls hC hP hS hl
  obtain ⟨hx, hb, -, hown, hts, -⟩ := id hC
  have hl : lv_has ls 1 [(0, .ref (ad 0))] := hl
  rw [F_X_finding] at hf
  refine lv_aload_n hx hb d_X_finding_0 rfl (lv_at hl 0 rfl) ?_
  refine g_get (v := .int (σ.1 0 15)) hC hP o_0 co_X 15 (by decide) rfl fl_X_92 rfl d_X_finding_1 ?_
  cases hf
  exact g_iret hC rfl hP hS d_X_finding_4
set_option maxHeartbeats 4000000 in
set_option maxRecDepth 100000 in
theorem c_X_findings {l : Launch} {D : va_G} {K : Nat → ClassId} {ad : Nat → Nat} (hj : inj ad)   {x1 : Int32} {σ : GS} {z0 : Int32} (hf : F_X_findings x1 σ = some z0) : CT l D K ad y_X_findings b_X_findings 2 (some .int) 0 [.ref (ad 0), .int x1] σ (QI D K ad z0 σ) := by
  refine CT.intro hj (by decide) (Nat.le_of_ble_eq_true rfl) ?_
  intro p e s m args below meth c ls hC hP hS hl
  obtain ⟨hx, hb, -, hown, hts, -⟩ := id hC
  have hl : lv_has ls 2 [(0, .ref (ad 0)), (1, .int x1)] := hl
  rw [F_X_findings] at hf
  refine lv_iload_n hx hb d_X_findings_0 rfl (lv_at hl 1 rfl) ?_
  refine lv_iconst (v := (1 : Int32)) hx hb d_X_findings_1 (by decide) ?_
  refine lv_icmp_lt (tgt := 10) hx hb d_X_findings_2 (by decide) (fun hc3 => ?_) (fun hc3 => ?_)
  · rw [if_pos hc3] at hf
    refine lv_iconst (v := (-1 : Int32)) hx hb d_X_findings_10 (by decide) ?_
    cases hf
    exact g_iret hC rfl hP hS d_X_findings_11
  · rw [if_neg hc3] at hf
    refine lv_iload_n hx hb d_X_findings_5 rfl (lv_at hl 1 rfl) ?_
    refine lv_iconst (v := (5 : Int32)) hx hb d_X_findings_6 (by decide) ?_
    refine lv_icmp_le (tgt := 12) hx hb d_X_findings_7 (by decide) (fun hc2 => ?_) (fun hc2 => ?_)
    · rw [if_pos hc2] at hf
      refine lv_aload_n hx hb d_X_findings_12 rfl (lv_at hl 0 rfl) ?_
      refine g_get (v := .ref (ad 62)) hC hP o_0 co_X 14 (by decide) rfl fl_X_89 rfl d_X_findings_13 ?_
      refine lv_iload_n hx hb d_X_findings_16 rfl (lv_at hl 1 rfl) ?_
      obtain ⟨hg1, hf⟩ := gd_some hf
      refine g_iald2 (j := x1.toNatClampNeg) hC hP a_62 hg1 rfl d_X_findings_17 ?_
      cases hf
      exact g_iret hC rfl hP hS d_X_findings_18
    · rw [if_neg hc2] at hf
      refine lv_iconst (v := (-1 : Int32)) hx hb d_X_findings_10 (by decide) ?_
      cases hf
      exact g_iret hC rfl hP hS d_X_findings_11
set_option maxHeartbeats 4000000 in
set_option maxRecDepth 100000 in
theorem c_X_digest {l : Launch} {D : va_G} {K : Nat → ClassId} {ad : Nat → Nat} (hj : inj ad)    {σ : GS} {z0 : Int64 × GS} (hf : F_X_digest σ = some z0) : CT l D K ad y_X_digest b_X_digest 5 (some .long) 5 [.ref (ad 0)] σ (QL D K ad z0.1 z0.2) := by
  refine CT.intro hj (by decide) (Nat.le_of_ble_eq_true rfl) ?_
  intro p e s m args below meth c ls hC hP hS hl
  obtain ⟨hx, hb, -, hown, hts, -⟩ := id hC
  have hl : lv_has ls 5 [(0, .ref (ad 0))] := hl
  rw [F_X_digest] at hf
  refine lv_ldc2 hx hb hown (hts _ cn_X_356) d_X_digest_0 ?_
  refine lv_lstore_n (lv' := [(1, .long (17 : Int64)), (0, .ref (ad 0))]) hx hb d_X_digest_3 rfl hl (by decide) rfl (fun ls hl => ?_)
  refine lv_iconst (v := (0 : Int32)) hx hb d_X_digest_4 (by decide) ?_
  refine lv_istore_n (lv' := [(3, .int (0 : Int32)), (1, .long (17 : Int64)), (0, .ref (ad 0))]) hx hb d_X_digest_5 rfl hl (by decide) rfl (fun ls hl => ?_)
  obtain ⟨KL1_31, eKL1_31, hf⟩ := jn_some hf
  have hKL1_31 : ∀ (v1_1 : Int64) (v3_1 : Int32) (H : Heap) (locs : List Loc) (ls : Array Slot), va_P D vwCl (wG K ad σ) H → va_S (GA ad) s.heap H locs → lv_has ls 5 [(0, .ref (ad 0)), (1, .long v1_1)] → KL1_31 v1_1 v3_1 = some z0 → W p l e (rmd 5) s m args below meth c H locs 0 0 (MQ below (QL D K ad z0.1 z0.2) args s 0 0 (GA ad)) (F0 m 31 ls []) := by
    clear hf
    intro v1_1 v3_1 H locs ls hP hS hl hf
    rw [eKL1_31] at hf
    try dsimp only at hf
    refine lv_iconst (v := (0 : Int32)) hx hb d_X_digest_31 (by decide) ?_
    refine lv_istore_n (lv' := [(3, .int (0 : Int32)), (0, .ref (ad 0)), (1, .long v1_1)]) hx hb d_X_digest_32 rfl hl (by decide) rfl (fun ls hl => ?_)
    obtain ⟨KL2_80, eKL2_80, hf⟩ := jn_some hf
    have hKL2_80 : ∀ (v1_2 : Int64) (v3_2 : Int32) (σL2 : GS) (H : Heap) (locs : List Loc) (ls : Array Slot), va_P D vwCl (wG K ad σL2) H → va_S (GA ad) s.heap H locs → lv_has ls 5 [(0, .ref (ad 0)), (1, .long v1_2)] → KL2_80 v1_2 v3_2 σL2 = some z0 → W p l e (rmd 5) s m args below meth c H locs 0 0 (MQ below (QL D K ad z0.1 z0.2) args s 0 0 (GA ad)) (F0 m 80 ls []) := by
      clear hf
      intro v1_2 v3_2 σL2 H locs ls hP hS hl hf
      rw [eKL2_80] at hf
      try dsimp only at hf
      refine lv_iconst (v := (0 : Int32)) hx hb d_X_digest_80 (by decide) ?_
      refine lv_istore_n (lv' := [(3, .int (0 : Int32)), (0, .ref (ad 0)), (1, .long v1_2)]) hx hb d_X_digest_81 rfl hl (by decide) rfl (fun ls hl => ?_)
      obtain ⟨KL3_126, eKL3_126, hf⟩ := jn_some hf
      have hKL3_126 : ∀ (v1_3 : Int64) (v3_3 : Int32) (H : Heap) (locs : List Loc) (ls : Array Slot), va_P D vwCl (wG K ad σL2) H → va_S (GA ad) s.heap H locs → lv_has ls 5 [(0, .ref (ad 0)), (1, .long v1_3)] → KL3_126 v1_3 v3_3 = some z0 → W p l e (rmd 5) s m args below meth c H locs 0 0 (MQ below (QL D K ad z0.1 z0.2) args s 0 0 (GA ad)) (F0 m 126 ls []) := by
        clear hf
        intro v1_3 v3_3 H locs ls hP hS hl hf
        rw [eKL3_126] at hf
        try dsimp only at hf
        refine lv_iconst (v := (0 : Int32)) hx hb d_X_digest_126 (by decide) ?_
        refine lv_istore_n (lv' := [(3, .int (0 : Int32)), (0, .ref (ad 0)), (1, .long v1_3)]) hx hb d_X_digest_127 rfl hl (by decide) rfl (fun ls hl => ?_)
        obtain ⟨KL4_191, eKL4_191, hf⟩ := jn_some hf
        have hKL4_191 : ∀ (v1_4 : Int64) (v3_4 : Int32) (H : Heap) (locs : List Loc) (ls : Array Slot), va_P D vwCl (wG K ad σL2) H → va_S (GA ad) s.heap H locs → lv_has ls 5 [(0, .ref (ad 0)), (1, .long v1_4)] → KL4_191 v1_4 v3_4 = some z0 → W p l e (rmd 5) s m args below meth c H locs 0 0 (MQ below (QL D K ad z0.1 z0.2) args s 0 0 (GA ad)) (F0 m 191 ls []) := by
          clear hf
          intro v1_4 v3_4 H locs ls hP hS hl hf
          rw [eKL4_191] at hf
          try dsimp only at hf
          refine lv_iconst (v := (0 : Int32)) hx hb d_X_digest_191 (by decide) ?_
          refine lv_istore_n (lv' := [(3, .int (0 : Int32)), (0, .ref (ad 0)), (1, .long v1_4)]) hx hb d_X_digest_192 rfl hl (by decide) rfl (fun ls hl => ?_)
          obtain ⟨KL5_255, eKL5_255, hf⟩ := jn_some hf
          have hKL5_255 : ∀ (v1_5 : Int64) (v3_5 : Int32) (H : Heap) (locs : List Loc) (ls : Array Slot), va_P D vwCl (wG K ad σL2) H → va_S (GA ad) s.heap H locs → lv_has ls 5 [(1, .long v1_5)] → KL5_255 v1_5 v3_5 = some z0 → W p l e (rmd 5) s m args below meth c H locs 0 0 (MQ below (QL D K ad z0.1 z0.2) args s 0 0 (GA ad)) (F0 m 255 ls []) := by
            clear hf
            intro v1_5 v3_5 H locs ls hP hS hl hf
            rw [eKL5_255] at hf
            try dsimp only at hf
            refine lv_lload_n hx hb d_X_digest_255 rfl (lv_at hl 0 rfl) ?_
            cases hf
            exact g_lret hC rfl hP hS d_X_digest_256
          clear eKL5_255
          have hL5 : ∀ (n : Nat) (v1_5 : Int64) (v3_5 : Int32) (H : Heap) (locs : List Loc) (ls : Array Slot), va_P D vwCl (wG K ad σL2) H → va_S (GA ad) s.heap H locs → lv_has ls 5 [(0, .ref (ad 0)), (1, .long v1_5), (3, .int v3_5)] → F_X_digest_193 σL2 KL5_255 n v1_5 v3_5 = some z0 → W p l e (rmd 5) s m args below meth c H locs 0 0 (MQ below (QL D K ad z0.1 z0.2) args s 0 0 (GA ad)) (F0 m 193 ls []) := by
            clear hf
            intro n
            induction n with
            | zero =>
              intro v1_5 v3_5 H locs ls hP hS hl hf
              rw [F_X_digest_193.eq_1] at hf
              cases hf
            | succ n ih =>
              intro v1_5 v3_5 H locs ls hP hS hl hf
              rw [F_X_digest_193.eq_2] at hf
              refine lv_iload_n hx hb d_X_digest_193 rfl (lv_at hl 2 rfl) ?_
              refine lv_iconst (v := (4 : Int32)) hx hb d_X_digest_194 (by decide) ?_
              refine lv_icmp_ge (tgt := 255) hx hb d_X_digest_195 (by decide) (fun hc12 => ?_) (fun hc12 => ?_)
              · rw [if_pos hc12] at hf
                exact hKL5_255 _ _ _ _ _ hP hS (lv_sub hl [1] rfl) hf
              · rw [if_neg hc12] at hf
                refine lv_ldc2 hx hb hown (hts _ cn_X_358) d_X_digest_198 ?_
                refine lv_lload_n hx hb d_X_digest_201 rfl (lv_at hl 1 rfl) ?_
                refine lv_lmul hx hb d_X_digest_202 ?_
                refine lv_aload_n hx hb d_X_digest_203 rfl (lv_at hl 0 rfl) ?_
                refine g_get (v := .ref (ad 14)) hC hP o_0 co_X 3 (by decide) rfl fl_X_23 rfl d_X_digest_204 ?_
                refine lv_iload_n hx hb d_X_digest_207 rfl (lv_at hl 2 rfl) ?_
                obtain ⟨hg6, hf⟩ := gd_some hf
                refine g_iald2 (j := v3_5.toNatClampNeg) hC hP a_14 hg6 rfl d_X_digest_208 ?_
                refine lv_i2l hx hb d_X_digest_209 rfl ?_
                refine lv_ladd hx hb d_X_digest_210 ?_
                refine lv_lstore_n (lv' := [(1, .long (((31 : Int64) * v1_5) + ((σL2.1 14 v3_5.toNatClampNeg).toInt64))), (0, .ref (ad 0)), (3, .int v3_5)]) hx hb d_X_digest_211 rfl hl (by decide) rfl (fun ls hl => ?_)
                refine lv_iconst (v := (0 : Int32)) hx hb d_X_digest_212 (by decide) ?_
                refine lv_istore (lv' := [(4, .int (0 : Int32)), (1, .long (((31 : Int64) * v1_5) + ((σL2.1 14 v3_5.toNatClampNeg).toInt64))), (0, .ref (ad 0)), (3, .int v3_5)]) hx hb d_X_digest_213 hl (by decide) rfl (fun ls hl => ?_)
                obtain ⟨KL7_249, eKL7_249, hf⟩ := jn_some hf
                have hKL7_249 : ∀ (v1_7 : Int64) (v4_7 : Int32) (H : Heap) (locs : List Loc) (ls : Array Slot), va_P D vwCl (wG K ad σL2) H → va_S (GA ad) s.heap H locs → lv_has ls 5 [(0, .ref (ad 0)), (1, .long v1_7), (3, .int v3_5)] → KL7_249 v1_7 v4_7 = some z0 → W p l e (rmd 5) s m args below meth c H locs 0 0 (MQ below (QL D K ad z0.1 z0.2) args s 0 0 (GA ad)) (F0 m 249 ls []) := by
                  clear hf
                  intro v1_7 v4_7 H locs ls hP hS hl hf
                  rw [eKL7_249] at hf
                  try dsimp only at hf
                  refine lv_iinc (v := v3_5 + 1) (lv' := [(3, .int (v3_5 + 1)), (0, .ref (ad 0)), (1, .long v1_7)]) hx hb d_X_digest_249 hl (k := 2) rfl rfl (by decide) rfl (fun ls hl => ?_)
                  refine lv_goto (tgt := 193) hx hb d_X_digest_252 (by decide) ?_
                  exact ih _ _ _ _ _ hP hS (lv_sub hl [1, 2, 0] rfl) hf
                clear eKL7_249
                have hL7 : ∀ (n : Nat) (v1_7 : Int64) (v4_7 : Int32) (H : Heap) (locs : List Loc) (ls : Array Slot), va_P D vwCl (wG K ad σL2) H → va_S (GA ad) s.heap H locs → lv_has ls 5 [(0, .ref (ad 0)), (1, .long v1_7), (3, .int v3_5), (4, .int v4_7)] → F_X_digest_215 v3_5 σL2 KL7_249 n v1_7 v4_7 = some z0 → W p l e (rmd 5) s m args below meth c H locs 0 0 (MQ below (QL D K ad z0.1 z0.2) args s 0 0 (GA ad)) (F0 m 215 ls []) := by
                  clear hf
                  intro n
                  induction n with
                  | zero =>
                    intro v1_7 v4_7 H locs ls hP hS hl hf
                    rw [F_X_digest_215.eq_1] at hf
                    cases hf
                  | succ n ih =>
                    intro v1_7 v4_7 H locs ls hP hS hl hf
                    rw [F_X_digest_215.eq_2] at hf
                    refine lv_iload hx hb d_X_digest_215 (lv_at hl 3 rfl) ?_
                    refine lv_aload_n hx hb d_X_digest_217 rfl (lv_at hl 0 rfl) ?_
                    refine g_get (v := .ref (ad 14)) hC hP o_0 co_X 3 (by decide) rfl fl_X_23 rfl d_X_digest_218 ?_
                    refine lv_iload_n hx hb d_X_digest_221 rfl (lv_at hl 2 rfl) ?_
                    obtain ⟨hg8, hf⟩ := gd_some hf
                    refine g_iald2 (j := v3_5.toNatClampNeg) hC hP a_14 hg8 rfl d_X_digest_222 ?_
                    refine lv_icmp_ge (tgt := 249) hx hb d_X_digest_223 (by decide) (fun hc11 => ?_) (fun hc11 => ?_)
                    · rw [if_pos hc11] at hf
                      exact hKL7_249 _ _ _ _ _ hP hS (lv_sub hl [0, 1, 2] rfl) hf
                    · rw [if_neg hc11] at hf
                      refine lv_ldc2 hx hb hown (hts _ cn_X_358) d_X_digest_226 ?_
                      refine lv_lload_n hx hb d_X_digest_229 rfl (lv_at hl 1 rfl) ?_
                      refine lv_lmul hx hb d_X_digest_230 ?_
                      refine lv_aload_n hx hb d_X_digest_231 rfl (lv_at hl 0 rfl) ?_
                      refine g_get (v := .ref (ad 9)) hC hP o_0 co_X 2 (by decide) rfl fl_X_20 rfl d_X_digest_232 ?_
                      refine lv_iload_n hx hb d_X_digest_235 rfl (lv_at hl 2 rfl) ?_
                      obtain ⟨hg9, hf⟩ := gd_some hf
                      refine g_aald hC hP r_9 rfl rfl hg9 d_X_digest_236 ?_
                      refine lv_iload hx hb d_X_digest_237 (lv_at hl 3 rfl) ?_
                      obtain ⟨hg10, hf⟩ := gd_some hf
                      refine g_bald2 (j := v4_7.toNatClampNeg) hC hP (txtA hg9) hg10 rfl d_X_digest_239 ?_
                      refine lv_i2l hx hb d_X_digest_240 rfl ?_
                      refine lv_ladd hx hb d_X_digest_241 ?_
                      refine lv_lstore_n (lv' := [(1, .long (((31 : Int64) * v1_7) + ((σL2.1 (10 + v3_5.toNatClampNeg) v4_7.toNatClampNeg).toInt64))), (0, .ref (ad 0)), (3, .int v3_5), (4, .int v4_7)]) hx hb d_X_digest_242 rfl hl (by decide) rfl (fun ls hl => ?_)
                      refine lv_iinc (v := v4_7 + 1) (lv' := [(4, .int (v4_7 + 1)), (1, .long (((31 : Int64) * v1_7) + ((σL2.1 (10 + v3_5.toNatClampNeg) v4_7.toNatClampNeg).toInt64))), (0, .ref (ad 0)), (3, .int v3_5)]) hx hb d_X_digest_243 hl (k := 3) rfl rfl (by decide) rfl (fun ls hl => ?_)
                      refine lv_goto (tgt := 215) hx hb d_X_digest_246 (by decide) ?_
                      exact ih _ _ _ _ _ hP hS (lv_sub hl [2, 1, 3, 0] rfl) hf
                exact hL7 _ _ _ _ _ _ hP hS (lv_sub hl [2, 1, 3, 0] rfl) hf
          exact hL5 _ _ _ _ _ _ hP hS (lv_sub hl [1, 2, 0] rfl) hf
        clear eKL4_191
        have hL4 : ∀ (n : Nat) (v1_4 : Int64) (v3_4 : Int32) (H : Heap) (locs : List Loc) (ls : Array Slot), va_P D vwCl (wG K ad σL2) H → va_S (GA ad) s.heap H locs → lv_has ls 5 [(0, .ref (ad 0)), (1, .long v1_4), (3, .int v3_4)] → F_X_digest_128 σL2 KL4_191 n v1_4 v3_4 = some z0 → W p l e (rmd 5) s m args below meth c H locs 0 0 (MQ below (QL D K ad z0.1 z0.2) args s 0 0 (GA ad)) (F0 m 128 ls []) := by
          clear hf
          intro n
          induction n with
          | zero =>
            intro v1_4 v3_4 H locs ls hP hS hl hf
            rw [F_X_digest_128.eq_1] at hf
            cases hf
          | succ n ih =>
            intro v1_4 v3_4 H locs ls hP hS hl hf
            rw [F_X_digest_128.eq_2] at hf
            refine lv_iload_n hx hb d_X_digest_128 rfl (lv_at hl 2 rfl) ?_
            refine lv_bipush (v := (6 : Int32)) hx hb d_X_digest_129 (by decide) ?_
            refine lv_icmp_ge (tgt := 191) hx hb d_X_digest_131 (by decide) (fun hc19 => ?_) (fun hc19 => ?_)
            · rw [if_pos hc19] at hf
              exact hKL4_191 _ _ _ _ _ hP hS (lv_sub hl [0, 1] rfl) hf
            · rw [if_neg hc19] at hf
              refine lv_ldc2 hx hb hown (hts _ cn_X_358) d_X_digest_134 ?_
              refine lv_lload_n hx hb d_X_digest_137 rfl (lv_at hl 1 rfl) ?_
              refine lv_lmul hx hb d_X_digest_138 ?_
              refine lv_aload_n hx hb d_X_digest_139 rfl (lv_at hl 0 rfl) ?_
              refine g_get (v := .ref (ad 8)) hC hP o_0 co_X 1 (by decide) rfl fl_X_14 rfl d_X_digest_140 ?_
              refine lv_iload_n hx hb d_X_digest_143 rfl (lv_at hl 2 rfl) ?_
              obtain ⟨hg13, hf⟩ := gd_some hf
              refine g_iald2 (j := v3_4.toNatClampNeg) hC hP a_8 hg13 rfl d_X_digest_144 ?_
              refine lv_i2l hx hb d_X_digest_145 rfl ?_
              refine lv_ladd hx hb d_X_digest_146 ?_
              refine lv_lstore_n (lv' := [(1, .long (((31 : Int64) * v1_4) + ((σL2.1 8 v3_4.toNatClampNeg).toInt64))), (0, .ref (ad 0)), (3, .int v3_4)]) hx hb d_X_digest_147 rfl hl (by decide) rfl (fun ls hl => ?_)
              refine lv_iconst (v := (0 : Int32)) hx hb d_X_digest_148 (by decide) ?_
              refine lv_istore (lv' := [(4, .int (0 : Int32)), (1, .long (((31 : Int64) * v1_4) + ((σL2.1 8 v3_4.toNatClampNeg).toInt64))), (0, .ref (ad 0)), (3, .int v3_4)]) hx hb d_X_digest_149 hl (by decide) rfl (fun ls hl => ?_)
              obtain ⟨KL14_185, eKL14_185, hf⟩ := jn_some hf
              have hKL14_185 : ∀ (v1_14 : Int64) (v4_14 : Int32) (H : Heap) (locs : List Loc) (ls : Array Slot), va_P D vwCl (wG K ad σL2) H → va_S (GA ad) s.heap H locs → lv_has ls 5 [(0, .ref (ad 0)), (1, .long v1_14), (3, .int v3_4)] → KL14_185 v1_14 v4_14 = some z0 → W p l e (rmd 5) s m args below meth c H locs 0 0 (MQ below (QL D K ad z0.1 z0.2) args s 0 0 (GA ad)) (F0 m 185 ls []) := by
                clear hf
                intro v1_14 v4_14 H locs ls hP hS hl hf
                rw [eKL14_185] at hf
                try dsimp only at hf
                refine lv_iinc (v := v3_4 + 1) (lv' := [(3, .int (v3_4 + 1)), (0, .ref (ad 0)), (1, .long v1_14)]) hx hb d_X_digest_185 hl (k := 2) rfl rfl (by decide) rfl (fun ls hl => ?_)
                refine lv_goto (tgt := 128) hx hb d_X_digest_188 (by decide) ?_
                exact ih _ _ _ _ _ hP hS (lv_sub hl [1, 2, 0] rfl) hf
              clear eKL14_185
              have hL14 : ∀ (n : Nat) (v1_14 : Int64) (v4_14 : Int32) (H : Heap) (locs : List Loc) (ls : Array Slot), va_P D vwCl (wG K ad σL2) H → va_S (GA ad) s.heap H locs → lv_has ls 5 [(0, .ref (ad 0)), (1, .long v1_14), (3, .int v3_4), (4, .int v4_14)] → F_X_digest_151 v3_4 σL2 KL14_185 n v1_14 v4_14 = some z0 → W p l e (rmd 5) s m args below meth c H locs 0 0 (MQ below (QL D K ad z0.1 z0.2) args s 0 0 (GA ad)) (F0 m 151 ls []) := by
                clear hf
                intro n
                induction n with
                | zero =>
                  intro v1_14 v4_14 H locs ls hP hS hl hf
                  rw [F_X_digest_151.eq_1] at hf
                  cases hf
                | succ n ih =>
                  intro v1_14 v4_14 H locs ls hP hS hl hf
                  rw [F_X_digest_151.eq_2] at hf
                  refine lv_iload hx hb d_X_digest_151 (lv_at hl 3 rfl) ?_
                  refine lv_aload_n hx hb d_X_digest_153 rfl (lv_at hl 0 rfl) ?_
                  refine g_get (v := .ref (ad 8)) hC hP o_0 co_X 1 (by decide) rfl fl_X_14 rfl d_X_digest_154 ?_
                  refine lv_iload_n hx hb d_X_digest_157 rfl (lv_at hl 2 rfl) ?_
                  obtain ⟨hg15, hf⟩ := gd_some hf
                  refine g_iald2 (j := v3_4.toNatClampNeg) hC hP a_8 hg15 rfl d_X_digest_158 ?_
                  refine lv_icmp_ge (tgt := 185) hx hb d_X_digest_159 (by decide) (fun hc18 => ?_) (fun hc18 => ?_)
                  · rw [if_pos hc18] at hf
                    exact hKL14_185 _ _ _ _ _ hP hS (lv_sub hl [0, 1, 2] rfl) hf
                  · rw [if_neg hc18] at hf
                    refine lv_ldc2 hx hb hown (hts _ cn_X_358) d_X_digest_162 ?_
                    refine lv_lload_n hx hb d_X_digest_165 rfl (lv_at hl 1 rfl) ?_
                    refine lv_lmul hx hb d_X_digest_166 ?_
                    refine lv_aload_n hx hb d_X_digest_167 rfl (lv_at hl 0 rfl) ?_
                    refine g_get (v := .ref (ad 1)) hC hP o_0 co_X 0 (by decide) rfl fl_X_11 rfl d_X_digest_168 ?_
                    refine lv_iload_n hx hb d_X_digest_171 rfl (lv_at hl 2 rfl) ?_
                    obtain ⟨hg16, hf⟩ := gd_some hf
                    refine g_aald hC hP r_1 rfl rfl hg16 d_X_digest_172 ?_
                    refine lv_iload hx hb d_X_digest_173 (lv_at hl 3 rfl) ?_
                    obtain ⟨hg17, hf⟩ := gd_some hf
                    refine g_iald2 (j := v4_14.toNatClampNeg) hC hP (rowA hg16) hg17 rfl d_X_digest_175 ?_
                    refine lv_i2l hx hb d_X_digest_176 rfl ?_
                    refine lv_ladd hx hb d_X_digest_177 ?_
                    refine lv_lstore_n (lv' := [(1, .long (((31 : Int64) * v1_14) + ((σL2.1 (2 + v3_4.toNatClampNeg) v4_14.toNatClampNeg).toInt64))), (0, .ref (ad 0)), (3, .int v3_4), (4, .int v4_14)]) hx hb d_X_digest_178 rfl hl (by decide) rfl (fun ls hl => ?_)
                    refine lv_iinc (v := v4_14 + 1) (lv' := [(4, .int (v4_14 + 1)), (1, .long (((31 : Int64) * v1_14) + ((σL2.1 (2 + v3_4.toNatClampNeg) v4_14.toNatClampNeg).toInt64))), (0, .ref (ad 0)), (3, .int v3_4)]) hx hb d_X_digest_179 hl (k := 3) rfl rfl (by decide) rfl (fun ls hl => ?_)
                    refine lv_goto (tgt := 151) hx hb d_X_digest_182 (by decide) ?_
                    exact ih _ _ _ _ _ hP hS (lv_sub hl [2, 1, 3, 0] rfl) hf
              exact hL14 _ _ _ _ _ _ hP hS (lv_sub hl [2, 1, 3, 0] rfl) hf
        exact hL4 _ _ _ _ _ _ hP hS (lv_sub hl [1, 2, 0] rfl) hf
      clear eKL3_126
      have hL3 : ∀ (n : Nat) (v1_3 : Int64) (v3_3 : Int32) (H : Heap) (locs : List Loc) (ls : Array Slot), va_P D vwCl (wG K ad σL2) H → va_S (GA ad) s.heap H locs → lv_has ls 5 [(0, .ref (ad 0)), (1, .long v1_3), (3, .int v3_3)] → F_X_digest_82 σL2 KL3_126 n v1_3 v3_3 = some z0 → W p l e (rmd 5) s m args below meth c H locs 0 0 (MQ below (QL D K ad z0.1 z0.2) args s 0 0 (GA ad)) (F0 m 82 ls []) := by
        clear hf
        intro n
        induction n with
        | zero =>
          intro v1_3 v3_3 H locs ls hP hS hl hf
          rw [F_X_digest_82.eq_1] at hf
          cases hf
        | succ n ih =>
          intro v1_3 v3_3 H locs ls hP hS hl hf
          rw [F_X_digest_82.eq_2] at hf
          refine lv_iload_n hx hb d_X_digest_82 rfl (lv_at hl 2 rfl) ?_
          refine lv_iconst (v := (3 : Int32)) hx hb d_X_digest_83 (by decide) ?_
          refine lv_icmp_ge (tgt := 126) hx hb d_X_digest_84 (by decide) (fun hc24 => ?_) (fun hc24 => ?_)
          · rw [if_pos hc24] at hf
            exact hKL3_126 _ _ _ _ _ hP hS (lv_sub hl [0, 1] rfl) hf
          · rw [if_neg hc24] at hf
            refine lv_ldc2 hx hb hown (hts _ cn_X_358) d_X_digest_87 ?_
            refine lv_lload_n hx hb d_X_digest_90 rfl (lv_at hl 1 rfl) ?_
            refine lv_lmul hx hb d_X_digest_91 ?_
            refine lv_aload_n hx hb d_X_digest_92 rfl (lv_at hl 0 rfl) ?_
            refine g_get (v := .ref (ad 22)) hC hP o_0 co_X 6 (by decide) rfl fl_X_40 rfl d_X_digest_93 ?_
            refine lv_iload_n hx hb d_X_digest_96 rfl (lv_at hl 2 rfl) ?_
            obtain ⟨hg20, hf⟩ := gd_some hf
            refine g_aald hC hP r_22 rfl rfl hg20 d_X_digest_97 ?_
            refine g_get (v := .int (σL2.1 (23 + 3 * v3_3.toNatClampNeg) 2)) hC hP (kepT hg20).1 co_Tn 2 (by decide) rfl fl_X_158 rfl d_X_digest_98 ?_
            obtain ⟨J21, eJ21, hf⟩ := jn_some hf
            have hJ21 : ∀ (tJ21 : Int32) (H : Heap) (locs : List Loc) (ls : Array Slot), va_P D vwCl (wG K ad σL2) H → va_S (GA ad) s.heap H locs → lv_has ls 5 [(0, .ref (ad 0)), (3, .int v3_3)] → J21 tJ21 = some z0 → W p l e (rmd 5) s m args below meth c H locs 0 0 (MQ below (QL D K ad z0.1 z0.2) args s 0 0 (GA ad)) (F0 m 117 ls [.int tJ21, .long ((31 : Int64) * v1_3)]) := by
              clear hf
              intro tJ21 H locs ls hP hS hl hf
              rw [eJ21] at hf
              try dsimp only at hf
              refine lv_i2l hx hb d_X_digest_117 rfl ?_
              refine lv_ladd hx hb d_X_digest_118 ?_
              refine lv_lstore_n (lv' := [(1, .long (((31 : Int64) * v1_3) + tJ21.toInt64)), (0, .ref (ad 0)), (3, .int v3_3)]) hx hb d_X_digest_119 rfl hl (by decide) rfl (fun ls hl => ?_)
              refine lv_iinc (v := v3_3 + 1) (lv' := [(3, .int (v3_3 + 1)), (1, .long (((31 : Int64) * v1_3) + tJ21.toInt64)), (0, .ref (ad 0))]) hx hb d_X_digest_120 hl (k := 2) rfl rfl (by decide) rfl (fun ls hl => ?_)
              refine lv_goto (tgt := 82) hx hb d_X_digest_123 (by decide) ?_
              exact ih _ _ _ _ _ hP hS (lv_sub hl [2, 1, 0] rfl) hf
            clear eJ21
            refine lv_if_ne (tgt := 108) hx hb d_X_digest_101 (by decide) (fun hc23 => ?_) (fun hc23 => ?_)
            · rw [if_neg hc23] at hf
              refine lv_aload_n hx hb d_X_digest_108 rfl (lv_at hl 0 rfl) ?_
              refine g_get (v := .ref (ad 22)) hC hP o_0 co_X 6 (by decide) rfl fl_X_40 rfl d_X_digest_109 ?_
              refine lv_iload_n hx hb d_X_digest_112 rfl (lv_at hl 2 rfl) ?_
              obtain ⟨hg22, hf⟩ := gd_some hf
              refine g_aald hC hP r_22 rfl rfl hg22 d_X_digest_113 ?_
              refine g_get (v := .int (σL2.1 (23 + 3 * v3_3.toNatClampNeg) 3)) hC hP (kepT hg22).1 co_Tn 3 (by decide) rfl fl_X_223 rfl d_X_digest_114 ?_
              exact hJ21 _ _ _ _ hP hS (lv_sub hl [0, 2] rfl) hf
            · rw [if_pos hc23] at hf
              refine lv_iconst (v := (-1 : Int32)) hx hb d_X_digest_104 (by decide) ?_
              refine lv_goto (tgt := 117) hx hb d_X_digest_105 (by decide) ?_
              exact hJ21 _ _ _ _ hP hS (lv_sub hl [0, 2] rfl) hf
      exact hL3 _ _ _ _ _ _ hP hS (lv_sub hl [1, 2, 0] rfl) hf
    clear eKL2_80
    have hL2 : ∀ (n : Nat) (v1_2 : Int64) (v3_2 : Int32) (σL2 : GS) (H : Heap) (locs : List Loc) (ls : Array Slot), va_P D vwCl (wG K ad σL2) H → va_S (GA ad) s.heap H locs → lv_has ls 5 [(0, .ref (ad 0)), (1, .long v1_2), (3, .int v3_2)] → F_X_digest_33 KL2_80 n v1_2 v3_2 σL2 = some z0 → W p l e (rmd 5) s m args below meth c H locs 0 0 (MQ below (QL D K ad z0.1 z0.2) args s 0 0 (GA ad)) (F0 m 33 ls []) := by
      clear hf
      intro n
      induction n with
      | zero =>
        intro v1_2 v3_2 σL2 H locs ls hP hS hl hf
        rw [F_X_digest_33.eq_1] at hf
        cases hf
      | succ n ih =>
        intro v1_2 v3_2 σL2 H locs ls hP hS hl hf
        rw [F_X_digest_33.eq_2] at hf
        refine lv_iload_n hx hb d_X_digest_33 rfl (lv_at hl 2 rfl) ?_
        refine lv_aload_n hx hb d_X_digest_34 rfl (lv_at hl 0 rfl) ?_
        refine g_get (v := .ref (ad 19)) hC hP o_0 co_X 5 (by decide) rfl fl_X_36 rfl d_X_digest_35 ?_
        refine g_get (v := .int (σL2.1 19 2)) hC hP o_19 co_Tn 2 (by decide) rfl fl_X_158 rfl d_X_digest_38 ?_
        refine lv_icmp_ge (tgt := 80) hx hb d_X_digest_41 (by decide) (fun hc30 => ?_) (fun hc30 => ?_)
        · rw [if_pos hc30] at hf
          exact hKL2_80 _ _ _ _ _ _ hP hS (lv_sub hl [0, 1] rfl) hf
        · rw [if_neg hc30] at hf
          refine lv_iconst (v := (0 : Int32)) hx hb d_X_digest_44 (by decide) ?_
          refine lv_istore (lv' := [(4, .int (0 : Int32)), (0, .ref (ad 0)), (1, .long v1_2), (3, .int v3_2)]) hx hb d_X_digest_45 hl (by decide) rfl (fun ls hl => ?_)
          obtain ⟨KL25_74, eKL25_74, hf⟩ := jn_some hf
          have hKL25_74 : ∀ (v1_25 : Int64) (v4_25 : Int32) (σL25 : GS) (H : Heap) (locs : List Loc) (ls : Array Slot), va_P D vwCl (wG K ad σL25) H → va_S (GA ad) s.heap H locs → lv_has ls 5 [(0, .ref (ad 0)), (1, .long v1_25), (3, .int v3_2)] → KL25_74 v1_25 v4_25 σL25 = some z0 → W p l e (rmd 5) s m args below meth c H locs 0 0 (MQ below (QL D K ad z0.1 z0.2) args s 0 0 (GA ad)) (F0 m 74 ls []) := by
            clear hf
            intro v1_25 v4_25 σL25 H locs ls hP hS hl hf
            rw [eKL25_74] at hf
            try dsimp only at hf
            refine lv_iinc (v := v3_2 + 1) (lv' := [(3, .int (v3_2 + 1)), (0, .ref (ad 0)), (1, .long v1_25)]) hx hb d_X_digest_74 hl (k := 2) rfl rfl (by decide) rfl (fun ls hl => ?_)
            refine lv_goto (tgt := 33) hx hb d_X_digest_77 (by decide) ?_
            exact ih _ _ _ _ _ _ hP hS (lv_sub hl [1, 2, 0] rfl) hf
          clear eKL25_74
          have hL25 : ∀ (n : Nat) (v1_25 : Int64) (v4_25 : Int32) (σL25 : GS) (H : Heap) (locs : List Loc) (ls : Array Slot), va_P D vwCl (wG K ad σL25) H → va_S (GA ad) s.heap H locs → lv_has ls 5 [(0, .ref (ad 0)), (1, .long v1_25), (3, .int v3_2), (4, .int v4_25)] → F_X_digest_47 v3_2 KL25_74 n v1_25 v4_25 σL25 = some z0 → W p l e (rmd 5) s m args below meth c H locs 0 0 (MQ below (QL D K ad z0.1 z0.2) args s 0 0 (GA ad)) (F0 m 47 ls []) := by
            clear hf
            intro n
            induction n with
            | zero =>
              intro v1_25 v4_25 σL25 H locs ls hP hS hl hf
              rw [F_X_digest_47.eq_1] at hf
              cases hf
            | succ n ih =>
              intro v1_25 v4_25 σL25 H locs ls hP hS hl hf
              rw [F_X_digest_47.eq_2] at hf
              refine lv_iload hx hb d_X_digest_47 (lv_at hl 3 rfl) ?_
              refine lv_iconst (v := (5 : Int32)) hx hb d_X_digest_49 (by decide) ?_
              refine lv_icmp_ge (tgt := 74) hx hb d_X_digest_50 (by decide) (fun hc29 => ?_) (fun hc29 => ?_)
              · rw [if_pos hc29] at hf
                exact hKL25_74 _ _ _ _ _ _ hP hS (lv_sub hl [0, 1, 2] rfl) hf
              · rw [if_neg hc29] at hf
                refine lv_ldc2 hx hb hown (hts _ cn_X_358) d_X_digest_53 ?_
                refine lv_lload_n hx hb d_X_digest_56 rfl (lv_at hl 1 rfl) ?_
                refine lv_lmul hx hb d_X_digest_57 ?_
                refine lv_aload_n hx hb d_X_digest_58 rfl (lv_at hl 0 rfl) ?_
                refine lv_iload_n hx hb d_X_digest_59 rfl (lv_at hl 2 rfl) ?_
                refine lv_iload hx hb d_X_digest_60 (lv_at hl 3 rfl) ?_
                obtain ⟨r27, σ28, hk26, hf⟩ := bc_some hf
                refine g_calli hS (g_runV (As := [.int v3_2, .int v4_25]) (rest := [.long ((31 : Int64) * v1_25)]) hC hP (c_X_factOf hj  hk26) (rk (by decide) (by decide)) nm_X_factOf cd_X_factOf it_WideTown ml_X_164 im_X_factOf sl_X_factOf o_0 co_X rfl hl.1 rfl (Nat.le_of_ble_eq_true rfl) d_X_digest_62 zz) (fun H locs hP hS => ?_)
                refine lv_i2l hx hb d_X_digest_65 rfl ?_
                refine lv_ladd hx hb d_X_digest_66 ?_
                refine lv_lstore_n (lv' := [(1, .long (((31 : Int64) * v1_25) + r27.toInt64)), (0, .ref (ad 0)), (3, .int v3_2), (4, .int v4_25)]) hx hb d_X_digest_67 rfl hl (by decide) rfl (fun ls hl => ?_)
                refine lv_iinc (v := v4_25 + 1) (lv' := [(4, .int (v4_25 + 1)), (1, .long (((31 : Int64) * v1_25) + r27.toInt64)), (0, .ref (ad 0)), (3, .int v3_2)]) hx hb d_X_digest_68 hl (k := 3) rfl rfl (by decide) rfl (fun ls hl => ?_)
                refine lv_goto (tgt := 47) hx hb d_X_digest_71 (by decide) ?_
                exact ih _ _ _ _ _ _ hP hS (lv_sub hl [2, 1, 3, 0] rfl) hf
          exact hL25 _ _ _ _ _ _ _ hP hS (lv_sub hl [1, 2, 3, 0] rfl) hf
    exact hL2 _ _ _ _ _ _ _ hP hS (lv_sub hl [1, 2, 0] rfl) hf
  clear eKL1_31
  have hL1 : ∀ (n : Nat) (v1_1 : Int64) (v3_1 : Int32) (H : Heap) (locs : List Loc) (ls : Array Slot), va_P D vwCl (wG K ad σ) H → va_S (GA ad) s.heap H locs → lv_has ls 5 [(0, .ref (ad 0)), (1, .long v1_1), (3, .int v3_1)] → F_X_digest_6 σ KL1_31 n v1_1 v3_1 = some z0 → W p l e (rmd 5) s m args below meth c H locs 0 0 (MQ below (QL D K ad z0.1 z0.2) args s 0 0 (GA ad)) (F0 m 6 ls []) := by
    clear hf
    intro n
    induction n with
    | zero =>
      intro v1_1 v3_1 H locs ls hP hS hl hf
      rw [F_X_digest_6.eq_1] at hf
      cases hf
    | succ n ih =>
      intro v1_1 v3_1 H locs ls hP hS hl hf
      rw [F_X_digest_6.eq_2] at hf
      refine lv_iload_n hx hb d_X_digest_6 rfl (lv_at hl 2 rfl) ?_
      refine lv_bipush (v := (8 : Int32)) hx hb d_X_digest_7 (by decide) ?_
      refine lv_icmp_ge (tgt := 31) hx hb d_X_digest_9 (by decide) (fun hc33 => ?_) (fun hc33 => ?_)
      · rw [if_pos hc33] at hf
        exact hKL1_31 _ _ _ _ _ hP hS (lv_sub hl [0, 1] rfl) hf
      · rw [if_neg hc33] at hf
        refine lv_ldc2 hx hb hown (hts _ cn_X_358) d_X_digest_12 ?_
        refine lv_lload_n hx hb d_X_digest_15 rfl (lv_at hl 1 rfl) ?_
        refine lv_lmul hx hb d_X_digest_16 ?_
        refine lv_aload_n hx hb d_X_digest_17 rfl (lv_at hl 0 rfl) ?_
        refine lv_iload_n hx hb d_X_digest_18 rfl (lv_at hl 2 rfl) ?_
        obtain ⟨r32, hk31, hf⟩ := bp_some hf
        refine g_calli hS (g_runV (As := [.int v3_1]) (rest := [.long ((31 : Int64) * v1_1)]) hC hP (c_X_count hj  hk31) (rk (by decide) (by decide)) nm_X_count cd_X_count it_WideTown ml_X_360 im_X_count sl_X_count o_0 co_X rfl hl.1 rfl (Nat.le_of_ble_eq_true rfl) d_X_digest_19 zz) (fun H locs hP hS => ?_)
        refine lv_i2l hx hb d_X_digest_22 rfl ?_
        refine lv_ladd hx hb d_X_digest_23 ?_
        refine lv_lstore_n (lv' := [(1, .long (((31 : Int64) * v1_1) + r32.toInt64)), (0, .ref (ad 0)), (3, .int v3_1)]) hx hb d_X_digest_24 rfl hl (by decide) rfl (fun ls hl => ?_)
        refine lv_iinc (v := v3_1 + 1) (lv' := [(3, .int (v3_1 + 1)), (1, .long (((31 : Int64) * v1_1) + r32.toInt64)), (0, .ref (ad 0))]) hx hb d_X_digest_25 hl (k := 2) rfl rfl (by decide) rfl (fun ls hl => ?_)
        refine lv_goto (tgt := 6) hx hb d_X_digest_28 (by decide) ?_
        exact ih _ _ _ _ _ hP hS (lv_sub hl [2, 1, 0] rfl) hf
  exact hL1 _ _ _ _ _ _ hP hS (lv_sub hl [2, 1, 0] rfl) hf
set_option maxHeartbeats 4000000 in
set_option maxRecDepth 100000 in
theorem c_M_in {l : Launch} {D : va_G} {K : Nat → ClassId} {ad : Nat → Nat} (hj : inj ad)   {x0 : Int64} {x2 : Int64} {x4 : Int64} {σ : GS} {z0 : Int32} (hf : F_M_in x0 x2 x4 = some z0) : CT l D K ad y_M_in b_M_in 6 (some .boolean) 0 [.long x0, .long x2, .long x4] σ (QI D K ad z0 σ) := by
  refine CT.intro hj (by decide) (Nat.le_of_ble_eq_true rfl) ?_
  intro p e s m args below meth c ls hC hP hS hl
  obtain ⟨hx, hb, -, hown, hts, -⟩ := id hC
  have hl : lv_has ls 6 [(0, .long x0), (2, .long x2), (4, .long x4)] := hl
  rw [F_M_in] at hf
  refine lv_lload_n hx hb d_M_in_0 rfl (lv_at hl 0 rfl) ?_
  refine lv_lload_n hx hb d_M_in_1 rfl (lv_at hl 1 rfl) ?_
  refine W.lcmp hx hb d_M_in_2 ?_
  refine lv_if_lt (tgt := 17) hx hb d_M_in_3 (by decide) (fun hc2 => ?_) (fun hc2 => ?_)
  · rw [if_pos hc2] at hf
    refine lv_iconst (v := (0 : Int32)) hx hb d_M_in_17 (by decide) ?_
    cases hf
    exact g_zret hC rfl (by decide) hP hS d_M_in_18
  · rw [if_neg hc2] at hf
    refine lv_lload_n hx hb d_M_in_6 rfl (lv_at hl 0 rfl) ?_
    refine lv_lload hx hb d_M_in_7 (lv_at hl 2 rfl) ?_
    refine W.lcmp hx hb d_M_in_9 ?_
    refine lv_if_gt (tgt := 17) hx hb d_M_in_10 (by decide) (fun hc1 => ?_) (fun hc1 => ?_)
    · rw [if_pos hc1] at hf
      refine lv_iconst (v := (0 : Int32)) hx hb d_M_in_17 (by decide) ?_
      cases hf
      exact g_zret hC rfl (by decide) hP hS d_M_in_18
    · rw [if_neg hc1] at hf
      refine lv_iconst (v := (1 : Int32)) hx hb d_M_in_13 (by decide) ?_
      refine lv_goto (tgt := 18) hx hb d_M_in_14 (by decide) ?_
      cases hf
      exact g_zret hC rfl (by decide) hP hS d_M_in_18
set_option maxHeartbeats 4000000 in
set_option maxRecDepth 100000 in
theorem c_M_found {l : Launch} {D : va_G} {K : Nat → ClassId} {ad : Nat → Nat} (hj : inj ad)   {x1 : Int32} {σ : GS} {z0 : Int32 × GS} (hf : F_M_found x1 σ = some z0) : CT l D K ad y_M_found b_M_found 2 (some .int) 0 [.ref (ad 63), .int x1] σ (QI D K ad z0.1 z0.2) := by
  refine CT.intro hj (by decide) (Nat.le_of_ble_eq_true rfl) ?_
  intro p e s m args below meth c ls hC hP hS hl
  obtain ⟨hx, hb, -, hown, hts, -⟩ := id hC
  have hl : lv_has ls 2 [(0, .ref (ad 63)), (1, .int x1)] := hl
  rw [F_M_found] at hf
  refine lv_aload_n hx hb d_M_found_0 rfl (lv_at hl 0 rfl) ?_
  refine lv_iload_n hx hb d_M_found_1 rfl (lv_at hl 1 rfl) ?_
  obtain ⟨σ1, eσ1, hf⟩ := jn_some hf
  refine g_puti hC hP hS o_63 co_M 12 (by decide) rfl fl_M_88 rfl (to_M 12 (by decide)) (Nat.le_of_ble_eq_true rfl) rfl d_M_found_2 (fun H locs hP hS => ?_)
  rw [← eσ1] at hP
  refine lv_aload_n hx hb d_M_found_5 rfl (lv_at hl 0 rfl) ?_
  refine g_get (v := .ref (ad 73)) hC hP o_63 co_M 13 (by decide) rfl fl_M_42 rfl d_M_found_6 ?_
  refine lv_iload_n hx hb d_M_found_9 rfl (lv_at hl 1 rfl) ?_
  refine lv_dup2_11 hx hb d_M_found_10 rfl rfl ?_
  obtain ⟨hg2, hf⟩ := gd_some hf
  refine g_iald2 (j := x1.toNatClampNeg) hC hP a_73 hg2 rfl d_M_found_11 ?_
  refine lv_iconst (v := (1 : Int32)) hx hb d_M_found_12 (by decide) ?_
  refine lv_iadd hx hb d_M_found_13 ?_
  obtain ⟨hg3, hf⟩ := gd_some hf
  obtain ⟨σ4, eσ4, hf⟩ := jn_some hf
  refine g_iast2 (j := x1.toNatClampNeg) hC hP hS a_73 hg3 rfl d_M_found_14 (fun H locs hP hS => ?_)
  rw [← eσ4] at hP
  refine lv_bipush (v := (-3 : Int32)) hx hb d_M_found_15 (by decide) ?_
  cases hf
  exact g_iret hC rfl hP hS d_M_found_17
set_option maxHeartbeats 4000000 in
set_option maxRecDepth 100000 in
theorem c_M_tell {l : Launch} {D : va_G} {K : Nat → ClassId} {ad : Nat → Nat} (hj : inj ad)   {x1 : Int32} {σ : GS} {z0 : Int32 × GS} (hf : F_M_tell x1 σ = some z0) : CT l D K ad y_M_tell b_M_tell 2 (some .int) 0 [.ref (ad 63), .int x1] σ (QI D K ad z0.1 z0.2) := by
  refine CT.intro hj (by decide) (Nat.le_of_ble_eq_true rfl) ?_
  intro p e s m args below meth c ls hC hP hS hl
  obtain ⟨hx, hb, -, hown, hts, -⟩ := id hC
  have hl : lv_has ls 2 [(0, .ref (ad 63)), (1, .int x1)] := hl
  rw [F_M_tell] at hf
  refine lv_aload_n hx hb d_M_tell_0 rfl (lv_at hl 0 rfl) ?_
  refine lv_iload_n hx hb d_M_tell_1 rfl (lv_at hl 1 rfl) ?_
  obtain ⟨σ1, eσ1, hf⟩ := jn_some hf
  refine g_puti hC hP hS o_63 co_M 9 (by decide) rfl fl_M_92 rfl (to_M 9 (by decide)) (Nat.le_of_ble_eq_true rfl) rfl d_M_tell_2 (fun H locs hP hS => ?_)
  rw [← eσ1] at hP
  refine lv_iconst (v := (1 : Int32)) hx hb d_M_tell_5 (by decide) ?_
  cases hf
  exact g_iret hC rfl hP hS d_M_tell_6
set_option maxHeartbeats 4000000 in
set_option maxRecDepth 100000 in
theorem c_M_tells {l : Launch} {D : va_G} {K : Nat → ClassId} {ad : Nat → Nat} (hj : inj ad)   {x1 : Int64} {x3 : Int64} {σ : GS} {z0 : Int32 × GS} (hf : F_M_tells x1 x3 σ = some z0) : CT l D K ad y_M_tells b_M_tells 11 (some .int) 0 [.ref (ad 63), .long x1, .long x3] σ (QI D K ad z0.1 z0.2) := by
  refine CT.intro hj (by decide) (Nat.le_of_ble_eq_true rfl) ?_
  intro p e s m args below meth c ls hC hP hS hl
  obtain ⟨hx, hb, -, hown, hts, -⟩ := id hC
  have hl : lv_has ls 11 [(0, .ref (ad 63)), (1, .long x1), (3, .long x3)] := hl
  rw [F_M_tells] at hf
  refine lv_lload_n hx hb d_M_tells_0 rfl (lv_at hl 1 rfl) ?_
  refine lv_lstore (lv' := [(5, .long x1), (0, .ref (ad 63)), (1, .long x1), (3, .long x3)]) hx hb d_M_tells_1 hl (by decide) rfl (fun ls hl => ?_)
  refine lv_lload_n hx hb d_M_tells_3 rfl (lv_at hl 3 rfl) ?_
  refine lv_lstore (lv' := [(7, .long x3), (5, .long x1), (0, .ref (ad 63)), (1, .long x1), (3, .long x3)]) hx hb d_M_tells_4 hl (by decide) rfl (fun ls hl => ?_)
  obtain ⟨KL1_31, eKL1_31, hf⟩ := jn_some hf
  have hKL1_31 : ∀ (v5_1 : Int64) (v7_1 : Int64) (H : Heap) (locs : List Loc) (ls : Array Slot), va_P D vwCl (wG K ad σ) H → va_S (GA ad) s.heap H locs → lv_has ls 11 [(0, .ref (ad 63)), (1, .long x1), (3, .long x3), (5, .long v5_1)] → KL1_31 v5_1 v7_1 = some z0 → W p l e (rmd 0) s m args below meth c H locs 0 0 (MQ below (QI D K ad z0.1 z0.2) args s 0 0 (GA ad)) (F0 m 31 ls []) := by
    clear hf
    intro v5_1 v7_1 H locs ls hP hS hl hf
    rw [eKL1_31] at hf
    try dsimp only at hf
    refine lv_aload_n hx hb d_M_tells_31 rfl (lv_at hl 0 rfl) ?_
    refine lv_lload_n hx hb d_M_tells_32 rfl (lv_at hl 1 rfl) ?_
    refine lv_lload hx hb d_M_tells_33 (lv_at hl 3 rfl) ?_
    obtain ⟨hg, hf⟩ := gd_some hf
    refine lv_ldiv hx hb d_M_tells_35 (zL_in hg) ?_
    obtain ⟨σ2, eσ2, hf⟩ := jn_some hf
    refine g_putl hC hP hS o_63 co_M 10 (by decide) rfl fl_M_95 rfl (to_M 10 (by decide)) (Nat.le_of_ble_eq_true rfl) rfl d_M_tells_36 (fun H locs hP hS => ?_)
    rw [← eσ2] at hP
    refine lv_aload_n hx hb d_M_tells_39 rfl (lv_at hl 0 rfl) ?_
    refine lv_lload_n hx hb d_M_tells_40 rfl (lv_at hl 2 rfl) ?_
    refine lv_lload hx hb d_M_tells_41 (lv_at hl 3 rfl) ?_
    obtain ⟨hg, hf⟩ := gd_some hf
    refine lv_ldiv hx hb d_M_tells_43 (zL_in hg) ?_
    obtain ⟨σ3, eσ3, hf⟩ := jn_some hf
    refine g_putl hC hP hS o_63 co_M 11 (by decide) rfl fl_M_38 rfl (to_M 11 (by decide)) (Nat.le_of_ble_eq_true rfl) rfl d_M_tells_44 (fun H locs hP hS => ?_)
    rw [← eσ3] at hP
    refine lv_iconst (v := (1 : Int32)) hx hb d_M_tells_47 (by decide) ?_
    cases hf
    exact g_iret hC rfl hP hS d_M_tells_48
  clear eKL1_31
  have hL1 : ∀ (n : Nat) (v5_1 : Int64) (v7_1 : Int64) (H : Heap) (locs : List Loc) (ls : Array Slot), va_P D vwCl (wG K ad σ) H → va_S (GA ad) s.heap H locs → lv_has ls 11 [(0, .ref (ad 63)), (1, .long x1), (3, .long x3), (5, .long v5_1), (7, .long v7_1)] → F_M_tells_6 x1 x3 σ KL1_31 n v5_1 v7_1 = some z0 → W p l e (rmd 0) s m args below meth c H locs 0 0 (MQ below (QI D K ad z0.1 z0.2) args s 0 0 (GA ad)) (F0 m 6 ls []) := by
    clear hf
    intro n
    induction n with
    | zero =>
      intro v5_1 v7_1 H locs ls hP hS hl hf
      rw [F_M_tells_6.eq_1] at hf
      cases hf
    | succ n ih =>
      intro v5_1 v7_1 H locs ls hP hS hl hf
      rw [F_M_tells_6.eq_2] at hf
      refine lv_lload hx hb d_M_tells_6 (lv_at hl 4 rfl) ?_
      refine lv_lconst (v := (0 : Int64)) hx hb d_M_tells_8 (by decide) ?_
      refine W.lcmp hx hb d_M_tells_9 ?_
      refine lv_if_eq (tgt := 31) hx hb d_M_tells_10 (by decide) (fun hc4 => ?_) (fun hc4 => ?_)
      · rw [if_pos hc4] at hf
        exact hKL1_31 _ _ _ _ _ hP hS (lv_sub hl [0, 1, 2, 3] rfl) hf
      · rw [if_neg hc4] at hf
        refine lv_lload hx hb d_M_tells_13 (lv_at hl 3 rfl) ?_
        refine lv_lload hx hb d_M_tells_15 (lv_at hl 4 rfl) ?_
        obtain ⟨hg, hf⟩ := gd_some hf
        refine lv_lrem hx hb d_M_tells_17 (zL_in hg) ?_
        refine lv_lstore (lv' := [(9, .long (v5_1 - v5_1 / v7_1 * v7_1)), (0, .ref (ad 63)), (1, .long x1), (3, .long x3), (5, .long v5_1), (7, .long v7_1)]) hx hb d_M_tells_18 hl (by decide) rfl (fun ls hl => ?_)
        refine lv_lload hx hb d_M_tells_20 (lv_at hl 5 rfl) ?_
        refine lv_lstore (lv' := [(5, .long v7_1), (9, .long (v5_1 - v5_1 / v7_1 * v7_1)), (0, .ref (ad 63)), (1, .long x1), (3, .long x3), (7, .long v7_1)]) hx hb d_M_tells_22 hl (by decide) rfl (fun ls hl => ?_)
        refine lv_lload hx hb d_M_tells_24 (lv_at hl 1 rfl) ?_
        refine lv_lstore (lv' := [(7, .long (v5_1 - v5_1 / v7_1 * v7_1)), (5, .long v7_1), (9, .long (v5_1 - v5_1 / v7_1 * v7_1)), (0, .ref (ad 63)), (1, .long x1), (3, .long x3)]) hx hb d_M_tells_26 hl (by decide) rfl (fun ls hl => ?_)
        refine lv_goto (tgt := 6) hx hb d_M_tells_28 (by decide) ?_
        exact ih _ _ _ _ _ hP hS (lv_sub hl [3, 4, 5, 1, 0] rfl) hf
  exact hL1 _ _ _ _ _ _ hP hS (lv_sub hl [2, 3, 4, 1, 0] rfl) hf
set_option maxHeartbeats 4000000 in
set_option maxRecDepth 100000 in
theorem c_M_isRow {l : Launch} {D : va_G} {K : Nat → ClassId} {ad : Nat → Nat} (hj : inj ad)   {x0 : Int32} {σ : GS} {z0 : Int32} (hf : F_M_isRow x0 = some z0) : CT l D K ad y_M_isRow b_M_isRow 1 (some .boolean) 1 [.int x0] σ (QI D K ad z0 σ) := by
  refine CT.intro hj (by decide) (Nat.le_of_ble_eq_true rfl) ?_
  intro p e s m args below meth c ls hC hP hS hl
  obtain ⟨hx, hb, -, hown, hts, -⟩ := id hC
  have hl : lv_has ls 1 [(0, .int x0)] := hl
  rw [F_M_isRow] at hf
  refine lv_iload_n hx hb d_M_isRow_0 rfl (lv_at hl 0 rfl) ?_
  refine lv_i2l hx hb d_M_isRow_1 rfl ?_
  refine lv_lconst (v := (0 : Int64)) hx hb d_M_isRow_2 (by decide) ?_
  refine lv_ldc2 hx hb hown (hts _ cn_M_98) d_M_isRow_3 ?_
  obtain ⟨r2, hk1, hf⟩ := bp_some hf
  refine g_calli hS (g_runS (As := [.long x0.toInt64, .long (0 : Int64), .long (5 : Int64)]) (rest := []) hC hP (c_M_in hj  hk1) (rk (by decide) (by decide)) nm_M_in cd_M_in it_WideTownModel ml_M_100 sc_M_in rfl hl.1 rfl (Nat.le_of_ble_eq_true rfl) d_M_isRow_6 zz) (fun H locs hP hS => ?_)
  obtain ⟨hz, hf⟩ := gd_some hf
  cases hf
  exact g_zret hC rfl hz hP hS d_M_isRow_9
set_option maxHeartbeats 4000000 in
set_option maxRecDepth 100000 in
theorem c_M_isText {l : Launch} {D : va_G} {K : Nat → ClassId} {ad : Nat → Nat} (hj : inj ad)   {x0 : Int32} {σ : GS} {z0 : Int32} (hf : F_M_isText x0 = some z0) : CT l D K ad y_M_isText b_M_isText 1 (some .boolean) 1 [.int x0] σ (QI D K ad z0 σ) := by
  refine CT.intro hj (by decide) (Nat.le_of_ble_eq_true rfl) ?_
  intro p e s m args below meth c ls hC hP hS hl
  obtain ⟨hx, hb, -, hown, hts, -⟩ := id hC
  have hl : lv_has ls 1 [(0, .int x0)] := hl
  rw [F_M_isText] at hf
  refine lv_iload_n hx hb d_M_isText_0 rfl (lv_at hl 0 rfl) ?_
  refine lv_i2l hx hb d_M_isText_1 rfl ?_
  refine lv_lconst (v := (0 : Int64)) hx hb d_M_isText_2 (by decide) ?_
  refine lv_ldc2 hx hb hown (hts _ cn_M_104) d_M_isText_3 ?_
  obtain ⟨r2, hk1, hf⟩ := bp_some hf
  refine g_calli hS (g_runS (As := [.long x0.toInt64, .long (0 : Int64), .long (3 : Int64)]) (rest := []) hC hP (c_M_in hj  hk1) (rk (by decide) (by decide)) nm_M_in cd_M_in it_WideTownModel ml_M_100 sc_M_in rfl hl.1 rfl (Nat.le_of_ble_eq_true rfl) d_M_isText_6 zz) (fun H locs hP hS => ?_)
  obtain ⟨hz, hf⟩ := gd_some hf
  cases hf
  exact g_zret hC rfl hz hP hS d_M_isText_9
set_option maxHeartbeats 4000000 in
set_option maxRecDepth 100000 in
theorem c_M_row {l : Launch} {D : va_G} {K : Nat → ClassId} {ad : Nat → Nat} (hj : inj ad)   {x1 : Int32} {x2 : Int32} {σ : GS} {z0 : Int32 × GS} (hf : F_M_row x1 x2 σ = some z0) : CT l D K ad y_M_row b_M_row 4 (some .int) 2 [.ref (ad 63), .int x1, .int x2] σ (QI D K ad z0.1 z0.2) := by
  refine CT.intro hj (by decide) (Nat.le_of_ble_eq_true rfl) ?_
  intro p e s m args below meth c ls hC hP hS hl
  obtain ⟨hx, hb, -, hown, hts, -⟩ := id hC
  have hl : lv_has ls 4 [(0, .ref (ad 63)), (1, .int x1), (2, .int x2)] := hl
  rw [F_M_row] at hf
  refine lv_iload_n hx hb d_M_row_0 rfl (lv_at hl 1 rfl) ?_
  obtain ⟨r2, hk1, hf⟩ := bp_some hf
  refine g_calli hS (g_runS (As := [.int x1]) (rest := []) hC hP (c_M_isRow hj  hk1) (rk (by decide) (by decide)) nm_M_isRow cd_M_isRow it_WideTownModel ml_M_106 sc_M_isRow rfl hl.1 rfl (Nat.le_of_ble_eq_true rfl) d_M_row_1 zz) (fun H locs hP hS => ?_)
  refine lv_if_eq (tgt := 13) hx hb d_M_row_4 (by decide) (fun hc14 => ?_) (fun hc14 => ?_)
  · rw [if_pos hc14] at hf
    refine lv_iconst (v := (-1 : Int32)) hx hb d_M_row_13 (by decide) ?_
    cases hf
    exact g_iret hC rfl hP hS d_M_row_14
  · rw [if_neg hc14] at hf
    refine lv_iload_n hx hb d_M_row_7 rfl (lv_at hl 2 rfl) ?_
    refine lv_bipush (v := (40 : Int32)) hx hb d_M_row_8 (by decide) ?_
    refine lv_icmp_le (tgt := 15) hx hb d_M_row_10 (by decide) (fun hc13 => ?_) (fun hc13 => ?_)
    · rw [if_pos hc13] at hf
      refine lv_iload_n hx hb d_M_row_15 rfl (lv_at hl 2 rfl) ?_
      refine lv_if_ge (tgt := 25) hx hb d_M_row_16 (by decide) (fun hc12 => ?_) (fun hc12 => ?_)
      · rw [if_pos hc12] at hf
        refine lv_aload_n hx hb d_M_row_25 rfl (lv_at hl 0 rfl) ?_
        refine g_get (v := .ref (ad 64)) hC hP o_63 co_M 0 (by decide) rfl fl_M_7 rfl d_M_row_26 ?_
        refine lv_iload_n hx hb d_M_row_29 rfl (lv_at hl 1 rfl) ?_
        refine lv_iload_n hx hb d_M_row_30 rfl (lv_at hl 2 rfl) ?_
        obtain ⟨hg3, hf⟩ := gd_some hf
        obtain ⟨σ4, eσ4, hf⟩ := jn_some hf
        refine g_iast2 (j := x1.toNatClampNeg) hC hP hS a_64 hg3 rfl d_M_row_31 (fun H locs hP hS => ?_)
        rw [← eσ4] at hP
        refine lv_iconst (v := (0 : Int32)) hx hb d_M_row_32 (by decide) ?_
        refine lv_istore_n (lv' := [(3, .int (0 : Int32)), (0, .ref (ad 63)), (1, .int x1), (2, .int x2)]) hx hb d_M_row_33 rfl hl (by decide) rfl (fun ls hl => ?_)
        obtain ⟨KL5_58, eKL5_58, hf⟩ := jn_some hf
        have hKL5_58 : ∀ (v3_5 : Int32) (σL5 : GS) (H : Heap) (locs : List Loc) (ls : Array Slot), va_P D vwCl (wG K ad σL5) H → va_S (GA ad) s.heap H locs → lv_has ls 4 [(2, .int x2)] → KL5_58 v3_5 σL5 = some z0 → W p l e (rmd 2) s m args below meth c H locs 0 0 (MQ below (QI D K ad z0.1 z0.2) args s 0 0 (GA ad)) (F0 m 58 ls []) := by
          clear hf
          intro v3_5 σL5 H locs ls hP hS hl hf
          rw [eKL5_58] at hf
          try dsimp only at hf
          refine lv_iload_n hx hb d_M_row_58 rfl (lv_at hl 0 rfl) ?_
          cases hf
          exact g_iret hC rfl hP hS d_M_row_59
        clear eKL5_58
        have hL5 : ∀ (n : Nat) (v3_5 : Int32) (σL5 : GS) (H : Heap) (locs : List Loc) (ls : Array Slot), va_P D vwCl (wG K ad σL5) H → va_S (GA ad) s.heap H locs → lv_has ls 4 [(0, .ref (ad 63)), (1, .int x1), (2, .int x2), (3, .int v3_5)] → F_M_row_34 x1 x2 KL5_58 n v3_5 σL5 = some z0 → W p l e (rmd 2) s m args below meth c H locs 0 0 (MQ below (QI D K ad z0.1 z0.2) args s 0 0 (GA ad)) (F0 m 34 ls []) := by
          clear hf
          intro n
          induction n with
          | zero =>
            intro v3_5 σL5 H locs ls hP hS hl hf
            rw [F_M_row_34.eq_1] at hf
            cases hf
          | succ n ih =>
            intro v3_5 σL5 H locs ls hP hS hl hf
            rw [F_M_row_34.eq_2] at hf
            refine lv_iload_n hx hb d_M_row_34 rfl (lv_at hl 3 rfl) ?_
            refine lv_bipush (v := (40 : Int32)) hx hb d_M_row_35 (by decide) ?_
            refine lv_icmp_ge (tgt := 58) hx hb d_M_row_37 (by decide) (fun hc8 => ?_) (fun hc8 => ?_)
            · rw [if_pos hc8] at hf
              exact hKL5_58 _ _ _ _ _ hP hS (lv_sub hl [2] rfl) hf
            · rw [if_neg hc8] at hf
              refine lv_aload_n hx hb d_M_row_40 rfl (lv_at hl 0 rfl) ?_
              refine g_get (v := .ref (ad 65)) hC hP o_63 co_M 1 (by decide) rfl fl_M_13 rfl d_M_row_41 ?_
              refine lv_bipush (v := (40 : Int32)) hx hb d_M_row_44 (by decide) ?_
              refine lv_iload_n hx hb d_M_row_46 rfl (lv_at hl 1 rfl) ?_
              refine lv_imul hx hb d_M_row_47 ?_
              refine lv_iload_n hx hb d_M_row_48 rfl (lv_at hl 3 rfl) ?_
              refine lv_iadd hx hb d_M_row_49 ?_
              refine lv_iconst (v := (0 : Int32)) hx hb d_M_row_50 (by decide) ?_
              obtain ⟨hg6, hf⟩ := gd_some hf
              obtain ⟨σ7, eσ7, hf⟩ := jn_some hf
              refine g_iast2 (j := (((40 : Int32) * x1) + v3_5).toNatClampNeg) hC hP hS a_65 hg6 rfl d_M_row_51 (fun H locs hP hS => ?_)
              rw [← eσ7] at hP
              refine lv_iinc (v := v3_5 + 1) (lv' := [(3, .int (v3_5 + 1)), (0, .ref (ad 63)), (1, .int x1), (2, .int x2)]) hx hb d_M_row_52 hl (k := 3) rfl rfl (by decide) rfl (fun ls hl => ?_)
              refine lv_goto (tgt := 34) hx hb d_M_row_55 (by decide) ?_
              exact ih _ _ _ _ _ hP hS (lv_sub hl [1, 2, 3, 0] rfl) hf
        exact hL5 _ _ _ _ _ _ hP hS (lv_sub hl [1, 2, 3, 0] rfl) hf
      · rw [if_neg hc12] at hf
        refine lv_aload_n hx hb d_M_row_19 rfl (lv_at hl 0 rfl) ?_
        refine lv_iconst (v := (5 : Int32)) hx hb d_M_row_20 (by decide) ?_
        obtain ⟨r10, σ11, hk9, hf⟩ := bc_some hf
        refine g_calli hS (g_runV (As := [.int (5 : Int32)]) (rest := []) hC hP (c_M_found hj  hk9) (rk (by decide) (by decide)) nm_M_found cd_M_found it_WideTownModel ml_M_110 im_M_found sl_M_found o_63 co_M rfl hl.1 rfl (Nat.le_of_ble_eq_true rfl) d_M_row_21 zz) (fun H locs hP hS => ?_)
        cases hf
        exact g_iret hC rfl hP hS d_M_row_24
    · rw [if_neg hc13] at hf
      refine lv_iconst (v := (-1 : Int32)) hx hb d_M_row_13 (by decide) ?_
      cases hf
      exact g_iret hC rfl hP hS d_M_row_14
