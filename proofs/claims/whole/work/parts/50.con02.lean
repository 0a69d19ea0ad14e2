set_option maxHeartbeats 4000000 in
set_option maxRecDepth 100000 in
theorem c_Wd_clear {l : Launch} {D : va_G} {K : Nat → ClassId} {ad : Nat → Nat} (hj : inj ad) {w : Nat} (h_w : WdOK K ad w)  {σ : GS} {z0 : GS} (hf : F_Wd_clear w σ = some z0) : CT l D K ad y_Wd_clear b_Wd_clear 1 none 0 [.ref (ad w)] σ (QV D K ad z0) := by
  refine CT.intro hj (by decide) (Nat.le_of_ble_eq_true rfl) ?_
  intro p e s m args below meth c ls hC hP hS hl
  obtain ⟨hx, hb, -, hown, hts, -⟩ := id hC
  have hl : lv_has ls 1 [(0, .ref (ad w))] := hl
  rw [F_Wd_clear] at hf
  refine lv_aload_n hx hb d_Wd_clear_0 rfl (lv_at hl 0 rfl) ?_
  refine lv_iconst (v := (0 : Int32)) hx hb d_Wd_clear_1 (by decide) ?_
  obtain ⟨σ1, eσ1, hf⟩ := jn_some hf
  refine g_puti hC hP hS h_w.1 co_Wd 1 (by decide) rfl fl_Wd_15 rfl (to_Wd 1 (by decide)) (Nat.le_of_ble_eq_true rfl) rfl d_Wd_clear_2 (fun H locs hP hS => ?_)
  rw [← eσ1] at hP
  cases hf
  exact g_vret hC rfl hP hS d_Wd_clear_5
set_option maxHeartbeats 4000000 in
set_option maxRecDepth 100000 in
theorem c_Wd_lastStreets {l : Launch} {D : va_G} {K : Nat → ClassId} {ad : Nat → Nat} (hj : inj ad) {w : Nat} (h_w : WdOK K ad w)  {σ : GS} {z0 : Int32} (hf : F_Wd_lastStreets w σ = some z0) : CT l D K ad y_Wd_lastStreets b_Wd_lastStreets 3 (some .int) 2 [.ref (ad w)] σ (QI D K ad z0 σ) := by
  refine CT.intro hj (by decide) (Nat.le_of_ble_eq_true rfl) ?_
  intro p e s m args below meth c ls hC hP hS hl
  obtain ⟨hx, hb, -, hown, hts, -⟩ := id hC
  have hl : lv_has ls 3 [(0, .ref (ad w))] := hl
  rw [F_Wd_lastStreets] at hf
  refine lv_iconst (v := (0 : Int32)) hx hb d_Wd_lastStreets_0 (by decide) ?_
  refine lv_istore_n (lv' := [(1, .int (0 : Int32)), (0, .ref (ad w))]) hx hb d_Wd_lastStreets_1 rfl hl (by decide) rfl (fun ls hl => ?_)
  refine lv_iconst (v := (0 : Int32)) hx hb d_Wd_lastStreets_2 (by decide) ?_
  refine lv_istore_n (lv' := [(2, .int (0 : Int32)), (1, .int (0 : Int32)), (0, .ref (ad w))]) hx hb d_Wd_lastStreets_3 rfl hl (by decide) rfl (fun ls hl => ?_)
  obtain ⟨KL1_38, eKL1_38, hf⟩ := jn_some hf
  have hKL1_38 : ∀ (v1_1 : Int32) (v2_1 : Int32) (H : Heap) (locs : List Loc) (ls : Array Slot), va_P D vwCl (wG K ad σ) H → va_S (GA ad) s.heap H locs → lv_has ls 3 [(1, .int v1_1)] → KL1_38 v1_1 v2_1 = some z0 → W p l e (rmd 2) s m args below meth c H locs 0 0 (MQ below (QI D K ad z0 σ) args s 0 0 (GA ad)) (F0 m 38 ls []) := by
    clear hf
    intro v1_1 v2_1 H locs ls hP hS hl hf
    rw [eKL1_38] at hf
    try dsimp only at hf
    refine lv_iload_n hx hb d_Wd_lastStreets_38 rfl (lv_at hl 0 rfl) ?_
    cases hf
    exact g_iret hC rfl hP hS d_Wd_lastStreets_39
  clear eKL1_38
  have hL1 : ∀ (n : Nat) (v1_1 : Int32) (v2_1 : Int32) (H : Heap) (locs : List Loc) (ls : Array Slot), va_P D vwCl (wG K ad σ) H → va_S (GA ad) s.heap H locs → lv_has ls 3 [(0, .ref (ad w)), (1, .int v1_1), (2, .int v2_1)] → F_Wd_lastStreets_4 w σ KL1_38 n v1_1 v2_1 = some z0 → W p l e (rmd 2) s m args below meth c H locs 0 0 (MQ below (QI D K ad z0 σ) args s 0 0 (GA ad)) (F0 m 4 ls []) := by
    clear hf
    intro n
    induction n with
    | zero =>
      intro v1_1 v2_1 H locs ls hP hS hl hf
      rw [F_Wd_lastStreets_4.eq_1] at hf
      cases hf
    | succ n ih =>
      intro v1_1 v2_1 H locs ls hP hS hl hf
      rw [F_Wd_lastStreets_4.eq_2] at hf
      refine lv_iload_n hx hb d_Wd_lastStreets_4 rfl (lv_at hl 2 rfl) ?_
      refine lv_aload_n hx hb d_Wd_lastStreets_5 rfl (lv_at hl 0 rfl) ?_
      refine g_get (v := .int (σ.1 w 1)) hC hP h_w.1 co_Wd 1 (by decide) rfl fl_Wd_15 rfl d_Wd_lastStreets_6 ?_
      refine lv_icmp_ge (tgt := 38) hx hb d_Wd_lastStreets_9 (by decide) (fun hc6 => ?_) (fun hc6 => ?_)
      · rw [if_pos hc6] at hf
        exact hKL1_38 _ _ _ _ _ hP hS (lv_sub hl [1] rfl) hf
      · rw [if_neg hc6] at hf
        refine lv_aload_n hx hb d_Wd_lastStreets_12 rfl (lv_at hl 0 rfl) ?_
        refine lv_iload_n hx hb d_Wd_lastStreets_13 rfl (lv_at hl 2 rfl) ?_
        refine lv_iconst (v := (-1 : Int32)) hx hb d_Wd_lastStreets_14 (by decide) ?_
        obtain ⟨r3, hk2, hf⟩ := bp_some hf
        refine g_calli hS (g_runV (As := [.int v2_1, .int (-1 : Int32)]) (rest := []) hC hP (c_Wd_canBeLast hj h_w hk2) (rk (by decide) (by decide)) nm_Wd_canBeLast cd_Wd_canBeLast it_WideTown_Word ml_Wd_44 im_Wd_canBeLast sl_Wd_canBeLast h_w.1 co_Wd rfl hl.1 rfl (Nat.le_of_ble_eq_true rfl) d_Wd_lastStreets_15 zz) (fun H locs hP hS => ?_)
        refine lv_if_eq (tgt := 32) hx hb d_Wd_lastStreets_18 (by decide) (fun hc5 => ?_) (fun hc5 => ?_)
        · rw [if_pos hc5] at hf
          refine lv_iinc (v := v2_1 + 1) (lv' := [(2, .int (v2_1 + 1)), (0, .ref (ad w)), (1, .int v1_1)]) hx hb d_Wd_lastStreets_32 hl (k := 2) rfl rfl (by decide) rfl (fun ls hl => ?_)
          refine lv_goto (tgt := 4) hx hb d_Wd_lastStreets_35 (by decide) ?_
          exact ih _ _ _ _ _ hP hS (lv_sub hl [1, 2, 0] rfl) hf
        · rw [if_neg hc5] at hf
          refine lv_iload_n hx hb d_Wd_lastStreets_21 rfl (lv_at hl 1 rfl) ?_
          refine lv_iconst (v := (1 : Int32)) hx hb d_Wd_lastStreets_22 (by decide) ?_
          refine lv_aload_n hx hb d_Wd_lastStreets_23 rfl (lv_at hl 0 rfl) ?_
          refine g_get (v := .ref (ad (w + 1))) hC hP h_w.1 co_Wd 0 (by decide) rfl fl_Wd_11 rfl d_Wd_lastStreets_24 ?_
          refine lv_iload_n hx hb d_Wd_lastStreets_27 rfl (lv_at hl 2 rfl) ?_
          obtain ⟨hg4, hf⟩ := gd_some hf
          refine g_iald2 (j := v2_1.toNatClampNeg) hC hP h_w.2 hg4 rfl d_Wd_lastStreets_28 ?_
          refine lv_ishl hx hb d_Wd_lastStreets_29 ?_
          refine lv_ior hx hb d_Wd_lastStreets_30 ?_
          refine lv_istore_n (lv' := [(1, .int (v1_1 ||| ((1 : Int32) <<< ((σ.1 (w + 1) v2_1.toNatClampNeg) &&& 31)))), (0, .ref (ad w)), (2, .int v2_1)]) hx hb d_Wd_lastStreets_31 rfl hl (by decide) rfl (fun ls hl => ?_)
          refine lv_iinc (v := v2_1 + 1) (lv' := [(2, .int (v2_1 + 1)), (1, .int (v1_1 ||| ((1 : Int32) <<< ((σ.1 (w + 1) v2_1.toNatClampNeg) &&& 31)))), (0, .ref (ad w))]) hx hb d_Wd_lastStreets_32 hl (k := 2) rfl rfl (by decide) rfl (fun ls hl => ?_)
          refine lv_goto (tgt := 4) hx hb d_Wd_lastStreets_35 (by decide) ?_
          exact ih _ _ _ _ _ hP hS (lv_sub hl [2, 1, 0] rfl) hf
  exact hL1 _ _ _ _ _ _ hP hS (lv_sub hl [2, 1, 0] rfl) hf
set_option maxHeartbeats 4000000 in
set_option maxRecDepth 100000 in
theorem c_Wk_goHome {l : Launch} {D : va_G} {K : Nat → ClassId} {ad : Nat → Nat} (hj : inj ad) {k : Nat} (h_k : WkOK K ad k)  {σ : GS} {z0 : GS} (hf : F_Wk_goHome k σ = some z0) : CT l D K ad y_Wk_goHome b_Wk_goHome 4 none 3 [.ref (ad k), .ref (ad 32)] σ (QV D K ad z0) := by
  refine CT.intro hj (by decide) (Nat.le_of_ble_eq_true rfl) ?_
  intro p e s m args below meth c ls hC hP hS hl
  obtain ⟨hx, hb, -, hown, hts, -⟩ := id hC
  have hl : lv_has ls 4 [(0, .ref (ad k)), (1, .ref (ad 32))] := hl
  rw [F_Wk_goHome] at hf
  refine lv_aload_n hx hb d_Wk_goHome_0 rfl (lv_at hl 1 rfl) ?_
  obtain ⟨r2, hk1, hf⟩ := bp_some hf
  refine g_calli hS (g_runV (As := []) (rest := []) hC hP (c_Wd_lastStreets hj ⟨o_32, a_33⟩ hk1) (rk (by decide) (by decide)) nm_Wd_lastStreets cd_Wd_lastStreets it_WideTown_Word ml_Wk_58 im_Wd_lastStreets sl_Wd_lastStreets o_32 co_Wd rfl hl.1 rfl (Nat.le_of_ble_eq_true rfl) d_Wk_goHome_1 zz) (fun H locs hP hS => ?_)
  refine lv_istore_n (lv' := [(2, .int r2), (0, .ref (ad k)), (1, .ref (ad 32))]) hx hb d_Wk_goHome_4 rfl hl (by decide) rfl (fun ls hl => ?_)
  refine lv_iconst (v := (0 : Int32)) hx hb d_Wk_goHome_5 (by decide) ?_
  refine lv_istore_n (lv' := [(3, .int (0 : Int32)), (2, .int r2), (0, .ref (ad k)), (1, .ref (ad 32))]) hx hb d_Wk_goHome_6 rfl hl (by decide) rfl (fun ls hl => ?_)
  obtain ⟨KL3_51, eKL3_51, hf⟩ := jn_some hf
  have hKL3_51 : ∀ (v3_3 : Int32) (σL3 : GS) (H : Heap) (locs : List Loc) (ls : Array Slot), va_P D vwCl (wG K ad σL3) H → va_S (GA ad) s.heap H locs → lv_has ls 4 [] → KL3_51 v3_3 σL3 = some z0 → W p l e (rmd 3) s m args below meth c H locs 0 0 (MQ below (QV D K ad z0) args s 0 0 (GA ad)) (F0 m 51 ls []) := by
    clear hf
    intro v3_3 σL3 H locs ls hP hS hl hf
    rw [eKL3_51] at hf
    try dsimp only at hf
    cases hf
    exact g_vret hC rfl hP hS d_Wk_goHome_51
  clear eKL3_51
  have hL3 : ∀ (n : Nat) (v3_3 : Int32) (σL3 : GS) (H : Heap) (locs : List Loc) (ls : Array Slot), va_P D vwCl (wG K ad σL3) H → va_S (GA ad) s.heap H locs → lv_has ls 4 [(0, .ref (ad k)), (1, .ref (ad 32)), (2, .int r2), (3, .int v3_3)] → F_Wk_goHome_7 k r2 KL3_51 n v3_3 σL3 = some z0 → W p l e (rmd 3) s m args below meth c H locs 0 0 (MQ below (QV D K ad z0) args s 0 0 (GA ad)) (F0 m 7 ls []) := by
    clear hf
    intro n
    induction n with
    | zero =>
      intro v3_3 σL3 H locs ls hP hS hl hf
      rw [F_Wk_goHome_7.eq_1] at hf
      cases hf
    | succ n ih =>
      intro v3_3 σL3 H locs ls hP hS hl hf
      rw [F_Wk_goHome_7.eq_2] at hf
      refine lv_iload_n hx hb d_Wk_goHome_7 rfl (lv_at hl 3 rfl) ?_
      refine lv_iconst (v := (5 : Int32)) hx hb d_Wk_goHome_8 (by decide) ?_
      refine lv_icmp_ge (tgt := 51) hx hb d_Wk_goHome_9 (by decide) (fun hc11 => ?_) (fun hc11 => ?_)
      · rw [if_pos hc11] at hf
        exact hKL3_51 _ _ _ _ _ hP hS (lv_sub hl [] rfl) hf
      · rw [if_neg hc11] at hf
        refine lv_iload_n hx hb d_Wk_goHome_12 rfl (lv_at hl 2 rfl) ?_
        refine lv_iload_n hx hb d_Wk_goHome_13 rfl (lv_at hl 3 rfl) ?_
        refine lv_ishr hx hb d_Wk_goHome_14 ?_
        refine lv_iconst (v := (1 : Int32)) hx hb d_Wk_goHome_15 (by decide) ?_
        refine lv_iand hx hb d_Wk_goHome_16 ?_
        refine lv_iconst (v := (1 : Int32)) hx hb d_Wk_goHome_17 (by decide) ?_
        refine lv_icmp_ne (tgt := 45) hx hb d_Wk_goHome_18 (by decide) (fun hc10 => ?_) (fun hc10 => ?_)
        · rw [if_neg hc10] at hf
          refine lv_iinc (v := v3_3 + 1) (lv' := [(3, .int (v3_3 + 1)), (0, .ref (ad k)), (1, .ref (ad 32)), (2, .int r2)]) hx hb d_Wk_goHome_45 hl (k := 3) rfl rfl (by decide) rfl (fun ls hl => ?_)
          refine lv_goto (tgt := 7) hx hb d_Wk_goHome_48 (by decide) ?_
          exact ih _ _ _ _ _ hP hS (lv_sub hl [1, 2, 3, 0] rfl) hf
        · rw [if_pos hc10] at hf
          refine lv_aload_n hx hb d_Wk_goHome_21 rfl (lv_at hl 1 rfl) ?_
          refine lv_iload_n hx hb d_Wk_goHome_22 rfl (lv_at hl 3 rfl) ?_
          obtain ⟨σ5, hk4, hf⟩ := bv_some hf
          refine g_callv hS (g_runV (As := [.int v3_3]) (rest := []) hC hP (c_Wd_go hj ⟨o_32, a_33⟩ hk4) (rk (by decide) (by decide)) nm_Wd_go cd_Wd_go it_WideTown_Word ml_Wk_61 im_Wd_go sl_Wd_go o_32 co_Wd rfl hl.1 rfl (Nat.le_of_ble_eq_true rfl) d_Wk_goHome_23 zz) (fun H locs hP hS => ?_)
          refine lv_aload_n hx hb d_Wk_goHome_26 rfl (lv_at hl 0 rfl) ?_
          refine lv_aload_n hx hb d_Wk_goHome_27 rfl (lv_at hl 1 rfl) ?_
          obtain ⟨r7, hk6, hf⟩ := bp_some hf
          refine g_calli hS (g_runV (As := []) (rest := [.ref (ad k)]) hC hP (c_Wd_code hj ⟨o_32, a_33⟩ hk6) (rk (by decide) (by decide)) nm_Wd_code cd_Wd_code it_WideTown_Word ml_Wk_51 im_Wd_code sl_Wd_code o_32 co_Wd rfl hl.1 rfl (Nat.le_of_ble_eq_true rfl) d_Wk_goHome_28 zz) (fun H locs hP hS => ?_)
          obtain ⟨σ8, eσ8, hf⟩ := jn_some hf
          refine g_puti hC hP hS h_k co_Wk 1 (by decide) rfl fl_Wk_15 rfl (to_Wk 1 (by decide)) (Nat.le_of_ble_eq_true rfl) rfl d_Wk_goHome_31 (fun H locs hP hS => ?_)
          rw [← eσ8] at hP
          refine lv_aload_n hx hb d_Wk_goHome_34 rfl (lv_at hl 0 rfl) ?_
          refine lv_dup hx hb d_Wk_goHome_35 rfl ?_
          refine g_get (v := .int (σ8.1 k 4)) hC hP h_k co_Wk 4 (by decide) rfl fl_Wk_24 rfl d_Wk_goHome_36 ?_
          refine lv_iconst (v := (1 : Int32)) hx hb d_Wk_goHome_39 (by decide) ?_
          refine lv_iadd hx hb d_Wk_goHome_40 ?_
          obtain ⟨σ9, eσ9, hf⟩ := jn_some hf
          refine g_puti hC hP hS h_k co_Wk 4 (by decide) rfl fl_Wk_24 rfl (to_Wk 4 (by decide)) (Nat.le_of_ble_eq_true rfl) rfl d_Wk_goHome_41 (fun H locs hP hS => ?_)
          rw [← eσ9] at hP
          cases hf
          exact g_vret hC rfl hP hS d_Wk_goHome_44
  exact hL3 _ _ _ _ _ _ hP hS (lv_sub hl [2, 3, 1, 0] rfl) hf
set_option maxHeartbeats 4000000 in
set_option maxRecDepth 100000 in
theorem c_Wd_goNear {l : Launch} {D : va_G} {K : Nat → ClassId} {ad : Nat → Nat} (hj : inj ad) {w : Nat} (h_w : WdOK K ad w) {x1 : Int32} {σ : GS} {z0 : Int32 × GS} (hf : F_Wd_goNear w x1 σ = some z0) : CT l D K ad y_Wd_goNear b_Wd_goNear 2 (some .boolean) 2 [.ref (ad w), .int x1] σ (QI D K ad z0.1 z0.2) := by
  refine CT.intro hj (by decide) (Nat.le_of_ble_eq_true rfl) ?_
  intro p e s m args below meth c ls hC hP hS hl
  obtain ⟨hx, hb, -, hown, hts, -⟩ := id hC
  have hl : lv_has ls 2 [(0, .ref (ad w)), (1, .int x1)] := hl
  rw [F_Wd_goNear] at hf
  refine lv_aload_n hx hb d_Wd_goNear_0 rfl (lv_at hl 0 rfl) ?_
  refine lv_iload_n hx hb d_Wd_goNear_1 rfl (lv_at hl 1 rfl) ?_
  obtain ⟨σ2, hk1, hf⟩ := bv_some hf
  refine g_callv hS (g_runV (As := [.int x1]) (rest := []) hC hP (c_Wd_go hj h_w hk1) (rk (by decide) (by decide)) nm_Wd_go cd_Wd_go it_WideTown_Word ml_Wd_26 im_Wd_go sl_Wd_go h_w.1 co_Wd rfl hl.1 rfl (Nat.le_of_ble_eq_true rfl) d_Wd_goNear_2 zz) (fun H locs hP hS => ?_)
  refine lv_aload_n hx hb d_Wd_goNear_5 rfl (lv_at hl 0 rfl) ?_
  refine g_get (v := .int (σ2.1 w 1)) hC hP h_w.1 co_Wd 1 (by decide) rfl fl_Wd_15 rfl d_Wd_goNear_6 ?_
  refine lv_bipush (v := (9 : Int32)) hx hb d_Wd_goNear_9 (by decide) ?_
  refine lv_icmp_gt (tgt := 16) hx hb d_Wd_goNear_11 (by decide) (fun hc5 => ?_) (fun hc5 => ?_)
  · rw [if_pos hc5] at hf
    refine lv_aload_n hx hb d_Wd_goNear_16 rfl (lv_at hl 0 rfl) ?_
    refine lv_iload_n hx hb d_Wd_goNear_17 rfl (lv_at hl 1 rfl) ?_
    obtain ⟨σ4, hk3, hf⟩ := bv_some hf
    refine g_callv hS (g_runV (As := [.int x1]) (rest := []) hC hP (c_Wd_go hj h_w hk3) (rk (by decide) (by decide)) nm_Wd_go cd_Wd_go it_WideTown_Word ml_Wd_26 im_Wd_go sl_Wd_go h_w.1 co_Wd rfl hl.1 rfl (Nat.le_of_ble_eq_true rfl) d_Wd_goNear_18 zz) (fun H locs hP hS => ?_)
    refine lv_iconst (v := (0 : Int32)) hx hb d_Wd_goNear_21 (by decide) ?_
    cases hf
    exact g_zret hC rfl (by decide) hP hS d_Wd_goNear_22
  · rw [if_neg hc5] at hf
    refine lv_iconst (v := (1 : Int32)) hx hb d_Wd_goNear_14 (by decide) ?_
    cases hf
    exact g_zret hC rfl (by decide) hP hS d_Wd_goNear_15
set_option maxHeartbeats 4000000 in
set_option maxRecDepth 100000 in
theorem c_Wk_isOf {l : Launch} {D : va_G} {K : Nat → ClassId} {ad : Nat → Nat} (hj : inj ad)   {x0 : Int32} {x1 : Int32} {σ : GS} {z0 : Int32} (hf : F_Wk_isOf x0 x1 = some z0) : CT l D K ad y_Wk_isOf b_Wk_isOf 2 (some .boolean) 0 [.int x0, .int x1] σ (QI D K ad z0 σ) := by
  refine CT.intro hj (by decide) (Nat.le_of_ble_eq_true rfl) ?_
  intro p e s m args below meth c ls hC hP hS hl
  obtain ⟨hx, hb, -, hown, hts, -⟩ := id hC
  have hl : lv_has ls 2 [(0, .int x0), (1, .int x1)] := hl
  rw [F_Wk_isOf] at hf
  refine lv_iload_n hx hb d_Wk_isOf_0 rfl (lv_at hl 0 rfl) ?_
  refine lv_iload_n hx hb d_Wk_isOf_1 rfl (lv_at hl 1 rfl) ?_
  refine lv_icmp_eq (tgt := 29) hx hb d_Wk_isOf_2 (by decide) (fun hc7 => ?_) (fun hc7 => ?_)
  · rw [if_pos hc7] at hf
    refine lv_iconst (v := (1 : Int32)) hx hb d_Wk_isOf_29 (by decide) ?_
    refine lv_goto (tgt := 34) hx hb d_Wk_isOf_30 (by decide) ?_
    cases hf
    exact g_zret hC rfl (by decide) hP hS d_Wk_isOf_34
  · rw [if_neg hc7] at hf
    refine lv_iload_n hx hb d_Wk_isOf_5 rfl (lv_at hl 1 rfl) ?_
    refine lv_if_eq (tgt := 29) hx hb d_Wk_isOf_6 (by decide) (fun hc6 => ?_) (fun hc6 => ?_)
    · rw [if_pos hc6] at hf
      refine lv_iconst (v := (1 : Int32)) hx hb d_Wk_isOf_29 (by decide) ?_
      refine lv_goto (tgt := 34) hx hb d_Wk_isOf_30 (by decide) ?_
      cases hf
      exact g_zret hC rfl (by decide) hP hS d_Wk_isOf_34
    · rw [if_neg hc6] at hf
      refine lv_iload_n hx hb d_Wk_isOf_9 rfl (lv_at hl 0 rfl) ?_
      refine lv_iconst (v := (4 : Int32)) hx hb d_Wk_isOf_10 (by decide) ?_
      obtain ⟨J1, eJ1, hf⟩ := jn_some hf
      have hJ1 : ∀ (dJ1 : Unit) (H : Heap) (locs : List Loc) (ls : Array Slot), va_P D vwCl (wG K ad σ) H → va_S (GA ad) s.heap H locs → lv_has ls 2 [(0, .int x0), (1, .int x1)] → J1 dJ1 = some z0 → W p l e (rmd 0) s m args below meth c H locs 0 0 (MQ below (QI D K ad z0 σ) args s 0 0 (GA ad)) (F0 m 19 ls []) := by
        clear hf
        intro dJ1 H locs ls hP hS hl hf
        rw [eJ1] at hf
        try dsimp only at hf
        refine lv_iload_n hx hb d_Wk_isOf_19 rfl (lv_at hl 0 rfl) ?_
        refine lv_iconst (v := (5 : Int32)) hx hb d_Wk_isOf_20 (by decide) ?_
        refine lv_icmp_ne (tgt := 33) hx hb d_Wk_isOf_21 (by decide) (fun hc3 => ?_) (fun hc3 => ?_)
        · rw [if_neg hc3] at hf
          refine lv_iconst (v := (0 : Int32)) hx hb d_Wk_isOf_33 (by decide) ?_
          cases hf
          exact g_zret hC rfl (by decide) hP hS d_Wk_isOf_34
        · rw [if_pos hc3] at hf
          refine lv_iload_n hx hb d_Wk_isOf_24 rfl (lv_at hl 1 rfl) ?_
          refine lv_iconst (v := (2 : Int32)) hx hb d_Wk_isOf_25 (by decide) ?_
          refine lv_icmp_ne (tgt := 33) hx hb d_Wk_isOf_26 (by decide) (fun hc2 => ?_) (fun hc2 => ?_)
          · rw [if_neg hc2] at hf
            refine lv_iconst (v := (0 : Int32)) hx hb d_Wk_isOf_33 (by decide) ?_
            cases hf
            exact g_zret hC rfl (by decide) hP hS d_Wk_isOf_34
          · rw [if_pos hc2] at hf
            refine lv_iconst (v := (1 : Int32)) hx hb d_Wk_isOf_29 (by decide) ?_
            refine lv_goto (tgt := 34) hx hb d_Wk_isOf_30 (by decide) ?_
            cases hf
            exact g_zret hC rfl (by decide) hP hS d_Wk_isOf_34
      clear eJ1
      refine lv_icmp_ne (tgt := 19) hx hb d_Wk_isOf_11 (by decide) (fun hc5 => ?_) (fun hc5 => ?_)
      · rw [if_neg hc5] at hf
        exact hJ1 _ _ _ _ hP hS (lv_sub hl [0, 1] rfl) hf
      · rw [if_pos hc5] at hf
        refine lv_iload_n hx hb d_Wk_isOf_14 rfl (lv_at hl 1 rfl) ?_
        refine lv_iconst (v := (1 : Int32)) hx hb d_Wk_isOf_15 (by decide) ?_
        refine lv_icmp_eq (tgt := 29) hx hb d_Wk_isOf_16 (by decide) (fun hc4 => ?_) (fun hc4 => ?_)
        · rw [if_pos hc4] at hf
          refine lv_iconst (v := (1 : Int32)) hx hb d_Wk_isOf_29 (by decide) ?_
          refine lv_goto (tgt := 34) hx hb d_Wk_isOf_30 (by decide) ?_
          cases hf
          exact g_zret hC rfl (by decide) hP hS d_Wk_isOf_34
        · rw [if_neg hc4] at hf
          exact hJ1 _ _ _ _ hP hS (lv_sub hl [0, 1] rfl) hf
set_option maxHeartbeats 4000000 in
set_option maxRecDepth 100000 in
theorem c_Wk_is {l : Launch} {D : va_G} {K : Nat → ClassId} {ad : Nat → Nat} (hj : inj ad) {k : Nat} (h_k : WkOK K ad k) {x1 : Int32} {σ : GS} {z0 : Int32} (hf : F_Wk_is k x1 σ = some z0) : CT l D K ad y_Wk_is b_Wk_is 2 (some .boolean) 1 [.ref (ad k), .int x1] σ (QI D K ad z0 σ) := by
  refine CT.intro hj (by decide) (Nat.le_of_ble_eq_true rfl) ?_
  intro p e s m args below meth c ls hC hP hS hl
  obtain ⟨hx, hb, -, hown, hts, -⟩ := id hC
  have hl : lv_has ls 2 [(0, .ref (ad k)), (1, .int x1)] := hl
  rw [F_Wk_is] at hf
  refine lv_aload_n hx hb d_Wk_is_0 rfl (lv_at hl 0 rfl) ?_
  refine g_get (v := .int (σ.1 k 0)) hC hP h_k co_Wk 0 (by decide) rfl fl_Wk_9 rfl d_Wk_is_1 ?_
  refine lv_iload_n hx hb d_Wk_is_4 rfl (lv_at hl 1 rfl) ?_
  obtain ⟨r2, hk1, hf⟩ := bp_some hf
  refine g_calli hS (g_runS (As := [.int (σ.1 k 0), .int x1]) (rest := []) hC hP (c_Wk_isOf hj  hk1) (rk (by decide) (by decide)) nm_Wk_isOf cd_Wk_isOf it_WideTown_Walker ml_Wk_27 sc_Wk_isOf rfl hl.1 rfl (Nat.le_of_ble_eq_true rfl) d_Wk_is_5 zz) (fun H locs hP hS => ?_)
  obtain ⟨hz, hf⟩ := gd_some hf
  cases hf
  exact g_zret hC rfl hz hP hS d_Wk_is_8
set_option maxHeartbeats 4000000 in
set_option maxRecDepth 100000 in
theorem c_Wk_turnByTurns {l : Launch} {D : va_G} {K : Nat → ClassId} {ad : Nat → Nat} (hj : inj ad) {k : Nat} (h_k : WkOK K ad k) {x1 : Int32} {σ : GS} {z0 : GS} (hf : F_Wk_turnByTurns k x1 σ = some z0) : CT l D K ad y_Wk_turnByTurns b_Wk_turnByTurns 3 none 0 [.ref (ad k), .int x1] σ (QV D K ad z0) := by
  refine CT.intro hj (by decide) (Nat.le_of_ble_eq_true rfl) ?_
  intro p e s m args below meth c ls hC hP hS hl
  obtain ⟨hx, hb, -, hown, hts, -⟩ := id hC
  have hl : lv_has ls 3 [(0, .ref (ad k)), (1, .int x1)] := hl
  rw [F_Wk_turnByTurns] at hf
  refine lv_aload_n hx hb d_Wk_turnByTurns_0 rfl (lv_at hl 0 rfl) ?_
  refine g_get (v := .int (σ.1 k 3)) hC hP h_k co_Wk 3 (by decide) rfl fl_Wk_21 rfl d_Wk_turnByTurns_1 ?_
  obtain ⟨J1, eJ1, hf⟩ := jn_some hf
  have hJ1 : ∀ (tJ1 : Int32) (H : Heap) (locs : List Loc) (ls : Array Slot), va_P D vwCl (wG K ad σ) H → va_S (GA ad) s.heap H locs → lv_has ls 3 [(0, .ref (ad k))] → J1 tJ1 = some z0 → W p l e (rmd 0) s m args below meth c H locs 0 0 (MQ below (QV D K ad z0) args s 0 0 (GA ad)) (F0 m 14 ls [.int tJ1]) := by
    clear hf
    intro tJ1 H locs ls hP hS hl hf
    rw [eJ1] at hf
    try dsimp only at hf
    refine lv_istore_n (lv' := [(2, .int tJ1), (0, .ref (ad k))]) hx hb d_Wk_turnByTurns_14 rfl hl (by decide) rfl (fun ls hl => ?_)
    refine lv_aload_n hx hb d_Wk_turnByTurns_15 rfl (lv_at hl 1 rfl) ?_
    refine lv_aload_n hx hb d_Wk_turnByTurns_16 rfl (lv_at hl 1 rfl) ?_
    refine g_get (v := .int (σ.1 k 2)) hC hP h_k co_Wk 2 (by decide) rfl fl_Wk_18 rfl d_Wk_turnByTurns_17 ?_
    refine lv_iload_n hx hb d_Wk_turnByTurns_20 rfl (lv_at hl 0 rfl) ?_
    refine lv_iadd hx hb d_Wk_turnByTurns_21 ?_
    refine lv_iconst (v := (5 : Int32)) hx hb d_Wk_turnByTurns_22 (by decide) ?_
    refine lv_irem hx hb d_Wk_turnByTurns_23 (by decide) ?_
    obtain ⟨σ2, eσ2, hf⟩ := jn_some hf
    refine g_puti hC hP hS h_k co_Wk 2 (by decide) rfl fl_Wk_18 rfl (to_Wk 2 (by decide)) (Nat.le_of_ble_eq_true rfl) rfl d_Wk_turnByTurns_24 (fun H locs hP hS => ?_)
    rw [← eσ2] at hP
    refine lv_aload_n hx hb d_Wk_turnByTurns_27 rfl (lv_at hl 1 rfl) ?_
    refine lv_iconst (v := (1 : Int32)) hx hb d_Wk_turnByTurns_28 (by decide) ?_
    refine lv_aload_n hx hb d_Wk_turnByTurns_29 rfl (lv_at hl 1 rfl) ?_
    refine g_get (v := .int (σ2.1 k 3)) hC hP h_k co_Wk 3 (by decide) rfl fl_Wk_21 rfl d_Wk_turnByTurns_30 ?_
    refine lv_isub hx hb d_Wk_turnByTurns_33 ?_
    obtain ⟨σ3, eσ3, hf⟩ := jn_some hf
    refine g_puti hC hP hS h_k co_Wk 3 (by decide) rfl fl_Wk_21 rfl (to_Wk 3 (by decide)) (Nat.le_of_ble_eq_true rfl) rfl d_Wk_turnByTurns_34 (fun H locs hP hS => ?_)
    rw [← eσ3] at hP
    cases hf
    exact g_vret hC rfl hP hS d_Wk_turnByTurns_37
  clear eJ1
  refine lv_if_ne (tgt := 11) hx hb d_Wk_turnByTurns_4 (by decide) (fun hc4 => ?_) (fun hc4 => ?_)
  · rw [if_neg hc4] at hf
    refine lv_iconst (v := (5 : Int32)) hx hb d_Wk_turnByTurns_11 (by decide) ?_
    refine lv_iload_n hx hb d_Wk_turnByTurns_12 rfl (lv_at hl 1 rfl) ?_
    refine lv_isub hx hb d_Wk_turnByTurns_13 ?_
    exact hJ1 _ _ _ _ hP hS (lv_sub hl [0] rfl) hf
  · rw [if_pos hc4] at hf
    refine lv_iload_n hx hb d_Wk_turnByTurns_7 rfl (lv_at hl 1 rfl) ?_
    refine lv_goto (tgt := 14) hx hb d_Wk_turnByTurns_8 (by decide) ?_
    exact hJ1 _ _ _ _ hP hS (lv_sub hl [0] rfl) hf
set_option maxHeartbeats 4000000 in
set_option maxRecDepth 100000 in
theorem c_Wk_turn {l : Launch} {D : va_G} {K : Nat → ClassId} {ad : Nat → Nat} (hj : inj ad) {k : Nat} (h_k : WkOK K ad k)  {σ : GS} {z0 : GS} (hf : F_Wk_turn k σ = some z0) : CT l D K ad y_Wk_turn b_Wk_turn 1 none 2 [.ref (ad k)] σ (QV D K ad z0) := by
  refine CT.intro hj (by decide) (Nat.le_of_ble_eq_true rfl) ?_
  intro p e s m args below meth c ls hC hP hS hl
  obtain ⟨hx, hb, -, hown, hts, -⟩ := id hC
  have hl : lv_has ls 1 [(0, .ref (ad k))] := hl
  rw [F_Wk_turn] at hf
  refine lv_aload_n hx hb d_Wk_turn_0 rfl (lv_at hl 0 rfl) ?_
  refine lv_iconst (v := (1 : Int32)) hx hb d_Wk_turn_1 (by decide) ?_
  obtain ⟨r2, hk1, hf⟩ := bp_some hf
  refine g_calli hS (g_runV (As := [.int (1 : Int32)]) (rest := []) hC hP (c_Wk_is hj h_k hk1) (rk (by decide) (by decide)) nm_Wk_is cd_Wk_is it_WideTown_Walker ml_Wk_64 im_Wk_is sl_Wk_is h_k co_Wk rfl hl.1 rfl (Nat.le_of_ble_eq_true rfl) d_Wk_turn_2 zz) (fun H locs hP hS => ?_)
  refine lv_if_eq (tgt := 16) hx hb d_Wk_turn_5 (by decide) (fun hc10 => ?_) (fun hc10 => ?_)
  · rw [if_pos hc10] at hf
    refine lv_aload_n hx hb d_Wk_turn_16 rfl (lv_at hl 0 rfl) ?_
    refine g_get (v := .int (σ.1 k 0)) hC hP h_k co_Wk 0 (by decide) rfl fl_Wk_9 rfl d_Wk_turn_17 ?_
    refine lv_iconst (v := (2 : Int32)) hx hb d_Wk_turn_20 (by decide) ?_
    refine lv_icmp_ne (tgt := 32) hx hb d_Wk_turn_21 (by decide) (fun hc7 => ?_) (fun hc7 => ?_)
    · rw [if_neg hc7] at hf
      refine lv_aload_n hx hb d_Wk_turn_32 rfl (lv_at hl 0 rfl) ?_
      refine g_get (v := .int (σ.1 k 0)) hC hP h_k co_Wk 0 (by decide) rfl fl_Wk_9 rfl d_Wk_turn_33 ?_
      refine lv_iconst (v := (5 : Int32)) hx hb d_Wk_turn_36 (by decide) ?_
      refine lv_icmp_ne (tgt := 52) hx hb d_Wk_turn_37 (by decide) (fun hc4 => ?_) (fun hc4 => ?_)
      · rw [if_neg hc4] at hf
        cases hf
        exact g_vret hC rfl hP hS d_Wk_turn_52
      · rw [if_pos hc4] at hf
        refine lv_aload_n hx hb d_Wk_turn_40 rfl (lv_at hl 0 rfl) ?_
        refine lv_aload_n hx hb d_Wk_turn_41 rfl (lv_at hl 0 rfl) ?_
        refine g_get (v := .int (σ.1 k 2)) hC hP h_k co_Wk 2 (by decide) rfl fl_Wk_18 rfl d_Wk_turn_42 ?_
        refine lv_iconst (v := (1 : Int32)) hx hb d_Wk_turn_45 (by decide) ?_
        refine lv_iadd hx hb d_Wk_turn_46 ?_
        refine lv_iconst (v := (5 : Int32)) hx hb d_Wk_turn_47 (by decide) ?_
        refine lv_irem hx hb d_Wk_turn_48 (by decide) ?_
        obtain ⟨σ3, eσ3, hf⟩ := jn_some hf
        refine g_puti hC hP hS h_k co_Wk 2 (by decide) rfl fl_Wk_18 rfl (to_Wk 2 (by decide)) (Nat.le_of_ble_eq_true rfl) rfl d_Wk_turn_49 (fun H locs hP hS => ?_)
        rw [← eσ3] at hP
        cases hf
        exact g_vret hC rfl hP hS d_Wk_turn_52
    · rw [if_pos hc7] at hf
      refine lv_aload_n hx hb d_Wk_turn_24 rfl (lv_at hl 0 rfl) ?_
      refine lv_iconst (v := (1 : Int32)) hx hb d_Wk_turn_25 (by decide) ?_
      obtain ⟨σ6, hk5, hf⟩ := bv_some hf
      refine g_callv hS (g_runV (As := [.int (1 : Int32)]) (rest := []) hC hP (c_Wk_turnByTurns hj h_k hk5) (rk (by decide) (by decide)) nm_Wk_turnByTurns cd_Wk_turnByTurns it_WideTown_Walker ml_Wk_67 im_Wk_turnByTurns sl_Wk_turnByTurns h_k co_Wk rfl hl.1 rfl (Nat.le_of_ble_eq_true rfl) d_Wk_turn_26 zz) (fun H locs hP hS => ?_)
      refine lv_goto (tgt := 52) hx hb d_Wk_turn_29 (by decide) ?_
      cases hf
      exact g_vret hC rfl hP hS d_Wk_turn_52
  · rw [if_neg hc10] at hf
    refine lv_aload_n hx hb d_Wk_turn_8 rfl (lv_at hl 0 rfl) ?_
    refine lv_iconst (v := (2 : Int32)) hx hb d_Wk_turn_9 (by decide) ?_
    obtain ⟨σ9, hk8, hf⟩ := bv_some hf
    refine g_callv hS (g_runV (As := [.int (2 : Int32)]) (rest := []) hC hP (c_Wk_turnByTurns hj h_k hk8) (rk (by decide) (by decide)) nm_Wk_turnByTurns cd_Wk_turnByTurns it_WideTown_Walker ml_Wk_67 im_Wk_turnByTurns sl_Wk_turnByTurns h_k co_Wk rfl hl.1 rfl (Nat.le_of_ble_eq_true rfl) d_Wk_turn_10 zz) (fun H locs hP hS => ?_)
    refine lv_goto (tgt := 52) hx hb d_Wk_turn_13 (by decide) ?_
    cases hf
    exact g_vret hC rfl hP hS d_Wk_turn_52
set_option maxHeartbeats 4000000 in
set_option maxRecDepth 100000 in
theorem c_Wk_passStreet {l : Launch} {D : va_G} {K : Nat → ClassId} {ad : Nat → Nat} (hj : inj ad) {k : Nat} (h_k : WkOK K ad k)  {σ : GS} {z0 : GS} (hf : F_Wk_passStreet k σ = some z0) : CT l D K ad y_Wk_passStreet b_Wk_passStreet 2 none 4 [.ref (ad k), .ref (ad 32)] σ (QV D K ad z0) := by
  refine CT.intro hj (by decide) (Nat.le_of_ble_eq_true rfl) ?_
  intro p e s m args below meth c ls hC hP hS hl
  obtain ⟨hx, hb, -, hown, hts, -⟩ := id hC
  have hl : lv_has ls 2 [(0, .ref (ad k)), (1, .ref (ad 32))] := hl
  rw [F_Wk_passStreet] at hf
  refine lv_aload_n hx hb d_Wk_passStreet_0 rfl (lv_at hl 1 rfl) ?_
  obtain ⟨σ2, hk1, hf⟩ := bv_some hf
  refine g_callv hS (g_runV (As := []) (rest := []) hC hP (c_Wd_clear hj ⟨o_32, a_33⟩ hk1) (rk (by decide) (by decide)) nm_Wd_clear cd_Wd_clear it_WideTown_Word ml_Wk_35 im_Wd_clear sl_Wd_clear o_32 co_Wd rfl hl.1 rfl (Nat.le_of_ble_eq_true rfl) d_Wk_passStreet_1 zz) (fun H locs hP hS => ?_)
  refine lv_aload_n hx hb d_Wk_passStreet_4 rfl (lv_at hl 1 rfl) ?_
  refine lv_aload_n hx hb d_Wk_passStreet_5 rfl (lv_at hl 0 rfl) ?_
  refine g_get (v := .int (σ2.1 k 1)) hC hP h_k co_Wk 1 (by decide) rfl fl_Wk_15 rfl d_Wk_passStreet_6 ?_
  obtain ⟨σ4, hk3, hf⟩ := bv_some hf
  refine g_callv hS (g_runV (As := [.int (σ2.1 k 1)]) (rest := []) hC hP (c_Wd_goAlong hj ⟨o_32, a_33⟩ hk3) (rk (by decide) (by decide)) nm_Wd_goAlong cd_Wd_goAlong it_WideTown_Word ml_Wk_40 im_Wd_goAlong sl_Wd_goAlong o_32 co_Wd rfl hl.1 rfl (Nat.le_of_ble_eq_true rfl) d_Wk_passStreet_9 zz) (fun H locs hP hS => ?_)
  refine lv_aload_n hx hb d_Wk_passStreet_12 rfl (lv_at hl 0 rfl) ?_
  refine g_get (v := .int (σ4.1 k 0)) hC hP h_k co_Wk 0 (by decide) rfl fl_Wk_9 rfl d_Wk_passStreet_13 ?_
  refine lv_iconst (v := (3 : Int32)) hx hb d_Wk_passStreet_16 (by decide) ?_
  refine lv_icmp_ne (tgt := 26) hx hb d_Wk_passStreet_17 (by decide) (fun hc18 => ?_) (fun hc18 => ?_)
  · rw [if_neg hc18] at hf
    refine lv_aload_n hx hb d_Wk_passStreet_26 rfl (lv_at hl 1 rfl) ?_
    refine lv_aload_n hx hb d_Wk_passStreet_27 rfl (lv_at hl 0 rfl) ?_
    refine g_get (v := .int (σ4.1 k 2)) hC hP h_k co_Wk 2 (by decide) rfl fl_Wk_18 rfl d_Wk_passStreet_28 ?_
    obtain ⟨r6, σ7, hk5, hf⟩ := bc_some hf
    refine g_calli hS (g_runV (As := [.int (σ4.1 k 2)]) (rest := []) hC hP (c_Wd_goNear hj ⟨o_32, a_33⟩ hk5) (rk (by decide) (by decide)) nm_Wd_goNear cd_Wd_goNear it_WideTown_Word ml_Wk_47 im_Wd_goNear sl_Wd_goNear o_32 co_Wd rfl hl.1 rfl (Nat.le_of_ble_eq_true rfl) d_Wk_passStreet_31 zz) (fun H locs hP hS => ?_)
    obtain ⟨J8, eJ8, hf⟩ := jn_some hf
    have hJ8 : ∀ (σJ8 : GS) (H : Heap) (locs : List Loc) (ls : Array Slot), va_P D vwCl (wG K ad σJ8) H → va_S (GA ad) s.heap H locs → lv_has ls 2 [(0, .ref (ad k)), (1, .ref (ad 32))] → J8 σJ8 = some z0 → W p l e (rmd 4) s m args below meth c H locs 0 0 (MQ below (QV D K ad z0) args s 0 0 (GA ad)) (F0 m 47 ls []) := by
      clear hf
      intro σJ8 H locs ls hP hS hl hf
      rw [eJ8] at hf
      try dsimp only at hf
      refine lv_aload_n hx hb d_Wk_passStreet_47 rfl (lv_at hl 0 rfl) ?_
      refine lv_aload_n hx hb d_Wk_passStreet_48 rfl (lv_at hl 1 rfl) ?_
      obtain ⟨r10, hk9, hf⟩ := bp_some hf
      refine g_calli hS (g_runV (As := []) (rest := [.ref (ad k)]) hC hP (c_Wd_code hj ⟨o_32, a_33⟩ hk9) (rk (by decide) (by decide)) nm_Wd_code cd_Wd_code it_WideTown_Word ml_Wk_51 im_Wd_code sl_Wd_code o_32 co_Wd rfl hl.1 rfl (Nat.le_of_ble_eq_true rfl) d_Wk_passStreet_49 zz) (fun H locs hP hS => ?_)
      obtain ⟨σ11, eσ11, hf⟩ := jn_some hf
      refine g_puti hC hP hS h_k co_Wk 1 (by decide) rfl fl_Wk_15 rfl (to_Wk 1 (by decide)) (Nat.le_of_ble_eq_true rfl) rfl d_Wk_passStreet_52 (fun H locs hP hS => ?_)
      rw [← eσ11] at hP
      refine lv_aload_n hx hb d_Wk_passStreet_55 rfl (lv_at hl 0 rfl) ?_
      obtain ⟨σ13, hk12, hf⟩ := bv_some hf
      refine g_callv hS (g_runV (As := []) (rest := []) hC hP (c_Wk_turn hj h_k hk12) (rk (by decide) (by decide)) nm_Wk_turn cd_Wk_turn it_WideTown_Walker ml_Wk_55 im_Wk_turn sl_Wk_turn h_k co_Wk rfl hl.1 rfl (Nat.le_of_ble_eq_true rfl) d_Wk_passStreet_56 zz) (fun H locs hP hS => ?_)
      cases hf
      exact g_vret hC rfl hP hS d_Wk_passStreet_59
    clear eJ8
    refine lv_if_eq (tgt := 47) hx hb d_Wk_passStreet_34 (by decide) (fun hc15 => ?_) (fun hc15 => ?_)
    · rw [if_pos hc15] at hf
      exact hJ8 _ _ _ _ hP hS (lv_sub hl [0, 1] rfl) hf
    · rw [if_neg hc15] at hf
      refine lv_aload_n hx hb d_Wk_passStreet_37 rfl (lv_at hl 0 rfl) ?_
      refine lv_dup hx hb d_Wk_passStreet_38 rfl ?_
      refine g_get (v := .int (σ7.1 k 4)) hC hP h_k co_Wk 4 (by decide) rfl fl_Wk_24 rfl d_Wk_passStreet_39 ?_
      refine lv_iconst (v := (1 : Int32)) hx hb d_Wk_passStreet_42 (by decide) ?_
      refine lv_iadd hx hb d_Wk_passStreet_43 ?_
      obtain ⟨σ14, eσ14, hf⟩ := jn_some hf
      refine g_puti hC hP hS h_k co_Wk 4 (by decide) rfl fl_Wk_24 rfl (to_Wk 4 (by decide)) (Nat.le_of_ble_eq_true rfl) rfl d_Wk_passStreet_44 (fun H locs hP hS => ?_)
      rw [← eσ14] at hP
      exact hJ8 _ _ _ _ hP hS (lv_sub hl [0, 1] rfl) hf
  · rw [if_pos hc18] at hf
    refine lv_aload_n hx hb d_Wk_passStreet_20 rfl (lv_at hl 0 rfl) ?_
    refine lv_aload_n hx hb d_Wk_passStreet_21 rfl (lv_at hl 1 rfl) ?_
    obtain ⟨σ17, hk16, hf⟩ := bv_some hf
    refine g_callv hS (g_runV (As := [.ref (ad 32)]) (rest := []) hC hP (c_Wk_goHome hj h_k hk16) (rk (by decide) (by decide)) nm_Wk_goHome cd_Wk_goHome it_WideTown_Walker ml_Wk_44 im_Wk_goHome sl_Wk_goHome h_k co_Wk rfl hl.1 rfl (Nat.le_of_ble_eq_true rfl) d_Wk_passStreet_22 zz) (fun H locs hP hS => ?_)
    cases hf
    exact g_vret hC rfl hP hS d_Wk_passStreet_25
set_option maxHeartbeats 4000000 in
set_option maxRecDepth 100000 in
theorem c_Wk_passHour {l : Launch} {D : va_G} {K : Nat → ClassId} {ad : Nat → Nat} (hj : inj ad) {k : Nat} (h_k : WkOK K ad k)  {σ : GS} {z0 : GS} (hf : F_Wk_passHour k σ = some z0) : CT l D K ad y_Wk_passHour b_Wk_passHour 2 none 5 [.ref (ad k), .ref (ad 32)] σ (QV D K ad z0) := by
  refine CT.intro hj (by decide) (Nat.le_of_ble_eq_true rfl) ?_
  intro p e s m args below meth c ls hC hP hS hl
  obtain ⟨hx, hb, -, hown, hts, -⟩ := id hC
  have hl : lv_has ls 2 [(0, .ref (ad k)), (1, .ref (ad 32))] := hl
  rw [F_Wk_passHour] at hf
  refine lv_aload_n hx hb d_Wk_passHour_0 rfl (lv_at hl 0 rfl) ?_
  refine lv_aload_n hx hb d_Wk_passHour_1 rfl (lv_at hl 1 rfl) ?_
  obtain ⟨σ2, hk1, hf⟩ := bv_some hf
  refine g_callv hS (g_runV (As := [.ref (ad 32)]) (rest := []) hC hP (c_Wk_passStreet hj h_k hk1) (rk (by decide) (by decide)) nm_Wk_passStreet cd_Wk_passStreet it_WideTown_Walker ml_Wk_31 im_Wk_passStreet sl_Wk_passStreet h_k co_Wk rfl hl.1 rfl (Nat.le_of_ble_eq_true rfl) d_Wk_passHour_2 zz) (fun H locs hP hS => ?_)
  refine lv_aload_n hx hb d_Wk_passHour_5 rfl (lv_at hl 0 rfl) ?_
  refine g_get (v := .int (σ2.1 k 0)) hC hP h_k co_Wk 0 (by decide) rfl fl_Wk_9 rfl d_Wk_passHour_6 ?_
  refine lv_iconst (v := (4 : Int32)) hx hb d_Wk_passHour_9 (by decide) ?_
  refine lv_icmp_ne (tgt := 18) hx hb d_Wk_passHour_10 (by decide) (fun hc5 => ?_) (fun hc5 => ?_)
  · rw [if_neg hc5] at hf
    cases hf
    exact g_vret hC rfl hP hS d_Wk_passHour_18
  · rw [if_pos hc5] at hf
    refine lv_aload_n hx hb d_Wk_passHour_13 rfl (lv_at hl 0 rfl) ?_
    refine lv_aload_n hx hb d_Wk_passHour_14 rfl (lv_at hl 1 rfl) ?_
    obtain ⟨σ4, hk3, hf⟩ := bv_some hf
    refine g_callv hS (g_runV (As := [.ref (ad 32)]) (rest := []) hC hP (c_Wk_passStreet hj h_k hk3) (rk (by decide) (by decide)) nm_Wk_passStreet cd_Wk_passStreet it_WideTown_Walker ml_Wk_31 im_Wk_passStreet sl_Wk_passStreet h_k co_Wk rfl hl.1 rfl (Nat.le_of_ble_eq_true rfl) d_Wk_passHour_15 zz) (fun H locs hP hS => ?_)
    cases hf
    exact g_vret hC rfl hP hS d_Wk_passHour_18
set_option maxHeartbeats 4000000 in
set_option maxRecDepth 100000 in
theorem c_Tn_passHour {l : Launch} {D : va_G} {K : Nat → ClassId} {ad : Nat → Nat} (hj : inj ad)    {σ : GS} {z0 : GS} (hf : F_Tn_passHour σ = some z0) : CT l D K ad y_Tn_passHour b_Tn_passHour 4 none 6 [.ref (ad 19), .ref (ad 34), .ref (ad 32)] σ (QV D K ad z0) := by
  refine CT.intro hj (by decide) (Nat.le_of_ble_eq_true rfl) ?_
  intro p e s m args below meth c ls hC hP hS hl
  obtain ⟨hx, hb, -, hown, hts, -⟩ := id hC
  have hl : lv_has ls 4 [(0, .ref (ad 19)), (1, .ref (ad 34)), (2, .ref (ad 32))] := hl
  rw [F_Tn_passHour] at hf
  refine lv_aload_n hx hb d_Tn_passHour_0 rfl (lv_at hl 0 rfl) ?_
  refine g_get (v := .int (σ.1 19 3)) hC hP o_19 co_Tn 3 (by decide) rfl fl_Tn_22 rfl d_Tn_passHour_1 ?_
  refine lv_bipush (v := (60 : Int32)) hx hb d_Tn_passHour_4 (by decide) ?_
  refine lv_icmp_lt (tgt := 10) hx hb d_Tn_passHour_6 (by decide) (fun hc12 => ?_) (fun hc12 => ?_)
  · rw [if_pos hc12] at hf
    refine lv_aload_n hx hb d_Tn_passHour_10 rfl (lv_at hl 0 rfl) ?_
    refine g_get (v := .ref (ad 21)) hC hP o_19 co_Tn 1 (by decide) rfl fl_Tn_15 rfl d_Tn_passHour_11 ?_
    refine lv_aload_n hx hb d_Tn_passHour_14 rfl (lv_at hl 0 rfl) ?_
    refine g_get (v := .int (σ.1 19 3)) hC hP o_19 co_Tn 3 (by decide) rfl fl_Tn_22 rfl d_Tn_passHour_15 ?_
    refine lv_bipush (v := (20 : Int32)) hx hb d_Tn_passHour_18 (by decide) ?_
    refine lv_imul hx hb d_Tn_passHour_20 ?_
    refine lv_aload_n hx hb d_Tn_passHour_21 rfl (lv_at hl 0 rfl) ?_
    refine g_get (v := .ref (ad 21)) hC hP o_19 co_Tn 1 (by decide) rfl fl_Tn_15 rfl d_Tn_passHour_22 ?_
    refine lv_aload_n hx hb d_Tn_passHour_25 rfl (lv_at hl 0 rfl) ?_
    refine g_get (v := .int (σ.1 19 3)) hC hP o_19 co_Tn 3 (by decide) rfl fl_Tn_22 rfl d_Tn_passHour_26 ?_
    refine lv_iconst (v := (1 : Int32)) hx hb d_Tn_passHour_29 (by decide) ?_
    refine lv_iadd hx hb d_Tn_passHour_30 ?_
    refine lv_bipush (v := (20 : Int32)) hx hb d_Tn_passHour_31 (by decide) ?_
    refine lv_imul hx hb d_Tn_passHour_33 ?_
    refine lv_bipush (v := (20 : Int32)) hx hb d_Tn_passHour_34 (by decide) ?_
    obtain ⟨hg2, hf⟩ := gd_some hf
    obtain ⟨σ1, eσ1, hf⟩ := jn_some hf
    refine g_copy hC hP hS hl.1 a_21 a_21 ml_Tn_54 na_copy st_copy it_java_lang_System hg2 (Nat.le_of_ble_eq_true rfl) (Nat.le_of_ble_eq_true rfl) d_Tn_passHour_36 (fun H locs hP hS => ?_)
    rw [← eσ1] at hP
    refine lv_aload_n hx hb d_Tn_passHour_39 rfl (lv_at hl 0 rfl) ?_
    refine lv_dup hx hb d_Tn_passHour_40 rfl ?_
    refine g_get (v := .int (σ1.1 19 3)) hC hP o_19 co_Tn 3 (by decide) rfl fl_Tn_22 rfl d_Tn_passHour_41 ?_
    refine lv_iconst (v := (1 : Int32)) hx hb d_Tn_passHour_44 (by decide) ?_
    refine lv_iadd hx hb d_Tn_passHour_45 ?_
    obtain ⟨σ3, eσ3, hf⟩ := jn_some hf
    refine g_puti hC hP hS o_19 co_Tn 3 (by decide) rfl fl_Tn_22 rfl (to_Tn 3 (by decide)) (Nat.le_of_ble_eq_true rfl) rfl d_Tn_passHour_46 (fun H locs hP hS => ?_)
    rw [← eσ3] at hP
    refine lv_iconst (v := (0 : Int32)) hx hb d_Tn_passHour_49 (by decide) ?_
    refine lv_istore_n (lv' := [(3, .int (0 : Int32)), (0, .ref (ad 19)), (1, .ref (ad 34)), (2, .ref (ad 32))]) hx hb d_Tn_passHour_50 rfl hl (by decide) rfl (fun ls hl => ?_)
    obtain ⟨KL4_82, eKL4_82, hf⟩ := jn_some hf
    have hKL4_82 : ∀ (v3_4 : Int32) (σL4 : GS) (H : Heap) (locs : List Loc) (ls : Array Slot), va_P D vwCl (wG K ad σL4) H → va_S (GA ad) s.heap H locs → lv_has ls 4 [] → KL4_82 v3_4 σL4 = some z0 → W p l e (rmd 6) s m args below meth c H locs 0 0 (MQ below (QV D K ad z0) args s 0 0 (GA ad)) (F0 m 82 ls []) := by
      clear hf
      intro v3_4 σL4 H locs ls hP hS hl hf
      rw [eKL4_82] at hf
      try dsimp only at hf
      cases hf
      exact g_vret hC rfl hP hS d_Tn_passHour_82
    clear eKL4_82
    have hL4 : ∀ (n : Nat) (v3_4 : Int32) (σL4 : GS) (H : Heap) (locs : List Loc) (ls : Array Slot), va_P D vwCl (wG K ad σL4) H → va_S (GA ad) s.heap H locs → lv_has ls 4 [(0, .ref (ad 19)), (1, .ref (ad 34)), (2, .ref (ad 32)), (3, .int v3_4)] → F_Tn_passHour_51 KL4_82 n v3_4 σL4 = some z0 → W p l e (rmd 6) s m args below meth c H locs 0 0 (MQ below (QV D K ad z0) args s 0 0 (GA ad)) (F0 m 51 ls []) := by
      clear hf
      intro n
      induction n with
      | zero =>
        intro v3_4 σL4 H locs ls hP hS hl hf
        rw [F_Tn_passHour_51.eq_1] at hf
        cases hf
      | succ n ih =>
        intro v3_4 σL4 H locs ls hP hS hl hf
        rw [F_Tn_passHour_51.eq_2] at hf
        refine lv_iload_n hx hb d_Tn_passHour_51 rfl (lv_at hl 3 rfl) ?_
        refine lv_aload_n hx hb d_Tn_passHour_52 rfl (lv_at hl 0 rfl) ?_
        refine g_get (v := .int (σL4.1 19 2)) hC hP o_19 co_Tn 2 (by decide) rfl fl_Tn_18 rfl d_Tn_passHour_53 ?_
        refine lv_icmp_ge (tgt := 82) hx hb d_Tn_passHour_56 (by decide) (fun hc11 => ?_) (fun hc11 => ?_)
        · rw [if_pos hc11] at hf
          exact hKL4_82 _ _ _ _ _ hP hS (lv_sub hl [] rfl) hf
        · rw [if_neg hc11] at hf
          refine lv_aload_n hx hb d_Tn_passHour_59 rfl (lv_at hl 0 rfl) ?_
          refine lv_iload_n hx hb d_Tn_passHour_60 rfl (lv_at hl 3 rfl) ?_
          refine lv_aload_n hx hb d_Tn_passHour_61 rfl (lv_at hl 1 rfl) ?_
          obtain ⟨σ6, hk5, hf⟩ := bv_some hf
          refine g_callv hS (g_runV (As := [.int v3_4, .ref (ad 34)]) (rest := []) hC hP (c_Tn_load hj o_34 hk5) (rk (by decide) (by decide)) nm_Tn_load cd_Tn_load it_WideTown_Town ml_Tn_77 im_Tn_load sl_Tn_load o_19 co_Tn rfl hl.1 rfl (Nat.le_of_ble_eq_true rfl) d_Tn_passHour_62 zz) (fun H locs hP hS => ?_)
          refine lv_aload_n hx hb d_Tn_passHour_65 rfl (lv_at hl 1 rfl) ?_
          refine lv_aload_n hx hb d_Tn_passHour_66 rfl (lv_at hl 2 rfl) ?_
          obtain ⟨σ8, hk7, hf⟩ := bv_some hf
          refine g_callv hS (g_runV (As := [.ref (ad 32)]) (rest := []) hC hP (c_Wk_passHour hj o_34 hk7) (rk (by decide) (by decide)) nm_Wk_passHour cd_Wk_passHour it_WideTown_Walker ml_Tn_81 im_Wk_passHour sl_Wk_passHour o_34 co_Wk rfl hl.1 rfl (Nat.le_of_ble_eq_true rfl) d_Tn_passHour_67 zz) (fun H locs hP hS => ?_)
          refine lv_aload_n hx hb d_Tn_passHour_70 rfl (lv_at hl 0 rfl) ?_
          refine lv_iload_n hx hb d_Tn_passHour_71 rfl (lv_at hl 3 rfl) ?_
          refine lv_aload_n hx hb d_Tn_passHour_72 rfl (lv_at hl 1 rfl) ?_
          obtain ⟨σ10, hk9, hf⟩ := bv_some hf
          refine g_callv hS (g_runV (As := [.int v3_4, .ref (ad 34)]) (rest := []) hC hP (c_Tn_store hj o_34 hk9) (rk (by decide) (by decide)) nm_Tn_store cd_Tn_store it_WideTown_Town ml_Tn_85 im_Tn_store sl_Tn_store o_19 co_Tn rfl hl.1 rfl (Nat.le_of_ble_eq_true rfl) d_Tn_passHour_73 zz) (fun H locs hP hS => ?_)
          refine lv_iinc (v := v3_4 + 1) (lv' := [(3, .int (v3_4 + 1)), (0, .ref (ad 19)), (1, .ref (ad 34)), (2, .ref (ad 32))]) hx hb d_Tn_passHour_76 hl (k := 3) rfl rfl (by decide) rfl (fun ls hl => ?_)
          refine lv_goto (tgt := 51) hx hb d_Tn_passHour_79 (by decide) ?_
          exact ih _ _ _ _ _ hP hS (lv_sub hl [1, 2, 3, 0] rfl) hf
    exact hL4 _ _ _ _ _ _ hP hS (lv_sub hl [1, 2, 3, 0] rfl) hf
  · rw [if_neg hc12] at hf
    cases hf
    exact g_vret hC rfl hP hS d_Tn_passHour_9
set_option maxHeartbeats 4000000 in
set_option maxRecDepth 100000 in
theorem c_Tn_placeOf {l : Launch} {D : va_G} {K : Nat → ClassId} {ad : Nat → Nat} (hj : inj ad)   {x1 : Int32} {σ : GS} {z0 : Int32} (hf : F_Tn_placeOf x1 σ = some z0) : CT l D K ad y_Tn_placeOf b_Tn_placeOf 2 (some .int) 0 [.ref (ad 19), .int x1] σ (QI D K ad z0 σ) := by
  refine CT.intro hj (by decide) (Nat.le_of_ble_eq_true rfl) ?_
  intro p e s m args below meth c ls hC hP hS hl
  obtain ⟨hx, hb, -, hown, hts, -⟩ := id hC
  have hl : lv_has ls 2 [(0, .ref (ad 19)), (1, .int x1)] := hl
  rw [F_Tn_placeOf] at hf
  refine lv_aload_n hx hb d_Tn_placeOf_0 rfl (lv_at hl 0 rfl) ?_
  refine g_get (v := .ref (ad 21)) hC hP o_19 co_Tn 1 (by decide) rfl fl_Tn_15 rfl d_Tn_placeOf_1 ?_
  refine lv_aload_n hx hb d_Tn_placeOf_4 rfl (lv_at hl 0 rfl) ?_
  refine g_get (v := .int (σ.1 19 3)) hC hP o_19 co_Tn 3 (by decide) rfl fl_Tn_22 rfl d_Tn_placeOf_5 ?_
  refine lv_bipush (v := (20 : Int32)) hx hb d_Tn_placeOf_8 (by decide) ?_
  refine lv_imul hx hb d_Tn_placeOf_10 ?_
  refine lv_iload_n hx hb d_Tn_placeOf_11 rfl (lv_at hl 1 rfl) ?_
  refine lv_iconst (v := (4 : Int32)) hx hb d_Tn_placeOf_12 (by decide) ?_
  refine lv_imul hx hb d_Tn_placeOf_13 ?_
  refine lv_iadd hx hb d_Tn_placeOf_14 ?_
  obtain ⟨hg1, hf⟩ := gd_some hf
  refine g_iald2 (j := (((σ.1 19 3) * (20 : Int32)) + (x1 * (4 : Int32))).toNatClampNeg) hC hP a_21 hg1 rfl d_Tn_placeOf_15 ?_
  cases hf
  exact g_iret hC rfl hP hS d_Tn_placeOf_16
set_option maxHeartbeats 4000000 in
set_option maxRecDepth 100000 in
theorem c_Tn_othersAt {l : Launch} {D : va_G} {K : Nat → ClassId} {ad : Nat → Nat} (hj : inj ad)   {x1 : Int32} {σ : GS} {z0 : Int32} (hf : F_Tn_othersAt x1 σ = some z0) : CT l D K ad y_Tn_othersAt b_Tn_othersAt 4 (some .int) 1 [.ref (ad 19), .int x1] σ (QI D K ad z0 σ) := by
  refine CT.intro hj (by decide) (Nat.le_of_ble_eq_true rfl) ?_
  intro p e s m args below meth c ls hC hP hS hl
  obtain ⟨hx, hb, -, hown, hts, -⟩ := id hC
  have hl : lv_has ls 4 [(0, .ref (ad 19)), (1, .int x1)] := hl
  rw [F_Tn_othersAt] at hf
  refine lv_iconst (v := (0 : Int32)) hx hb d_Tn_othersAt_0 (by decide) ?_
  refine lv_istore_n (lv' := [(2, .int (0 : Int32)), (0, .ref (ad 19)), (1, .int x1)]) hx hb d_Tn_othersAt_1 rfl hl (by decide) rfl (fun ls hl => ?_)
  refine lv_iconst (v := (0 : Int32)) hx hb d_Tn_othersAt_2 (by decide) ?_
  refine lv_istore_n (lv' := [(3, .int (0 : Int32)), (2, .int (0 : Int32)), (0, .ref (ad 19)), (1, .int x1)]) hx hb d_Tn_othersAt_3 rfl hl (by decide) rfl (fun ls hl => ?_)
  obtain ⟨KL1_39, eKL1_39, hf⟩ := jn_some hf
  have hKL1_39 : ∀ (v2_1 : Int32) (v3_1 : Int32) (H : Heap) (locs : List Loc) (ls : Array Slot), va_P D vwCl (wG K ad σ) H → va_S (GA ad) s.heap H locs → lv_has ls 4 [(2, .int v2_1)] → KL1_39 v2_1 v3_1 = some z0 → W p l e (rmd 1) s m args below meth c H locs 0 0 (MQ below (QI D K ad z0 σ) args s 0 0 (GA ad)) (F0 m 39 ls []) := by
    clear hf
    intro v2_1 v3_1 H locs ls hP hS hl hf
    rw [eKL1_39] at hf
    try dsimp only at hf
    refine lv_iload_n hx hb d_Tn_othersAt_39 rfl (lv_at hl 0 rfl) ?_
    cases hf
    exact g_iret hC rfl hP hS d_Tn_othersAt_40
  clear eKL1_39
  have hL1 : ∀ (n : Nat) (v2_1 : Int32) (v3_1 : Int32) (H : Heap) (locs : List Loc) (ls : Array Slot), va_P D vwCl (wG K ad σ) H → va_S (GA ad) s.heap H locs → lv_has ls 4 [(0, .ref (ad 19)), (1, .int x1), (2, .int v2_1), (3, .int v3_1)] → F_Tn_othersAt_4 x1 σ KL1_39 n v2_1 v3_1 = some z0 → W p l e (rmd 1) s m args below meth c H locs 0 0 (MQ below (QI D K ad z0 σ) args s 0 0 (GA ad)) (F0 m 4 ls []) := by
    clear hf
    intro n
    induction n with
    | zero =>
      intro v2_1 v3_1 H locs ls hP hS hl hf
      rw [F_Tn_othersAt_4.eq_1] at hf
      cases hf
    | succ n ih =>
      intro v2_1 v3_1 H locs ls hP hS hl hf
      rw [F_Tn_othersAt_4.eq_2] at hf
      refine lv_iload_n hx hb d_Tn_othersAt_4 rfl (lv_at hl 3 rfl) ?_
      refine lv_aload_n hx hb d_Tn_othersAt_5 rfl (lv_at hl 0 rfl) ?_
      refine g_get (v := .int (σ.1 19 2)) hC hP o_19 co_Tn 2 (by decide) rfl fl_Tn_18 rfl d_Tn_othersAt_6 ?_
      refine lv_icmp_ge (tgt := 39) hx hb d_Tn_othersAt_9 (by decide) (fun hc8 => ?_) (fun hc8 => ?_)
      · rw [if_pos hc8] at hf
        exact hKL1_39 _ _ _ _ _ hP hS (lv_sub hl [2] rfl) hf
      · rw [if_neg hc8] at hf
        refine lv_iload_n hx hb d_Tn_othersAt_12 rfl (lv_at hl 3 rfl) ?_
        refine lv_iload_n hx hb d_Tn_othersAt_13 rfl (lv_at hl 1 rfl) ?_
        refine lv_icmp_eq (tgt := 33) hx hb d_Tn_othersAt_14 (by decide) (fun hc7 => ?_) (fun hc7 => ?_)
        · rw [if_pos hc7] at hf
          refine lv_iinc (v := v3_1 + 1) (lv' := [(3, .int (v3_1 + 1)), (0, .ref (ad 19)), (1, .int x1), (2, .int v2_1)]) hx hb d_Tn_othersAt_33 hl (k := 3) rfl rfl (by decide) rfl (fun ls hl => ?_)
          refine lv_goto (tgt := 4) hx hb d_Tn_othersAt_36 (by decide) ?_
          exact ih _ _ _ _ _ hP hS (lv_sub hl [1, 2, 3, 0] rfl) hf
        · rw [if_neg hc7] at hf
          refine lv_aload_n hx hb d_Tn_othersAt_17 rfl (lv_at hl 0 rfl) ?_
          refine lv_iload_n hx hb d_Tn_othersAt_18 rfl (lv_at hl 3 rfl) ?_
          obtain ⟨r3, hk2, hf⟩ := bp_some hf
          refine g_calli hS (g_runV (As := [.int v3_1]) (rest := []) hC hP (c_Tn_placeOf hj  hk2) (rk (by decide) (by decide)) nm_Tn_placeOf cd_Tn_placeOf it_WideTown_Town ml_Tn_88 im_Tn_placeOf sl_Tn_placeOf o_19 co_Tn rfl hl.1 rfl (Nat.le_of_ble_eq_true rfl) d_Tn_othersAt_19 zz) (fun H locs hP hS => ?_)
          refine lv_aload_n hx hb d_Tn_othersAt_22 rfl (lv_at hl 0 rfl) ?_
          refine lv_iload_n hx hb d_Tn_othersAt_23 rfl (lv_at hl 1 rfl) ?_
          obtain ⟨r5, hk4, hf⟩ := bp_some hf
          refine g_calli hS (g_runV (As := [.int x1]) (rest := [.int r3]) hC hP (c_Tn_placeOf hj  hk4) (rk (by decide) (by decide)) nm_Tn_placeOf cd_Tn_placeOf it_WideTown_Town ml_Tn_88 im_Tn_placeOf sl_Tn_placeOf o_19 co_Tn rfl hl.1 rfl (Nat.le_of_ble_eq_true rfl) d_Tn_othersAt_24 zz) (fun H locs hP hS => ?_)
          refine lv_icmp_ne (tgt := 33) hx hb d_Tn_othersAt_27 (by decide) (fun hc6 => ?_) (fun hc6 => ?_)
          · rw [if_neg hc6] at hf
            refine lv_iinc (v := v3_1 + 1) (lv' := [(3, .int (v3_1 + 1)), (0, .ref (ad 19)), (1, .int x1), (2, .int v2_1)]) hx hb d_Tn_othersAt_33 hl (k := 3) rfl rfl (by decide) rfl (fun ls hl => ?_)
            refine lv_goto (tgt := 4) hx hb d_Tn_othersAt_36 (by decide) ?_
            exact ih _ _ _ _ _ hP hS (lv_sub hl [1, 2, 3, 0] rfl) hf
          · rw [if_pos hc6] at hf
            refine lv_iinc (v := v2_1 + 1) (lv' := [(2, .int (v2_1 + 1)), (0, .ref (ad 19)), (1, .int x1), (3, .int v3_1)]) hx hb d_Tn_othersAt_30 hl (k := 2) rfl rfl (by decide) rfl (fun ls hl => ?_)
            refine lv_iinc (v := v3_1 + 1) (lv' := [(3, .int (v3_1 + 1)), (2, .int (v2_1 + 1)), (0, .ref (ad 19)), (1, .int x1)]) hx hb d_Tn_othersAt_33 hl (k := 3) rfl rfl (by decide) rfl (fun ls hl => ?_)
            refine lv_goto (tgt := 4) hx hb d_Tn_othersAt_36 (by decide) ?_
            exact ih _ _ _ _ _ hP hS (lv_sub hl [2, 3, 1, 0] rfl) hf
  exact hL1 _ _ _ _ _ _ hP hS (lv_sub hl [2, 3, 1, 0] rfl) hf
set_option maxHeartbeats 4000000 in
set_option maxRecDepth 100000 in
theorem c_Tn_howManyAtHome {l : Launch} {D : va_G} {K : Nat → ClassId} {ad : Nat → Nat} (hj : inj ad)    {σ : GS} {z0 : Int32} (hf : F_Tn_howManyAtHome σ = some z0) : CT l D K ad y_Tn_howManyAtHome b_Tn_howManyAtHome 3 (some .int) 1 [.ref (ad 19)] σ (QI D K ad z0 σ) := by
  refine CT.intro hj (by decide) (Nat.le_of_ble_eq_true rfl) ?_
  intro p e s m args below meth c ls hC hP hS hl
  obtain ⟨hx, hb, -, hown, hts, -⟩ := id hC
  have hl : lv_has ls 3 [(0, .ref (ad 19))] := hl
  rw [F_Tn_howManyAtHome] at hf
  refine lv_iconst (v := (0 : Int32)) hx hb d_Tn_howManyAtHome_0 (by decide) ?_
  refine lv_istore_n (lv' := [(1, .int (0 : Int32)), (0, .ref (ad 19))]) hx hb d_Tn_howManyAtHome_1 rfl hl (by decide) rfl (fun ls hl => ?_)
  refine lv_iconst (v := (0 : Int32)) hx hb d_Tn_howManyAtHome_2 (by decide) ?_
  refine lv_istore_n (lv' := [(2, .int (0 : Int32)), (1, .int (0 : Int32)), (0, .ref (ad 19))]) hx hb d_Tn_howManyAtHome_3 rfl hl (by decide) rfl (fun ls hl => ?_)
  obtain ⟨KL1_29, eKL1_29, hf⟩ := jn_some hf
  have hKL1_29 : ∀ (v1_1 : Int32) (v2_1 : Int32) (H : Heap) (locs : List Loc) (ls : Array Slot), va_P D vwCl (wG K ad σ) H → va_S (GA ad) s.heap H locs → lv_has ls 3 [(1, .int v1_1)] → KL1_29 v1_1 v2_1 = some z0 → W p l e (rmd 1) s m args below meth c H locs 0 0 (MQ below (QI D K ad z0 σ) args s 0 0 (GA ad)) (F0 m 29 ls []) := by
    clear hf
    intro v1_1 v2_1 H locs ls hP hS hl hf
    rw [eKL1_29] at hf
    try dsimp only at hf
    refine lv_iload_n hx hb d_Tn_howManyAtHome_29 rfl (lv_at hl 0 rfl) ?_
    cases hf
    exact g_iret hC rfl hP hS d_Tn_howManyAtHome_30
  clear eKL1_29
  have hL1 : ∀ (n : Nat) (v1_1 : Int32) (v2_1 : Int32) (H : Heap) (locs : List Loc) (ls : Array Slot), va_P D vwCl (wG K ad σ) H → va_S (GA ad) s.heap H locs → lv_has ls 3 [(0, .ref (ad 19)), (1, .int v1_1), (2, .int v2_1)] → F_Tn_howManyAtHome_4 σ KL1_29 n v1_1 v2_1 = some z0 → W p l e (rmd 1) s m args below meth c H locs 0 0 (MQ below (QI D K ad z0 σ) args s 0 0 (GA ad)) (F0 m 4 ls []) := by
    clear hf
    intro n
    induction n with
    | zero =>
      intro v1_1 v2_1 H locs ls hP hS hl hf
      rw [F_Tn_howManyAtHome_4.eq_1] at hf
      cases hf
    | succ n ih =>
      intro v1_1 v2_1 H locs ls hP hS hl hf
      rw [F_Tn_howManyAtHome_4.eq_2] at hf
      refine lv_iload_n hx hb d_Tn_howManyAtHome_4 rfl (lv_at hl 2 rfl) ?_
      refine lv_aload_n hx hb d_Tn_howManyAtHome_5 rfl (lv_at hl 0 rfl) ?_
      refine g_get (v := .int (σ.1 19 2)) hC hP o_19 co_Tn 2 (by decide) rfl fl_Tn_18 rfl d_Tn_howManyAtHome_6 ?_
      refine lv_icmp_ge (tgt := 29) hx hb d_Tn_howManyAtHome_9 (by decide) (fun hc5 => ?_) (fun hc5 => ?_)
      · rw [if_pos hc5] at hf
        exact hKL1_29 _ _ _ _ _ hP hS (lv_sub hl [1] rfl) hf
      · rw [if_neg hc5] at hf
        refine lv_aload_n hx hb d_Tn_howManyAtHome_12 rfl (lv_at hl 0 rfl) ?_
        refine lv_iload_n hx hb d_Tn_howManyAtHome_13 rfl (lv_at hl 2 rfl) ?_
        obtain ⟨r3, hk2, hf⟩ := bp_some hf
        refine g_calli hS (g_runV (As := [.int v2_1]) (rest := []) hC hP (c_Tn_placeOf hj  hk2) (rk (by decide) (by decide)) nm_Tn_placeOf cd_Tn_placeOf it_WideTown_Town ml_Tn_88 im_Tn_placeOf sl_Tn_placeOf o_19 co_Tn rfl hl.1 rfl (Nat.le_of_ble_eq_true rfl) d_Tn_howManyAtHome_14 zz) (fun H locs hP hS => ?_)
        refine lv_if_ne (tgt := 23) hx hb d_Tn_howManyAtHome_17 (by decide) (fun hc4 => ?_) (fun hc4 => ?_)
        · rw [if_neg hc4] at hf
          refine lv_iinc (v := v2_1 + 1) (lv' := [(2, .int (v2_1 + 1)), (0, .ref (ad 19)), (1, .int v1_1)]) hx hb d_Tn_howManyAtHome_23 hl (k := 2) rfl rfl (by decide) rfl (fun ls hl => ?_)
          refine lv_goto (tgt := 4) hx hb d_Tn_howManyAtHome_26 (by decide) ?_
          exact ih _ _ _ _ _ hP hS (lv_sub hl [1, 2, 0] rfl) hf
        · rw [if_pos hc4] at hf
          refine lv_iinc (v := v1_1 + 1) (lv' := [(1, .int (v1_1 + 1)), (0, .ref (ad 19)), (2, .int v2_1)]) hx hb d_Tn_howManyAtHome_20 hl (k := 1) rfl rfl (by decide) rfl (fun ls hl => ?_)
          refine lv_iinc (v := v2_1 + 1) (lv' := [(2, .int (v2_1 + 1)), (1, .int (v1_1 + 1)), (0, .ref (ad 19))]) hx hb d_Tn_howManyAtHome_23 hl (k := 2) rfl rfl (by decide) rfl (fun ls hl => ?_)
          refine lv_goto (tgt := 4) hx hb d_Tn_howManyAtHome_26 (by decide) ?_
          exact ih _ _ _ _ _ hP hS (lv_sub hl [2, 1, 0] rfl) hf
  exact hL1 _ _ _ _ _ _ hP hS (lv_sub hl [2, 1, 0] rfl) hf
set_option maxHeartbeats 4000000 in
set_option maxRecDepth 100000 in
theorem c_Tn_howManyAre {l : Launch} {D : va_G} {K : Nat → ClassId} {ad : Nat → Nat} (hj : inj ad)   {x1 : Int32} {σ : GS} {z0 : Int32} (hf : F_Tn_howManyAre x1 σ = some z0) : CT l D K ad y_Tn_howManyAre b_Tn_howManyAre 4 (some .int) 1 [.ref (ad 19), .int x1] σ (QI D K ad z0 σ) := by
  refine CT.intro hj (by decide) (Nat.le_of_ble_eq_true rfl) ?_
  intro p e s m args below meth c ls hC hP hS hl
  obtain ⟨hx, hb, -, hown, hts, -⟩ := id hC
  have hl : lv_has ls 4 [(0, .ref (ad 19)), (1, .int x1)] := hl
  rw [F_Tn_howManyAre] at hf
  refine lv_iconst (v := (0 : Int32)) hx hb d_Tn_howManyAre_0 (by decide) ?_
  refine lv_istore_n (lv' := [(2, .int (0 : Int32)), (0, .ref (ad 19)), (1, .int x1)]) hx hb d_Tn_howManyAre_1 rfl hl (by decide) rfl (fun ls hl => ?_)
  refine lv_iconst (v := (0 : Int32)) hx hb d_Tn_howManyAre_2 (by decide) ?_
  refine lv_istore_n (lv' := [(3, .int (0 : Int32)), (2, .int (0 : Int32)), (0, .ref (ad 19)), (1, .int x1)]) hx hb d_Tn_howManyAre_3 rfl hl (by decide) rfl (fun ls hl => ?_)
  obtain ⟨KL1_34, eKL1_34, hf⟩ := jn_some hf
  have hKL1_34 : ∀ (v2_1 : Int32) (v3_1 : Int32) (H : Heap) (locs : List Loc) (ls : Array Slot), va_P D vwCl (wG K ad σ) H → va_S (GA ad) s.heap H locs → lv_has ls 4 [(2, .int v2_1)] → KL1_34 v2_1 v3_1 = some z0 → W p l e (rmd 1) s m args below meth c H locs 0 0 (MQ below (QI D K ad z0 σ) args s 0 0 (GA ad)) (F0 m 34 ls []) := by
    clear hf
    intro v2_1 v3_1 H locs ls hP hS hl hf
    rw [eKL1_34] at hf
    try dsimp only at hf
    refine lv_iload_n hx hb d_Tn_howManyAre_34 rfl (lv_at hl 0 rfl) ?_
    cases hf
    exact g_iret hC rfl hP hS d_Tn_howManyAre_35
  clear eKL1_34
  have hL1 : ∀ (n : Nat) (v2_1 : Int32) (v3_1 : Int32) (H : Heap) (locs : List Loc) (ls : Array Slot), va_P D vwCl (wG K ad σ) H → va_S (GA ad) s.heap H locs → lv_has ls 4 [(0, .ref (ad 19)), (1, .int x1), (2, .int v2_1), (3, .int v3_1)] → F_Tn_howManyAre_4 x1 σ KL1_34 n v2_1 v3_1 = some z0 → W p l e (rmd 1) s m args below meth c H locs 0 0 (MQ below (QI D K ad z0 σ) args s 0 0 (GA ad)) (F0 m 4 ls []) := by
    clear hf
    intro n
    induction n with
    | zero =>
      intro v2_1 v3_1 H locs ls hP hS hl hf
      rw [F_Tn_howManyAre_4.eq_1] at hf
      cases hf
    | succ n ih =>
      intro v2_1 v3_1 H locs ls hP hS hl hf
      rw [F_Tn_howManyAre_4.eq_2] at hf
      refine lv_iload_n hx hb d_Tn_howManyAre_4 rfl (lv_at hl 3 rfl) ?_
      refine lv_aload_n hx hb d_Tn_howManyAre_5 rfl (lv_at hl 0 rfl) ?_
      refine g_get (v := .int (σ.1 19 2)) hC hP o_19 co_Tn 2 (by decide) rfl fl_Tn_18 rfl d_Tn_howManyAre_6 ?_
      refine lv_icmp_ge (tgt := 34) hx hb d_Tn_howManyAre_9 (by decide) (fun hc6 => ?_) (fun hc6 => ?_)
      · rw [if_pos hc6] at hf
        exact hKL1_34 _ _ _ _ _ hP hS (lv_sub hl [2] rfl) hf
      · rw [if_neg hc6] at hf
        refine lv_aload_n hx hb d_Tn_howManyAre_12 rfl (lv_at hl 0 rfl) ?_
        refine g_get (v := .ref (ad 20)) hC hP o_19 co_Tn 0 (by decide) rfl fl_Tn_11 rfl d_Tn_howManyAre_13 ?_
        refine lv_iload_n hx hb d_Tn_howManyAre_16 rfl (lv_at hl 3 rfl) ?_
        obtain ⟨hg2, hf⟩ := gd_some hf
        refine g_iald2 (j := v3_1.toNatClampNeg) hC hP a_20 hg2 rfl d_Tn_howManyAre_17 ?_
        refine lv_iload_n hx hb d_Tn_howManyAre_18 rfl (lv_at hl 1 rfl) ?_
        obtain ⟨r4, hk3, hf⟩ := bp_some hf
        refine g_calli hS (g_runS (As := [.int (σ.1 20 v3_1.toNatClampNeg), .int x1]) (rest := []) hC hP (c_Wk_isOf hj  hk3) (rk (by decide) (by decide)) nm_Wk_isOf cd_Wk_isOf it_WideTown_Walker ml_Tn_92 sc_Wk_isOf rfl hl.1 rfl (Nat.le_of_ble_eq_true rfl) d_Tn_howManyAre_19 zz) (fun H locs hP hS => ?_)
        refine lv_if_eq (tgt := 28) hx hb d_Tn_howManyAre_22 (by decide) (fun hc5 => ?_) (fun hc5 => ?_)
        · rw [if_pos hc5] at hf
          refine lv_iinc (v := v3_1 + 1) (lv' := [(3, .int (v3_1 + 1)), (0, .ref (ad 19)), (1, .int x1), (2, .int v2_1)]) hx hb d_Tn_howManyAre_28 hl (k := 3) rfl rfl (by decide) rfl (fun ls hl => ?_)
          refine lv_goto (tgt := 4) hx hb d_Tn_howManyAre_31 (by decide) ?_
          exact ih _ _ _ _ _ hP hS (lv_sub hl [1, 2, 3, 0] rfl) hf
        · rw [if_neg hc5] at hf
          refine lv_iinc (v := v2_1 + 1) (lv' := [(2, .int (v2_1 + 1)), (0, .ref (ad 19)), (1, .int x1), (3, .int v3_1)]) hx hb d_Tn_howManyAre_25 hl (k := 2) rfl rfl (by decide) rfl (fun ls hl => ?_)
          refine lv_iinc (v := v3_1 + 1) (lv' := [(3, .int (v3_1 + 1)), (2, .int (v2_1 + 1)), (0, .ref (ad 19)), (1, .int x1)]) hx hb d_Tn_howManyAre_28 hl (k := 3) rfl rfl (by decide) rfl (fun ls hl => ?_)
          refine lv_goto (tgt := 4) hx hb d_Tn_howManyAre_31 (by decide) ?_
          exact ih _ _ _ _ _ hP hS (lv_sub hl [2, 3, 1, 0] rfl) hf
  exact hL1 _ _ _ _ _ _ hP hS (lv_sub hl [2, 3, 1, 0] rfl) hf
set_option maxHeartbeats 4000000 in
set_option maxRecDepth 100000 in
theorem c_Wd_streetAt {l : Launch} {D : va_G} {K : Nat → ClassId} {ad : Nat → Nat} (hj : inj ad) {w : Nat} (h_w : WdOK K ad w) {x1 : Int32} {σ : GS} {z0 : Int32} (hf : F_Wd_streetAt w x1 σ = some z0) : CT l D K ad y_Wd_streetAt b_Wd_streetAt 2 (some .int) 0 [.ref (ad w), .int x1] σ (QI D K ad z0 σ) := by
  refine CT.intro hj (by decide) (Nat.le_of_ble_eq_true rfl) ?_
  intro p e s m args below meth c ls hC hP hS hl
  obtain ⟨hx, hb, -, hown, hts, -⟩ := id hC
  have hl : lv_has ls 2 [(0, .ref (ad w)), (1, .int x1)] := hl
  rw [F_Wd_streetAt] at hf
  refine lv_iload_n hx hb d_Wd_streetAt_0 rfl (lv_at hl 1 rfl) ?_
  refine lv_if_lt (tgt := 21) hx hb d_Wd_streetAt_1 (by decide) (fun hc3 => ?_) (fun hc3 => ?_)
  · rw [if_pos hc3] at hf
    refine lv_iconst (v := (0 : Int32)) hx hb d_Wd_streetAt_21 (by decide) ?_
    cases hf
    exact g_iret hC rfl hP hS d_Wd_streetAt_22
  · rw [if_neg hc3] at hf
    refine lv_iload_n hx hb d_Wd_streetAt_4 rfl (lv_at hl 1 rfl) ?_
    refine lv_aload_n hx hb d_Wd_streetAt_5 rfl (lv_at hl 0 rfl) ?_
    refine g_get (v := .int (σ.1 w 1)) hC hP h_w.1 co_Wd 1 (by decide) rfl fl_Wd_15 rfl d_Wd_streetAt_6 ?_
    refine lv_icmp_ge (tgt := 21) hx hb d_Wd_streetAt_9 (by decide) (fun hc2 => ?_) (fun hc2 => ?_)
    · rw [if_pos hc2] at hf
      refine lv_iconst (v := (0 : Int32)) hx hb d_Wd_streetAt_21 (by decide) ?_
      cases hf
      exact g_iret hC rfl hP hS d_Wd_streetAt_22
    · rw [if_neg hc2] at hf
      refine lv_aload_n hx hb d_Wd_streetAt_12 rfl (lv_at hl 0 rfl) ?_
      refine g_get (v := .ref (ad (w + 1))) hC hP h_w.1 co_Wd 0 (by decide) rfl fl_Wd_11 rfl d_Wd_streetAt_13 ?_
      refine lv_iload_n hx hb d_Wd_streetAt_16 rfl (lv_at hl 1 rfl) ?_
      obtain ⟨hg1, hf⟩ := gd_some hf
      refine g_iald2 (j := x1.toNatClampNeg) hC hP h_w.2 hg1 rfl d_Wd_streetAt_17 ?_
      refine lv_goto (tgt := 22) hx hb d_Wd_streetAt_18 (by decide) ?_
      cases hf
      exact g_iret hC rfl hP hS d_Wd_streetAt_22
set_option maxHeartbeats 4000000 in
set_option maxRecDepth 100000 in
theorem c_Tr_nearestAlong {l : Launch} {D : va_G} {K : Nat → ClassId} {ad : Nat → Nat} (hj : inj ad) {w : Nat} (h_w : WdOK K ad w)  {σ : GS} {z0 : Int32 × GS} (hf : F_Tr_nearestAlong w σ = some z0) : CT l D K ad y_Tr_nearestAlong b_Tr_nearestAlong 4 (some .int) 2 [.ref (ad 41), .ref (ad w)] σ (QI D K ad z0.1 z0.2) := by
  refine CT.intro hj (by decide) (Nat.le_of_ble_eq_true rfl) ?_
  intro p e s m args below meth c ls hC hP hS hl
  obtain ⟨hx, hb, -, hown, hts, -⟩ := id hC
  have hl : lv_has ls 4 [(0, .ref (ad 41)), (1, .ref (ad w))] := hl
  rw [F_Tr_nearestAlong] at hf
  refine lv_aload_n hx hb d_Tr_nearestAlong_0 rfl (lv_at hl 0 rfl) ?_
  refine g_get (v := .ref (ad 48)) hC hP o_41 co_Tr 3 (by decide) rfl fl_Tr_22 rfl d_Tr_nearestAlong_1 ?_
  refine g_get (v := .int (σ.1 48 1)) hC hP o_48 co_Wd 1 (by decide) rfl fl_Tr_29 rfl d_Tr_nearestAlong_4 ?_
  refine lv_istore_n (lv' := [(2, .int (σ.1 48 1)), (0, .ref (ad 41)), (1, .ref (ad w))]) hx hb d_Tr_nearestAlong_7 rfl hl (by decide) rfl (fun ls hl => ?_)
  refine lv_iconst (v := (0 : Int32)) hx hb d_Tr_nearestAlong_8 (by decide) ?_
  refine lv_istore_n (lv' := [(3, .int (0 : Int32)), (2, .int (σ.1 48 1)), (0, .ref (ad 41)), (1, .ref (ad w))]) hx hb d_Tr_nearestAlong_9 rfl hl (by decide) rfl (fun ls hl => ?_)
  obtain ⟨KL1_48, eKL1_48, hf⟩ := jn_some hf
  have hKL1_48 : ∀ (v2_1 : Int32) (v3_1 : Int32) (σL1 : GS) (H : Heap) (locs : List Loc) (ls : Array Slot), va_P D vwCl (wG K ad σL1) H → va_S (GA ad) s.heap H locs → lv_has ls 4 [(2, .int v2_1)] → KL1_48 v2_1 v3_1 σL1 = some z0 → W p l e (rmd 2) s m args below meth c H locs 0 0 (MQ below (QI D K ad z0.1 z0.2) args s 0 0 (GA ad)) (F0 m 48 ls []) := by
    clear hf
    intro v2_1 v3_1 σL1 H locs ls hP hS hl hf
    rw [eKL1_48] at hf
    try dsimp only at hf
    refine lv_iload_n hx hb d_Tr_nearestAlong_48 rfl (lv_at hl 0 rfl) ?_
    cases hf
    exact g_iret hC rfl hP hS d_Tr_nearestAlong_49
  clear eKL1_48
  have hL1 : ∀ (n : Nat) (v2_1 : Int32) (v3_1 : Int32) (σL1 : GS) (H : Heap) (locs : List Loc) (ls : Array Slot), va_P D vwCl (wG K ad σL1) H → va_S (GA ad) s.heap H locs → lv_has ls 4 [(0, .ref (ad 41)), (1, .ref (ad w)), (2, .int v2_1), (3, .int v3_1)] → F_Tr_nearestAlong_10 w KL1_48 n v2_1 v3_1 σL1 = some z0 → W p l e (rmd 2) s m args below meth c H locs 0 0 (MQ below (QI D K ad z0.1 z0.2) args s 0 0 (GA ad)) (F0 m 10 ls []) := by
    clear hf
    intro n
    induction n with
    | zero =>
      intro v2_1 v3_1 σL1 H locs ls hP hS hl hf
      rw [F_Tr_nearestAlong_10.eq_1] at hf
      cases hf
    | succ n ih =>
      intro v2_1 v3_1 σL1 H locs ls hP hS hl hf
      rw [F_Tr_nearestAlong_10.eq_2] at hf
      refine lv_iload_n hx hb d_Tr_nearestAlong_10 rfl (lv_at hl 3 rfl) ?_
      refine lv_aload_n hx hb d_Tr_nearestAlong_11 rfl (lv_at hl 1 rfl) ?_
      refine g_get (v := .int (σL1.1 w 1)) hC hP h_w.1 co_Wd 1 (by decide) rfl fl_Tr_29 rfl d_Tr_nearestAlong_12 ?_
      refine lv_icmp_ge (tgt := 48) hx hb d_Tr_nearestAlong_15 (by decide) (fun hc6 => ?_) (fun hc6 => ?_)
      · rw [if_pos hc6] at hf
        exact hKL1_48 _ _ _ _ _ _ hP hS (lv_sub hl [2] rfl) hf
      · rw [if_neg hc6] at hf
        refine lv_aload_n hx hb d_Tr_nearestAlong_18 rfl (lv_at hl 0 rfl) ?_
        refine g_get (v := .ref (ad 48)) hC hP o_41 co_Tr 3 (by decide) rfl fl_Tr_22 rfl d_Tr_nearestAlong_19 ?_
        refine lv_aload_n hx hb d_Tr_nearestAlong_22 rfl (lv_at hl 1 rfl) ?_
        refine lv_iload_n hx hb d_Tr_nearestAlong_23 rfl (lv_at hl 3 rfl) ?_
        obtain ⟨r3, hk2, hf⟩ := bp_some hf
        refine g_calli hS (g_runV (As := [.int v3_1]) (rest := [.ref (ad 48)]) hC hP (c_Wd_streetAt hj h_w hk2) (rk (by decide) (by decide)) nm_Wd_streetAt cd_Wd_streetAt it_WideTown_Word ml_Tr_52 im_Wd_streetAt sl_Wd_streetAt h_w.1 co_Wd rfl hl.1 rfl (Nat.le_of_ble_eq_true rfl) d_Tr_nearestAlong_24 zz) (fun H locs hP hS => ?_)
        obtain ⟨σ5, hk4, hf⟩ := bv_some hf
        refine g_callv hS (g_runV (As := [.int r3]) (rest := []) hC hP (c_Wd_go hj ⟨o_48, a_49⟩ hk4) (rk (by decide) (by decide)) nm_Wd_go cd_Wd_go it_WideTown_Word ml_Tr_55 im_Wd_go sl_Wd_go o_48 co_Wd rfl hl.1 rfl (Nat.le_of_ble_eq_true rfl) d_Tr_nearestAlong_27 zz) (fun H locs hP hS => ?_)
        refine lv_iload_n hx hb d_Tr_nearestAlong_30 rfl (lv_at hl 2 rfl) ?_
        refine lv_aload_n hx hb d_Tr_nearestAlong_31 rfl (lv_at hl 0 rfl) ?_
        refine g_get (v := .ref (ad 48)) hC hP o_41 co_Tr 3 (by decide) rfl fl_Tr_22 rfl d_Tr_nearestAlong_32 ?_
        refine g_get (v := .int (σ5.1 48 1)) hC hP o_48 co_Wd 1 (by decide) rfl fl_Tr_29 rfl d_Tr_nearestAlong_35 ?_
        refine g_mmin hC hl.1 ml_Tr_40 sc_Mmin cd_Mmin it_java_lang_Math (Nat.le_of_ble_eq_true rfl) (Nat.le_of_ble_eq_true rfl) zz d_Tr_nearestAlong_38 ?_
        refine lv_istore_n (lv' := [(2, .int (if (σ5.1 48 1) < v2_1 then (σ5.1 48 1) else v2_1)), (0, .ref (ad 41)), (1, .ref (ad w)), (3, .int v3_1)]) hx hb d_Tr_nearestAlong_41 rfl hl (by decide) rfl (fun ls hl => ?_)
        refine lv_iinc (v := v3_1 + 1) (lv' := [(3, .int (v3_1 + 1)), (2, .int (if (σ5.1 48 1) < v2_1 then (σ5.1 48 1) else v2_1)), (0, .ref (ad 41)), (1, .ref (ad w))]) hx hb d_Tr_nearestAlong_42 hl (k := 3) rfl rfl (by decide) rfl (fun ls hl => ?_)
        refine lv_goto (tgt := 10) hx hb d_Tr_nearestAlong_45 (by decide) ?_
        exact ih _ _ _ _ _ _ hP hS (lv_sub hl [2, 3, 1, 0] rfl) hf
  exact hL1 _ _ _ _ _ _ _ hP hS (lv_sub hl [2, 3, 1, 0] rfl) hf
set_option maxHeartbeats 4000000 in
set_option maxRecDepth 100000 in
theorem c_Tr_nearestFromFirst {l : Launch} {D : va_G} {K : Nat → ClassId} {ad : Nat → Nat} (hj : inj ad)   {x1 : Int32} {σ : GS} {z0 : Int32 × GS} (hf : F_Tr_nearestFromFirst x1 σ = some z0) : CT l D K ad y_Tr_nearestFromFirst b_Tr_nearestFromFirst 3 (some .int) 3 [.ref (ad 41), .int x1] σ (QI D K ad z0.1 z0.2) := by
  refine CT.intro hj (by decide) (Nat.le_of_ble_eq_true rfl) ?_
  intro p e s m args below meth c ls hC hP hS hl
  obtain ⟨hx, hb, -, hown, hts, -⟩ := id hC
  have hl : lv_has ls 3 [(0, .ref (ad 41)), (1, .int x1)] := hl
  rw [F_Tr_nearestFromFirst] at hf
  refine lv_aload_n hx hb d_Tr_nearestFromFirst_0 rfl (lv_at hl 0 rfl) ?_
  refine g_get (v := .ref (ad 48)) hC hP o_41 co_Tr 3 (by decide) rfl fl_Tr_22 rfl d_Tr_nearestFromFirst_1 ?_
  obtain ⟨σ2, hk1, hf⟩ := bv_some hf
  refine g_callv hS (g_runV (As := []) (rest := []) hC hP (c_Wd_clear hj ⟨o_48, a_49⟩ hk1) (rk (by decide) (by decide)) nm_Wd_clear cd_Wd_clear it_WideTown_Word ml_Tr_49 im_Wd_clear sl_Wd_clear o_48 co_Wd rfl hl.1 rfl (Nat.le_of_ble_eq_true rfl) d_Tr_nearestFromFirst_4 zz) (fun H locs hP hS => ?_)
  refine lv_iload_n hx hb d_Tr_nearestFromFirst_7 rfl (lv_at hl 1 rfl) ?_
  refine lv_iconst (v := (1 : Int32)) hx hb d_Tr_nearestFromFirst_8 (by decide) ?_
  refine lv_isub hx hb d_Tr_nearestFromFirst_9 ?_
  refine lv_istore_n (lv' := [(2, .int (x1 - (1 : Int32))), (0, .ref (ad 41)), (1, .int x1)]) hx hb d_Tr_nearestFromFirst_10 rfl hl (by decide) rfl (fun ls hl => ?_)
  obtain ⟨KL3_36, eKL3_36, hf⟩ := jn_some hf
  have hKL3_36 : ∀ (v2_3 : Int32) (σL3 : GS) (H : Heap) (locs : List Loc) (ls : Array Slot), va_P D vwCl (wG K ad σL3) H → va_S (GA ad) s.heap H locs → lv_has ls 3 [(0, .ref (ad 41))] → KL3_36 v2_3 σL3 = some z0 → W p l e (rmd 3) s m args below meth c H locs 0 0 (MQ below (QI D K ad z0.1 z0.2) args s 0 0 (GA ad)) (F0 m 36 ls []) := by
    clear hf
    intro v2_3 σL3 H locs ls hP hS hl hf
    rw [eKL3_36] at hf
    try dsimp only at hf
    refine lv_aload_n hx hb d_Tr_nearestFromFirst_36 rfl (lv_at hl 0 rfl) ?_
    refine lv_aload_n hx hb d_Tr_nearestFromFirst_37 rfl (lv_at hl 0 rfl) ?_
    refine g_get (v := .ref (ad 44)) hC hP o_41 co_Tr 1 (by decide) rfl fl_Tr_16 rfl d_Tr_nearestFromFirst_38 ?_
    obtain ⟨r5, σ6, hk4, hf⟩ := bc_some hf
    refine g_calli hS (g_runV (As := [.ref (ad 44)]) (rest := []) hC hP (c_Tr_nearestAlong hj ⟨o_44, a_45⟩ hk4) (rk (by decide) (by decide)) nm_Tr_nearestAlong cd_Tr_nearestAlong it_WideTown_Triangle ml_Tr_59 im_Tr_nearestAlong sl_Tr_nearestAlong o_41 co_Tr rfl hl.1 rfl (Nat.le_of_ble_eq_true rfl) d_Tr_nearestFromFirst_41 zz) (fun H locs hP hS => ?_)
    cases hf
    exact g_iret hC rfl hP hS d_Tr_nearestFromFirst_44
  clear eKL3_36
  have hL3 : ∀ (n : Nat) (v2_3 : Int32) (σL3 : GS) (H : Heap) (locs : List Loc) (ls : Array Slot), va_P D vwCl (wG K ad σL3) H → va_S (GA ad) s.heap H locs → lv_has ls 3 [(0, .ref (ad 41)), (2, .int v2_3)] → F_Tr_nearestFromFirst_11 KL3_36 n v2_3 σL3 = some z0 → W p l e (rmd 3) s m args below meth c H locs 0 0 (MQ below (QI D K ad z0.1 z0.2) args s 0 0 (GA ad)) (F0 m 11 ls []) := by
    clear hf
    intro n
    induction n with
    | zero =>
      intro v2_3 σL3 H locs ls hP hS hl hf
      rw [F_Tr_nearestFromFirst_11.eq_1] at hf
      cases hf
    | succ n ih =>
      intro v2_3 σL3 H locs ls hP hS hl hf
      rw [F_Tr_nearestFromFirst_11.eq_2] at hf
      refine lv_iload_n hx hb d_Tr_nearestFromFirst_11 rfl (lv_at hl 1 rfl) ?_
      refine lv_if_lt (tgt := 36) hx hb d_Tr_nearestFromFirst_12 (by decide) (fun hc11 => ?_) (fun hc11 => ?_)
      · rw [if_pos hc11] at hf
        exact hKL3_36 _ _ _ _ _ hP hS (lv_sub hl [0] rfl) hf
      · rw [if_neg hc11] at hf
        refine lv_aload_n hx hb d_Tr_nearestFromFirst_15 rfl (lv_at hl 0 rfl) ?_
        refine g_get (v := .ref (ad 48)) hC hP o_41 co_Tr 3 (by decide) rfl fl_Tr_22 rfl d_Tr_nearestFromFirst_16 ?_
        refine lv_aload_n hx hb d_Tr_nearestFromFirst_19 rfl (lv_at hl 0 rfl) ?_
        refine g_get (v := .ref (ad 42)) hC hP o_41 co_Tr 0 (by decide) rfl fl_Tr_10 rfl d_Tr_nearestFromFirst_20 ?_
        refine lv_iload_n hx hb d_Tr_nearestFromFirst_23 rfl (lv_at hl 1 rfl) ?_
        obtain ⟨r8, hk7, hf⟩ := bp_some hf
        refine g_calli hS (g_runV (As := [.int v2_3]) (rest := [.ref (ad 48)]) hC hP (c_Wd_streetAt hj ⟨o_42, a_43⟩ hk7) (rk (by decide) (by decide)) nm_Wd_streetAt cd_Wd_streetAt it_WideTown_Word ml_Tr_52 im_Wd_streetAt sl_Wd_streetAt o_42 co_Wd rfl hl.1 rfl (Nat.le_of_ble_eq_true rfl) d_Tr_nearestFromFirst_24 zz) (fun H locs hP hS => ?_)
        obtain ⟨σ10, hk9, hf⟩ := bv_some hf
        refine g_callv hS (g_runV (As := [.int r8]) (rest := []) hC hP (c_Wd_go hj ⟨o_48, a_49⟩ hk9) (rk (by decide) (by decide)) nm_Wd_go cd_Wd_go it_WideTown_Word ml_Tr_55 im_Wd_go sl_Wd_go o_48 co_Wd rfl hl.1 rfl (Nat.le_of_ble_eq_true rfl) d_Tr_nearestFromFirst_27 zz) (fun H locs hP hS => ?_)
        refine lv_iinc (v := v2_3 + (-1)) (lv' := [(2, .int (v2_3 + (-1))), (0, .ref (ad 41))]) hx hb d_Tr_nearestFromFirst_30 hl (k := 1) rfl rfl (by decide) rfl (fun ls hl => ?_)
        refine lv_goto (tgt := 11) hx hb d_Tr_nearestFromFirst_33 (by decide) ?_
        exact ih _ _ _ _ _ hP hS (lv_sub hl [1, 0] rfl) hf
  exact hL3 _ _ _ _ _ _ hP hS (lv_sub hl [1, 0] rfl) hf
set_option maxHeartbeats 4000000 in
set_option maxRecDepth 100000 in
theorem c_Tr_nearestFromSecond {l : Launch} {D : va_G} {K : Nat → ClassId} {ad : Nat → Nat} (hj : inj ad)   {x1 : Int32} {σ : GS} {z0 : Int32 × GS} (hf : F_Tr_nearestFromSecond x1 σ = some z0) : CT l D K ad y_Tr_nearestFromSecond b_Tr_nearestFromSecond 3 (some .int) 3 [.ref (ad 41), .int x1] σ (QI D K ad z0.1 z0.2) := by
  refine CT.intro hj (by decide) (Nat.le_of_ble_eq_true rfl) ?_
  intro p e s m args below meth c ls hC hP hS hl
  obtain ⟨hx, hb, -, hown, hts, -⟩ := id hC
  have hl : lv_has ls 3 [(0, .ref (ad 41)), (1, .int x1)] := hl
  rw [F_Tr_nearestFromSecond] at hf
  refine lv_aload_n hx hb d_Tr_nearestFromSecond_0 rfl (lv_at hl 0 rfl) ?_
  refine g_get (v := .ref (ad 48)) hC hP o_41 co_Tr 3 (by decide) rfl fl_Tr_22 rfl d_Tr_nearestFromSecond_1 ?_
  obtain ⟨σ2, hk1, hf⟩ := bv_some hf
  refine g_callv hS (g_runV (As := []) (rest := []) hC hP (c_Wd_clear hj ⟨o_48, a_49⟩ hk1) (rk (by decide) (by decide)) nm_Wd_clear cd_Wd_clear it_WideTown_Word ml_Tr_49 im_Wd_clear sl_Wd_clear o_48 co_Wd rfl hl.1 rfl (Nat.le_of_ble_eq_true rfl) d_Tr_nearestFromSecond_4 zz) (fun H locs hP hS => ?_)
  refine lv_iload_n hx hb d_Tr_nearestFromSecond_7 rfl (lv_at hl 1 rfl) ?_
  refine lv_istore_n (lv' := [(2, .int x1), (0, .ref (ad 41)), (1, .int x1)]) hx hb d_Tr_nearestFromSecond_8 rfl hl (by decide) rfl (fun ls hl => ?_)
  obtain ⟨KL3_41, eKL3_41, hf⟩ := jn_some hf
  have hKL3_41 : ∀ (v2_3 : Int32) (σL3 : GS) (H : Heap) (locs : List Loc) (ls : Array Slot), va_P D vwCl (wG K ad σL3) H → va_S (GA ad) s.heap H locs → lv_has ls 3 [(0, .ref (ad 41))] → KL3_41 v2_3 σL3 = some z0 → W p l e (rmd 3) s m args below meth c H locs 0 0 (MQ below (QI D K ad z0.1 z0.2) args s 0 0 (GA ad)) (F0 m 41 ls []) := by
    clear hf
    intro v2_3 σL3 H locs ls hP hS hl hf
    rw [eKL3_41] at hf
    try dsimp only at hf
    refine lv_aload_n hx hb d_Tr_nearestFromSecond_41 rfl (lv_at hl 0 rfl) ?_
    refine lv_aload_n hx hb d_Tr_nearestFromSecond_42 rfl (lv_at hl 0 rfl) ?_
    refine g_get (v := .ref (ad 46)) hC hP o_41 co_Tr 2 (by decide) rfl fl_Tr_19 rfl d_Tr_nearestFromSecond_43 ?_
    obtain ⟨r5, σ6, hk4, hf⟩ := bc_some hf
    refine g_calli hS (g_runV (As := [.ref (ad 46)]) (rest := []) hC hP (c_Tr_nearestAlong hj ⟨o_46, a_47⟩ hk4) (rk (by decide) (by decide)) nm_Tr_nearestAlong cd_Tr_nearestAlong it_WideTown_Triangle ml_Tr_59 im_Tr_nearestAlong sl_Tr_nearestAlong o_41 co_Tr rfl hl.1 rfl (Nat.le_of_ble_eq_true rfl) d_Tr_nearestFromSecond_46 zz) (fun H locs hP hS => ?_)
    cases hf
    exact g_iret hC rfl hP hS d_Tr_nearestFromSecond_49
  clear eKL3_41
  have hL3 : ∀ (n : Nat) (v2_3 : Int32) (σL3 : GS) (H : Heap) (locs : List Loc) (ls : Array Slot), va_P D vwCl (wG K ad σL3) H → va_S (GA ad) s.heap H locs → lv_has ls 3 [(0, .ref (ad 41)), (2, .int v2_3)] → F_Tr_nearestFromSecond_9 KL3_41 n v2_3 σL3 = some z0 → W p l e (rmd 3) s m args below meth c H locs 0 0 (MQ below (QI D K ad z0.1 z0.2) args s 0 0 (GA ad)) (F0 m 9 ls []) := by
    clear hf
    intro n
    induction n with
    | zero =>
      intro v2_3 σL3 H locs ls hP hS hl hf
      rw [F_Tr_nearestFromSecond_9.eq_1] at hf
      cases hf
    | succ n ih =>
      intro v2_3 σL3 H locs ls hP hS hl hf
      rw [F_Tr_nearestFromSecond_9.eq_2] at hf
      refine lv_iload_n hx hb d_Tr_nearestFromSecond_9 rfl (lv_at hl 1 rfl) ?_
      refine lv_aload_n hx hb d_Tr_nearestFromSecond_10 rfl (lv_at hl 0 rfl) ?_
      refine g_get (v := .ref (ad 42)) hC hP o_41 co_Tr 0 (by decide) rfl fl_Tr_10 rfl d_Tr_nearestFromSecond_11 ?_
      refine g_get (v := .int (σL3.1 42 1)) hC hP o_42 co_Wd 1 (by decide) rfl fl_Tr_29 rfl d_Tr_nearestFromSecond_14 ?_
      refine lv_icmp_ge (tgt := 41) hx hb d_Tr_nearestFromSecond_17 (by decide) (fun hc11 => ?_) (fun hc11 => ?_)
      · rw [if_pos hc11] at hf
        exact hKL3_41 _ _ _ _ _ hP hS (lv_sub hl [0] rfl) hf
      · rw [if_neg hc11] at hf
        refine lv_aload_n hx hb d_Tr_nearestFromSecond_20 rfl (lv_at hl 0 rfl) ?_
        refine g_get (v := .ref (ad 48)) hC hP o_41 co_Tr 3 (by decide) rfl fl_Tr_22 rfl d_Tr_nearestFromSecond_21 ?_
        refine lv_aload_n hx hb d_Tr_nearestFromSecond_24 rfl (lv_at hl 0 rfl) ?_
        refine g_get (v := .ref (ad 42)) hC hP o_41 co_Tr 0 (by decide) rfl fl_Tr_10 rfl d_Tr_nearestFromSecond_25 ?_
        refine lv_iload_n hx hb d_Tr_nearestFromSecond_28 rfl (lv_at hl 1 rfl) ?_
        obtain ⟨r8, hk7, hf⟩ := bp_some hf
        refine g_calli hS (g_runV (As := [.int v2_3]) (rest := [.ref (ad 48)]) hC hP (c_Wd_streetAt hj ⟨o_42, a_43⟩ hk7) (rk (by decide) (by decide)) nm_Wd_streetAt cd_Wd_streetAt it_WideTown_Word ml_Tr_52 im_Wd_streetAt sl_Wd_streetAt o_42 co_Wd rfl hl.1 rfl (Nat.le_of_ble_eq_true rfl) d_Tr_nearestFromSecond_29 zz) (fun H locs hP hS => ?_)
        obtain ⟨σ10, hk9, hf⟩ := bv_some hf
        refine g_callv hS (g_runV (As := [.int r8]) (rest := []) hC hP (c_Wd_go hj ⟨o_48, a_49⟩ hk9) (rk (by decide) (by decide)) nm_Wd_go cd_Wd_go it_WideTown_Word ml_Tr_55 im_Wd_go sl_Wd_go o_48 co_Wd rfl hl.1 rfl (Nat.le_of_ble_eq_true rfl) d_Tr_nearestFromSecond_32 zz) (fun H locs hP hS => ?_)
        refine lv_iinc (v := v2_3 + 1) (lv' := [(2, .int (v2_3 + 1)), (0, .ref (ad 41))]) hx hb d_Tr_nearestFromSecond_35 hl (k := 1) rfl rfl (by decide) rfl (fun ls hl => ?_)
        refine lv_goto (tgt := 9) hx hb d_Tr_nearestFromSecond_38 (by decide) ?_
        exact ih _ _ _ _ _ hP hS (lv_sub hl [1, 0] rfl) hf
  exact hL3 _ _ _ _ _ _ hP hS (lv_sub hl [1, 0] rfl) hf
set_option maxHeartbeats 4000000 in
set_option maxRecDepth 100000 in
theorem c_Tr_width {l : Launch} {D : va_G} {K : Nat → ClassId} {ad : Nat → Nat} (hj : inj ad)   {x1 : Int32} {x2 : Int32} {x3 : Int32} {σ : GS} {z0 : Int32 × GS} (hf : F_Tr_width x1 x2 x3 σ = some z0) : CT l D K ad y_Tr_width b_Tr_width 6 (some .int) 4 [.ref (ad 41), .int x1, .int x2, .int x3] σ (QI D K ad z0.1 z0.2) := by
  refine CT.intro hj (by decide) (Nat.le_of_ble_eq_true rfl) ?_
  intro p e s m args below meth c ls hC hP hS hl
  obtain ⟨hx, hb, -, hown, hts, -⟩ := id hC
  have hl : lv_has ls 6 [(0, .ref (ad 41)), (1, .int x1), (2, .int x2), (3, .int x3)] := hl
  rw [F_Tr_width] at hf
  refine lv_aload_n hx hb d_Tr_width_0 rfl (lv_at hl 0 rfl) ?_
  refine g_get (v := .ref (ad 42)) hC hP o_41 co_Tr 0 (by decide) rfl fl_Tr_10 rfl d_Tr_width_1 ?_
  refine lv_iload_n hx hb d_Tr_width_4 rfl (lv_at hl 1 rfl) ?_
  refine lv_iload_n hx hb d_Tr_width_5 rfl (lv_at hl 2 rfl) ?_
  obtain ⟨σ2, hk1, hf⟩ := bv_some hf
  refine g_callv hS (g_runV (As := [.int x1, .int x2]) (rest := []) hC hP (c_Wd_becomesWay hj ⟨o_42, a_43⟩ hk1) (rk (by decide) (by decide)) nm_Wd_becomesWay cd_Wd_becomesWay it_WideTown_Word ml_Tr_25 im_Wd_becomesWay sl_Wd_becomesWay o_42 co_Wd rfl hl.1 rfl (Nat.le_of_ble_eq_true rfl) d_Tr_width_6 zz) (fun H locs hP hS => ?_)
  refine lv_aload_n hx hb d_Tr_width_9 rfl (lv_at hl 0 rfl) ?_
  refine g_get (v := .ref (ad 44)) hC hP o_41 co_Tr 1 (by decide) rfl fl_Tr_16 rfl d_Tr_width_10 ?_
  refine lv_iload_n hx hb d_Tr_width_13 rfl (lv_at hl 1 rfl) ?_
  refine lv_iload_n hx hb d_Tr_width_14 rfl (lv_at hl 3 rfl) ?_
  obtain ⟨σ4, hk3, hf⟩ := bv_some hf
  refine g_callv hS (g_runV (As := [.int x1, .int x3]) (rest := []) hC hP (c_Wd_becomesWay hj ⟨o_44, a_45⟩ hk3) (rk (by decide) (by decide)) nm_Wd_becomesWay cd_Wd_becomesWay it_WideTown_Word ml_Tr_25 im_Wd_becomesWay sl_Wd_becomesWay o_44 co_Wd rfl hl.1 rfl (Nat.le_of_ble_eq_true rfl) d_Tr_width_15 zz) (fun H locs hP hS => ?_)
  refine lv_aload_n hx hb d_Tr_width_18 rfl (lv_at hl 0 rfl) ?_
  refine g_get (v := .ref (ad 46)) hC hP o_41 co_Tr 2 (by decide) rfl fl_Tr_19 rfl d_Tr_width_19 ?_
  refine lv_iload_n hx hb d_Tr_width_22 rfl (lv_at hl 2 rfl) ?_
  refine lv_iload_n hx hb d_Tr_width_23 rfl (lv_at hl 3 rfl) ?_
  obtain ⟨σ6, hk5, hf⟩ := bv_some hf
  refine g_callv hS (g_runV (As := [.int x2, .int x3]) (rest := []) hC hP (c_Wd_becomesWay hj ⟨o_46, a_47⟩ hk5) (rk (by decide) (by decide)) nm_Wd_becomesWay cd_Wd_becomesWay it_WideTown_Word ml_Tr_25 im_Wd_becomesWay sl_Wd_becomesWay o_46 co_Wd rfl hl.1 rfl (Nat.le_of_ble_eq_true rfl) d_Tr_width_24 zz) (fun H locs hP hS => ?_)
  refine lv_iconst (v := (0 : Int32)) hx hb d_Tr_width_27 (by decide) ?_
  refine lv_istore (lv' := [(4, .int (0 : Int32)), (0, .ref (ad 41)), (1, .int x1), (2, .int x2), (3, .int x3)]) hx hb d_Tr_width_28 hl (by decide) rfl (fun ls hl => ?_)
  refine lv_iconst (v := (0 : Int32)) hx hb d_Tr_width_30 (by decide) ?_
  refine lv_istore (lv' := [(5, .int (0 : Int32)), (4, .int (0 : Int32)), (0, .ref (ad 41)), (1, .int x1), (2, .int x2), (3, .int x3)]) hx hb d_Tr_width_31 hl (by decide) rfl (fun ls hl => ?_)
  obtain ⟨KL7_73, eKL7_73, hf⟩ := jn_some hf
  have hKL7_73 : ∀ (v4_7 : Int32) (v5_7 : Int32) (σL7 : GS) (H : Heap) (locs : List Loc) (ls : Array Slot), va_P D vwCl (wG K ad σL7) H → va_S (GA ad) s.heap H locs → lv_has ls 6 [(4, .int v4_7)] → KL7_73 v4_7 v5_7 σL7 = some z0 → W p l e (rmd 4) s m args below meth c H locs 0 0 (MQ below (QI D K ad z0.1 z0.2) args s 0 0 (GA ad)) (F0 m 73 ls []) := by
    clear hf
    intro v4_7 v5_7 σL7 H locs ls hP hS hl hf
    rw [eKL7_73] at hf
    try dsimp only at hf
    refine lv_iload hx hb d_Tr_width_73 (lv_at hl 0 rfl) ?_
    cases hf
    exact g_iret hC rfl hP hS d_Tr_width_75
  clear eKL7_73
  have hL7 : ∀ (n : Nat) (v4_7 : Int32) (v5_7 : Int32) (σL7 : GS) (H : Heap) (locs : List Loc) (ls : Array Slot), va_P D vwCl (wG K ad σL7) H → va_S (GA ad) s.heap H locs → lv_has ls 6 [(0, .ref (ad 41)), (4, .int v4_7), (5, .int v5_7)] → F_Tr_width_33 KL7_73 n v4_7 v5_7 σL7 = some z0 → W p l e (rmd 4) s m args below meth c H locs 0 0 (MQ below (QI D K ad z0.1 z0.2) args s 0 0 (GA ad)) (F0 m 33 ls []) := by
    clear hf
    intro n
    induction n with
    | zero =>
      intro v4_7 v5_7 σL7 H locs ls hP hS hl hf
      rw [F_Tr_width_33.eq_1] at hf
      cases hf
    | succ n ih =>
      intro v4_7 v5_7 σL7 H locs ls hP hS hl hf
      rw [F_Tr_width_33.eq_2] at hf
      refine lv_iload hx hb d_Tr_width_33 (lv_at hl 2 rfl) ?_
      refine lv_aload_n hx hb d_Tr_width_35 rfl (lv_at hl 0 rfl) ?_
      refine g_get (v := .ref (ad 42)) hC hP o_41 co_Tr 0 (by decide) rfl fl_Tr_10 rfl d_Tr_width_36 ?_
      refine g_get (v := .int (σL7.1 42 1)) hC hP o_42 co_Wd 1 (by decide) rfl fl_Tr_29 rfl d_Tr_width_39 ?_
      refine lv_icmp_gt (tgt := 73) hx hb d_Tr_width_42 (by decide) (fun hc14 => ?_) (fun hc14 => ?_)
      · rw [if_pos hc14] at hf
        exact hKL7_73 _ _ _ _ _ _ hP hS (lv_sub hl [1] rfl) hf
      · rw [if_neg hc14] at hf
        refine lv_iload hx hb d_Tr_width_45 (lv_at hl 1 rfl) ?_
        refine lv_aload_n hx hb d_Tr_width_47 rfl (lv_at hl 0 rfl) ?_
        refine lv_iload hx hb d_Tr_width_48 (lv_at hl 2 rfl) ?_
        obtain ⟨r9, σ10, hk8, hf⟩ := bc_some hf
        refine g_calli hS (g_runV (As := [.int v5_7]) (rest := [.int v4_7]) hC hP (c_Tr_nearestFromFirst hj  hk8) (rk (by decide) (by decide)) nm_Tr_nearestFromFirst cd_Tr_nearestFromFirst it_WideTown_Triangle ml_Tr_33 im_Tr_nearestFromFirst sl_Tr_nearestFromFirst o_41 co_Tr rfl hl.1 rfl (Nat.le_of_ble_eq_true rfl) d_Tr_width_50 zz) (fun H locs hP hS => ?_)
        refine lv_aload_n hx hb d_Tr_width_53 rfl (lv_at hl 0 rfl) ?_
        refine lv_iload hx hb d_Tr_width_54 (lv_at hl 2 rfl) ?_
        obtain ⟨r12, σ13, hk11, hf⟩ := bc_some hf
        refine g_calli hS (g_runV (As := [.int v5_7]) (rest := [.int r9, .int v4_7]) hC hP (c_Tr_nearestFromSecond hj  hk11) (rk (by decide) (by decide)) nm_Tr_nearestFromSecond cd_Tr_nearestFromSecond it_WideTown_Triangle ml_Tr_37 im_Tr_nearestFromSecond sl_Tr_nearestFromSecond o_41 co_Tr rfl hl.1 rfl (Nat.le_of_ble_eq_true rfl) d_Tr_width_56 zz) (fun H locs hP hS => ?_)
        refine g_mmin hC hl.1 ml_Tr_40 sc_Mmin cd_Mmin it_java_lang_Math (Nat.le_of_ble_eq_true rfl) (Nat.le_of_ble_eq_true rfl) zz d_Tr_width_59 ?_
        refine g_mmax hC hl.1 ml_Tr_46 sc_Mmax cd_Mmax it_java_lang_Math (Nat.le_of_ble_eq_true rfl) (Nat.le_of_ble_eq_true rfl) zz d_Tr_width_62 ?_
        refine lv_istore (lv' := [(4, .int (if v4_7 < (if r12 < r9 then r12 else r9) then (if r12 < r9 then r12 else r9) else v4_7)), (0, .ref (ad 41)), (5, .int v5_7)]) hx hb d_Tr_width_65 hl (by decide) rfl (fun ls hl => ?_)
        refine lv_iinc (v := v5_7 + 1) (lv' := [(5, .int (v5_7 + 1)), (4, .int (if v4_7 < (if r12 < r9 then r12 else r9) then (if r12 < r9 then r12 else r9) else v4_7)), (0, .ref (ad 41))]) hx hb d_Tr_width_67 hl (k := 2) rfl rfl (by decide) rfl (fun ls hl => ?_)
        refine lv_goto (tgt := 33) hx hb d_Tr_width_70 (by decide) ?_
        exact ih _ _ _ _ _ _ hP hS (lv_sub hl [2, 1, 0] rfl) hf
  exact hL7 _ _ _ _ _ _ _ hP hS (lv_sub hl [2, 1, 0] rfl) hf
set_option maxHeartbeats 4000000 in
set_option maxRecDepth 100000 in
theorem c_X_isRow {l : Launch} {D : va_G} {K : Nat → ClassId} {ad : Nat → Nat} (hj : inj ad)   {x0 : Int32} {σ : GS} {z0 : Int32} (hf : F_X_isRow x0 = some z0) : CT l D K ad y_X_isRow b_X_isRow 1 (some .boolean) 0 [.int x0] σ (QI D K ad z0 σ) := by
  refine CT.intro hj (by decide) (Nat.le_of_ble_eq_true rfl) ?_
  intro p e s m args below meth c ls hC hP hS hl
  obtain ⟨hx, hb, -, hown, hts, -⟩ := id hC
  have hl : lv_has ls 1 [(0, .int x0)] := hl
  rw [F_X_isRow] at hf
  refine lv_iload_n hx hb d_X_isRow_0 rfl (lv_at hl 0 rfl) ?_
  refine lv_if_lt (tgt := 14) hx hb d_X_isRow_1 (by decide) (fun hc2 => ?_) (fun hc2 => ?_)
  · rw [if_pos hc2] at hf
    refine lv_iconst (v := (0 : Int32)) hx hb d_X_isRow_14 (by decide) ?_
    cases hf
    exact g_zret hC rfl (by decide) hP hS d_X_isRow_15
  · rw [if_neg hc2] at hf
    refine lv_iload_n hx hb d_X_isRow_4 rfl (lv_at hl 0 rfl) ?_
    refine lv_bipush (v := (6 : Int32)) hx hb d_X_isRow_5 (by decide) ?_
    refine lv_icmp_ge (tgt := 14) hx hb d_X_isRow_7 (by decide) (fun hc1 => ?_) (fun hc1 => ?_)
    · rw [if_pos hc1] at hf
      refine lv_iconst (v := (0 : Int32)) hx hb d_X_isRow_14 (by decide) ?_
      cases hf
      exact g_zret hC rfl (by decide) hP hS d_X_isRow_15
    · rw [if_neg hc1] at hf
      refine lv_iconst (v := (1 : Int32)) hx hb d_X_isRow_10 (by decide) ?_
      refine lv_goto (tgt := 15) hx hb d_X_isRow_11 (by decide) ?_
      cases hf
      exact g_zret hC rfl (by decide) hP hS d_X_isRow_15
set_option maxHeartbeats 4000000 in
set_option maxRecDepth 100000 in
theorem c_X_found {l : Launch} {D : va_G} {K : Nat → ClassId} {ad : Nat → Nat} (hj : inj ad)   {x1 : Int32} {σ : GS} {z0 : Int32 × GS} (hf : F_X_found x1 σ = some z0) : CT l D K ad y_X_found b_X_found 2 (some .int) 0 [.ref (ad 0), .int x1] σ (QI D K ad z0.1 z0.2) := by
  refine CT.intro hj (by decide) (Nat.le_of_ble_eq_true rfl) ?_
  intro p e s m args below meth c ls hC hP hS hl
  obtain ⟨hx, hb, -, hown, hts, -⟩ := id hC
  have hl : lv_has ls 2 [(0, .ref (ad 0)), (1, .int x1)] := hl
  rw [F_X_found] at hf
  refine lv_aload_n hx hb d_X_found_0 rfl (lv_at hl 0 rfl) ?_
  refine lv_iload_n hx hb d_X_found_1 rfl (lv_at hl 1 rfl) ?_
  obtain ⟨σ1, eσ1, hf⟩ := jn_some hf
  refine g_puti hC hP hS o_0 co_X 15 (by decide) rfl fl_X_92 rfl (to_X 15 (by decide)) (Nat.le_of_ble_eq_true rfl) rfl d_X_found_2 (fun H locs hP hS => ?_)
  rw [← eσ1] at hP
  refine lv_iload_n hx hb d_X_found_5 rfl (lv_at hl 1 rfl) ?_
  refine lv_iconst (v := (1 : Int32)) hx hb d_X_found_6 (by decide) ?_
  refine lv_icmp_lt (tgt := 25) hx hb d_X_found_7 (by decide) (fun hc6 => ?_) (fun hc6 => ?_)
  · rw [if_pos hc6] at hf
    refine lv_bipush (v := (-3 : Int32)) hx hb d_X_found_25 (by decide) ?_
    cases hf
    exact g_iret hC rfl hP hS d_X_found_27
  · rw [if_neg hc6] at hf
    refine lv_iload_n hx hb d_X_found_10 rfl (lv_at hl 1 rfl) ?_
    refine lv_iconst (v := (5 : Int32)) hx hb d_X_found_11 (by decide) ?_
    refine lv_icmp_gt (tgt := 25) hx hb d_X_found_12 (by decide) (fun hc5 => ?_) (fun hc5 => ?_)
    · rw [if_pos hc5] at hf
      refine lv_bipush (v := (-3 : Int32)) hx hb d_X_found_25 (by decide) ?_
      cases hf
      exact g_iret hC rfl hP hS d_X_found_27
    · rw [if_neg hc5] at hf
      refine lv_aload_n hx hb d_X_found_15 rfl (lv_at hl 0 rfl) ?_
      refine g_get (v := .ref (ad 62)) hC hP o_0 co_X 14 (by decide) rfl fl_X_89 rfl d_X_found_16 ?_
      refine lv_iload_n hx hb d_X_found_19 rfl (lv_at hl 1 rfl) ?_
      refine lv_dup2_11 hx hb d_X_found_20 rfl rfl ?_
      obtain ⟨hg2, hf⟩ := gd_some hf
      refine g_iald2 (j := x1.toNatClampNeg) hC hP a_62 hg2 rfl d_X_found_21 ?_
      refine lv_iconst (v := (1 : Int32)) hx hb d_X_found_22 (by decide) ?_
      refine lv_iadd hx hb d_X_found_23 ?_
      obtain ⟨hg3, hf⟩ := gd_some hf
      obtain ⟨σ4, eσ4, hf⟩ := jn_some hf
      refine g_iast2 (j := x1.toNatClampNeg) hC hP hS a_62 hg3 rfl d_X_found_24 (fun H locs hP hS => ?_)
      rw [← eσ4] at hP
      refine lv_bipush (v := (-3 : Int32)) hx hb d_X_found_25 (by decide) ?_
      cases hf
      exact g_iret hC rfl hP hS d_X_found_27
set_option maxHeartbeats 4000000 in
set_option maxRecDepth 100000 in
theorem c_X_renewRow {l : Launch} {D : va_G} {K : Nat → ClassId} {ad : Nat → Nat} (hj : inj ad)   {x1 : Int32} {x2 : Int32} {σ : GS} {z0 : GS} (hf : F_X_renewRow x1 x2 σ = some z0) : CT l D K ad y_X_renewRow b_X_renewRow 3 none 1 [.ref (ad 0), .int x1, .int x2] σ (QV D K ad z0) := by
  refine CT.intro hj (by decide) (Nat.le_of_ble_eq_true rfl) ?_
  intro p e s m args below meth c ls hC hP hS hl
  obtain ⟨hx, hb, -, hown, hts, -⟩ := id hC
  have hl : lv_has ls 3 [(0, .ref (ad 0)), (1, .int x1), (2, .int x2)] := hl
  rw [F_X_renewRow] at hf
  refine lv_aload_n hx hb d_X_renewRow_0 rfl (lv_at hl 0 rfl) ?_
  refine g_get (v := .ref (ad 8)) hC hP o_0 co_X 1 (by decide) rfl fl_X_14 rfl d_X_renewRow_1 ?_
  refine lv_iload_n hx hb d_X_renewRow_4 rfl (lv_at hl 1 rfl) ?_
  refine lv_iload_n hx hb d_X_renewRow_5 rfl (lv_at hl 2 rfl) ?_
  obtain ⟨hg1, hf⟩ := gd_some hf
  obtain ⟨σ2, eσ2, hf⟩ := jn_some hf
  refine g_iast2 (j := x1.toNatClampNeg) hC hP hS a_8 hg1 rfl d_X_renewRow_6 (fun H locs hP hS => ?_)
  rw [← eσ2] at hP
  refine lv_aload_n hx hb d_X_renewRow_7 rfl (lv_at hl 0 rfl) ?_
  refine g_get (v := .ref (ad 1)) hC hP o_0 co_X 0 (by decide) rfl fl_X_11 rfl d_X_renewRow_8 ?_
  refine lv_iload_n hx hb d_X_renewRow_11 rfl (lv_at hl 1 rfl) ?_
  obtain ⟨hg3, hf⟩ := gd_some hf
  refine g_aald hC hP r_1 rfl rfl hg3 d_X_renewRow_12 ?_
  refine lv_iconst (v := (0 : Int32)) hx hb d_X_renewRow_13 (by decide) ?_
  obtain ⟨σ5, hk4, hf⟩ := bv_some hf
  refine g_callv hS (g_runS (As := [.ref (ad (2 + x1.toNatClampNeg)), .int (0 : Int32)]) (rest := []) hC hP (c_J_fillI hj (rowA hg3) hk4) (rk (by decide) (by decide)) nm_J_fillI cd_J_fillI it_java_util_Arrays ml_X_106 sc_J_fillI rfl hl.1 rfl (Nat.le_of_ble_eq_true rfl) d_X_renewRow_14 zz) (fun H locs hP hS => ?_)
  cases hf
  exact g_vret hC rfl hP hS d_X_renewRow_17
set_option maxHeartbeats 4000000 in
set_option maxRecDepth 100000 in
theorem c_X_row {l : Launch} {D : va_G} {K : Nat → ClassId} {ad : Nat → Nat} (hj : inj ad)   {x1 : Int32} {x2 : Int32} {σ : GS} {z0 : Int32 × GS} (hf : F_X_row x1 x2 σ = some z0) : CT l D K ad y_X_row b_X_row 3 (some .int) 2 [.ref (ad 0), .int x1, .int x2] σ (QI D K ad z0.1 z0.2) := by
  refine CT.intro hj (by decide) (Nat.le_of_ble_eq_true rfl) ?_
  intro p e s m args below meth c ls hC hP hS hl
  obtain ⟨hx, hb, -, hown, hts, -⟩ := id hC
  have hl : lv_has ls 3 [(0, .ref (ad 0)), (1, .int x1), (2, .int x2)] := hl
  rw [F_X_row] at hf
  refine lv_iload_n hx hb d_X_row_0 rfl (lv_at hl 1 rfl) ?_
  obtain ⟨r2, hk1, hf⟩ := bp_some hf
  refine g_calli hS (g_runS (As := [.int x1]) (rest := []) hC hP (c_X_isRow hj  hk1) (rk (by decide) (by decide)) nm_X_isRow cd_X_isRow it_WideTown ml_X_112 sc_X_isRow rfl hl.1 rfl (Nat.le_of_ble_eq_true rfl) d_X_row_1 zz) (fun H locs hP hS => ?_)
  refine lv_if_eq (tgt := 13) hx hb d_X_row_4 (by decide) (fun hc10 => ?_) (fun hc10 => ?_)
  · rw [if_pos hc10] at hf
    refine lv_iconst (v := (-1 : Int32)) hx hb d_X_row_13 (by decide) ?_
    cases hf
    exact g_iret hC rfl hP hS d_X_row_14
  · rw [if_neg hc10] at hf
    refine lv_iload_n hx hb d_X_row_7 rfl (lv_at hl 2 rfl) ?_
    refine lv_bipush (v := (40 : Int32)) hx hb d_X_row_8 (by decide) ?_
    refine lv_icmp_le (tgt := 15) hx hb d_X_row_10 (by decide) (fun hc9 => ?_) (fun hc9 => ?_)
    · rw [if_pos hc9] at hf
      refine lv_iload_n hx hb d_X_row_15 rfl (lv_at hl 2 rfl) ?_
      refine lv_if_ge (tgt := 25) hx hb d_X_row_16 (by decide) (fun hc8 => ?_) (fun hc8 => ?_)
      · rw [if_pos hc8] at hf
        refine lv_aload_n hx hb d_X_row_25 rfl (lv_at hl 0 rfl) ?_
        refine lv_iload_n hx hb d_X_row_26 rfl (lv_at hl 1 rfl) ?_
        refine lv_iload_n hx hb d_X_row_27 rfl (lv_at hl 2 rfl) ?_
        obtain ⟨σ4, hk3, hf⟩ := bv_some hf
        refine g_callv hS (g_runV (As := [.int x1, .int x2]) (rest := []) hC hP (c_X_renewRow hj  hk3) (rk (by decide) (by decide)) nm_X_renewRow cd_X_renewRow it_WideTown ml_X_120 im_X_renewRow sl_X_renewRow o_0 co_X rfl hl.1 rfl (Nat.le_of_ble_eq_true rfl) d_X_row_28 zz) (fun H locs hP hS => ?_)
        refine lv_iload_n hx hb d_X_row_31 rfl (lv_at hl 2 rfl) ?_
        cases hf
        exact g_iret hC rfl hP hS d_X_row_32
      · rw [if_neg hc8] at hf
        refine lv_aload_n hx hb d_X_row_19 rfl (lv_at hl 0 rfl) ?_
        refine lv_iconst (v := (5 : Int32)) hx hb d_X_row_20 (by decide) ?_
        obtain ⟨r6, σ7, hk5, hf⟩ := bc_some hf
        refine g_calli hS (g_runV (As := [.int (5 : Int32)]) (rest := []) hC hP (c_X_found hj  hk5) (rk (by decide) (by decide)) nm_X_found cd_X_found it_WideTown ml_X_116 im_X_found sl_X_found o_0 co_X rfl hl.1 rfl (Nat.le_of_ble_eq_true rfl) d_X_row_21 zz) (fun H locs hP hS => ?_)
        cases hf
        exact g_iret hC rfl hP hS d_X_row_24
    · rw [if_neg hc9] at hf
      refine lv_iconst (v := (-1 : Int32)) hx hb d_X_row_13 (by decide) ?_
      cases hf
      exact g_iret hC rfl hP hS d_X_row_14
set_option maxHeartbeats 4000000 in
set_option maxRecDepth 100000 in
theorem c_X_rowRefusal {l : Launch} {D : va_G} {K : Nat → ClassId} {ad : Nat → Nat} (hj : inj ad)   {x1 : Int32} {σ : GS} {z0 : Int32 × GS} (hf : F_X_rowRefusal x1 σ = some z0) : CT l D K ad y_X_rowRefusal b_X_rowRefusal 2 (some .int) 1 [.ref (ad 0), .int x1] σ (QI D K ad z0.1 z0.2) := by
  refine CT.intro hj (by decide) (Nat.le_of_ble_eq_true rfl) ?_
  intro p e s m args below meth c ls hC hP hS hl
  obtain ⟨hx, hb, -, hown, hts, -⟩ := id hC
  have hl : lv_has ls 2 [(0, .ref (ad 0)), (1, .int x1)] := hl
  rw [F_X_rowRefusal] at hf
  refine lv_iload_n hx hb d_X_rowRefusal_0 rfl (lv_at hl 1 rfl) ?_
  obtain ⟨r2, hk1, hf⟩ := bp_some hf
  refine g_calli hS (g_runS (As := [.int x1]) (rest := []) hC hP (c_X_isRow hj  hk1) (rk (by decide) (by decide)) nm_X_isRow cd_X_isRow it_WideTown ml_X_112 sc_X_isRow rfl hl.1 rfl (Nat.le_of_ble_eq_true rfl) d_X_rowRefusal_1 zz) (fun H locs hP hS => ?_)
  refine lv_if_ne (tgt := 9) hx hb d_X_rowRefusal_4 (by decide) (fun hc8 => ?_) (fun hc8 => ?_)
  · rw [if_neg hc8] at hf
    refine lv_aload_n hx hb d_X_rowRefusal_9 rfl (lv_at hl 0 rfl) ?_
    refine g_get (v := .ref (ad 8)) hC hP o_0 co_X 1 (by decide) rfl fl_X_14 rfl d_X_rowRefusal_10 ?_
    refine lv_iload_n hx hb d_X_rowRefusal_13 rfl (lv_at hl 1 rfl) ?_
    obtain ⟨hg3, hf⟩ := gd_some hf
    refine g_iald2 (j := x1.toNatClampNeg) hC hP a_8 hg3 rfl d_X_rowRefusal_14 ?_
    refine lv_if_ge (tgt := 26) hx hb d_X_rowRefusal_15 (by decide) (fun hc7 => ?_) (fun hc7 => ?_)
    · rw [if_pos hc7] at hf
      refine lv_iconst (v := (0 : Int32)) hx hb d_X_rowRefusal_26 (by decide) ?_
      cases hf
      exact g_iret hC rfl hP hS d_X_rowRefusal_27
    · rw [if_neg hc7] at hf
      refine lv_aload_n hx hb d_X_rowRefusal_18 rfl (lv_at hl 0 rfl) ?_
      refine lv_iconst (v := (1 : Int32)) hx hb d_X_rowRefusal_19 (by decide) ?_
      obtain ⟨r5, σ6, hk4, hf⟩ := bc_some hf
      refine g_calli hS (g_runV (As := [.int (1 : Int32)]) (rest := []) hC hP (c_X_found hj  hk4) (rk (by decide) (by decide)) nm_X_found cd_X_found it_WideTown ml_X_116 im_X_found sl_X_found o_0 co_X rfl hl.1 rfl (Nat.le_of_ble_eq_true rfl) d_X_rowRefusal_20 zz) (fun H locs hP hS => ?_)
      refine lv_goto (tgt := 27) hx hb d_X_rowRefusal_23 (by decide) ?_
      cases hf
      exact g_iret hC rfl hP hS d_X_rowRefusal_27
  · rw [if_pos hc8] at hf
    refine lv_iconst (v := (-1 : Int32)) hx hb d_X_rowRefusal_7 (by decide) ?_
    cases hf
    exact g_iret hC rfl hP hS d_X_rowRefusal_8
set_option maxHeartbeats 4000000 in
set_option maxRecDepth 100000 in
theorem c_X_placeRefusal {l : Launch} {D : va_G} {K : Nat → ClassId} {ad : Nat → Nat} (hj : inj ad)   {x1 : Int32} {x2 : Int32} {σ : GS} {z0 : Int32 × GS} (hf : F_X_placeRefusal x1 x2 σ = some z0) : CT l D K ad y_X_placeRefusal b_X_placeRefusal 4 (some .int) 2 [.ref (ad 0), .int x1, .int x2] σ (QI D K ad z0.1 z0.2) := by
  refine CT.intro hj (by decide) (Nat.le_of_ble_eq_true rfl) ?_
  intro p e s m args below meth c ls hC hP hS hl
  obtain ⟨hx, hb, -, hown, hts, -⟩ := id hC
  have hl : lv_has ls 4 [(0, .ref (ad 0)), (1, .int x1), (2, .int x2)] := hl
  rw [F_X_placeRefusal] at hf
  refine lv_aload_n hx hb d_X_placeRefusal_0 rfl (lv_at hl 0 rfl) ?_
  refine lv_iload_n hx hb d_X_placeRefusal_1 rfl (lv_at hl 1 rfl) ?_
  obtain ⟨r2, σ3, hk1, hf⟩ := bc_some hf
  refine g_calli hS (g_runV (As := [.int x1]) (rest := []) hC hP (c_X_rowRefusal hj  hk1) (rk (by decide) (by decide)) nm_X_rowRefusal cd_X_rowRefusal it_WideTown ml_X_128 im_X_rowRefusal sl_X_rowRefusal o_0 co_X rfl hl.1 rfl (Nat.le_of_ble_eq_true rfl) d_X_placeRefusal_2 zz) (fun H locs hP hS => ?_)
  refine lv_istore_n (lv' := [(3, .int r2), (0, .ref (ad 0)), (1, .int x1), (2, .int x2)]) hx hb d_X_placeRefusal_5 rfl hl (by decide) rfl (fun ls hl => ?_)
  refine lv_iload_n hx hb d_X_placeRefusal_6 rfl (lv_at hl 0 rfl) ?_
  refine lv_if_eq (tgt := 12) hx hb d_X_placeRefusal_7 (by decide) (fun hc11 => ?_) (fun hc11 => ?_)
  · rw [if_pos hc11] at hf
    refine lv_iload_n hx hb d_X_placeRefusal_12 rfl (lv_at hl 3 rfl) ?_
    obtain ⟨J4, eJ4, hf⟩ := jn_some hf
    have hJ4 : ∀ (dJ4 : Unit) (H : Heap) (locs : List Loc) (ls : Array Slot), va_P D vwCl (wG K ad σ3) H → va_S (GA ad) s.heap H locs → lv_has ls 4 [(0, .ref (ad 0))] → J4 dJ4 = some z0 → W p l e (rmd 2) s m args below meth c H locs 0 0 (MQ below (QI D K ad z0.1 z0.2) args s 0 0 (GA ad)) (F0 m 26 ls []) := by
      clear hf
      intro dJ4 H locs ls hP hS hl hf
      rw [eJ4] at hf
      try dsimp only at hf
      refine lv_aload_n hx hb d_X_placeRefusal_26 rfl (lv_at hl 0 rfl) ?_
      refine lv_iconst (v := (2 : Int32)) hx hb d_X_placeRefusal_27 (by decide) ?_
      obtain ⟨r6, σ7, hk5, hf⟩ := bc_some hf
      refine g_calli hS (g_runV (As := [.int (2 : Int32)]) (rest := []) hC hP (c_X_found hj  hk5) (rk (by decide) (by decide)) nm_X_found cd_X_found it_WideTown ml_X_116 im_X_found sl_X_found o_0 co_X rfl hl.1 rfl (Nat.le_of_ble_eq_true rfl) d_X_placeRefusal_28 zz) (fun H locs hP hS => ?_)
      refine lv_goto (tgt := 35) hx hb d_X_placeRefusal_31 (by decide) ?_
      cases hf
      exact g_iret hC rfl hP hS d_X_placeRefusal_35
    clear eJ4
    refine lv_if_lt (tgt := 26) hx hb d_X_placeRefusal_13 (by decide) (fun hc10 => ?_) (fun hc10 => ?_)
    · rw [if_pos hc10] at hf
      exact hJ4 _ _ _ _ hP hS (lv_sub hl [1] rfl) hf
    · rw [if_neg hc10] at hf
      refine lv_iload_n hx hb d_X_placeRefusal_16 rfl (lv_at hl 3 rfl) ?_
      refine lv_aload_n hx hb d_X_placeRefusal_17 rfl (lv_at hl 1 rfl) ?_
      refine g_get (v := .ref (ad 8)) hC hP o_0 co_X 1 (by decide) rfl fl_X_14 rfl d_X_placeRefusal_18 ?_
      refine lv_iload_n hx hb d_X_placeRefusal_21 rfl (lv_at hl 2 rfl) ?_
      obtain ⟨hg8, hf⟩ := gd_some hf
      refine g_iald2 (j := x1.toNatClampNeg) hC hP a_8 hg8 rfl d_X_placeRefusal_22 ?_
      refine lv_icmp_lt (tgt := 34) hx hb d_X_placeRefusal_23 (by decide) (fun hc9 => ?_) (fun hc9 => ?_)
      · rw [if_pos hc9] at hf
        refine lv_iconst (v := (0 : Int32)) hx hb d_X_placeRefusal_34 (by decide) ?_
        cases hf
        exact g_iret hC rfl hP hS d_X_placeRefusal_35
      · rw [if_neg hc9] at hf
        exact hJ4 _ _ _ _ hP hS (lv_sub hl [1] rfl) hf
  · rw [if_neg hc11] at hf
    refine lv_iload_n hx hb d_X_placeRefusal_10 rfl (lv_at hl 0 rfl) ?_
    cases hf
    exact g_iret hC rfl hP hS d_X_placeRefusal_11
set_option maxHeartbeats 4000000 in
set_option maxRecDepth 100000 in
theorem c_X_lay {l : Launch} {D : va_G} {K : Nat → ClassId} {ad : Nat → Nat} (hj : inj ad)   {x1 : Int32} {x2 : Int32} {x3 : Int32} {σ : GS} {z0 : Int32 × GS} (hf : F_X_lay x1 x2 x3 σ = some z0) : CT l D K ad y_X_lay b_X_lay 5 (some .int) 3 [.ref (ad 0), .int x1, .int x2, .int x3] σ (QI D K ad z0.1 z0.2) := by
  refine CT.intro hj (by decide) (Nat.le_of_ble_eq_true rfl) ?_
  intro p e s m args below meth c ls hC hP hS hl
  obtain ⟨hx, hb, -, hown, hts, -⟩ := id hC
  have hl : lv_has ls 5 [(0, .ref (ad 0)), (1, .int x1), (2, .int x2), (3, .int x3)] := hl
  rw [F_X_lay] at hf
  refine lv_aload_n hx hb d_X_lay_0 rfl (lv_at hl 0 rfl) ?_
  refine lv_iload_n hx hb d_X_lay_1 rfl (lv_at hl 1 rfl) ?_
  refine lv_iload_n hx hb d_X_lay_2 rfl (lv_at hl 2 rfl) ?_
  obtain ⟨r2, σ3, hk1, hf⟩ := bc_some hf
  refine g_calli hS (g_runV (As := [.int x1, .int x2]) (rest := []) hC hP (c_X_placeRefusal hj  hk1) (rk (by decide) (by decide)) nm_X_placeRefusal cd_X_placeRefusal it_WideTown ml_X_124 im_X_placeRefusal sl_X_placeRefusal o_0 co_X rfl hl.1 rfl (Nat.le_of_ble_eq_true rfl) d_X_lay_3 zz) (fun H locs hP hS => ?_)
  refine lv_istore (lv' := [(4, .int r2), (0, .ref (ad 0)), (1, .int x1), (2, .int x2), (3, .int x3)]) hx hb d_X_lay_6 hl (by decide) rfl (fun ls hl => ?_)
  refine lv_iload hx hb d_X_lay_8 (lv_at hl 0 rfl) ?_
  refine lv_if_eq (tgt := 16) hx hb d_X_lay_10 (by decide) (fun hc10 => ?_) (fun hc10 => ?_)
  · rw [if_pos hc10] at hf
    refine lv_aload_n hx hb d_X_lay_16 rfl (lv_at hl 1 rfl) ?_
    refine lv_aload_n hx hb d_X_lay_17 rfl (lv_at hl 1 rfl) ?_
    refine g_get (v := .ref (ad 1)) hC hP o_0 co_X 0 (by decide) rfl fl_X_11 rfl d_X_lay_18 ?_
    refine lv_iload_n hx hb d_X_lay_21 rfl (lv_at hl 2 rfl) ?_
    obtain ⟨hg4, hf⟩ := gd_some hf
    refine g_aald hC hP r_1 rfl rfl hg4 d_X_lay_22 ?_
    refine lv_iload_n hx hb d_X_lay_23 rfl (lv_at hl 3 rfl) ?_
    obtain ⟨hg5, hf⟩ := gd_some hf
    refine g_iald2 (j := x2.toNatClampNeg) hC hP (rowA hg4) hg5 rfl d_X_lay_24 ?_
    obtain ⟨σ6, eσ6, hf⟩ := jn_some hf
    refine g_puti hC hP hS o_0 co_X 16 (by decide) rfl fl_X_96 rfl (to_X 16 (by decide)) (Nat.le_of_ble_eq_true rfl) rfl d_X_lay_25 (fun H locs hP hS => ?_)
    rw [← eσ6] at hP
    refine lv_aload_n hx hb d_X_lay_28 rfl (lv_at hl 1 rfl) ?_
    refine g_get (v := .ref (ad 1)) hC hP o_0 co_X 0 (by decide) rfl fl_X_11 rfl d_X_lay_29 ?_
    refine lv_iload_n hx hb d_X_lay_32 rfl (lv_at hl 2 rfl) ?_
    obtain ⟨hg7, hf⟩ := gd_some hf
    refine g_aald hC hP r_1 rfl rfl hg7 d_X_lay_33 ?_
    refine lv_iload_n hx hb d_X_lay_34 rfl (lv_at hl 3 rfl) ?_
    refine lv_iload_n hx hb d_X_lay_35 rfl (lv_at hl 4 rfl) ?_
    obtain ⟨hg8, hf⟩ := gd_some hf
    obtain ⟨σ9, eσ9, hf⟩ := jn_some hf
    refine g_iast2 (j := x2.toNatClampNeg) hC hP hS (rowA hg7) hg8 rfl d_X_lay_36 (fun H locs hP hS => ?_)
    rw [← eσ9] at hP
    refine lv_iconst (v := (1 : Int32)) hx hb d_X_lay_37 (by decide) ?_
    cases hf
    exact g_iret hC rfl hP hS d_X_lay_38
  · rw [if_neg hc10] at hf
    refine lv_iload hx hb d_X_lay_13 (lv_at hl 0 rfl) ?_
    cases hf
    exact g_iret hC rfl hP hS d_X_lay_15
set_option maxHeartbeats 4000000 in
set_option maxRecDepth 100000 in
theorem c_X_at {l : Launch} {D : va_G} {K : Nat → ClassId} {ad : Nat → Nat} (hj : inj ad)   {x1 : Int32} {x2 : Int32} {σ : GS} {z0 : Int32 × GS} (hf : F_X_at x1 x2 σ = some z0) : CT l D K ad y_X_at b_X_at 4 (some .int) 3 [.ref (ad 0), .int x1, .int x2] σ (QI D K ad z0.1 z0.2) := by
  refine CT.intro hj (by decide) (Nat.le_of_ble_eq_true rfl) ?_
  intro p e s m args below meth c ls hC hP hS hl
  obtain ⟨hx, hb, -, hown, hts, -⟩ := id hC
  have hl : lv_has ls 4 [(0, .ref (ad 0)), (1, .int x1), (2, .int x2)] := hl
  rw [F_X_at] at hf
  refine lv_aload_n hx hb d_X_at_0 rfl (lv_at hl 0 rfl) ?_
  refine lv_iload_n hx hb d_X_at_1 rfl (lv_at hl 1 rfl) ?_
  refine lv_iload_n hx hb d_X_at_2 rfl (lv_at hl 2 rfl) ?_
  obtain ⟨r2, σ3, hk1, hf⟩ := bc_some hf
  refine g_calli hS (g_runV (As := [.int x1, .int x2]) (rest := []) hC hP (c_X_placeRefusal hj  hk1) (rk (by decide) (by decide)) nm_X_placeRefusal cd_X_placeRefusal it_WideTown ml_X_124 im_X_placeRefusal sl_X_placeRefusal o_0 co_X rfl hl.1 rfl (Nat.le_of_ble_eq_true rfl) d_X_at_3 zz) (fun H locs hP hS => ?_)
  refine lv_istore_n (lv' := [(3, .int r2), (0, .ref (ad 0)), (1, .int x1), (2, .int x2)]) hx hb d_X_at_6 rfl hl (by decide) rfl (fun ls hl => ?_)
  refine lv_iload_n hx hb d_X_at_7 rfl (lv_at hl 0 rfl) ?_
  refine lv_if_eq (tgt := 13) hx hb d_X_at_8 (by decide) (fun hc7 => ?_) (fun hc7 => ?_)
  · rw [if_pos hc7] at hf
    refine lv_aload_n hx hb d_X_at_13 rfl (lv_at hl 1 rfl) ?_
    refine lv_aload_n hx hb d_X_at_14 rfl (lv_at hl 1 rfl) ?_
    refine g_get (v := .ref (ad 1)) hC hP o_0 co_X 0 (by decide) rfl fl_X_11 rfl d_X_at_15 ?_
    refine lv_iload_n hx hb d_X_at_18 rfl (lv_at hl 2 rfl) ?_
    obtain ⟨hg4, hf⟩ := gd_some hf
    refine g_aald hC hP r_1 rfl rfl hg4 d_X_at_19 ?_
    refine lv_iload_n hx hb d_X_at_20 rfl (lv_at hl 3 rfl) ?_
    obtain ⟨hg5, hf⟩ := gd_some hf
    refine g_iald2 (j := x2.toNatClampNeg) hC hP (rowA hg4) hg5 rfl d_X_at_21 ?_
    obtain ⟨σ6, eσ6, hf⟩ := jn_some hf
    refine g_puti hC hP hS o_0 co_X 16 (by decide) rfl fl_X_96 rfl (to_X 16 (by decide)) (Nat.le_of_ble_eq_true rfl) rfl d_X_at_22 (fun H locs hP hS => ?_)
    rw [← eσ6] at hP
    refine lv_iconst (v := (1 : Int32)) hx hb d_X_at_25 (by decide) ?_
    cases hf
    exact g_iret hC rfl hP hS d_X_at_26
  · rw [if_neg hc7] at hf
    refine lv_iload_n hx hb d_X_at_11 rfl (lv_at hl 0 rfl) ?_
    cases hf
    exact g_iret hC rfl hP hS d_X_at_12
set_option maxHeartbeats 4000000 in
set_option maxRecDepth 100000 in
theorem c_X_tear {l : Launch} {D : va_G} {K : Nat → ClassId} {ad : Nat → Nat} (hj : inj ad)   {x1 : Int32} {σ : GS} {z0 : Int32 × GS} (hf : F_X_tear x1 σ = some z0) : CT l D K ad y_X_tear b_X_tear 3 (some .int) 2 [.ref (ad 0), .int x1] σ (QI D K ad z0.1 z0.2) := by
  refine CT.intro hj (by decide) (Nat.le_of_ble_eq_true rfl) ?_
  intro p e s m args below meth c ls hC hP hS hl
  obtain ⟨hx, hb, -, hown, hts, -⟩ := id hC
  have hl : lv_has ls 3 [(0, .ref (ad 0)), (1, .int x1)] := hl
  rw [F_X_tear] at hf
  refine lv_aload_n hx hb d_X_tear_0 rfl (lv_at hl 0 rfl) ?_
  refine lv_iload_n hx hb d_X_tear_1 rfl (lv_at hl 1 rfl) ?_
  obtain ⟨r2, σ3, hk1, hf⟩ := bc_some hf
  refine g_calli hS (g_runV (As := [.int x1]) (rest := []) hC hP (c_X_rowRefusal hj  hk1) (rk (by decide) (by decide)) nm_X_rowRefusal cd_X_rowRefusal it_WideTown ml_X_128 im_X_rowRefusal sl_X_rowRefusal o_0 co_X rfl hl.1 rfl (Nat.le_of_ble_eq_true rfl) d_X_tear_2 zz) (fun H locs hP hS => ?_)
  refine lv_istore_n (lv' := [(2, .int r2), (0, .ref (ad 0)), (1, .int x1)]) hx hb d_X_tear_5 rfl hl (by decide) rfl (fun ls hl => ?_)
  refine lv_iload_n hx hb d_X_tear_6 rfl (lv_at hl 0 rfl) ?_
  refine lv_if_eq (tgt := 12) hx hb d_X_tear_7 (by decide) (fun hc6 => ?_) (fun hc6 => ?_)
  · rw [if_pos hc6] at hf
    refine lv_aload_n hx hb d_X_tear_12 rfl (lv_at hl 1 rfl) ?_
    refine g_get (v := .ref (ad 8)) hC hP o_0 co_X 1 (by decide) rfl fl_X_14 rfl d_X_tear_13 ?_
    refine lv_iload_n hx hb d_X_tear_16 rfl (lv_at hl 2 rfl) ?_
    refine lv_iconst (v := (-1 : Int32)) hx hb d_X_tear_17 (by decide) ?_
    obtain ⟨hg4, hf⟩ := gd_some hf
    obtain ⟨σ5, eσ5, hf⟩ := jn_some hf
    refine g_iast2 (j := x1.toNatClampNeg) hC hP hS a_8 hg4 rfl d_X_tear_18 (fun H locs hP hS => ?_)
    rw [← eσ5] at hP
    refine lv_iconst (v := (1 : Int32)) hx hb d_X_tear_19 (by decide) ?_
    cases hf
    exact g_iret hC rfl hP hS d_X_tear_20
  · rw [if_neg hc6] at hf
    refine lv_iload_n hx hb d_X_tear_10 rfl (lv_at hl 0 rfl) ?_
    cases hf
    exact g_iret hC rfl hP hS d_X_tear_11
set_option maxHeartbeats 4000000 in
set_option maxRecDepth 100000 in
theorem c_X_hasPlaces {l : Launch} {D : va_G} {K : Nat → ClassId} {ad : Nat → Nat} (hj : inj ad)   {x0 : Int32} {x1 : Int32} {x2 : Int32} {σ : GS} {z0 : Int32} (hf : F_X_hasPlaces x0 x1 x2 = some z0) : CT l D K ad y_X_hasPlaces b_X_hasPlaces 3 (some .boolean) 0 [.int x0, .int x1, .int x2] σ (QI D K ad z0 σ) := by
  refine CT.intro hj (by decide) (Nat.le_of_ble_eq_true rfl) ?_
  intro p e s m args below meth c ls hC hP hS hl
  obtain ⟨hx, hb, -, hown, hts, -⟩ := id hC
  have hl : lv_has ls 3 [(0, .int x0), (1, .int x1), (2, .int x2)] := hl
  rw [F_X_hasPlaces] at hf
  refine lv_iload_n hx hb d_X_hasPlaces_0 rfl (lv_at hl 1 rfl) ?_
  refine lv_if_lt (tgt := 20) hx hb d_X_hasPlaces_1 (by decide) (fun hc3 => ?_) (fun hc3 => ?_)
  · rw [if_pos hc3] at hf
    refine lv_iconst (v := (0 : Int32)) hx hb d_X_hasPlaces_20 (by decide) ?_
    cases hf
    exact g_zret hC rfl (by decide) hP hS d_X_hasPlaces_21
  · rw [if_neg hc3] at hf
    refine lv_iload_n hx hb d_X_hasPlaces_4 rfl (lv_at hl 1 rfl) ?_
    refine lv_iload_n hx hb d_X_hasPlaces_5 rfl (lv_at hl 0 rfl) ?_
    refine lv_icmp_gt (tgt := 20) hx hb d_X_hasPlaces_6 (by decide) (fun hc2 => ?_) (fun hc2 => ?_)
    · rw [if_pos hc2] at hf
      refine lv_iconst (v := (0 : Int32)) hx hb d_X_hasPlaces_20 (by decide) ?_
      cases hf
      exact g_zret hC rfl (by decide) hP hS d_X_hasPlaces_21
    · rw [if_neg hc2] at hf
      refine lv_iload_n hx hb d_X_hasPlaces_9 rfl (lv_at hl 2 rfl) ?_
      refine lv_iload_n hx hb d_X_hasPlaces_10 rfl (lv_at hl 0 rfl) ?_
      refine lv_iload_n hx hb d_X_hasPlaces_11 rfl (lv_at hl 1 rfl) ?_
      refine lv_isub hx hb d_X_hasPlaces_12 ?_
      refine lv_icmp_gt (tgt := 20) hx hb d_X_hasPlaces_13 (by decide) (fun hc1 => ?_) (fun hc1 => ?_)
      · rw [if_pos hc1] at hf
        refine lv_iconst (v := (0 : Int32)) hx hb d_X_hasPlaces_20 (by decide) ?_
        cases hf
        exact g_zret hC rfl (by decide) hP hS d_X_hasPlaces_21
      · rw [if_neg hc1] at hf
        refine lv_iconst (v := (1 : Int32)) hx hb d_X_hasPlaces_16 (by decide) ?_
        refine lv_goto (tgt := 21) hx hb d_X_hasPlaces_17 (by decide) ?_
        cases hf
        exact g_zret hC rfl (by decide) hP hS d_X_hasPlaces_21
set_option maxHeartbeats 4000000 in
set_option maxRecDepth 100000 in
theorem c_X_copy {l : Launch} {D : va_G} {K : Nat → ClassId} {ad : Nat → Nat} (hj : inj ad)   {x1 : Int32} {x2 : Int32} {x3 : Int32} {x4 : Int32} {x5 : Int32} {σ : GS} {z0 : Int32 × GS} (hf : F_X_copy x1 x2 x3 x4 x5 σ = some z0) : CT l D K ad y_X_copy b_X_copy 6 (some .int) 1 [.ref (ad 0), .int x1, .int x2, .int x3, .int x4, .int x5] σ (QI D K ad z0.1 z0.2) := by
  refine CT.intro hj (by decide) (Nat.le_of_ble_eq_true rfl) ?_
  intro p e s m args below meth c ls hC hP hS hl
  obtain ⟨hx, hb, -, hown, hts, -⟩ := id hC
  have hl : lv_has ls 6 [(0, .ref (ad 0)), (1, .int x1), (2, .int x2), (3, .int x3), (4, .int x4), (5, .int x5)] := hl
  rw [F_X_copy] at hf
  refine lv_iload_n hx hb d_X_copy_0 rfl (lv_at hl 1 rfl) ?_
  obtain ⟨r2, hk1, hf⟩ := bp_some hf
  refine g_calli hS (g_runS (As := [.int x1]) (rest := []) hC hP (c_X_isRow hj  hk1) (rk (by decide) (by decide)) nm_X_isRow cd_X_isRow it_WideTown ml_X_112 sc_X_isRow rfl hl.1 rfl (Nat.le_of_ble_eq_true rfl) d_X_copy_1 zz) (fun H locs hP hS => ?_)
  refine lv_if_eq (tgt := 14) hx hb d_X_copy_4 (by decide) (fun hc38 => ?_) (fun hc38 => ?_)
  · rw [if_pos hc38] at hf
    refine lv_iconst (v := (-1 : Int32)) hx hb d_X_copy_14 (by decide) ?_
    cases hf
    exact g_iret hC rfl hP hS d_X_copy_15
  · rw [if_neg hc38] at hf
    refine lv_iload_n hx hb d_X_copy_7 rfl (lv_at hl 3 rfl) ?_
    obtain ⟨r4, hk3, hf⟩ := bp_some hf
    refine g_calli hS (g_runS (As := [.int x3]) (rest := []) hC hP (c_X_isRow hj  hk3) (rk (by decide) (by decide)) nm_X_isRow cd_X_isRow it_WideTown ml_X_112 sc_X_isRow rfl hl.1 rfl (Nat.le_of_ble_eq_true rfl) d_X_copy_8 zz) (fun H locs hP hS => ?_)
    refine lv_if_ne (tgt := 16) hx hb d_X_copy_11 (by decide) (fun hc37 => ?_) (fun hc37 => ?_)
    · rw [if_neg hc37] at hf
      refine lv_iload hx hb d_X_copy_16 (lv_at hl 5 rfl) ?_
      refine lv_if_ge (tgt := 27) hx hb d_X_copy_18 (by decide) (fun hc36 => ?_) (fun hc36 => ?_)
      · rw [if_pos hc36] at hf
        refine lv_aload_n hx hb d_X_copy_27 rfl (lv_at hl 0 rfl) ?_
        refine g_get (v := .ref (ad 8)) hC hP o_0 co_X 1 (by decide) rfl fl_X_14 rfl d_X_copy_28 ?_
        refine lv_iload_n hx hb d_X_copy_31 rfl (lv_at hl 1 rfl) ?_
        obtain ⟨hg5, hf⟩ := gd_some hf
        refine g_iald2 (j := x1.toNatClampNeg) hC hP a_8 hg5 rfl d_X_copy_32 ?_
        refine lv_if_lt (tgt := 45) hx hb d_X_copy_33 (by decide) (fun hc32 => ?_) (fun hc32 => ?_)
        · rw [if_pos hc32] at hf
          refine lv_aload_n hx hb d_X_copy_45 rfl (lv_at hl 0 rfl) ?_
          refine lv_iconst (v := (1 : Int32)) hx hb d_X_copy_46 (by decide) ?_
          obtain ⟨r7, σ8, hk6, hf⟩ := bc_some hf
          refine g_calli hS (g_runV (As := [.int (1 : Int32)]) (rest := []) hC hP (c_X_found hj  hk6) (rk (by decide) (by decide)) nm_X_found cd_X_found it_WideTown ml_X_116 im_X_found sl_X_found o_0 co_X rfl hl.1 rfl (Nat.le_of_ble_eq_true rfl) d_X_copy_47 zz) (fun H locs hP hS => ?_)
          cases hf
          exact g_iret hC rfl hP hS d_X_copy_50
        · rw [if_neg hc32] at hf
          refine lv_aload_n hx hb d_X_copy_36 rfl (lv_at hl 0 rfl) ?_
          refine g_get (v := .ref (ad 8)) hC hP o_0 co_X 1 (by decide) rfl fl_X_14 rfl d_X_copy_37 ?_
          refine lv_iload_n hx hb d_X_copy_40 rfl (lv_at hl 3 rfl) ?_
          obtain ⟨hg9, hf⟩ := gd_some hf
          refine g_iald2 (j := x3.toNatClampNeg) hC hP a_8 hg9 rfl d_X_copy_41 ?_
          refine lv_if_ge (tgt := 51) hx hb d_X_copy_42 (by decide) (fun hc31 => ?_) (fun hc31 => ?_)
          · rw [if_pos hc31] at hf
            refine lv_aload_n hx hb d_X_copy_51 rfl (lv_at hl 0 rfl) ?_
            refine g_get (v := .ref (ad 8)) hC hP o_0 co_X 1 (by decide) rfl fl_X_14 rfl d_X_copy_52 ?_
            refine lv_iload_n hx hb d_X_copy_55 rfl (lv_at hl 1 rfl) ?_
            obtain ⟨hg10, hf⟩ := gd_some hf
            refine g_iald2 (j := x1.toNatClampNeg) hC hP a_8 hg10 rfl d_X_copy_56 ?_
            refine lv_iload_n hx hb d_X_copy_57 rfl (lv_at hl 2 rfl) ?_
            refine lv_iload hx hb d_X_copy_58 (lv_at hl 5 rfl) ?_
            obtain ⟨r12, hk11, hf⟩ := bp_some hf
            refine g_calli hS (g_runS (As := [.int (σ.1 8 x1.toNatClampNeg), .int x2, .int x5]) (rest := []) hC hP (c_X_hasPlaces hj  hk11) (rk (by decide) (by decide)) nm_X_hasPlaces cd_X_hasPlaces it_WideTown ml_X_131 sc_X_hasPlaces rfl hl.1 rfl (Nat.le_of_ble_eq_true rfl) d_X_copy_60 zz) (fun H locs hP hS => ?_)
            refine lv_if_eq (tgt := 82) hx hb d_X_copy_63 (by decide) (fun hc27 => ?_) (fun hc27 => ?_)
            · rw [if_pos hc27] at hf
              refine lv_aload_n hx hb d_X_copy_82 rfl (lv_at hl 0 rfl) ?_
              refine lv_iconst (v := (2 : Int32)) hx hb d_X_copy_83 (by decide) ?_
              obtain ⟨r14, σ15, hk13, hf⟩ := bc_some hf
              refine g_calli hS (g_runV (As := [.int (2 : Int32)]) (rest := []) hC hP (c_X_found hj  hk13) (rk (by decide) (by decide)) nm_X_found cd_X_found it_WideTown ml_X_116 im_X_found sl_X_found o_0 co_X rfl hl.1 rfl (Nat.le_of_ble_eq_true rfl) d_X_copy_84 zz) (fun H locs hP hS => ?_)
              cases hf
              exact g_iret hC rfl hP hS d_X_copy_87
            · rw [if_neg hc27] at hf
              refine lv_aload_n hx hb d_X_copy_66 rfl (lv_at hl 0 rfl) ?_
              refine g_get (v := .ref (ad 8)) hC hP o_0 co_X 1 (by decide) rfl fl_X_14 rfl d_X_copy_67 ?_
              refine lv_iload_n hx hb d_X_copy_70 rfl (lv_at hl 3 rfl) ?_
              obtain ⟨hg16, hf⟩ := gd_some hf
              refine g_iald2 (j := x3.toNatClampNeg) hC hP a_8 hg16 rfl d_X_copy_71 ?_
              refine lv_iload hx hb d_X_copy_72 (lv_at hl 4 rfl) ?_
              refine lv_iload hx hb d_X_copy_74 (lv_at hl 5 rfl) ?_
              obtain ⟨r18, hk17, hf⟩ := bp_some hf
              refine g_calli hS (g_runS (As := [.int (σ.1 8 x3.toNatClampNeg), .int x4, .int x5]) (rest := []) hC hP (c_X_hasPlaces hj  hk17) (rk (by decide) (by decide)) nm_X_hasPlaces cd_X_hasPlaces it_WideTown ml_X_131 sc_X_hasPlaces rfl hl.1 rfl (Nat.le_of_ble_eq_true rfl) d_X_copy_76 zz) (fun H locs hP hS => ?_)
              refine lv_if_ne (tgt := 88) hx hb d_X_copy_79 (by decide) (fun hc26 => ?_) (fun hc26 => ?_)
              · rw [if_neg hc26] at hf
                refine lv_aload_n hx hb d_X_copy_88 rfl (lv_at hl 0 rfl) ?_
                refine g_get (v := .ref (ad 1)) hC hP o_0 co_X 0 (by decide) rfl fl_X_11 rfl d_X_copy_89 ?_
                refine lv_iload_n hx hb d_X_copy_92 rfl (lv_at hl 1 rfl) ?_
                obtain ⟨hg19, hf⟩ := gd_some hf
                refine g_aald hC hP r_1 rfl rfl hg19 d_X_copy_93 ?_
                refine lv_iload_n hx hb d_X_copy_94 rfl (lv_at hl 2 rfl) ?_
                refine lv_aload_n hx hb d_X_copy_95 rfl (lv_at hl 0 rfl) ?_
                refine g_get (v := .ref (ad 1)) hC hP o_0 co_X 0 (by decide) rfl fl_X_11 rfl d_X_copy_96 ?_
                refine lv_iload_n hx hb d_X_copy_99 rfl (lv_at hl 3 rfl) ?_
                obtain ⟨hg20, hf⟩ := gd_some hf
                refine g_aald hC hP r_1 rfl rfl hg20 d_X_copy_100 ?_
                refine lv_iload hx hb d_X_copy_101 (lv_at hl 4 rfl) ?_
                refine lv_iload hx hb d_X_copy_103 (lv_at hl 5 rfl) ?_
                obtain ⟨hg22, hf⟩ := gd_some hf
                obtain ⟨σ21, eσ21, hf⟩ := jn_some hf
                refine g_copy hC hP hS hl.1 (rowA hg19) (rowA hg20) ml_X_135 na_copy st_copy it_java_lang_System hg22 (Nat.le_of_ble_eq_true rfl) (Nat.le_of_ble_eq_true rfl) d_X_copy_105 (fun H locs hP hS => ?_)
                rw [← eσ21] at hP
                refine lv_iconst (v := (1 : Int32)) hx hb d_X_copy_108 (by decide) ?_
                cases hf
                exact g_iret hC rfl hP hS d_X_copy_109
              · rw [if_pos hc26] at hf
                refine lv_aload_n hx hb d_X_copy_82 rfl (lv_at hl 0 rfl) ?_
                refine lv_iconst (v := (2 : Int32)) hx hb d_X_copy_83 (by decide) ?_
                obtain ⟨r24, σ25, hk23, hf⟩ := bc_some hf
                refine g_calli hS (g_runV (As := [.int (2 : Int32)]) (rest := []) hC hP (c_X_found hj  hk23) (rk (by decide) (by decide)) nm_X_found cd_X_found it_WideTown ml_X_116 im_X_found sl_X_found o_0 co_X rfl hl.1 rfl (Nat.le_of_ble_eq_true rfl) d_X_copy_84 zz) (fun H locs hP hS => ?_)
                cases hf
                exact g_iret hC rfl hP hS d_X_copy_87
          · rw [if_neg hc31] at hf
            refine lv_aload_n hx hb d_X_copy_45 rfl (lv_at hl 0 rfl) ?_
            refine lv_iconst (v := (1 : Int32)) hx hb d_X_copy_46 (by decide) ?_
            obtain ⟨r29, σ30, hk28, hf⟩ := bc_some hf
            refine g_calli hS (g_runV (As := [.int (1 : Int32)]) (rest := []) hC hP (c_X_found hj  hk28) (rk (by decide) (by decide)) nm_X_found cd_X_found it_WideTown ml_X_116 im_X_found sl_X_found o_0 co_X rfl hl.1 rfl (Nat.le_of_ble_eq_true rfl) d_X_copy_47 zz) (fun H locs hP hS => ?_)
            cases hf
            exact g_iret hC rfl hP hS d_X_copy_50
      · rw [if_neg hc36] at hf
        refine lv_aload_n hx hb d_X_copy_21 rfl (lv_at hl 0 rfl) ?_
        refine lv_iconst (v := (5 : Int32)) hx hb d_X_copy_22 (by decide) ?_
        obtain ⟨r34, σ35, hk33, hf⟩ := bc_some hf
        refine g_calli hS (g_runV (As := [.int (5 : Int32)]) (rest := []) hC hP (c_X_found hj  hk33) (rk (by decide) (by decide)) nm_X_found cd_X_found it_WideTown ml_X_116 im_X_found sl_X_found o_0 co_X rfl hl.1 rfl (Nat.le_of_ble_eq_true rfl) d_X_copy_23 zz) (fun H locs hP hS => ?_)
        cases hf
        exact g_iret hC rfl hP hS d_X_copy_26
    · rw [if_pos hc37] at hf
      refine lv_iconst (v := (-1 : Int32)) hx hb d_X_copy_14 (by decide) ?_
      cases hf
      exact g_iret hC rfl hP hS d_X_copy_15
