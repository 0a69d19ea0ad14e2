theorem im_obj : Cond.instanceMethod objectInit ∈ gw := gw_t 21 (by decide +kernel) (by decide +kernel)
theorem cd_obj : Cond.code objectInit ⟨#[0xb1]⟩ 1 none ∈ gw := gw_t 22 (by decide +kernel) (by decide +kernel)
theorem cl_L_7 : Cond.classLink "WideTownLaw" 7 "WideTown" ∈ gw := gw_t 15 (by decide +kernel) (by decide +kernel)
theorem cl_X_9 : Cond.classLink "WideTown" 9 "[[I" ∈ gw := gw_t 23 (by decide +kernel) (by decide +kernel)
theorem cl_X_18 : Cond.classLink "WideTown" 18 "[[B" ∈ gw := gw_t 25 (by decide +kernel) (by decide +kernel)
theorem cl_X_26 : Cond.classLink "WideTown" 26 "WideTown$Reader" ∈ gw := gw_t 27 (by decide +kernel) (by decide +kernel)
theorem cl_X_33 : Cond.classLink "WideTown" 33 "WideTown$Town" ∈ gw := gw_t 55 (by decide +kernel) (by decide +kernel)
theorem cl_X_44 : Cond.classLink "WideTown" 44 "WideTown$Word" ∈ gw := gw_t 77 (by decide +kernel) (by decide +kernel)
theorem cl_X_51 : Cond.classLink "WideTown" 51 "WideTown$Walker" ∈ gw := gw_t 95 (by decide +kernel) (by decide +kernel)
theorem cl_X_61 : Cond.classLink "WideTown" 61 "WideTown$Ideals" ∈ gw := gw_t 127 (by decide +kernel) (by decide +kernel)
theorem cl_X_68 : Cond.classLink "WideTown" 68 "WideTown$Triangle" ∈ gw := gw_t 158 (by decide +kernel) (by decide +kernel)
theorem cl_Tr_7 : Cond.classLink "WideTown$Triangle" 7 "WideTown$Word" ∈ gw := gw_t 164 (by decide +kernel) (by decide +kernel)
theorem cl_X_75 : Cond.classLink "WideTown" 75 "WideTown$Tour" ∈ gw := gw_t 179 (by decide +kernel) (by decide +kernel)
theorem cl_X_82 : Cond.classLink "WideTown" 82 "WideTown$Quarter" ∈ gw := gw_t 203 (by decide +kernel) (by decide +kernel)
theorem cl_L_10 : Cond.classLink "WideTownLaw" 10 "WideTownModel" ∈ gw := gw_t 904 (by decide +kernel) (by decide +kernel)
theorem ib_X : Cond.instantiable "WideTown" 19 ∈ gw := gw_t 16 (by decide +kernel) (by decide +kernel)
theorem ib_Rd : Cond.instantiable "WideTown$Reader" 5 ∈ gw := gw_t 28 (by decide +kernel) (by decide +kernel)
theorem ib_Tn : Cond.instantiable "WideTown$Town" 4 ∈ gw := gw_t 56 (by decide +kernel) (by decide +kernel)
theorem ib_Wd : Cond.instantiable "WideTown$Word" 2 ∈ gw := gw_t 78 (by decide +kernel) (by decide +kernel)
theorem ib_Wk : Cond.instantiable "WideTown$Walker" 5 ∈ gw := gw_t 96 (by decide +kernel) (by decide +kernel)
theorem ib_Id : Cond.instantiable "WideTown$Ideals" 7 ∈ gw := gw_t 128 (by decide +kernel) (by decide +kernel)
theorem ib_Tr : Cond.instantiable "WideTown$Triangle" 4 ∈ gw := gw_t 159 (by decide +kernel) (by decide +kernel)
theorem ib_To : Cond.instantiable "WideTown$Tour" 5 ∈ gw := gw_t 180 (by decide +kernel) (by decide +kernel)
theorem ib_Qu : Cond.instantiable "WideTown$Quarter" 10 ∈ gw := gw_t 204 (by decide +kernel) (by decide +kernel)
theorem ib_M : Cond.instantiable "WideTownModel" 31 ∈ gw := gw_t 905 (by decide +kernel) (by decide +kernel)
theorem df_Id : ∀ j, j < 7 → defaultValue (t_Id j) = vp_V [.null, .null, .null, .null, .int 0, .long 0, .int 0] j := by decide
theorem df_Qu : ∀ j, j < 10 → defaultValue (t_Qu j) = vp_V [.null, .null, .null, .null, .null, .null, .null, .int 0, .int 0, .int 0] j := by decide
theorem df_Rd : ∀ j, j < 5 → defaultValue (t_Rd j) = vp_V [.null, .null, .null, .int 0, .int 0] j := by decide
theorem df_To : ∀ j, j < 5 → defaultValue (t_To j) = vp_V [.null, .null, .null, .int 0, .int 0] j := by decide
theorem df_Tn : ∀ j, j < 4 → defaultValue (t_Tn j) = vp_V [.null, .null, .int 0, .int 0] j := by decide
theorem df_Tr : ∀ j, j < 4 → defaultValue (t_Tr j) = vp_V [.null, .null, .null, .null] j := by decide
theorem df_Wk : ∀ j, j < 5 → defaultValue (t_Wk j) = vp_V [.int 0, .int 0, .int 0, .int 0, .int 0] j := by decide
theorem df_Wd : ∀ j, j < 2 → defaultValue (t_Wd j) = vp_V [.null, .int 0] j := by decide
theorem df_X : ∀ j, j < 19 → defaultValue (t_X j) = vp_V [.null, .null, .null, .null, .null, .null, .null, .null, .null, .null, .null, .null, .null, .null, .null, .int 0, .int 0, .long 0, .long 0] j := by decide
theorem df_M : ∀ j, j < 31 → defaultValue (t_M j) = vp_V [.null, .null, .null, .null, .null, .null, .null, .null, .null, .int 0, .long 0, .long 0, .int 0, .null, .null, .int 0, .null, .null, .null, .null, .null, .null, .null, .null, .int 0, .null, .null, .null, .null, .int 0, .null] j := by decide
theorem rb {d d2 n mc ms : Nat} (h : d2 + 1 ≤ d) (hn : n ≤ 21) : Rob (rmb d mc ms) n d2 := ⟨h, by show 8 + (n + 11) + 40 * d2 ≤ 40 * d; omega⟩
set_option maxHeartbeats 4000000 in
set_option maxRecDepth 100000 in
theorem cb_fill {l : Launch} {D : va_G} {K : Nat → ClassId} (a n : Nat) (hn : n < 2 ^ 31) (f : Nat → Int32) (v : Int32) : CB (S := Unit) l D K y_J_fillI b_J_fillI 4 0 0 0 [.ref a, .int v] [(a, .inl (K 0, n, .inl f))] (fun _ => True) (fun _ => [(a, .inl (K 0, n, .inl (fun j => if j < n then v else f j)))]) (fun _ => tyB K) := by
  refine CB.intro (by decide) (Nat.le_of_ble_eq_true rfl) ?_
  intro p e s m args below meth c ls A hC hin hP hD hA hS hl
  obtain ⟨hx, hb, -, hown, hts, hK, -⟩ := id hC
  have hl : lv_has ls 4 [(0, .ref a), (1, .int v)] := hl
  refine lv_iconst (v := 0) hx hb d_J_fillI_0 (by decide) ?_
  refine lv_istore_n (lv' := [(2, .int 0), (0, .ref a), (1, .int v)]) hx hb d_J_fillI_1 rfl hl (by decide) rfl (fun ls hl => ?_)
  refine lv_aload_n hx hb d_J_fillI_2 rfl (lv_at hl 1 rfl) ?_
  refine va_alen hx hb hK hP 0 0 rfl rfl (v := nI n) rfl d_J_fillI_3 ?_
  refine lv_istore_n (lv' := [(3, .int (nI n)), (2, .int 0), (0, .ref a), (1, .int v)]) hx hb d_J_fillI_4 rfl hl (by decide) rfl (fun ls hl => ?_)
  have hL : ∀ (t i : Nat) (H : Heap) (locs : List Loc) (ls : Array Slot), i ≤ n → n ≤ i + t → va_P D vwCl [(a, .inl (K 0, n, .inl (fun j => if j < i then v else f j)))] H → va_D A [(a, .inl (K 0, n, .inl (fun j => if j < i then v else f j)))] → va_S A s.heap H locs → lv_has ls 4 [(0, .ref a), (1, .int v), (2, .int (nI i)), (3, .int (nI n))] → W p l e (rmb 0 0 0) s m args below meth c H locs 0 0 (MQ below (QB D A (fun _ : Unit => True) (fun _ => [(a, .inl (K 0, n, .inl (fun j => if j < n then v else f j)))]) (fun _ => tyB K)) args s 0 0 A) (F0 m 5 ls []) := by
    clear hP hD hS hl
    intro t
    induction t with
    | zero =>
      intro i H locs ls h1 h2 hP hD hS hl
      have e : i = n := by omega
      subst e
      refine lv_iload_n hx hb d_J_fillI_5 rfl (lv_at hl 2 rfl) ?_
      refine lv_iload_n hx hb d_J_fillI_6 rfl (lv_at hl 3 rfl) ?_
      refine lv_icmp_ge (tgt := 20) hx hb d_J_fillI_7 (by decide) (fun hc => ?_) (fun hc => ?_)
      · exact b_vret (d := 0) hC () trivial hP hD hK hS d_J_fillI_20
      · exact absurd (nI_le (Nat.le_refl _) hn) hc
    | succ t ih =>
      intro i H locs ls h1 h2 hP hD hS hl
      refine lv_iload_n hx hb d_J_fillI_5 rfl (lv_at hl 2 rfl) ?_
      refine lv_iload_n hx hb d_J_fillI_6 rfl (lv_at hl 3 rfl) ?_
      refine lv_icmp_ge (tgt := 20) hx hb d_J_fillI_7 (by decide) (fun hc => ?_) (fun hc => ?_)
      · have e : i = n := by
          rcases Nat.lt_or_ge i n with q | q
          · exact absurd hc (nI_ge q hn)
          · omega
        subst e
        exact b_vret (d := 0) hC () trivial hP hD hK hS d_J_fillI_20
      · have hlt : i < n := by
          rcases Nat.lt_or_ge i n with q | q
          · exact q
          · exact absurd (nI_le q (by omega)) hc
        refine lv_aload_n hx hb d_J_fillI_10 rfl (lv_at hl 0 rfl) ?_
        refine lv_iload_n hx hb d_J_fillI_11 rfl (lv_at hl 2 rfl) ?_
        refine lv_iload_n hx hb d_J_fillI_12 rfl (lv_at hl 1 rfl) ?_
        refine va_iast hx hb hK hP hD hS 0 0 rfl rfl (vp_in_nI hlt hn) d_J_fillI_13 (fun H locs hP hD hS => ?_)
        refine lv_iinc (v := nI i + 1) (lv' := [(2, .int (nI i + 1)), (0, .ref a), (1, .int v), (3, .int (nI n))]) hx hb d_J_fillI_14 hl (k := 2) rfl rfl (by decide) rfl (fun ls hl => ?_)
        refine lv_goto (tgt := 5) hx hb d_J_fillI_17 (by decide) ?_
        have ef : upd (fun j => if j < i then v else f j) (nI i).toNatClampNeg v = fun j => if j < i + 1 then v else f j := by
          rw [nI_clamp (by omega)]
          funext j
          unfold upd
          by_cases e1 : j = i
          · subst e1
            rw [if_pos rfl, if_pos (by omega)]
          · rw [if_neg e1]
            show (if j < i then v else f j) = _
            by_cases e2 : j < i
            · rw [if_pos e2, if_pos (by omega)]
            · rw [if_neg e2, if_neg (by omega)]
        have hP : va_P D vwCl [(a, .inl (K 0, n, .inl (upd (fun j => if j < i then v else f j) (nI i).toNatClampNeg v)))] H := hP
        have hD : va_D A [(a, .inl (K 0, n, .inl (upd (fun j => if j < i then v else f j) (nI i).toNatClampNeg v)))] := hD
        rw [ef] at hP hD
        rw [nI_1] at hl
        exact ih (i + 1) H locs ls hlt (by omega) hP hD hS (lv_sub hl [1, 2, 0, 3] rfl)
  refine hL n 0 _ _ ls (Nat.zero_le _) (by omega) ?_ ?_ hS (lv_sub hl [2, 3, 1, 0] rfl)
  · exact hP
  · exact hD
set_option maxHeartbeats 4000000 in
set_option maxRecDepth 100000 in
theorem cb_Wd {l : Launch} {D : va_G} {K : Nat → ClassId} (h0 : Nat) : CB (S := Nat → Nat) l D K y_Wd_init b_Wd_init 1 1 1 64 [.ref h0] [(h0, .inr (7, [.null, .int 0]))] (fun _ => True) (fun u => [(h0, .inr (7, [.ref (u 0), .int 0])), ((u 0), .inl (K 0, 64, .inl (fun _ => 0)))]) (fun _ => tyB K) := by
  refine CB.intro (by decide) (Nat.le_of_ble_eq_true rfl) ?_
  intro p e s m args below meth c ls A hC hin hP hD hA hS hl
  obtain ⟨hx, hb, -, hown, hts, hK, -⟩ := id hC
  have hl : lv_has ls 1 [(0, .ref h0)] := hl
  refine lv_aload_n hx hb d_Wd_init_0 rfl (lv_at hl 0 rfl) ?_
  refine b_obj hC hl.1 ml_Wd_3 im_obj cd_obj d_Wd_init_1 (Nat.le_of_ble_eq_true rfl) (Nat.le_of_ble_eq_true rfl) ?_
  refine lv_aload_n hx hb d_Wd_init_4 rfl (lv_at hl 0 rfl) ?_
  refine lv_bipush (v := 64) hx hb d_Wd_init_5 (by decide) ?_
  refine b_newa (atype := .int) (ty := .int) (a0 := (64, .inl (fun _ => 0))) hC hP hD hS hA rfl 0 rfl (fun _ => rfl) ac_int (fun _ => rfl) (by decide) rfl (by decide) (Nat.le_of_ble_eq_true rfl) (Nat.le_of_ble_eq_true rfl) d_Wd_init_7 (fun q1 H hP hD hS => ?_)
  have hP : va_P D vwCl [(h0, .inr (7, [.null, .int 0])), (q1, .inl (K 0, 64, .inl (fun _ => 0)))] H := hP
  have hD : va_D A [(h0, .inr (7, [.null, .int 0])), (q1, .inl (K 0, 64, .inl (fun _ => 0)))] := hD
  refine b_putF hC hin hP hD hS 0 rfl co_Wd 0 (by decide) rfl fl_Wd_11 rfl rfl (to_Wd 0 (by decide)) rfl rfl (Nat.le_of_ble_eq_true rfl) d_Wd_init_9 (fun H locs hP hD hS => ?_)
  have hP : va_P D vwCl [(h0, .inr (7, [.ref q1, .int 0])), (q1, .inl (K 0, 64, .inl (fun _ => 0)))] H := hP
  have hD : va_D A [(h0, .inr (7, [.ref q1, .int 0])), (q1, .inl (K 0, 64, .inl (fun _ => 0)))] := hD
  refine lv_aload_n hx hb d_Wd_init_12 rfl (lv_at hl 0 rfl) ?_
  refine lv_iconst (v := 0) hx hb d_Wd_init_13 (by decide) ?_
  refine b_put hC hP hD hS 0 rfl co_Wd 1 (by decide) rfl fl_Wd_15 rfl (to_Wd 1 (by decide)) rfl rfl (Nat.le_of_ble_eq_true rfl) d_Wd_init_14 (fun H locs hP hD hS => ?_)
  have hP : va_P D vwCl [(h0, .inr (7, [.ref q1, .int 0])), (q1, .inl (K 0, 64, .inl (fun _ => 0)))] H := hP
  have hD : va_D A [(h0, .inr (7, [.ref q1, .int 0])), (q1, .inl (K 0, 64, .inl (fun _ => 0)))] := hD
  exact b_vret (d := 1) hC (fun i => [q1].getD i 0) trivial hP hD hK hS d_Wd_init_17
set_option maxHeartbeats 4000000 in
set_option maxRecDepth 100000 in
theorem cb_Rd {l : Launch} {D : va_G} {K : Nat → ClassId} (h0 : Nat) : CB (S := Nat → Nat) l D K y_Rd_init b_Rd_init 1 1 3 15 [.ref h0] [(h0, .inr (2, [.null, .null, .null, .int 0, .int 0]))] (fun _ => True) (fun u => [(h0, .inr (2, [.ref (u 0), .ref (u 1), .ref (u 2), .int 0, .int (-1)])), ((u 0), .inl (K 0, 5, .inl (fun _ => 0))), ((u 1), .inl (K 0, 5, .inl (fun _ => 0))), ((u 2), .inl (K 0, 5, .inl (fun _ => 0)))]) (fun _ => tyB K) := by
  refine CB.intro (by decide) (Nat.le_of_ble_eq_true rfl) ?_
  intro p e s m args below meth c ls A hC hin hP hD hA hS hl
  obtain ⟨hx, hb, -, hown, hts, hK, -⟩ := id hC
  have hl : lv_has ls 1 [(0, .ref h0)] := hl
  refine lv_aload_n hx hb d_Rd_init_0 rfl (lv_at hl 0 rfl) ?_
  refine b_obj hC hl.1 ml_Rd_3 im_obj cd_obj d_Rd_init_1 (Nat.le_of_ble_eq_true rfl) (Nat.le_of_ble_eq_true rfl) ?_
  refine lv_aload_n hx hb d_Rd_init_4 rfl (lv_at hl 0 rfl) ?_
  refine lv_iconst (v := 5) hx hb d_Rd_init_5 (by decide) ?_
  refine b_newa (atype := .int) (ty := .int) (a0 := (5, .inl (fun _ => 0))) hC hP hD hS hA rfl 0 rfl (fun _ => rfl) ac_int (fun _ => rfl) (by decide) rfl (by decide) (Nat.le_of_ble_eq_true rfl) (Nat.le_of_ble_eq_true rfl) d_Rd_init_6 (fun q1 H hP hD hS => ?_)
  have hP : va_P D vwCl [(h0, .inr (2, [.null, .null, .null, .int 0, .int 0])), (q1, .inl (K 0, 5, .inl (fun _ => 0)))] H := hP
  have hD : va_D A [(h0, .inr (2, [.null, .null, .null, .int 0, .int 0])), (q1, .inl (K 0, 5, .inl (fun _ => 0)))] := hD
  refine b_putF hC hin hP hD hS 0 rfl co_Rd 0 (by decide) rfl fl_Rd_9 rfl rfl (to_Rd 0 (by decide)) rfl rfl (Nat.le_of_ble_eq_true rfl) d_Rd_init_8 (fun H locs hP hD hS => ?_)
  have hP : va_P D vwCl [(h0, .inr (2, [.ref q1, .null, .null, .int 0, .int 0])), (q1, .inl (K 0, 5, .inl (fun _ => 0)))] H := hP
  have hD : va_D A [(h0, .inr (2, [.ref q1, .null, .null, .int 0, .int 0])), (q1, .inl (K 0, 5, .inl (fun _ => 0)))] := hD
  refine lv_aload_n hx hb d_Rd_init_11 rfl (lv_at hl 0 rfl) ?_
  refine lv_iconst (v := 5) hx hb d_Rd_init_12 (by decide) ?_
  refine b_newa (atype := .int) (ty := .int) (a0 := (5, .inl (fun _ => 0))) hC hP hD hS hA rfl 0 rfl (fun _ => rfl) ac_int (fun _ => rfl) (by decide) rfl (by decide) (Nat.le_of_ble_eq_true rfl) (Nat.le_of_ble_eq_true rfl) d_Rd_init_13 (fun q2 H hP hD hS => ?_)
  have hP : va_P D vwCl [(h0, .inr (2, [.ref q1, .null, .null, .int 0, .int 0])), (q1, .inl (K 0, 5, .inl (fun _ => 0))), (q2, .inl (K 0, 5, .inl (fun _ => 0)))] H := hP
  have hD : va_D A [(h0, .inr (2, [.ref q1, .null, .null, .int 0, .int 0])), (q1, .inl (K 0, 5, .inl (fun _ => 0))), (q2, .inl (K 0, 5, .inl (fun _ => 0)))] := hD
  refine b_putF hC hin hP hD hS 0 rfl co_Rd 1 (by decide) rfl fl_Rd_15 rfl rfl (to_Rd 1 (by decide)) rfl rfl (Nat.le_of_ble_eq_true rfl) d_Rd_init_15 (fun H locs hP hD hS => ?_)
  have hP : va_P D vwCl [(h0, .inr (2, [.ref q1, .ref q2, .null, .int 0, .int 0])), (q1, .inl (K 0, 5, .inl (fun _ => 0))), (q2, .inl (K 0, 5, .inl (fun _ => 0)))] H := hP
  have hD : va_D A [(h0, .inr (2, [.ref q1, .ref q2, .null, .int 0, .int 0])), (q1, .inl (K 0, 5, .inl (fun _ => 0))), (q2, .inl (K 0, 5, .inl (fun _ => 0)))] := hD
  refine lv_aload_n hx hb d_Rd_init_18 rfl (lv_at hl 0 rfl) ?_
  refine lv_iconst (v := 5) hx hb d_Rd_init_19 (by decide) ?_
  refine b_newa (atype := .int) (ty := .int) (a0 := (5, .inl (fun _ => 0))) hC hP hD hS hA rfl 0 rfl (fun _ => rfl) ac_int (fun _ => rfl) (by decide) rfl (by decide) (Nat.le_of_ble_eq_true rfl) (Nat.le_of_ble_eq_true rfl) d_Rd_init_20 (fun q3 H hP hD hS => ?_)
  have hP : va_P D vwCl [(h0, .inr (2, [.ref q1, .ref q2, .null, .int 0, .int 0])), (q1, .inl (K 0, 5, .inl (fun _ => 0))), (q2, .inl (K 0, 5, .inl (fun _ => 0))), (q3, .inl (K 0, 5, .inl (fun _ => 0)))] H := hP
  have hD : va_D A [(h0, .inr (2, [.ref q1, .ref q2, .null, .int 0, .int 0])), (q1, .inl (K 0, 5, .inl (fun _ => 0))), (q2, .inl (K 0, 5, .inl (fun _ => 0))), (q3, .inl (K 0, 5, .inl (fun _ => 0)))] := hD
  refine b_putF hC hin hP hD hS 0 rfl co_Rd 2 (by decide) rfl fl_Rd_18 rfl rfl (to_Rd 2 (by decide)) rfl rfl (Nat.le_of_ble_eq_true rfl) d_Rd_init_22 (fun H locs hP hD hS => ?_)
  have hP : va_P D vwCl [(h0, .inr (2, [.ref q1, .ref q2, .ref q3, .int 0, .int 0])), (q1, .inl (K 0, 5, .inl (fun _ => 0))), (q2, .inl (K 0, 5, .inl (fun _ => 0))), (q3, .inl (K 0, 5, .inl (fun _ => 0)))] H := hP
  have hD : va_D A [(h0, .inr (2, [.ref q1, .ref q2, .ref q3, .int 0, .int 0])), (q1, .inl (K 0, 5, .inl (fun _ => 0))), (q2, .inl (K 0, 5, .inl (fun _ => 0))), (q3, .inl (K 0, 5, .inl (fun _ => 0)))] := hD
  refine lv_aload_n hx hb d_Rd_init_25 rfl (lv_at hl 0 rfl) ?_
  refine lv_iconst (v := 0) hx hb d_Rd_init_26 (by decide) ?_
  refine b_put hC hP hD hS 0 rfl co_Rd 3 (by decide) rfl fl_Rd_21 rfl (to_Rd 3 (by decide)) rfl rfl (Nat.le_of_ble_eq_true rfl) d_Rd_init_27 (fun H locs hP hD hS => ?_)
  have hP : va_P D vwCl [(h0, .inr (2, [.ref q1, .ref q2, .ref q3, .int 0, .int 0])), (q1, .inl (K 0, 5, .inl (fun _ => 0))), (q2, .inl (K 0, 5, .inl (fun _ => 0))), (q3, .inl (K 0, 5, .inl (fun _ => 0)))] H := hP
  have hD : va_D A [(h0, .inr (2, [.ref q1, .ref q2, .ref q3, .int 0, .int 0])), (q1, .inl (K 0, 5, .inl (fun _ => 0))), (q2, .inl (K 0, 5, .inl (fun _ => 0))), (q3, .inl (K 0, 5, .inl (fun _ => 0)))] := hD
  refine lv_aload_n hx hb d_Rd_init_30 rfl (lv_at hl 0 rfl) ?_
  refine lv_iconst (v := -1) hx hb d_Rd_init_31 (by decide) ?_
  refine b_put hC hP hD hS 0 rfl co_Rd 4 (by decide) rfl fl_Rd_25 rfl (to_Rd 4 (by decide)) rfl rfl (Nat.le_of_ble_eq_true rfl) d_Rd_init_32 (fun H locs hP hD hS => ?_)
  have hP : va_P D vwCl [(h0, .inr (2, [.ref q1, .ref q2, .ref q3, .int 0, .int (-1)])), (q1, .inl (K 0, 5, .inl (fun _ => 0))), (q2, .inl (K 0, 5, .inl (fun _ => 0))), (q3, .inl (K 0, 5, .inl (fun _ => 0)))] H := hP
  have hD : va_D A [(h0, .inr (2, [.ref q1, .ref q2, .ref q3, .int 0, .int (-1)])), (q1, .inl (K 0, 5, .inl (fun _ => 0))), (q2, .inl (K 0, 5, .inl (fun _ => 0))), (q3, .inl (K 0, 5, .inl (fun _ => 0)))] := hD
  exact b_vret (d := 1) hC (fun i => [q1, q2, q3].getD i 0) trivial hP hD hK hS d_Rd_init_35
set_option maxHeartbeats 4000000 in
set_option maxRecDepth 100000 in
theorem cb_Tn {l : Launch} {D : va_G} {K : Nat → ClassId} (h0 : Nat) : CB (S := Nat → Nat) l D K y_Tn_init b_Tn_init 1 1 2 1225 [.ref h0] [(h0, .inr (4, [.null, .null, .int 0, .int 0]))] (fun _ => True) (fun u => [(h0, .inr (4, [.ref (u 0), .ref (u 1), .int 0, .int 0])), ((u 0), .inl (K 0, 5, .inl (fun _ => 0))), ((u 1), .inl (K 0, 1220, .inl (fun _ => 0)))]) (fun _ => tyB K) := by
  refine CB.intro (by decide) (Nat.le_of_ble_eq_true rfl) ?_
  intro p e s m args below meth c ls A hC hin hP hD hA hS hl
  obtain ⟨hx, hb, -, hown, hts, hK, -⟩ := id hC
  have hl : lv_has ls 1 [(0, .ref h0)] := hl
  refine lv_aload_n hx hb d_Tn_init_0 rfl (lv_at hl 0 rfl) ?_
  refine b_obj hC hl.1 ml_Tn_5 im_obj cd_obj d_Tn_init_1 (Nat.le_of_ble_eq_true rfl) (Nat.le_of_ble_eq_true rfl) ?_
  refine lv_aload_n hx hb d_Tn_init_4 rfl (lv_at hl 0 rfl) ?_
  refine lv_iconst (v := 5) hx hb d_Tn_init_5 (by decide) ?_
  refine b_newa (atype := .int) (ty := .int) (a0 := (5, .inl (fun _ => 0))) hC hP hD hS hA rfl 0 rfl (fun _ => rfl) ac_int (fun _ => rfl) (by decide) rfl (by decide) (Nat.le_of_ble_eq_true rfl) (Nat.le_of_ble_eq_true rfl) d_Tn_init_6 (fun q1 H hP hD hS => ?_)
  have hP : va_P D vwCl [(h0, .inr (4, [.null, .null, .int 0, .int 0])), (q1, .inl (K 0, 5, .inl (fun _ => 0)))] H := hP
  have hD : va_D A [(h0, .inr (4, [.null, .null, .int 0, .int 0])), (q1, .inl (K 0, 5, .inl (fun _ => 0)))] := hD
  refine b_putF hC hin hP hD hS 0 rfl co_Tn 0 (by decide) rfl fl_Tn_11 rfl rfl (to_Tn 0 (by decide)) rfl rfl (Nat.le_of_ble_eq_true rfl) d_Tn_init_8 (fun H locs hP hD hS => ?_)
  have hP : va_P D vwCl [(h0, .inr (4, [.ref q1, .null, .int 0, .int 0])), (q1, .inl (K 0, 5, .inl (fun _ => 0)))] H := hP
  have hD : va_D A [(h0, .inr (4, [.ref q1, .null, .int 0, .int 0])), (q1, .inl (K 0, 5, .inl (fun _ => 0)))] := hD
  refine lv_aload_n hx hb d_Tn_init_11 rfl (lv_at hl 0 rfl) ?_
  refine lv_sipush (v := 1220) hx hb d_Tn_init_12 (by decide) ?_
  refine b_newa (atype := .int) (ty := .int) (a0 := (1220, .inl (fun _ => 0))) hC hP hD hS hA rfl 0 rfl (fun _ => rfl) ac_int (fun _ => rfl) (by decide) rfl (by decide) (Nat.le_of_ble_eq_true rfl) (Nat.le_of_ble_eq_true rfl) d_Tn_init_15 (fun q2 H hP hD hS => ?_)
  have hP : va_P D vwCl [(h0, .inr (4, [.ref q1, .null, .int 0, .int 0])), (q1, .inl (K 0, 5, .inl (fun _ => 0))), (q2, .inl (K 0, 1220, .inl (fun _ => 0)))] H := hP
  have hD : va_D A [(h0, .inr (4, [.ref q1, .null, .int 0, .int 0])), (q1, .inl (K 0, 5, .inl (fun _ => 0))), (q2, .inl (K 0, 1220, .inl (fun _ => 0)))] := hD
  refine b_putF hC hin hP hD hS 0 rfl co_Tn 1 (by decide) rfl fl_Tn_15 rfl rfl (to_Tn 1 (by decide)) rfl rfl (Nat.le_of_ble_eq_true rfl) d_Tn_init_17 (fun H locs hP hD hS => ?_)
  have hP : va_P D vwCl [(h0, .inr (4, [.ref q1, .ref q2, .int 0, .int 0])), (q1, .inl (K 0, 5, .inl (fun _ => 0))), (q2, .inl (K 0, 1220, .inl (fun _ => 0)))] H := hP
  have hD : va_D A [(h0, .inr (4, [.ref q1, .ref q2, .int 0, .int 0])), (q1, .inl (K 0, 5, .inl (fun _ => 0))), (q2, .inl (K 0, 1220, .inl (fun _ => 0)))] := hD
  refine lv_aload_n hx hb d_Tn_init_20 rfl (lv_at hl 0 rfl) ?_
  refine lv_iconst (v := 0) hx hb d_Tn_init_21 (by decide) ?_
  refine b_put hC hP hD hS 0 rfl co_Tn 2 (by decide) rfl fl_Tn_18 rfl (to_Tn 2 (by decide)) rfl rfl (Nat.le_of_ble_eq_true rfl) d_Tn_init_22 (fun H locs hP hD hS => ?_)
  have hP : va_P D vwCl [(h0, .inr (4, [.ref q1, .ref q2, .int 0, .int 0])), (q1, .inl (K 0, 5, .inl (fun _ => 0))), (q2, .inl (K 0, 1220, .inl (fun _ => 0)))] H := hP
  have hD : va_D A [(h0, .inr (4, [.ref q1, .ref q2, .int 0, .int 0])), (q1, .inl (K 0, 5, .inl (fun _ => 0))), (q2, .inl (K 0, 1220, .inl (fun _ => 0)))] := hD
  refine lv_aload_n hx hb d_Tn_init_25 rfl (lv_at hl 0 rfl) ?_
  refine lv_iconst (v := 0) hx hb d_Tn_init_26 (by decide) ?_
  refine b_put hC hP hD hS 0 rfl co_Tn 3 (by decide) rfl fl_Tn_22 rfl (to_Tn 3 (by decide)) rfl rfl (Nat.le_of_ble_eq_true rfl) d_Tn_init_27 (fun H locs hP hD hS => ?_)
  have hP : va_P D vwCl [(h0, .inr (4, [.ref q1, .ref q2, .int 0, .int 0])), (q1, .inl (K 0, 5, .inl (fun _ => 0))), (q2, .inl (K 0, 1220, .inl (fun _ => 0)))] H := hP
  have hD : va_D A [(h0, .inr (4, [.ref q1, .ref q2, .int 0, .int 0])), (q1, .inl (K 0, 5, .inl (fun _ => 0))), (q2, .inl (K 0, 1220, .inl (fun _ => 0)))] := hD
  exact b_vret (d := 1) hC (fun i => [q1, q2].getD i 0) trivial hP hD hK hS d_Tn_init_30
set_option maxHeartbeats 4000000 in
set_option maxRecDepth 100000 in
theorem cb_Wk {l : Launch} {D : va_G} {K : Nat → ClassId} (h0 : Nat) : CB (S := Nat → Nat) l D K y_Wk_init b_Wk_init 1 1 0 0 [.ref h0] [(h0, .inr (6, [.int 0, .int 0, .int 0, .int 0, .int 0]))] (fun _ => True) (fun u => [(h0, .inr (6, [.int 0, .int 0, .int 0, .int 0, .int 0]))]) (fun _ => tyB K) := by
  refine CB.intro (by decide) (Nat.le_of_ble_eq_true rfl) ?_
  intro p e s m args below meth c ls A hC hin hP hD hA hS hl
  obtain ⟨hx, hb, -, hown, hts, hK, -⟩ := id hC
  have hl : lv_has ls 1 [(0, .ref h0)] := hl
  refine lv_aload_n hx hb d_Wk_init_0 rfl (lv_at hl 0 rfl) ?_
  refine b_obj hC hl.1 ml_Wk_3 im_obj cd_obj d_Wk_init_1 (Nat.le_of_ble_eq_true rfl) (Nat.le_of_ble_eq_true rfl) ?_
  refine lv_aload_n hx hb d_Wk_init_4 rfl (lv_at hl 0 rfl) ?_
  refine lv_iconst (v := 0) hx hb d_Wk_init_5 (by decide) ?_
  refine b_put hC hP hD hS 0 rfl co_Wk 0 (by decide) rfl fl_Wk_9 rfl (to_Wk 0 (by decide)) rfl rfl (Nat.le_of_ble_eq_true rfl) d_Wk_init_6 (fun H locs hP hD hS => ?_)
  have hP : va_P D vwCl [(h0, .inr (6, [.int 0, .int 0, .int 0, .int 0, .int 0]))] H := hP
  have hD : va_D A [(h0, .inr (6, [.int 0, .int 0, .int 0, .int 0, .int 0]))] := hD
  refine lv_aload_n hx hb d_Wk_init_9 rfl (lv_at hl 0 rfl) ?_
  refine lv_iconst (v := 0) hx hb d_Wk_init_10 (by decide) ?_
  refine b_put hC hP hD hS 0 rfl co_Wk 1 (by decide) rfl fl_Wk_15 rfl (to_Wk 1 (by decide)) rfl rfl (Nat.le_of_ble_eq_true rfl) d_Wk_init_11 (fun H locs hP hD hS => ?_)
  have hP : va_P D vwCl [(h0, .inr (6, [.int 0, .int 0, .int 0, .int 0, .int 0]))] H := hP
  have hD : va_D A [(h0, .inr (6, [.int 0, .int 0, .int 0, .int 0, .int 0]))] := hD
  refine lv_aload_n hx hb d_Wk_init_14 rfl (lv_at hl 0 rfl) ?_
  refine lv_iconst (v := 0) hx hb d_Wk_init_15 (by decide) ?_
  refine b_put hC hP hD hS 0 rfl co_Wk 2 (by decide) rfl fl_Wk_18 rfl (to_Wk 2 (by decide)) rfl rfl (Nat.le_of_ble_eq_true rfl) d_Wk_init_16 (fun H locs hP hD hS => ?_)
  have hP : va_P D vwCl [(h0, .inr (6, [.int 0, .int 0, .int 0, .int 0, .int 0]))] H := hP
  have hD : va_D A [(h0, .inr (6, [.int 0, .int 0, .int 0, .int 0, .int 0]))] := hD
  refine lv_aload_n hx hb d_Wk_init_19 rfl (lv_at hl 0 rfl) ?_
  refine lv_iconst (v := 0) hx hb d_Wk_init_20 (by decide) ?_
  refine b_put hC hP hD hS 0 rfl co_Wk 3 (by decide) rfl fl_Wk_21 rfl (to_Wk 3 (by decide)) rfl rfl (Nat.le_of_ble_eq_true rfl) d_Wk_init_21 (fun H locs hP hD hS => ?_)
  have hP : va_P D vwCl [(h0, .inr (6, [.int 0, .int 0, .int 0, .int 0, .int 0]))] H := hP
  have hD : va_D A [(h0, .inr (6, [.int 0, .int 0, .int 0, .int 0, .int 0]))] := hD
  refine lv_aload_n hx hb d_Wk_init_24 rfl (lv_at hl 0 rfl) ?_
  refine lv_iconst (v := 0) hx hb d_Wk_init_25 (by decide) ?_
  refine b_put hC hP hD hS 0 rfl co_Wk 4 (by decide) rfl fl_Wk_24 rfl (to_Wk 4 (by decide)) rfl rfl (Nat.le_of_ble_eq_true rfl) d_Wk_init_26 (fun H locs hP hD hS => ?_)
  have hP : va_P D vwCl [(h0, .inr (6, [.int 0, .int 0, .int 0, .int 0, .int 0]))] H := hP
  have hD : va_D A [(h0, .inr (6, [.int 0, .int 0, .int 0, .int 0, .int 0]))] := hD
  exact b_vret (d := 1) hC (fun i => [].getD i 0) trivial hP hD hK hS d_Wk_init_29
set_option maxHeartbeats 4000000 in
set_option maxRecDepth 100000 in
theorem cb_Id {l : Launch} {D : va_G} {K : Nat → ClassId} (h0 : Nat) : CB (S := Nat → Nat) l D K y_Id_init b_Id_init 1 1 4 160 [.ref h0] [(h0, .inr (0, [.null, .null, .null, .null, .int 0, .long 0, .int 0]))] (fun _ => True) (fun u => [(h0, .inr (0, [.ref (u 0), .ref (u 1), .ref (u 2), .ref (u 3), .int 0, .long 0, .int 0])), ((u 0), .inl (K 0, 40, .inl (fun _ => 0))), ((u 1), .inl (K 0, 40, .inl (fun _ => 0))), ((u 2), .inl (K 1, 40, .inr (.inl (fun _ => 0)))), ((u 3), .inl (K 1, 40, .inr (.inl (fun _ => 0))))]) (fun _ => tyB K) := by
  refine CB.intro (by decide) (Nat.le_of_ble_eq_true rfl) ?_
  intro p e s m args below meth c ls A hC hin hP hD hA hS hl
  obtain ⟨hx, hb, -, hown, hts, hK, -⟩ := id hC
  have hl : lv_has ls 1 [(0, .ref h0)] := hl
  refine lv_aload_n hx hb d_Id_init_0 rfl (lv_at hl 0 rfl) ?_
  refine b_obj hC hl.1 ml_Id_1 im_obj cd_obj d_Id_init_1 (Nat.le_of_ble_eq_true rfl) (Nat.le_of_ble_eq_true rfl) ?_
  refine lv_aload_n hx hb d_Id_init_4 rfl (lv_at hl 0 rfl) ?_
  refine lv_bipush (v := 40) hx hb d_Id_init_5 (by decide) ?_
  refine b_newa (atype := .int) (ty := .int) (a0 := (40, .inl (fun _ => 0))) hC hP hD hS hA rfl 0 rfl (fun _ => rfl) ac_int (fun _ => rfl) (by decide) rfl (by decide) (Nat.le_of_ble_eq_true rfl) (Nat.le_of_ble_eq_true rfl) d_Id_init_7 (fun q1 H hP hD hS => ?_)
  have hP : va_P D vwCl [(h0, .inr (0, [.null, .null, .null, .null, .int 0, .long 0, .int 0])), (q1, .inl (K 0, 40, .inl (fun _ => 0)))] H := hP
  have hD : va_D A [(h0, .inr (0, [.null, .null, .null, .null, .int 0, .long 0, .int 0])), (q1, .inl (K 0, 40, .inl (fun _ => 0)))] := hD
  refine b_put hC hP hD hS 0 rfl co_Id 0 (by decide) rfl fl_Id_9 rfl (to_Id 0 (by decide)) rfl rfl (Nat.le_of_ble_eq_true rfl) d_Id_init_9 (fun H locs hP hD hS => ?_)
  have hP : va_P D vwCl [(h0, .inr (0, [.ref q1, .null, .null, .null, .int 0, .long 0, .int 0])), (q1, .inl (K 0, 40, .inl (fun _ => 0)))] H := hP
  have hD : va_D A [(h0, .inr (0, [.ref q1, .null, .null, .null, .int 0, .long 0, .int 0])), (q1, .inl (K 0, 40, .inl (fun _ => 0)))] := hD
  refine lv_aload_n hx hb d_Id_init_12 rfl (lv_at hl 0 rfl) ?_
  refine lv_bipush (v := 40) hx hb d_Id_init_13 (by decide) ?_
  refine b_newa (atype := .int) (ty := .int) (a0 := (40, .inl (fun _ => 0))) hC hP hD hS hA rfl 0 rfl (fun _ => rfl) ac_int (fun _ => rfl) (by decide) rfl (by decide) (Nat.le_of_ble_eq_true rfl) (Nat.le_of_ble_eq_true rfl) d_Id_init_15 (fun q2 H hP hD hS => ?_)
  have hP : va_P D vwCl [(h0, .inr (0, [.ref q1, .null, .null, .null, .int 0, .long 0, .int 0])), (q1, .inl (K 0, 40, .inl (fun _ => 0))), (q2, .inl (K 0, 40, .inl (fun _ => 0)))] H := hP
  have hD : va_D A [(h0, .inr (0, [.ref q1, .null, .null, .null, .int 0, .long 0, .int 0])), (q1, .inl (K 0, 40, .inl (fun _ => 0))), (q2, .inl (K 0, 40, .inl (fun _ => 0)))] := hD
  refine b_put hC hP hD hS 0 rfl co_Id 1 (by decide) rfl fl_Id_13 rfl (to_Id 1 (by decide)) rfl rfl (Nat.le_of_ble_eq_true rfl) d_Id_init_17 (fun H locs hP hD hS => ?_)
  have hP : va_P D vwCl [(h0, .inr (0, [.ref q1, .ref q2, .null, .null, .int 0, .long 0, .int 0])), (q1, .inl (K 0, 40, .inl (fun _ => 0))), (q2, .inl (K 0, 40, .inl (fun _ => 0)))] H := hP
  have hD : va_D A [(h0, .inr (0, [.ref q1, .ref q2, .null, .null, .int 0, .long 0, .int 0])), (q1, .inl (K 0, 40, .inl (fun _ => 0))), (q2, .inl (K 0, 40, .inl (fun _ => 0)))] := hD
  refine lv_aload_n hx hb d_Id_init_20 rfl (lv_at hl 0 rfl) ?_
  refine lv_bipush (v := 40) hx hb d_Id_init_21 (by decide) ?_
  refine b_newa (atype := .long) (ty := .long) (a0 := (40, .inr (.inl (fun _ => 0)))) hC hP hD hS hA rfl 1 rfl (fun _ => rfl) ac_long (fun _ => rfl) (by decide) rfl (by decide) (Nat.le_of_ble_eq_true rfl) (Nat.le_of_ble_eq_true rfl) d_Id_init_23 (fun q3 H hP hD hS => ?_)
  have hP : va_P D vwCl [(h0, .inr (0, [.ref q1, .ref q2, .null, .null, .int 0, .long 0, .int 0])), (q1, .inl (K 0, 40, .inl (fun _ => 0))), (q2, .inl (K 0, 40, .inl (fun _ => 0))), (q3, .inl (K 1, 40, .inr (.inl (fun _ => 0))))] H := hP
  have hD : va_D A [(h0, .inr (0, [.ref q1, .ref q2, .null, .null, .int 0, .long 0, .int 0])), (q1, .inl (K 0, 40, .inl (fun _ => 0))), (q2, .inl (K 0, 40, .inl (fun _ => 0))), (q3, .inl (K 1, 40, .inr (.inl (fun _ => 0))))] := hD
  refine b_put hC hP hD hS 0 rfl co_Id 2 (by decide) rfl fl_Id_16 rfl (to_Id 2 (by decide)) rfl rfl (Nat.le_of_ble_eq_true rfl) d_Id_init_25 (fun H locs hP hD hS => ?_)
  have hP : va_P D vwCl [(h0, .inr (0, [.ref q1, .ref q2, .ref q3, .null, .int 0, .long 0, .int 0])), (q1, .inl (K 0, 40, .inl (fun _ => 0))), (q2, .inl (K 0, 40, .inl (fun _ => 0))), (q3, .inl (K 1, 40, .inr (.inl (fun _ => 0))))] H := hP
  have hD : va_D A [(h0, .inr (0, [.ref q1, .ref q2, .ref q3, .null, .int 0, .long 0, .int 0])), (q1, .inl (K 0, 40, .inl (fun _ => 0))), (q2, .inl (K 0, 40, .inl (fun _ => 0))), (q3, .inl (K 1, 40, .inr (.inl (fun _ => 0))))] := hD
  refine lv_aload_n hx hb d_Id_init_28 rfl (lv_at hl 0 rfl) ?_
  refine lv_bipush (v := 40) hx hb d_Id_init_29 (by decide) ?_
  refine b_newa (atype := .long) (ty := .long) (a0 := (40, .inr (.inl (fun _ => 0)))) hC hP hD hS hA rfl 1 rfl (fun _ => rfl) ac_long (fun _ => rfl) (by decide) rfl (by decide) (Nat.le_of_ble_eq_true rfl) (Nat.le_of_ble_eq_true rfl) d_Id_init_31 (fun q4 H hP hD hS => ?_)
  have hP : va_P D vwCl [(h0, .inr (0, [.ref q1, .ref q2, .ref q3, .null, .int 0, .long 0, .int 0])), (q1, .inl (K 0, 40, .inl (fun _ => 0))), (q2, .inl (K 0, 40, .inl (fun _ => 0))), (q3, .inl (K 1, 40, .inr (.inl (fun _ => 0)))), (q4, .inl (K 1, 40, .inr (.inl (fun _ => 0))))] H := hP
  have hD : va_D A [(h0, .inr (0, [.ref q1, .ref q2, .ref q3, .null, .int 0, .long 0, .int 0])), (q1, .inl (K 0, 40, .inl (fun _ => 0))), (q2, .inl (K 0, 40, .inl (fun _ => 0))), (q3, .inl (K 1, 40, .inr (.inl (fun _ => 0)))), (q4, .inl (K 1, 40, .inr (.inl (fun _ => 0))))] := hD
  refine b_put hC hP hD hS 0 rfl co_Id 3 (by decide) rfl fl_Id_20 rfl (to_Id 3 (by decide)) rfl rfl (Nat.le_of_ble_eq_true rfl) d_Id_init_33 (fun H locs hP hD hS => ?_)
  have hP : va_P D vwCl [(h0, .inr (0, [.ref q1, .ref q2, .ref q3, .ref q4, .int 0, .long 0, .int 0])), (q1, .inl (K 0, 40, .inl (fun _ => 0))), (q2, .inl (K 0, 40, .inl (fun _ => 0))), (q3, .inl (K 1, 40, .inr (.inl (fun _ => 0)))), (q4, .inl (K 1, 40, .inr (.inl (fun _ => 0))))] H := hP
  have hD : va_D A [(h0, .inr (0, [.ref q1, .ref q2, .ref q3, .ref q4, .int 0, .long 0, .int 0])), (q1, .inl (K 0, 40, .inl (fun _ => 0))), (q2, .inl (K 0, 40, .inl (fun _ => 0))), (q3, .inl (K 1, 40, .inr (.inl (fun _ => 0)))), (q4, .inl (K 1, 40, .inr (.inl (fun _ => 0))))] := hD
  refine lv_aload_n hx hb d_Id_init_36 rfl (lv_at hl 0 rfl) ?_
  refine lv_iconst (v := 0) hx hb d_Id_init_37 (by decide) ?_
  refine b_put hC hP hD hS 0 rfl co_Id 4 (by decide) rfl fl_Id_23 rfl (to_Id 4 (by decide)) rfl rfl (Nat.le_of_ble_eq_true rfl) d_Id_init_38 (fun H locs hP hD hS => ?_)
  have hP : va_P D vwCl [(h0, .inr (0, [.ref q1, .ref q2, .ref q3, .ref q4, .int 0, .long 0, .int 0])), (q1, .inl (K 0, 40, .inl (fun _ => 0))), (q2, .inl (K 0, 40, .inl (fun _ => 0))), (q3, .inl (K 1, 40, .inr (.inl (fun _ => 0)))), (q4, .inl (K 1, 40, .inr (.inl (fun _ => 0))))] H := hP
  have hD : va_D A [(h0, .inr (0, [.ref q1, .ref q2, .ref q3, .ref q4, .int 0, .long 0, .int 0])), (q1, .inl (K 0, 40, .inl (fun _ => 0))), (q2, .inl (K 0, 40, .inl (fun _ => 0))), (q3, .inl (K 1, 40, .inr (.inl (fun _ => 0)))), (q4, .inl (K 1, 40, .inr (.inl (fun _ => 0))))] := hD
  refine lv_aload_n hx hb d_Id_init_41 rfl (lv_at hl 0 rfl) ?_
  refine lv_lconst (v := 0) hx hb d_Id_init_42 (by decide) ?_
  refine b_put hC hP hD hS 0 rfl co_Id 5 (by decide) rfl fl_Id_27 rfl (to_Id 5 (by decide)) rfl rfl (Nat.le_of_ble_eq_true rfl) d_Id_init_43 (fun H locs hP hD hS => ?_)
  have hP : va_P D vwCl [(h0, .inr (0, [.ref q1, .ref q2, .ref q3, .ref q4, .int 0, .long 0, .int 0])), (q1, .inl (K 0, 40, .inl (fun _ => 0))), (q2, .inl (K 0, 40, .inl (fun _ => 0))), (q3, .inl (K 1, 40, .inr (.inl (fun _ => 0)))), (q4, .inl (K 1, 40, .inr (.inl (fun _ => 0))))] H := hP
  have hD : va_D A [(h0, .inr (0, [.ref q1, .ref q2, .ref q3, .ref q4, .int 0, .long 0, .int 0])), (q1, .inl (K 0, 40, .inl (fun _ => 0))), (q2, .inl (K 0, 40, .inl (fun _ => 0))), (q3, .inl (K 1, 40, .inr (.inl (fun _ => 0)))), (q4, .inl (K 1, 40, .inr (.inl (fun _ => 0))))] := hD
  refine lv_aload_n hx hb d_Id_init_46 rfl (lv_at hl 0 rfl) ?_
  refine lv_iconst (v := 0) hx hb d_Id_init_47 (by decide) ?_
  refine b_put hC hP hD hS 0 rfl co_Id 6 (by decide) rfl fl_Id_31 rfl (to_Id 6 (by decide)) rfl rfl (Nat.le_of_ble_eq_true rfl) d_Id_init_48 (fun H locs hP hD hS => ?_)
  have hP : va_P D vwCl [(h0, .inr (0, [.ref q1, .ref q2, .ref q3, .ref q4, .int 0, .long 0, .int 0])), (q1, .inl (K 0, 40, .inl (fun _ => 0))), (q2, .inl (K 0, 40, .inl (fun _ => 0))), (q3, .inl (K 1, 40, .inr (.inl (fun _ => 0)))), (q4, .inl (K 1, 40, .inr (.inl (fun _ => 0))))] H := hP
  have hD : va_D A [(h0, .inr (0, [.ref q1, .ref q2, .ref q3, .ref q4, .int 0, .long 0, .int 0])), (q1, .inl (K 0, 40, .inl (fun _ => 0))), (q2, .inl (K 0, 40, .inl (fun _ => 0))), (q3, .inl (K 1, 40, .inr (.inl (fun _ => 0)))), (q4, .inl (K 1, 40, .inr (.inl (fun _ => 0))))] := hD
  exact b_vret (d := 1) hC (fun i => [q1, q2, q3, q4].getD i 0) trivial hP hD hK hS d_Id_init_51
set_option maxHeartbeats 4000000 in
set_option maxRecDepth 100000 in
theorem cb_Tr {l : Launch} {D : va_G} {K : Nat → ClassId} (h0 : Nat) : CB (S := Nat → Nat) l D K y_Tr_init b_Tr_init 1 2 8 264 [.ref h0] [(h0, .inr (5, [.null, .null, .null, .null]))] (fun _ => True) (fun u => [(h0, .inr (5, [.ref (u 0), .ref (u 2), .ref (u 4), .ref (u 6)])), ((u 0), .inr (7, [.ref (u 1), .int 0])), ((u 1), .inl (K 0, 64, .inl (fun _ => 0))), ((u 2), .inr (7, [.ref (u 3), .int 0])), ((u 3), .inl (K 0, 64, .inl (fun _ => 0))), ((u 4), .inr (7, [.ref (u 5), .int 0])), ((u 5), .inl (K 0, 64, .inl (fun _ => 0))), ((u 6), .inr (7, [.ref (u 7), .int 0])), ((u 7), .inl (K 0, 64, .inl (fun _ => 0)))]) (fun _ => tyB K) := by
  refine CB.intro (by decide) (Nat.le_of_ble_eq_true rfl) ?_
  intro p e s m args below meth c ls A hC hin hP hD hA hS hl
  obtain ⟨hx, hb, -, hown, hts, hK, -⟩ := id hC
  have hl : lv_has ls 1 [(0, .ref h0)] := hl
  refine lv_aload_n hx hb d_Tr_init_0 rfl (lv_at hl 0 rfl) ?_
  refine b_obj hC hl.1 ml_Tr_1 im_obj cd_obj d_Tr_init_1 (Nat.le_of_ble_eq_true rfl) (Nat.le_of_ble_eq_true rfl) ?_
  refine lv_aload_n hx hb d_Tr_init_4 rfl (lv_at hl 0 rfl) ?_
  refine b_new (fs := [.null, .int 0]) hC hP hD hS hA co_Wd cl_Tr_7 ib_Wd it_WideTown_Word df_Wd (Nat.le_of_ble_eq_true rfl) (Nat.le_of_ble_eq_true rfl) d_Tr_init_5 (fun q1 H hP hD hS => ?_)
  have hP : va_P D vwCl [(h0, .inr (5, [.null, .null, .null, .null])), (q1, .inr (7, [.null, .int 0]))] H := hP
  have hD : va_D A [(h0, .inr (5, [.null, .null, .null, .null])), (q1, .inr (7, [.null, .int 0]))] := hD
  refine lv_dup hx hb d_Tr_init_8 rfl ?_
  refine b_initN (wr := [(h0, .inr (5, [.null, .null, .null, .null]))]) (wc := [(q1, .inr (7, [.null, .int 0]))]) (rest := [.ref q1, .ref h0]) hC hP hD hS hA (cb_Wd q1) (rb (by decide) (by decide)) nm_Wd_init cd_Wd_init it_WideTown_Word nl_Tr_9 im_Wd_init rfl hl.1 (Nat.le_of_ble_eq_true rfl) d_Tr_init_9 ⟨Nat.le_of_ble_eq_true rfl, Nat.le_of_ble_eq_true rfl⟩ rfl (fun u101 H locs _ hP hD _ hS => ?_)
  have hP : va_P D vwCl [(h0, .inr (5, [.null, .null, .null, .null])), (q1, .inr (7, [.ref (u101 0), .int 0])), ((u101 0), .inl (K 0, 64, .inl (fun _ => 0)))] H := hP
  have hD : va_D A [(h0, .inr (5, [.null, .null, .null, .null])), (q1, .inr (7, [.ref (u101 0), .int 0])), ((u101 0), .inl (K 0, 64, .inl (fun _ => 0)))] := hD
  refine b_putF hC hin hP hD hS 0 rfl co_Tr 0 (by decide) rfl fl_Tr_10 rfl rfl (to_Tr 0 (by decide)) rfl rfl (Nat.le_of_ble_eq_true rfl) d_Tr_init_12 (fun H locs hP hD hS => ?_)
  have hP : va_P D vwCl [(h0, .inr (5, [.ref q1, .null, .null, .null])), (q1, .inr (7, [.ref (u101 0), .int 0])), ((u101 0), .inl (K 0, 64, .inl (fun _ => 0)))] H := hP
  have hD : va_D A [(h0, .inr (5, [.ref q1, .null, .null, .null])), (q1, .inr (7, [.ref (u101 0), .int 0])), ((u101 0), .inl (K 0, 64, .inl (fun _ => 0)))] := hD
  refine lv_aload_n hx hb d_Tr_init_15 rfl (lv_at hl 0 rfl) ?_
  refine b_new (fs := [.null, .int 0]) hC hP hD hS hA co_Wd cl_Tr_7 ib_Wd it_WideTown_Word df_Wd (Nat.le_of_ble_eq_true rfl) (Nat.le_of_ble_eq_true rfl) d_Tr_init_16 (fun q2 H hP hD hS => ?_)
  have hP : va_P D vwCl [(h0, .inr (5, [.ref q1, .null, .null, .null])), (q1, .inr (7, [.ref (u101 0), .int 0])), ((u101 0), .inl (K 0, 64, .inl (fun _ => 0))), (q2, .inr (7, [.null, .int 0]))] H := hP
  have hD : va_D A [(h0, .inr (5, [.ref q1, .null, .null, .null])), (q1, .inr (7, [.ref (u101 0), .int 0])), ((u101 0), .inl (K 0, 64, .inl (fun _ => 0))), (q2, .inr (7, [.null, .int 0]))] := hD
  refine lv_dup hx hb d_Tr_init_19 rfl ?_
  refine b_initN (wr := [(h0, .inr (5, [.ref q1, .null, .null, .null])), (q1, .inr (7, [.ref (u101 0), .int 0])), ((u101 0), .inl (K 0, 64, .inl (fun _ => 0)))]) (wc := [(q2, .inr (7, [.null, .int 0]))]) (rest := [.ref q2, .ref h0]) hC hP hD hS hA (cb_Wd q2) (rb (by decide) (by decide)) nm_Wd_init cd_Wd_init it_WideTown_Word nl_Tr_9 im_Wd_init rfl hl.1 (Nat.le_of_ble_eq_true rfl) d_Tr_init_20 ⟨Nat.le_of_ble_eq_true rfl, Nat.le_of_ble_eq_true rfl⟩ rfl (fun u102 H locs _ hP hD _ hS => ?_)
  have hP : va_P D vwCl [(h0, .inr (5, [.ref q1, .null, .null, .null])), (q1, .inr (7, [.ref (u101 0), .int 0])), ((u101 0), .inl (K 0, 64, .inl (fun _ => 0))), (q2, .inr (7, [.ref (u102 0), .int 0])), ((u102 0), .inl (K 0, 64, .inl (fun _ => 0)))] H := hP
  have hD : va_D A [(h0, .inr (5, [.ref q1, .null, .null, .null])), (q1, .inr (7, [.ref (u101 0), .int 0])), ((u101 0), .inl (K 0, 64, .inl (fun _ => 0))), (q2, .inr (7, [.ref (u102 0), .int 0])), ((u102 0), .inl (K 0, 64, .inl (fun _ => 0)))] := hD
  refine b_putF hC hin hP hD hS 0 rfl co_Tr 1 (by decide) rfl fl_Tr_16 rfl rfl (to_Tr 1 (by decide)) rfl rfl (Nat.le_of_ble_eq_true rfl) d_Tr_init_23 (fun H locs hP hD hS => ?_)
  have hP : va_P D vwCl [(h0, .inr (5, [.ref q1, .ref q2, .null, .null])), (q1, .inr (7, [.ref (u101 0), .int 0])), ((u101 0), .inl (K 0, 64, .inl (fun _ => 0))), (q2, .inr (7, [.ref (u102 0), .int 0])), ((u102 0), .inl (K 0, 64, .inl (fun _ => 0)))] H := hP
  have hD : va_D A [(h0, .inr (5, [.ref q1, .ref q2, .null, .null])), (q1, .inr (7, [.ref (u101 0), .int 0])), ((u101 0), .inl (K 0, 64, .inl (fun _ => 0))), (q2, .inr (7, [.ref (u102 0), .int 0])), ((u102 0), .inl (K 0, 64, .inl (fun _ => 0)))] := hD
  refine lv_aload_n hx hb d_Tr_init_26 rfl (lv_at hl 0 rfl) ?_
  refine b_new (fs := [.null, .int 0]) hC hP hD hS hA co_Wd cl_Tr_7 ib_Wd it_WideTown_Word df_Wd (Nat.le_of_ble_eq_true rfl) (Nat.le_of_ble_eq_true rfl) d_Tr_init_27 (fun q3 H hP hD hS => ?_)
  have hP : va_P D vwCl [(h0, .inr (5, [.ref q1, .ref q2, .null, .null])), (q1, .inr (7, [.ref (u101 0), .int 0])), ((u101 0), .inl (K 0, 64, .inl (fun _ => 0))), (q2, .inr (7, [.ref (u102 0), .int 0])), ((u102 0), .inl (K 0, 64, .inl (fun _ => 0))), (q3, .inr (7, [.null, .int 0]))] H := hP
  have hD : va_D A [(h0, .inr (5, [.ref q1, .ref q2, .null, .null])), (q1, .inr (7, [.ref (u101 0), .int 0])), ((u101 0), .inl (K 0, 64, .inl (fun _ => 0))), (q2, .inr (7, [.ref (u102 0), .int 0])), ((u102 0), .inl (K 0, 64, .inl (fun _ => 0))), (q3, .inr (7, [.null, .int 0]))] := hD
  refine lv_dup hx hb d_Tr_init_30 rfl ?_
  refine b_initN (wr := [(h0, .inr (5, [.ref q1, .ref q2, .null, .null])), (q1, .inr (7, [.ref (u101 0), .int 0])), ((u101 0), .inl (K 0, 64, .inl (fun _ => 0))), (q2, .inr (7, [.ref (u102 0), .int 0])), ((u102 0), .inl (K 0, 64, .inl (fun _ => 0)))]) (wc := [(q3, .inr (7, [.null, .int 0]))]) (rest := [.ref q3, .ref h0]) hC hP hD hS hA (cb_Wd q3) (rb (by decide) (by decide)) nm_Wd_init cd_Wd_init it_WideTown_Word nl_Tr_9 im_Wd_init rfl hl.1 (Nat.le_of_ble_eq_true rfl) d_Tr_init_31 ⟨Nat.le_of_ble_eq_true rfl, Nat.le_of_ble_eq_true rfl⟩ rfl (fun u103 H locs _ hP hD _ hS => ?_)
  have hP : va_P D vwCl [(h0, .inr (5, [.ref q1, .ref q2, .null, .null])), (q1, .inr (7, [.ref (u101 0), .int 0])), ((u101 0), .inl (K 0, 64, .inl (fun _ => 0))), (q2, .inr (7, [.ref (u102 0), .int 0])), ((u102 0), .inl (K 0, 64, .inl (fun _ => 0))), (q3, .inr (7, [.ref (u103 0), .int 0])), ((u103 0), .inl (K 0, 64, .inl (fun _ => 0)))] H := hP
  have hD : va_D A [(h0, .inr (5, [.ref q1, .ref q2, .null, .null])), (q1, .inr (7, [.ref (u101 0), .int 0])), ((u101 0), .inl (K 0, 64, .inl (fun _ => 0))), (q2, .inr (7, [.ref (u102 0), .int 0])), ((u102 0), .inl (K 0, 64, .inl (fun _ => 0))), (q3, .inr (7, [.ref (u103 0), .int 0])), ((u103 0), .inl (K 0, 64, .inl (fun _ => 0)))] := hD
  refine b_putF hC hin hP hD hS 0 rfl co_Tr 2 (by decide) rfl fl_Tr_19 rfl rfl (to_Tr 2 (by decide)) rfl rfl (Nat.le_of_ble_eq_true rfl) d_Tr_init_34 (fun H locs hP hD hS => ?_)
  have hP : va_P D vwCl [(h0, .inr (5, [.ref q1, .ref q2, .ref q3, .null])), (q1, .inr (7, [.ref (u101 0), .int 0])), ((u101 0), .inl (K 0, 64, .inl (fun _ => 0))), (q2, .inr (7, [.ref (u102 0), .int 0])), ((u102 0), .inl (K 0, 64, .inl (fun _ => 0))), (q3, .inr (7, [.ref (u103 0), .int 0])), ((u103 0), .inl (K 0, 64, .inl (fun _ => 0)))] H := hP
  have hD : va_D A [(h0, .inr (5, [.ref q1, .ref q2, .ref q3, .null])), (q1, .inr (7, [.ref (u101 0), .int 0])), ((u101 0), .inl (K 0, 64, .inl (fun _ => 0))), (q2, .inr (7, [.ref (u102 0), .int 0])), ((u102 0), .inl (K 0, 64, .inl (fun _ => 0))), (q3, .inr (7, [.ref (u103 0), .int 0])), ((u103 0), .inl (K 0, 64, .inl (fun _ => 0)))] := hD
  refine lv_aload_n hx hb d_Tr_init_37 rfl (lv_at hl 0 rfl) ?_
  refine b_new (fs := [.null, .int 0]) hC hP hD hS hA co_Wd cl_Tr_7 ib_Wd it_WideTown_Word df_Wd (Nat.le_of_ble_eq_true rfl) (Nat.le_of_ble_eq_true rfl) d_Tr_init_38 (fun q4 H hP hD hS => ?_)
  have hP : va_P D vwCl [(h0, .inr (5, [.ref q1, .ref q2, .ref q3, .null])), (q1, .inr (7, [.ref (u101 0), .int 0])), ((u101 0), .inl (K 0, 64, .inl (fun _ => 0))), (q2, .inr (7, [.ref (u102 0), .int 0])), ((u102 0), .inl (K 0, 64, .inl (fun _ => 0))), (q3, .inr (7, [.ref (u103 0), .int 0])), ((u103 0), .inl (K 0, 64, .inl (fun _ => 0))), (q4, .inr (7, [.null, .int 0]))] H := hP
  have hD : va_D A [(h0, .inr (5, [.ref q1, .ref q2, .ref q3, .null])), (q1, .inr (7, [.ref (u101 0), .int 0])), ((u101 0), .inl (K 0, 64, .inl (fun _ => 0))), (q2, .inr (7, [.ref (u102 0), .int 0])), ((u102 0), .inl (K 0, 64, .inl (fun _ => 0))), (q3, .inr (7, [.ref (u103 0), .int 0])), ((u103 0), .inl (K 0, 64, .inl (fun _ => 0))), (q4, .inr (7, [.null, .int 0]))] := hD
  refine lv_dup hx hb d_Tr_init_41 rfl ?_
  refine b_initN (wr := [(h0, .inr (5, [.ref q1, .ref q2, .ref q3, .null])), (q1, .inr (7, [.ref (u101 0), .int 0])), ((u101 0), .inl (K 0, 64, .inl (fun _ => 0))), (q2, .inr (7, [.ref (u102 0), .int 0])), ((u102 0), .inl (K 0, 64, .inl (fun _ => 0))), (q3, .inr (7, [.ref (u103 0), .int 0])), ((u103 0), .inl (K 0, 64, .inl (fun _ => 0)))]) (wc := [(q4, .inr (7, [.null, .int 0]))]) (rest := [.ref q4, .ref h0]) hC hP hD hS hA (cb_Wd q4) (rb (by decide) (by decide)) nm_Wd_init cd_Wd_init it_WideTown_Word nl_Tr_9 im_Wd_init rfl hl.1 (Nat.le_of_ble_eq_true rfl) d_Tr_init_42 ⟨Nat.le_of_ble_eq_true rfl, Nat.le_of_ble_eq_true rfl⟩ rfl (fun u104 H locs _ hP hD _ hS => ?_)
  have hP : va_P D vwCl [(h0, .inr (5, [.ref q1, .ref q2, .ref q3, .null])), (q1, .inr (7, [.ref (u101 0), .int 0])), ((u101 0), .inl (K 0, 64, .inl (fun _ => 0))), (q2, .inr (7, [.ref (u102 0), .int 0])), ((u102 0), .inl (K 0, 64, .inl (fun _ => 0))), (q3, .inr (7, [.ref (u103 0), .int 0])), ((u103 0), .inl (K 0, 64, .inl (fun _ => 0))), (q4, .inr (7, [.ref (u104 0), .int 0])), ((u104 0), .inl (K 0, 64, .inl (fun _ => 0)))] H := hP
  have hD : va_D A [(h0, .inr (5, [.ref q1, .ref q2, .ref q3, .null])), (q1, .inr (7, [.ref (u101 0), .int 0])), ((u101 0), .inl (K 0, 64, .inl (fun _ => 0))), (q2, .inr (7, [.ref (u102 0), .int 0])), ((u102 0), .inl (K 0, 64, .inl (fun _ => 0))), (q3, .inr (7, [.ref (u103 0), .int 0])), ((u103 0), .inl (K 0, 64, .inl (fun _ => 0))), (q4, .inr (7, [.ref (u104 0), .int 0])), ((u104 0), .inl (K 0, 64, .inl (fun _ => 0)))] := hD
  refine b_putF hC hin hP hD hS 0 rfl co_Tr 3 (by decide) rfl fl_Tr_22 rfl rfl (to_Tr 3 (by decide)) rfl rfl (Nat.le_of_ble_eq_true rfl) d_Tr_init_45 (fun H locs hP hD hS => ?_)
  have hP : va_P D vwCl [(h0, .inr (5, [.ref q1, .ref q2, .ref q3, .ref q4])), (q1, .inr (7, [.ref (u101 0), .int 0])), ((u101 0), .inl (K 0, 64, .inl (fun _ => 0))), (q2, .inr (7, [.ref (u102 0), .int 0])), ((u102 0), .inl (K 0, 64, .inl (fun _ => 0))), (q3, .inr (7, [.ref (u103 0), .int 0])), ((u103 0), .inl (K 0, 64, .inl (fun _ => 0))), (q4, .inr (7, [.ref (u104 0), .int 0])), ((u104 0), .inl (K 0, 64, .inl (fun _ => 0)))] H := hP
  have hD : va_D A [(h0, .inr (5, [.ref q1, .ref q2, .ref q3, .ref q4])), (q1, .inr (7, [.ref (u101 0), .int 0])), ((u101 0), .inl (K 0, 64, .inl (fun _ => 0))), (q2, .inr (7, [.ref (u102 0), .int 0])), ((u102 0), .inl (K 0, 64, .inl (fun _ => 0))), (q3, .inr (7, [.ref (u103 0), .int 0])), ((u103 0), .inl (K 0, 64, .inl (fun _ => 0))), (q4, .inr (7, [.ref (u104 0), .int 0])), ((u104 0), .inl (K 0, 64, .inl (fun _ => 0)))] := hD
  exact b_vret (d := 2) hC (fun i => [q1, (u101 0), q2, (u102 0), q3, (u103 0), q4, (u104 0)].getD i 0) trivial hP hD hK hS d_Tr_init_48
set_option maxHeartbeats 4000000 in
set_option maxRecDepth 100000 in
theorem cb_To {l : Launch} {D : va_G} {K : Nat → ClassId} (h0 : Nat) : CB (S := Nat → Nat) l D K y_To_init b_To_init 1 1 3 61 [.ref h0] [(h0, .inr (3, [.null, .null, .null, .int 0, .int 0]))] (fun _ => True) (fun u => [(h0, .inr (3, [.ref (u 0), .ref (u 1), .ref (u 2), .int 0, .int 0])), ((u 0), .inl (K 0, 49, .inl (fun _ => 0))), ((u 1), .inl (K 0, 6, .inl (fun _ => 0))), ((u 2), .inl (K 0, 6, .inl (fun _ => 0)))]) (fun _ => tyB K) := by
  refine CB.intro (by decide) (Nat.le_of_ble_eq_true rfl) ?_
  intro p e s m args below meth c ls A hC hin hP hD hA hS hl
  obtain ⟨hx, hb, -, hown, hts, hK, -⟩ := id hC
  have hl : lv_has ls 1 [(0, .ref h0)] := hl
  refine lv_aload_n hx hb d_To_init_0 rfl (lv_at hl 0 rfl) ?_
  refine b_obj hC hl.1 ml_To_3 im_obj cd_obj d_To_init_1 (Nat.le_of_ble_eq_true rfl) (Nat.le_of_ble_eq_true rfl) ?_
  refine lv_aload_n hx hb d_To_init_4 rfl (lv_at hl 0 rfl) ?_
  refine lv_bipush (v := 49) hx hb d_To_init_5 (by decide) ?_
  refine b_newa (atype := .int) (ty := .int) (a0 := (49, .inl (fun _ => 0))) hC hP hD hS hA rfl 0 rfl (fun _ => rfl) ac_int (fun _ => rfl) (by decide) rfl (by decide) (Nat.le_of_ble_eq_true rfl) (Nat.le_of_ble_eq_true rfl) d_To_init_7 (fun q1 H hP hD hS => ?_)
  have hP : va_P D vwCl [(h0, .inr (3, [.null, .null, .null, .int 0, .int 0])), (q1, .inl (K 0, 49, .inl (fun _ => 0)))] H := hP
  have hD : va_D A [(h0, .inr (3, [.null, .null, .null, .int 0, .int 0])), (q1, .inl (K 0, 49, .inl (fun _ => 0)))] := hD
  refine b_putF hC hin hP hD hS 0 rfl co_To 0 (by decide) rfl fl_To_11 rfl rfl (to_To 0 (by decide)) rfl rfl (Nat.le_of_ble_eq_true rfl) d_To_init_9 (fun H locs hP hD hS => ?_)
  have hP : va_P D vwCl [(h0, .inr (3, [.ref q1, .null, .null, .int 0, .int 0])), (q1, .inl (K 0, 49, .inl (fun _ => 0)))] H := hP
  have hD : va_D A [(h0, .inr (3, [.ref q1, .null, .null, .int 0, .int 0])), (q1, .inl (K 0, 49, .inl (fun _ => 0)))] := hD
  refine lv_aload_n hx hb d_To_init_12 rfl (lv_at hl 0 rfl) ?_
  refine lv_bipush (v := 6) hx hb d_To_init_13 (by decide) ?_
  refine b_newa (atype := .int) (ty := .int) (a0 := (6, .inl (fun _ => 0))) hC hP hD hS hA rfl 0 rfl (fun _ => rfl) ac_int (fun _ => rfl) (by decide) rfl (by decide) (Nat.le_of_ble_eq_true rfl) (Nat.le_of_ble_eq_true rfl) d_To_init_15 (fun q2 H hP hD hS => ?_)
  have hP : va_P D vwCl [(h0, .inr (3, [.ref q1, .null, .null, .int 0, .int 0])), (q1, .inl (K 0, 49, .inl (fun _ => 0))), (q2, .inl (K 0, 6, .inl (fun _ => 0)))] H := hP
  have hD : va_D A [(h0, .inr (3, [.ref q1, .null, .null, .int 0, .int 0])), (q1, .inl (K 0, 49, .inl (fun _ => 0))), (q2, .inl (K 0, 6, .inl (fun _ => 0)))] := hD
  refine b_putF hC hin hP hD hS 0 rfl co_To 1 (by decide) rfl fl_To_15 rfl rfl (to_To 1 (by decide)) rfl rfl (Nat.le_of_ble_eq_true rfl) d_To_init_17 (fun H locs hP hD hS => ?_)
  have hP : va_P D vwCl [(h0, .inr (3, [.ref q1, .ref q2, .null, .int 0, .int 0])), (q1, .inl (K 0, 49, .inl (fun _ => 0))), (q2, .inl (K 0, 6, .inl (fun _ => 0)))] H := hP
  have hD : va_D A [(h0, .inr (3, [.ref q1, .ref q2, .null, .int 0, .int 0])), (q1, .inl (K 0, 49, .inl (fun _ => 0))), (q2, .inl (K 0, 6, .inl (fun _ => 0)))] := hD
  refine lv_aload_n hx hb d_To_init_20 rfl (lv_at hl 0 rfl) ?_
  refine lv_bipush (v := 6) hx hb d_To_init_21 (by decide) ?_
  refine b_newa (atype := .int) (ty := .int) (a0 := (6, .inl (fun _ => 0))) hC hP hD hS hA rfl 0 rfl (fun _ => rfl) ac_int (fun _ => rfl) (by decide) rfl (by decide) (Nat.le_of_ble_eq_true rfl) (Nat.le_of_ble_eq_true rfl) d_To_init_23 (fun q3 H hP hD hS => ?_)
  have hP : va_P D vwCl [(h0, .inr (3, [.ref q1, .ref q2, .null, .int 0, .int 0])), (q1, .inl (K 0, 49, .inl (fun _ => 0))), (q2, .inl (K 0, 6, .inl (fun _ => 0))), (q3, .inl (K 0, 6, .inl (fun _ => 0)))] H := hP
  have hD : va_D A [(h0, .inr (3, [.ref q1, .ref q2, .null, .int 0, .int 0])), (q1, .inl (K 0, 49, .inl (fun _ => 0))), (q2, .inl (K 0, 6, .inl (fun _ => 0))), (q3, .inl (K 0, 6, .inl (fun _ => 0)))] := hD
  refine b_putF hC hin hP hD hS 0 rfl co_To 2 (by decide) rfl fl_To_18 rfl rfl (to_To 2 (by decide)) rfl rfl (Nat.le_of_ble_eq_true rfl) d_To_init_25 (fun H locs hP hD hS => ?_)
  have hP : va_P D vwCl [(h0, .inr (3, [.ref q1, .ref q2, .ref q3, .int 0, .int 0])), (q1, .inl (K 0, 49, .inl (fun _ => 0))), (q2, .inl (K 0, 6, .inl (fun _ => 0))), (q3, .inl (K 0, 6, .inl (fun _ => 0)))] H := hP
  have hD : va_D A [(h0, .inr (3, [.ref q1, .ref q2, .ref q3, .int 0, .int 0])), (q1, .inl (K 0, 49, .inl (fun _ => 0))), (q2, .inl (K 0, 6, .inl (fun _ => 0))), (q3, .inl (K 0, 6, .inl (fun _ => 0)))] := hD
  refine lv_aload_n hx hb d_To_init_28 rfl (lv_at hl 0 rfl) ?_
  refine lv_iconst (v := 0) hx hb d_To_init_29 (by decide) ?_
  refine b_put hC hP hD hS 0 rfl co_To 3 (by decide) rfl fl_To_21 rfl (to_To 3 (by decide)) rfl rfl (Nat.le_of_ble_eq_true rfl) d_To_init_30 (fun H locs hP hD hS => ?_)
  have hP : va_P D vwCl [(h0, .inr (3, [.ref q1, .ref q2, .ref q3, .int 0, .int 0])), (q1, .inl (K 0, 49, .inl (fun _ => 0))), (q2, .inl (K 0, 6, .inl (fun _ => 0))), (q3, .inl (K 0, 6, .inl (fun _ => 0)))] H := hP
  have hD : va_D A [(h0, .inr (3, [.ref q1, .ref q2, .ref q3, .int 0, .int 0])), (q1, .inl (K 0, 49, .inl (fun _ => 0))), (q2, .inl (K 0, 6, .inl (fun _ => 0))), (q3, .inl (K 0, 6, .inl (fun _ => 0)))] := hD
  refine lv_aload_n hx hb d_To_init_33 rfl (lv_at hl 0 rfl) ?_
  refine lv_iconst (v := 0) hx hb d_To_init_34 (by decide) ?_
  refine b_put hC hP hD hS 0 rfl co_To 4 (by decide) rfl fl_To_25 rfl (to_To 4 (by decide)) rfl rfl (Nat.le_of_ble_eq_true rfl) d_To_init_35 (fun H locs hP hD hS => ?_)
  have hP : va_P D vwCl [(h0, .inr (3, [.ref q1, .ref q2, .ref q3, .int 0, .int 0])), (q1, .inl (K 0, 49, .inl (fun _ => 0))), (q2, .inl (K 0, 6, .inl (fun _ => 0))), (q3, .inl (K 0, 6, .inl (fun _ => 0)))] H := hP
  have hD : va_D A [(h0, .inr (3, [.ref q1, .ref q2, .ref q3, .int 0, .int 0])), (q1, .inl (K 0, 49, .inl (fun _ => 0))), (q2, .inl (K 0, 6, .inl (fun _ => 0))), (q3, .inl (K 0, 6, .inl (fun _ => 0)))] := hD
  exact b_vret (d := 1) hC (fun i => [q1, q2, q3].getD i 0) trivial hP hD hK hS d_To_init_38
set_option maxHeartbeats 4000000 in
set_option maxRecDepth 100000 in
theorem cb_Qu {l : Launch} {D : va_G} {K : Nat → ClassId} (h0 : Nat) : CB (S := Nat → Nat) l D K y_Qu_init b_Qu_init 1 1 7 2295 [.ref h0] [(h0, .inr (1, [.null, .null, .null, .null, .null, .null, .null, .int 0, .int 0, .int 0]))] (fun _ => True) (fun u => [(h0, .inr (1, [.ref (u 0), .ref (u 1), .ref (u 2), .ref (u 3), .ref (u 4), .ref (u 5), .ref (u 6), .int 0, .int 0, .int 0])), ((u 0), .inl (K 0, 166, .inl (fun _ => 0))), ((u 1), .inl (K 0, 166, .inl (fun _ => 0))), ((u 2), .inl (K 0, 830, .inl (fun _ => 0))), ((u 3), .inl (K 0, 781, .inl (fun _ => 0))), ((u 4), .inl (K 0, 166, .inl (fun _ => 0))), ((u 5), .inl (K 0, 166, .inl (fun _ => 0))), ((u 6), .inl (K 0, 20, .inl (fun _ => 0)))]) (fun _ => tyB K) := by
  refine CB.intro (by decide) (Nat.le_of_ble_eq_true rfl) ?_
  intro p e s m args below meth c ls A hC hin hP hD hA hS hl
  obtain ⟨hx, hb, -, hown, hts, hK, -⟩ := id hC
  have hl : lv_has ls 1 [(0, .ref h0)] := hl
  refine lv_aload_n hx hb d_Qu_init_0 rfl (lv_at hl 0 rfl) ?_
  refine b_obj hC hl.1 ml_Qu_3 im_obj cd_obj d_Qu_init_1 (Nat.le_of_ble_eq_true rfl) (Nat.le_of_ble_eq_true rfl) ?_
  refine lv_aload_n hx hb d_Qu_init_4 rfl (lv_at hl 0 rfl) ?_
  refine lv_sipush (v := 166) hx hb d_Qu_init_5 (by decide) ?_
  refine b_newa (atype := .int) (ty := .int) (a0 := (166, .inl (fun _ => 0))) hC hP hD hS hA rfl 0 rfl (fun _ => rfl) ac_int (fun _ => rfl) (by decide) rfl (by decide) (Nat.le_of_ble_eq_true rfl) (Nat.le_of_ble_eq_true rfl) d_Qu_init_8 (fun q1 H hP hD hS => ?_)
  have hP : va_P D vwCl [(h0, .inr (1, [.null, .null, .null, .null, .null, .null, .null, .int 0, .int 0, .int 0])), (q1, .inl (K 0, 166, .inl (fun _ => 0)))] H := hP
  have hD : va_D A [(h0, .inr (1, [.null, .null, .null, .null, .null, .null, .null, .int 0, .int 0, .int 0])), (q1, .inl (K 0, 166, .inl (fun _ => 0)))] := hD
  refine b_putF hC hin hP hD hS 0 rfl co_Qu 0 (by decide) rfl fl_Qu_11 rfl rfl (to_Qu 0 (by decide)) rfl rfl (Nat.le_of_ble_eq_true rfl) d_Qu_init_10 (fun H locs hP hD hS => ?_)
  have hP : va_P D vwCl [(h0, .inr (1, [.ref q1, .null, .null, .null, .null, .null, .null, .int 0, .int 0, .int 0])), (q1, .inl (K 0, 166, .inl (fun _ => 0)))] H := hP
  have hD : va_D A [(h0, .inr (1, [.ref q1, .null, .null, .null, .null, .null, .null, .int 0, .int 0, .int 0])), (q1, .inl (K 0, 166, .inl (fun _ => 0)))] := hD
  refine lv_aload_n hx hb d_Qu_init_13 rfl (lv_at hl 0 rfl) ?_
  refine lv_sipush (v := 166) hx hb d_Qu_init_14 (by decide) ?_
  refine b_newa (atype := .int) (ty := .int) (a0 := (166, .inl (fun _ => 0))) hC hP hD hS hA rfl 0 rfl (fun _ => rfl) ac_int (fun _ => rfl) (by decide) rfl (by decide) (Nat.le_of_ble_eq_true rfl) (Nat.le_of_ble_eq_true rfl) d_Qu_init_17 (fun q2 H hP hD hS => ?_)
  have hP : va_P D vwCl [(h0, .inr (1, [.ref q1, .null, .null, .null, .null, .null, .null, .int 0, .int 0, .int 0])), (q1, .inl (K 0, 166, .inl (fun _ => 0))), (q2, .inl (K 0, 166, .inl (fun _ => 0)))] H := hP
  have hD : va_D A [(h0, .inr (1, [.ref q1, .null, .null, .null, .null, .null, .null, .int 0, .int 0, .int 0])), (q1, .inl (K 0, 166, .inl (fun _ => 0))), (q2, .inl (K 0, 166, .inl (fun _ => 0)))] := hD
  refine b_putF hC hin hP hD hS 0 rfl co_Qu 1 (by decide) rfl fl_Qu_15 rfl rfl (to_Qu 1 (by decide)) rfl rfl (Nat.le_of_ble_eq_true rfl) d_Qu_init_19 (fun H locs hP hD hS => ?_)
  have hP : va_P D vwCl [(h0, .inr (1, [.ref q1, .ref q2, .null, .null, .null, .null, .null, .int 0, .int 0, .int 0])), (q1, .inl (K 0, 166, .inl (fun _ => 0))), (q2, .inl (K 0, 166, .inl (fun _ => 0)))] H := hP
  have hD : va_D A [(h0, .inr (1, [.ref q1, .ref q2, .null, .null, .null, .null, .null, .int 0, .int 0, .int 0])), (q1, .inl (K 0, 166, .inl (fun _ => 0))), (q2, .inl (K 0, 166, .inl (fun _ => 0)))] := hD
  refine lv_aload_n hx hb d_Qu_init_22 rfl (lv_at hl 0 rfl) ?_
  refine lv_sipush (v := 830) hx hb d_Qu_init_23 (by decide) ?_
  refine b_newa (atype := .int) (ty := .int) (a0 := (830, .inl (fun _ => 0))) hC hP hD hS hA rfl 0 rfl (fun _ => rfl) ac_int (fun _ => rfl) (by decide) rfl (by decide) (Nat.le_of_ble_eq_true rfl) (Nat.le_of_ble_eq_true rfl) d_Qu_init_26 (fun q3 H hP hD hS => ?_)
  have hP : va_P D vwCl [(h0, .inr (1, [.ref q1, .ref q2, .null, .null, .null, .null, .null, .int 0, .int 0, .int 0])), (q1, .inl (K 0, 166, .inl (fun _ => 0))), (q2, .inl (K 0, 166, .inl (fun _ => 0))), (q3, .inl (K 0, 830, .inl (fun _ => 0)))] H := hP
  have hD : va_D A [(h0, .inr (1, [.ref q1, .ref q2, .null, .null, .null, .null, .null, .int 0, .int 0, .int 0])), (q1, .inl (K 0, 166, .inl (fun _ => 0))), (q2, .inl (K 0, 166, .inl (fun _ => 0))), (q3, .inl (K 0, 830, .inl (fun _ => 0)))] := hD
  refine b_putF hC hin hP hD hS 0 rfl co_Qu 2 (by decide) rfl fl_Qu_18 rfl rfl (to_Qu 2 (by decide)) rfl rfl (Nat.le_of_ble_eq_true rfl) d_Qu_init_28 (fun H locs hP hD hS => ?_)
  have hP : va_P D vwCl [(h0, .inr (1, [.ref q1, .ref q2, .ref q3, .null, .null, .null, .null, .int 0, .int 0, .int 0])), (q1, .inl (K 0, 166, .inl (fun _ => 0))), (q2, .inl (K 0, 166, .inl (fun _ => 0))), (q3, .inl (K 0, 830, .inl (fun _ => 0)))] H := hP
  have hD : va_D A [(h0, .inr (1, [.ref q1, .ref q2, .ref q3, .null, .null, .null, .null, .int 0, .int 0, .int 0])), (q1, .inl (K 0, 166, .inl (fun _ => 0))), (q2, .inl (K 0, 166, .inl (fun _ => 0))), (q3, .inl (K 0, 830, .inl (fun _ => 0)))] := hD
  refine lv_aload_n hx hb d_Qu_init_31 rfl (lv_at hl 0 rfl) ?_
  refine lv_sipush (v := 781) hx hb d_Qu_init_32 (by decide) ?_
  refine b_newa (atype := .int) (ty := .int) (a0 := (781, .inl (fun _ => 0))) hC hP hD hS hA rfl 0 rfl (fun _ => rfl) ac_int (fun _ => rfl) (by decide) rfl (by decide) (Nat.le_of_ble_eq_true rfl) (Nat.le_of_ble_eq_true rfl) d_Qu_init_35 (fun q4 H hP hD hS => ?_)
  have hP : va_P D vwCl [(h0, .inr (1, [.ref q1, .ref q2, .ref q3, .null, .null, .null, .null, .int 0, .int 0, .int 0])), (q1, .inl (K 0, 166, .inl (fun _ => 0))), (q2, .inl (K 0, 166, .inl (fun _ => 0))), (q3, .inl (K 0, 830, .inl (fun _ => 0))), (q4, .inl (K 0, 781, .inl (fun _ => 0)))] H := hP
  have hD : va_D A [(h0, .inr (1, [.ref q1, .ref q2, .ref q3, .null, .null, .null, .null, .int 0, .int 0, .int 0])), (q1, .inl (K 0, 166, .inl (fun _ => 0))), (q2, .inl (K 0, 166, .inl (fun _ => 0))), (q3, .inl (K 0, 830, .inl (fun _ => 0))), (q4, .inl (K 0, 781, .inl (fun _ => 0)))] := hD
  refine b_putF hC hin hP hD hS 0 rfl co_Qu 3 (by decide) rfl fl_Qu_21 rfl rfl (to_Qu 3 (by decide)) rfl rfl (Nat.le_of_ble_eq_true rfl) d_Qu_init_37 (fun H locs hP hD hS => ?_)
  have hP : va_P D vwCl [(h0, .inr (1, [.ref q1, .ref q2, .ref q3, .ref q4, .null, .null, .null, .int 0, .int 0, .int 0])), (q1, .inl (K 0, 166, .inl (fun _ => 0))), (q2, .inl (K 0, 166, .inl (fun _ => 0))), (q3, .inl (K 0, 830, .inl (fun _ => 0))), (q4, .inl (K 0, 781, .inl (fun _ => 0)))] H := hP
  have hD : va_D A [(h0, .inr (1, [.ref q1, .ref q2, .ref q3, .ref q4, .null, .null, .null, .int 0, .int 0, .int 0])), (q1, .inl (K 0, 166, .inl (fun _ => 0))), (q2, .inl (K 0, 166, .inl (fun _ => 0))), (q3, .inl (K 0, 830, .inl (fun _ => 0))), (q4, .inl (K 0, 781, .inl (fun _ => 0)))] := hD
  refine lv_aload_n hx hb d_Qu_init_40 rfl (lv_at hl 0 rfl) ?_
  refine lv_sipush (v := 166) hx hb d_Qu_init_41 (by decide) ?_
  refine b_newa (atype := .int) (ty := .int) (a0 := (166, .inl (fun _ => 0))) hC hP hD hS hA rfl 0 rfl (fun _ => rfl) ac_int (fun _ => rfl) (by decide) rfl (by decide) (Nat.le_of_ble_eq_true rfl) (Nat.le_of_ble_eq_true rfl) d_Qu_init_44 (fun q5 H hP hD hS => ?_)
  have hP : va_P D vwCl [(h0, .inr (1, [.ref q1, .ref q2, .ref q3, .ref q4, .null, .null, .null, .int 0, .int 0, .int 0])), (q1, .inl (K 0, 166, .inl (fun _ => 0))), (q2, .inl (K 0, 166, .inl (fun _ => 0))), (q3, .inl (K 0, 830, .inl (fun _ => 0))), (q4, .inl (K 0, 781, .inl (fun _ => 0))), (q5, .inl (K 0, 166, .inl (fun _ => 0)))] H := hP
  have hD : va_D A [(h0, .inr (1, [.ref q1, .ref q2, .ref q3, .ref q4, .null, .null, .null, .int 0, .int 0, .int 0])), (q1, .inl (K 0, 166, .inl (fun _ => 0))), (q2, .inl (K 0, 166, .inl (fun _ => 0))), (q3, .inl (K 0, 830, .inl (fun _ => 0))), (q4, .inl (K 0, 781, .inl (fun _ => 0))), (q5, .inl (K 0, 166, .inl (fun _ => 0)))] := hD
  refine b_putF hC hin hP hD hS 0 rfl co_Qu 4 (by decide) rfl fl_Qu_24 rfl rfl (to_Qu 4 (by decide)) rfl rfl (Nat.le_of_ble_eq_true rfl) d_Qu_init_46 (fun H locs hP hD hS => ?_)
  have hP : va_P D vwCl [(h0, .inr (1, [.ref q1, .ref q2, .ref q3, .ref q4, .ref q5, .null, .null, .int 0, .int 0, .int 0])), (q1, .inl (K 0, 166, .inl (fun _ => 0))), (q2, .inl (K 0, 166, .inl (fun _ => 0))), (q3, .inl (K 0, 830, .inl (fun _ => 0))), (q4, .inl (K 0, 781, .inl (fun _ => 0))), (q5, .inl (K 0, 166, .inl (fun _ => 0)))] H := hP
  have hD : va_D A [(h0, .inr (1, [.ref q1, .ref q2, .ref q3, .ref q4, .ref q5, .null, .null, .int 0, .int 0, .int 0])), (q1, .inl (K 0, 166, .inl (fun _ => 0))), (q2, .inl (K 0, 166, .inl (fun _ => 0))), (q3, .inl (K 0, 830, .inl (fun _ => 0))), (q4, .inl (K 0, 781, .inl (fun _ => 0))), (q5, .inl (K 0, 166, .inl (fun _ => 0)))] := hD
  refine lv_aload_n hx hb d_Qu_init_49 rfl (lv_at hl 0 rfl) ?_
  refine lv_sipush (v := 166) hx hb d_Qu_init_50 (by decide) ?_
  refine b_newa (atype := .int) (ty := .int) (a0 := (166, .inl (fun _ => 0))) hC hP hD hS hA rfl 0 rfl (fun _ => rfl) ac_int (fun _ => rfl) (by decide) rfl (by decide) (Nat.le_of_ble_eq_true rfl) (Nat.le_of_ble_eq_true rfl) d_Qu_init_53 (fun q6 H hP hD hS => ?_)
  have hP : va_P D vwCl [(h0, .inr (1, [.ref q1, .ref q2, .ref q3, .ref q4, .ref q5, .null, .null, .int 0, .int 0, .int 0])), (q1, .inl (K 0, 166, .inl (fun _ => 0))), (q2, .inl (K 0, 166, .inl (fun _ => 0))), (q3, .inl (K 0, 830, .inl (fun _ => 0))), (q4, .inl (K 0, 781, .inl (fun _ => 0))), (q5, .inl (K 0, 166, .inl (fun _ => 0))), (q6, .inl (K 0, 166, .inl (fun _ => 0)))] H := hP
  have hD : va_D A [(h0, .inr (1, [.ref q1, .ref q2, .ref q3, .ref q4, .ref q5, .null, .null, .int 0, .int 0, .int 0])), (q1, .inl (K 0, 166, .inl (fun _ => 0))), (q2, .inl (K 0, 166, .inl (fun _ => 0))), (q3, .inl (K 0, 830, .inl (fun _ => 0))), (q4, .inl (K 0, 781, .inl (fun _ => 0))), (q5, .inl (K 0, 166, .inl (fun _ => 0))), (q6, .inl (K 0, 166, .inl (fun _ => 0)))] := hD
  refine b_putF hC hin hP hD hS 0 rfl co_Qu 5 (by decide) rfl fl_Qu_27 rfl rfl (to_Qu 5 (by decide)) rfl rfl (Nat.le_of_ble_eq_true rfl) d_Qu_init_55 (fun H locs hP hD hS => ?_)
  have hP : va_P D vwCl [(h0, .inr (1, [.ref q1, .ref q2, .ref q3, .ref q4, .ref q5, .ref q6, .null, .int 0, .int 0, .int 0])), (q1, .inl (K 0, 166, .inl (fun _ => 0))), (q2, .inl (K 0, 166, .inl (fun _ => 0))), (q3, .inl (K 0, 830, .inl (fun _ => 0))), (q4, .inl (K 0, 781, .inl (fun _ => 0))), (q5, .inl (K 0, 166, .inl (fun _ => 0))), (q6, .inl (K 0, 166, .inl (fun _ => 0)))] H := hP
  have hD : va_D A [(h0, .inr (1, [.ref q1, .ref q2, .ref q3, .ref q4, .ref q5, .ref q6, .null, .int 0, .int 0, .int 0])), (q1, .inl (K 0, 166, .inl (fun _ => 0))), (q2, .inl (K 0, 166, .inl (fun _ => 0))), (q3, .inl (K 0, 830, .inl (fun _ => 0))), (q4, .inl (K 0, 781, .inl (fun _ => 0))), (q5, .inl (K 0, 166, .inl (fun _ => 0))), (q6, .inl (K 0, 166, .inl (fun _ => 0)))] := hD
  refine lv_aload_n hx hb d_Qu_init_58 rfl (lv_at hl 0 rfl) ?_
  refine lv_bipush (v := 20) hx hb d_Qu_init_59 (by decide) ?_
  refine b_newa (atype := .int) (ty := .int) (a0 := (20, .inl (fun _ => 0))) hC hP hD hS hA rfl 0 rfl (fun _ => rfl) ac_int (fun _ => rfl) (by decide) rfl (by decide) (Nat.le_of_ble_eq_true rfl) (Nat.le_of_ble_eq_true rfl) d_Qu_init_61 (fun q7 H hP hD hS => ?_)
  have hP : va_P D vwCl [(h0, .inr (1, [.ref q1, .ref q2, .ref q3, .ref q4, .ref q5, .ref q6, .null, .int 0, .int 0, .int 0])), (q1, .inl (K 0, 166, .inl (fun _ => 0))), (q2, .inl (K 0, 166, .inl (fun _ => 0))), (q3, .inl (K 0, 830, .inl (fun _ => 0))), (q4, .inl (K 0, 781, .inl (fun _ => 0))), (q5, .inl (K 0, 166, .inl (fun _ => 0))), (q6, .inl (K 0, 166, .inl (fun _ => 0))), (q7, .inl (K 0, 20, .inl (fun _ => 0)))] H := hP
  have hD : va_D A [(h0, .inr (1, [.ref q1, .ref q2, .ref q3, .ref q4, .ref q5, .ref q6, .null, .int 0, .int 0, .int 0])), (q1, .inl (K 0, 166, .inl (fun _ => 0))), (q2, .inl (K 0, 166, .inl (fun _ => 0))), (q3, .inl (K 0, 830, .inl (fun _ => 0))), (q4, .inl (K 0, 781, .inl (fun _ => 0))), (q5, .inl (K 0, 166, .inl (fun _ => 0))), (q6, .inl (K 0, 166, .inl (fun _ => 0))), (q7, .inl (K 0, 20, .inl (fun _ => 0)))] := hD
  refine b_putF hC hin hP hD hS 0 rfl co_Qu 6 (by decide) rfl fl_Qu_30 rfl rfl (to_Qu 6 (by decide)) rfl rfl (Nat.le_of_ble_eq_true rfl) d_Qu_init_63 (fun H locs hP hD hS => ?_)
  have hP : va_P D vwCl [(h0, .inr (1, [.ref q1, .ref q2, .ref q3, .ref q4, .ref q5, .ref q6, .ref q7, .int 0, .int 0, .int 0])), (q1, .inl (K 0, 166, .inl (fun _ => 0))), (q2, .inl (K 0, 166, .inl (fun _ => 0))), (q3, .inl (K 0, 830, .inl (fun _ => 0))), (q4, .inl (K 0, 781, .inl (fun _ => 0))), (q5, .inl (K 0, 166, .inl (fun _ => 0))), (q6, .inl (K 0, 166, .inl (fun _ => 0))), (q7, .inl (K 0, 20, .inl (fun _ => 0)))] H := hP
  have hD : va_D A [(h0, .inr (1, [.ref q1, .ref q2, .ref q3, .ref q4, .ref q5, .ref q6, .ref q7, .int 0, .int 0, .int 0])), (q1, .inl (K 0, 166, .inl (fun _ => 0))), (q2, .inl (K 0, 166, .inl (fun _ => 0))), (q3, .inl (K 0, 830, .inl (fun _ => 0))), (q4, .inl (K 0, 781, .inl (fun _ => 0))), (q5, .inl (K 0, 166, .inl (fun _ => 0))), (q6, .inl (K 0, 166, .inl (fun _ => 0))), (q7, .inl (K 0, 20, .inl (fun _ => 0)))] := hD
  refine lv_aload_n hx hb d_Qu_init_66 rfl (lv_at hl 0 rfl) ?_
  refine lv_iconst (v := 0) hx hb d_Qu_init_67 (by decide) ?_
  refine b_put hC hP hD hS 0 rfl co_Qu 7 (by decide) rfl fl_Qu_33 rfl (to_Qu 7 (by decide)) rfl rfl (Nat.le_of_ble_eq_true rfl) d_Qu_init_68 (fun H locs hP hD hS => ?_)
  have hP : va_P D vwCl [(h0, .inr (1, [.ref q1, .ref q2, .ref q3, .ref q4, .ref q5, .ref q6, .ref q7, .int 0, .int 0, .int 0])), (q1, .inl (K 0, 166, .inl (fun _ => 0))), (q2, .inl (K 0, 166, .inl (fun _ => 0))), (q3, .inl (K 0, 830, .inl (fun _ => 0))), (q4, .inl (K 0, 781, .inl (fun _ => 0))), (q5, .inl (K 0, 166, .inl (fun _ => 0))), (q6, .inl (K 0, 166, .inl (fun _ => 0))), (q7, .inl (K 0, 20, .inl (fun _ => 0)))] H := hP
  have hD : va_D A [(h0, .inr (1, [.ref q1, .ref q2, .ref q3, .ref q4, .ref q5, .ref q6, .ref q7, .int 0, .int 0, .int 0])), (q1, .inl (K 0, 166, .inl (fun _ => 0))), (q2, .inl (K 0, 166, .inl (fun _ => 0))), (q3, .inl (K 0, 830, .inl (fun _ => 0))), (q4, .inl (K 0, 781, .inl (fun _ => 0))), (q5, .inl (K 0, 166, .inl (fun _ => 0))), (q6, .inl (K 0, 166, .inl (fun _ => 0))), (q7, .inl (K 0, 20, .inl (fun _ => 0)))] := hD
  refine lv_aload_n hx hb d_Qu_init_71 rfl (lv_at hl 0 rfl) ?_
  refine lv_iconst (v := 0) hx hb d_Qu_init_72 (by decide) ?_
  refine b_put hC hP hD hS 0 rfl co_Qu 8 (by decide) rfl fl_Qu_37 rfl (to_Qu 8 (by decide)) rfl rfl (Nat.le_of_ble_eq_true rfl) d_Qu_init_73 (fun H locs hP hD hS => ?_)
  have hP : va_P D vwCl [(h0, .inr (1, [.ref q1, .ref q2, .ref q3, .ref q4, .ref q5, .ref q6, .ref q7, .int 0, .int 0, .int 0])), (q1, .inl (K 0, 166, .inl (fun _ => 0))), (q2, .inl (K 0, 166, .inl (fun _ => 0))), (q3, .inl (K 0, 830, .inl (fun _ => 0))), (q4, .inl (K 0, 781, .inl (fun _ => 0))), (q5, .inl (K 0, 166, .inl (fun _ => 0))), (q6, .inl (K 0, 166, .inl (fun _ => 0))), (q7, .inl (K 0, 20, .inl (fun _ => 0)))] H := hP
  have hD : va_D A [(h0, .inr (1, [.ref q1, .ref q2, .ref q3, .ref q4, .ref q5, .ref q6, .ref q7, .int 0, .int 0, .int 0])), (q1, .inl (K 0, 166, .inl (fun _ => 0))), (q2, .inl (K 0, 166, .inl (fun _ => 0))), (q3, .inl (K 0, 830, .inl (fun _ => 0))), (q4, .inl (K 0, 781, .inl (fun _ => 0))), (q5, .inl (K 0, 166, .inl (fun _ => 0))), (q6, .inl (K 0, 166, .inl (fun _ => 0))), (q7, .inl (K 0, 20, .inl (fun _ => 0)))] := hD
  refine lv_aload_n hx hb d_Qu_init_76 rfl (lv_at hl 0 rfl) ?_
  refine lv_iconst (v := 0) hx hb d_Qu_init_77 (by decide) ?_
  refine b_put hC hP hD hS 0 rfl co_Qu 9 (by decide) rfl fl_Qu_40 rfl (to_Qu 9 (by decide)) rfl rfl (Nat.le_of_ble_eq_true rfl) d_Qu_init_78 (fun H locs hP hD hS => ?_)
  have hP : va_P D vwCl [(h0, .inr (1, [.ref q1, .ref q2, .ref q3, .ref q4, .ref q5, .ref q6, .ref q7, .int 0, .int 0, .int 0])), (q1, .inl (K 0, 166, .inl (fun _ => 0))), (q2, .inl (K 0, 166, .inl (fun _ => 0))), (q3, .inl (K 0, 830, .inl (fun _ => 0))), (q4, .inl (K 0, 781, .inl (fun _ => 0))), (q5, .inl (K 0, 166, .inl (fun _ => 0))), (q6, .inl (K 0, 166, .inl (fun _ => 0))), (q7, .inl (K 0, 20, .inl (fun _ => 0)))] H := hP
  have hD : va_D A [(h0, .inr (1, [.ref q1, .ref q2, .ref q3, .ref q4, .ref q5, .ref q6, .ref q7, .int 0, .int 0, .int 0])), (q1, .inl (K 0, 166, .inl (fun _ => 0))), (q2, .inl (K 0, 166, .inl (fun _ => 0))), (q3, .inl (K 0, 830, .inl (fun _ => 0))), (q4, .inl (K 0, 781, .inl (fun _ => 0))), (q5, .inl (K 0, 166, .inl (fun _ => 0))), (q6, .inl (K 0, 166, .inl (fun _ => 0))), (q7, .inl (K 0, 20, .inl (fun _ => 0)))] := hD
  exact b_vret (d := 1) hC (fun i => [q1, q2, q3, q4, q5, q6, q7].getD i 0) trivial hP hD hK hS d_Qu_init_81
