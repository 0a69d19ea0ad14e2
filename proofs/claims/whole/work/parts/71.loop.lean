set_option maxHeartbeats 40000000 in
set_option maxRecDepth 100000 in
/-- the law's loop: as long as the two agree, it goes on, and ends with 1 -/
theorem law_loop {p : Program} {l : Launch} {e : Env} {s : State} {m : MethodId} {below : List Frame} {meth : Method} {c : Code} {cells slots : Nat} {D : va_G} {K : Nat → ClassId} {ad : Nat → Nat} {b L : Nat} {xs : Nat → Int32} {Rel : GS → Prop} (hC : Ctx p s m #[Value.ref b] meth c D K ad "WideTownLaw" code 4 ret) (hX : va_X b L xs s s.heap) (hbl : b < s.heap.size) (hnew : ∀ k, k < 88 → s.heap.size ≤ ad k) (hL : L ≤ 384) (hf : cells ≤ room_1.cells ∧ slots ≤ room_1.slots) (hf2 : cells ≤ 600000 ∧ slots ≤ 7302250) (hAll : AllSteps Rel) :
    ∀ (n i : Nat) (σ : GS) (H : Heap) (locs : List Loc) (ls : Array Slot), i ≤ 400 → L < i + 6 * n + 6 → Rel σ → va_P D vwCl (wG K ad σ) H → va_S (GA ad) s.heap H locs → lv_has ls 4 [(0, .ref b), (1, .ref (ad 0)), (2, .ref (ad 63)), (3, .int (nI i))] → W p l e room_1 s m #[Value.ref b] below meth c H locs cells slots (lw_Z below #[Value.ref b] s) (F0 m 18 ls []) := by
  obtain ⟨hx, hb, -, hown, hts, -, -, hr, hlocks, hj⟩ := id hC
  obtain ⟨hs_row, hs_lay, hs_at, hs_tear, hs_copy, hs_mean, hs_text, hs_put, hs_fault, hs_town, hs_walker, hs_mark, hs_stand, hs_head, hs_hours, hs_undo, hs_keep, hs_on, hs_plain, hs_join, hs_back, hs_far, hs_ends, hs_begins, hs_ways, hs_between, hs_lies, hs_path, hs_thin, hs_ring, hs_within, hs_edge, hs_beyond, hs_houses, hs_walk, hs_reaches, hs_sees, hs_round, hs_post, hs_burns, hs_held, hs_idle, hs_meet, hs_part, hs_drunk, hs_asked, hs_upper, hs_lower, hs_count, hs_finding, hs_findings, hs_digest⟩ := hAll
  have hbA : ¬ GA ad b := fun ⟨k, h1, h2⟩ => by
    have := hnew k h1
    omega
  intro n
  induction n with
  | zero =>
    intro i σ H locs ls hi hn hR hP hS hl
    refine lv_iload_n hx hb d_L_law_18 rfl (lv_at hl 3 rfl) ?_
    refine lv_aload_n hx hb d_L_law_19 rfl (lv_at hl 0 rfl) ?_
    refine va_slen hx hb hX hbl hbA hS d_L_law_20 ?_
    refine lv_bipush (v := 6) hx hb d_L_law_21 (by decide) ?_
    refine lv_isub hx hb d_L_law_23 ?_
    refine lv_icmp_gt (tgt := 1731) hx hb d_L_law_24 (by decide) (fun _ => ?_) (fun hc => ?_)
    · refine lv_iconst (v := 1) hx hb d_L_law_1731 (by decide) ?_
      refine va_forget (fun q hq => by obtain ⟨k, h1, h2⟩ := hS.2.2 q hq; rw [h2]; exact hnew k h1) ?_
      refine W.widen (k := 600000) (n := 7302250) hf2.1 hf2.2 ?_
      exact lw_ret hx hb hr hlocks d_L_law_1732
    · refine absurd ?_ hc
      have e6 : (6 : Int32) = nI 6 := by decide
      show nI L - 6 < nI i
      rw [e6, Int32.lt_iff_toInt_lt, pk_sub_toInt (by omega) (by decide), nI_toInt (by omega)]
      omega
  | succ n ih =>
    intro i σ H locs ls hi hn hR hP hS hl
    refine lv_iload_n hx hb d_L_law_18 rfl (lv_at hl 3 rfl) ?_
    refine lv_aload_n hx hb d_L_law_19 rfl (lv_at hl 0 rfl) ?_
    refine va_slen hx hb hX hbl hbA hS d_L_law_20 ?_
    refine lv_bipush (v := 6) hx hb d_L_law_21 (by decide) ?_
    refine lv_isub hx hb d_L_law_23 ?_
    refine lv_icmp_gt (tgt := 1731) hx hb d_L_law_24 (by decide) (fun _ => ?_) (fun hc => ?_)
    · refine lv_iconst (v := 1) hx hb d_L_law_1731 (by decide) ?_
      refine va_forget (fun q hq => by obtain ⟨k, h1, h2⟩ := hS.2.2 q hq; rw [h2]; exact hnew k h1) ?_
      refine W.widen (k := 600000) (n := 7302250) hf2.1 hf2.2 ?_
      exact lw_ret hx hb hr hlocks d_L_law_1732
    · have hle : i + 6 ≤ L := by
        have e6 : (6 : Int32) = nI 6 := by decide
        have hc2 : ¬ nI L - 6 < nI i := hc
        rw [e6, Int32.lt_iff_toInt_lt, pk_sub_toInt (by omega) (by decide), nI_toInt (by omega)] at hc2
        omega
      have hin : ∀ k : Nat, k < 6 → vp_in (nI i + nI k) L := fun k hk => by
        rw [nI_add]
        exact vp_in_nI (by omega) (by omega)
      have h_0 : vp_in (nI i) L := vp_in_nI (by omega) (by omega)
      have h_1 : vp_in (nI i + 1) L := hin 1 (by decide)
      have h_2 : vp_in (nI i + 2) L := hin 2 (by decide)
      have h_3 : vp_in (nI i + 3) L := hin 3 (by decide)
      have h_4 : vp_in (nI i + 4) L := hin 4 (by decide)
      have h_5 : vp_in (nI i + 5) L := hin 5 (by decide)
      refine lv_aload_n hx hb d_L_law_27 rfl (lv_at hl 0 rfl) ?_
      refine lv_iload_n hx hb d_L_law_28 rfl (lv_at hl 3 rfl) ?_
      refine va_sld hx hb hX hbl hbA hS h_0 d_L_law_29 ?_
      refine lv_bipush (v := 63) hx hb d_L_law_30 (by decide) ?_
      refine lv_iand hx hb d_L_law_32 ?_
      have kk : ∀ (σ' : GS) (H1 : Heap) (locs1 : List Loc), Rel σ' → va_P D vwCl (wG K ad σ') H1 → va_S (GA ad) s.heap H1 locs1 → W p l e room_1 s m #[Value.ref b] below meth c H1 locs1 cells slots (lw_Z below #[Value.ref b] s) (F0 m 1725 ls []) := by
        intro σ' H1 locs1 hR hP hS
        refine lv_iinc (v := nI (i + 6)) (lv' := [(3, .int (nI (i + 6))), (0, .ref b), (1, .ref (ad 0)), (2, .ref (ad 63))]) hx hb d_L_law_1725 hl (k := 3) rfl (by rw [show Int32.ofInt 6 = nI 6 by decide]; exact nI_add i 6) (by decide) rfl (fun ls hl => ?_)
        refine lv_goto (tgt := 18) hx hb d_L_law_1728 (by decide) ?_
        exact ih (i + 6) σ' H1 locs1 ls (by omega) (by omega) hR hP hS (lv_sub hl [1, 2, 3, 0] rfl)
      obtain ⟨j, hj64, ej⟩ := pk_andE (xs (nI i).toNatClampNeg) (m := 63) 6 (by decide)
      rw [ej]
      match j, hj64 with
      | 0, _ => exact lv_tableIn (off := 223) (tgt := 256) hx hb d_L_law_33 (by decide) (by decide) (by decide) (by decide) (lc_row hl hC hX hbl hbA h_1 h_2 h_3 h_4 h_5 hf hs_row hR hP hS kk)
      | 1, _ => exact lv_tableIn (off := 256) (tgt := 289) hx hb d_L_law_33 (by decide) (by decide) (by decide) (by decide) (lc_lay hl hC hX hbl hbA h_1 h_2 h_3 h_4 h_5 hf hs_lay hR hP hS kk)
      | 2, _ => exact lv_tableIn (off := 299) (tgt := 332) hx hb d_L_law_33 (by decide) (by decide) (by decide) (by decide) (lc_at hl hC hX hbl hbA h_1 h_2 h_3 h_4 h_5 hf hs_at hR hP hS kk)
      | 3, _ => exact lv_tableIn (off := 332) (tgt := 365) hx hb d_L_law_33 (by decide) (by decide) (by decide) (by decide) (lc_tear hl hC hX hbl hbA h_1 h_2 h_3 h_4 h_5 hf hs_tear hR hP hS kk)
      | 4, _ => exact lv_tableIn (off := 355) (tgt := 388) hx hb d_L_law_33 (by decide) (by decide) (by decide) (by decide) (lc_copy hl hC hX hbl hbA h_1 h_2 h_3 h_4 h_5 hf hs_copy hR hP hS kk)
      | 5, _ => exact lv_tableIn (off := 418) (tgt := 451) hx hb d_L_law_33 (by decide) (by decide) (by decide) (by decide) (lc_mean hl hC hX hbl hbA h_1 h_2 h_3 h_4 h_5 hf hs_mean hR hP hS kk)
      | 6, _ => exact lv_tableIn (off := 441) (tgt := 474) hx hb d_L_law_33 (by decide) (by decide) (by decide) (by decide) (lc_text hl hC hX hbl hbA h_1 h_2 h_3 h_4 h_5 hf hs_text hR hP hS kk)
      | 7, _ => exact lv_tableIn (off := 474) (tgt := 507) hx hb d_L_law_33 (by decide) (by decide) (by decide) (by decide) (lc_put hl hC hX hbl hbA h_1 h_2 h_3 h_4 h_5 hf hs_put hR hP hS kk)
      | 8, _ => exact lv_tableIn (off := 517) (tgt := 550) hx hb d_L_law_33 (by decide) (by decide) (by decide) (by decide) (lc_fault hl hC hX hbl hbA h_1 h_2 h_3 h_4 h_5 hf hs_fault hR hP hS kk)
      | 9, _ => exact lv_tableIn (off := 540) (tgt := 573) hx hb d_L_law_33 (by decide) (by decide) (by decide) (by decide) (lc_town hl hC hX hbl hbA h_1 h_2 h_3 h_4 h_5 hf hs_town hR hP hS kk)
      | 10, _ => exact lv_tableIn (off := 563) (tgt := 596) hx hb d_L_law_33 (by decide) (by decide) (by decide) (by decide) (lc_walker hl hC hX hbl hbA h_1 h_2 h_3 h_4 h_5 hf hs_walker hR hP hS kk)
      | 11, _ => exact lv_tableIn (off := 596) (tgt := 629) hx hb d_L_law_33 (by decide) (by decide) (by decide) (by decide) (lc_mark hl hC hX hbl hbA h_1 h_2 h_3 h_4 h_5 hf hs_mark hR hP hS kk)
      | 12, _ => exact lv_tableIn (off := 629) (tgt := 662) hx hb d_L_law_33 (by decide) (by decide) (by decide) (by decide) (lc_stand hl hC hX hbl hbA h_1 h_2 h_3 h_4 h_5 hf hs_stand hR hP hS kk)
      | 13, _ => exact lv_tableIn (off := 662) (tgt := 695) hx hb d_L_law_33 (by decide) (by decide) (by decide) (by decide) (lc_head hl hC hX hbl hbA h_1 h_2 h_3 h_4 h_5 hf hs_head hR hP hS kk)
      | 14, _ => exact lv_tableIn (off := 695) (tgt := 728) hx hb d_L_law_33 (by decide) (by decide) (by decide) (by decide) (lc_hours hl hC hX hbl hbA h_1 h_2 h_3 h_4 h_5 hf hs_hours hR hP hS kk)
      | 15, _ => exact lv_tableIn (off := 718) (tgt := 751) hx hb d_L_law_33 (by decide) (by decide) (by decide) (by decide) (lc_undo hl hC hX hbl hbA h_1 h_2 h_3 h_4 h_5 hf hs_undo hR hP hS kk)
      | 16, _ => exact lv_tableIn (off := 741) (tgt := 774) hx hb d_L_law_33 (by decide) (by decide) (by decide) (by decide) (lc_keep hl hC hX hbl hbA h_1 h_2 h_3 h_4 h_5 hf hs_keep hR hP hS kk)
      | 17, _ => exact lv_tableIn (off := 764) (tgt := 797) hx hb d_L_law_33 (by decide) (by decide) (by decide) (by decide) (lc_on hl hC hX hbl hbA h_1 h_2 h_3 h_4 h_5 hf hs_on hR hP hS kk)
      | 18, _ => exact lv_tableIn (off := 787) (tgt := 820) hx hb d_L_law_33 (by decide) (by decide) (by decide) (by decide) (lc_plain hl hC hX hbl hbA h_1 h_2 h_3 h_4 h_5 hf hs_plain hR hP hS kk)
      | 19, _ => exact lv_tableIn (off := 810) (tgt := 843) hx hb d_L_law_33 (by decide) (by decide) (by decide) (by decide) (lc_join hl hC hX hbl hbA h_1 h_2 h_3 h_4 h_5 hf hs_join hR hP hS kk)
      | 20, _ => exact lv_tableIn (off := 843) (tgt := 876) hx hb d_L_law_33 (by decide) (by decide) (by decide) (by decide) (lc_back hl hC hX hbl hbA h_1 h_2 h_3 h_4 h_5 hf hs_back hR hP hS kk)
      | 21, _ => exact lv_tableIn (off := 866) (tgt := 899) hx hb d_L_law_33 (by decide) (by decide) (by decide) (by decide) (lc_far hl hC hX hbl hbA h_1 h_2 h_3 h_4 h_5 hf hs_far hR hP hS kk)
      | 22, _ => exact lv_tableIn (off := 899) (tgt := 932) hx hb d_L_law_33 (by decide) (by decide) (by decide) (by decide) (lc_ends hl hC hX hbl hbA h_1 h_2 h_3 h_4 h_5 hf hs_ends hR hP hS kk)
      | 23, _ => exact lv_tableIn (off := 922) (tgt := 955) hx hb d_L_law_33 (by decide) (by decide) (by decide) (by decide) (lc_begins hl hC hX hbl hbA h_1 h_2 h_3 h_4 h_5 hf hs_begins hR hP hS kk)
      | 24, _ => exact lv_tableIn (off := 945) (tgt := 978) hx hb d_L_law_33 (by decide) (by decide) (by decide) (by decide) (lc_ways hl hC hX hbl hbA h_1 h_2 h_3 h_4 h_5 hf hs_ways hR hP hS kk)
      | 25, _ => exact lv_tableIn (off := 978) (tgt := 1011) hx hb d_L_law_33 (by decide) (by decide) (by decide) (by decide) (lc_between hl hC hX hbl hbA h_1 h_2 h_3 h_4 h_5 hf hs_between hR hP hS kk)
      | 26, _ => exact lv_tableIn (off := 1011) (tgt := 1044) hx hb d_L_law_33 (by decide) (by decide) (by decide) (by decide) (lc_lies hl hC hX hbl hbA h_1 h_2 h_3 h_4 h_5 hf hs_lies hR hP hS kk)
      | 27, _ => exact lv_tableIn (off := 1054) (tgt := 1087) hx hb d_L_law_33 (by decide) (by decide) (by decide) (by decide) (lc_path hl hC hX hbl hbA h_1 h_2 h_3 h_4 h_5 hf hs_path hR hP hS kk)
      | 28, _ => exact lv_tableIn (off := 1097) (tgt := 1130) hx hb d_L_law_33 (by decide) (by decide) (by decide) (by decide) (lc_thin hl hC hX hbl hbA h_1 h_2 h_3 h_4 h_5 hf hs_thin hR hP hS kk)
      | 29, _ => exact lv_tableIn (off := 1140) (tgt := 1173) hx hb d_L_law_33 (by decide) (by decide) (by decide) (by decide) (lc_ring hl hC hX hbl hbA h_1 h_2 h_3 h_4 h_5 hf hs_ring hR hP hS kk)
      | 30, _ => exact lv_tableIn (off := 1163) (tgt := 1196) hx hb d_L_law_33 (by decide) (by decide) (by decide) (by decide) (lc_within hl hC hX hbl hbA h_1 h_2 h_3 h_4 h_5 hf hs_within hR hP hS kk)
      | 31, _ => exact lv_tableIn (off := 1186) (tgt := 1219) hx hb d_L_law_33 (by decide) (by decide) (by decide) (by decide) (lc_edge hl hC hX hbl hbA h_1 h_2 h_3 h_4 h_5 hf hs_edge hR hP hS kk)
      | 32, _ => exact lv_tableIn (off := 1209) (tgt := 1242) hx hb d_L_law_33 (by decide) (by decide) (by decide) (by decide) (lc_beyond hl hC hX hbl hbA h_1 h_2 h_3 h_4 h_5 hf hs_beyond hR hP hS kk)
      | 33, _ => exact lv_tableIn (off := 1242) (tgt := 1275) hx hb d_L_law_33 (by decide) (by decide) (by decide) (by decide) (lc_houses hl hC hX hbl hbA h_1 h_2 h_3 h_4 h_5 hf hs_houses hR hP hS kk)
      | 34, _ => exact lv_tableIn (off := 1265) (tgt := 1298) hx hb d_L_law_33 (by decide) (by decide) (by decide) (by decide) (lc_walk hl hC hX hbl hbA h_1 h_2 h_3 h_4 h_5 hf hs_walk hR hP hS kk)
      | 35, _ => exact lv_tableIn (off := 1288) (tgt := 1321) hx hb d_L_law_33 (by decide) (by decide) (by decide) (by decide) (lc_reaches hl hC hX hbl hbA h_1 h_2 h_3 h_4 h_5 hf hs_reaches hR hP hS kk)
      | 36, _ => exact lv_tableIn (off := 1311) (tgt := 1344) hx hb d_L_law_33 (by decide) (by decide) (by decide) (by decide) (lc_sees hl hC hX hbl hbA h_1 h_2 h_3 h_4 h_5 hf hs_sees hR hP hS kk)
      | 37, _ => exact lv_tableIn (off := 1334) (tgt := 1367) hx hb d_L_law_33 (by decide) (by decide) (by decide) (by decide) (lc_round hl hC hX hbl hbA h_1 h_2 h_3 h_4 h_5 hf hs_round hR hP hS kk)
      | 38, _ => exact lv_tableIn (off := 1367) (tgt := 1400) hx hb d_L_law_33 (by decide) (by decide) (by decide) (by decide) (lc_post hl hC hX hbl hbA h_1 h_2 h_3 h_4 h_5 hf hs_post hR hP hS kk)
      | 39, _ => exact lv_tableIn (off := 1390) (tgt := 1423) hx hb d_L_law_33 (by decide) (by decide) (by decide) (by decide) (lc_burns hl hC hX hbl hbA h_1 h_2 h_3 h_4 h_5 hf hs_burns hR hP hS kk)
      | 40, _ => exact lv_tableIn (off := 1423) (tgt := 1456) hx hb d_L_law_33 (by decide) (by decide) (by decide) (by decide) (lc_held hl hC hX hbl hbA h_1 h_2 h_3 h_4 h_5 hf hs_held hR hP hS kk)
      | 41, _ => exact lv_tableIn (off := 1446) (tgt := 1479) hx hb d_L_law_33 (by decide) (by decide) (by decide) (by decide) (lc_idle hl hC hX hbl hbA h_1 h_2 h_3 h_4 h_5 hf hs_idle hR hP hS kk)
      | 42, _ => exact lv_tableIn (off := 1469) (tgt := 1502) hx hb d_L_law_33 (by decide) (by decide) (by decide) (by decide) (lc_meet hl hC hX hbl hbA h_1 h_2 h_3 h_4 h_5 hf hs_meet hR hP hS kk)
      | 43, _ => exact lv_tableIn (off := 1502) (tgt := 1535) hx hb d_L_law_33 (by decide) (by decide) (by decide) (by decide) (lc_part hl hC hX hbl hbA h_1 h_2 h_3 h_4 h_5 hf hs_part hR hP hS kk)
      | 44, _ => exact lv_tableIn (off := 1545) (tgt := 1578) hx hb d_L_law_33 (by decide) (by decide) (by decide) (by decide) (lc_drunk hl hC hX hbl hbA h_1 h_2 h_3 h_4 h_5 hf hs_drunk hR hP hS kk)
      | 45, _ => exact lv_tableIn (off := 1578) (tgt := 1611) hx hb d_L_law_33 (by decide) (by decide) (by decide) (by decide) (lc_asked hl hC hX hbl hbA h_1 h_2 h_3 h_4 h_5 hf hs_asked hR hP hS kk)
      | 46, _ => exact lv_tableIn (off := 1591) (tgt := 1624) hx hb d_L_law_33 (by decide) (by decide) (by decide) (by decide) (lc_upper hl hC hX hbl hbA h_1 h_2 h_3 h_4 h_5 hf hs_upper hR hP hS kk)
      | 47, _ => exact lv_tableIn (off := 1605) (tgt := 1638) hx hb d_L_law_33 (by decide) (by decide) (by decide) (by decide) (lc_lower hl hC hX hbl hbA h_1 h_2 h_3 h_4 h_5 hf hs_lower hR hP hS kk)
      | 48, _ => exact lv_tableIn (off := 1619) (tgt := 1652) hx hb d_L_law_33 (by decide) (by decide) (by decide) (by decide) (lc_count hl hC hX hbl hbA h_1 h_2 h_3 h_4 h_5 hf hs_count hR hP hS kk)
      | 49, _ => exact lv_tableIn (off := 1642) (tgt := 1675) hx hb d_L_law_33 (by decide) (by decide) (by decide) (by decide) (lc_finding hl hC hX hbl hbA h_1 h_2 h_3 h_4 h_5 hf hs_finding hR hP hS kk)
      | 50, _ => exact lv_tableIn (off := 1655) (tgt := 1688) hx hb d_L_law_33 (by decide) (by decide) (by decide) (by decide) (lc_findings hl hC hX hbl hbA h_1 h_2 h_3 h_4 h_5 hf hs_findings hR hP hS kk)
      | 51, _ => exact lv_tableIn (off := 1678) (tgt := 1711) hx hb d_L_law_33 (by decide) (by decide) (by decide) (by decide) (lc_digest hl hC hX hbl hbA h_1 h_2 h_3 h_4 h_5 hf hs_digest hR hP hS kk)
      | j + 52, hj64 => exact lv_tableOut (tgt := 1725) hx hb d_L_law_33 (Or.inr (by rw [nI_toInt (by omega)]; omega)) (by decide) (kk σ _ _ hR hP hS)
