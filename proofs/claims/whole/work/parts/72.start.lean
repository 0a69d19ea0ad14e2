set_option maxHeartbeats 40000000 in
set_option maxRecDepth 100000 in
/-- from the law's entry: both constructors, then the loop; what is left is a relation that holds at the start and is kept by every pair of calls, with one answer -/
theorem whole_from {Rel : GS → Prop} (hR0 : Rel σ0) (hAll : AllSteps Rel) {p : Program} {e : Env} {s : State} {m : MethodId} {below : List Frame} {meth : Method} {c : Code} (l : Launch) {b L : Nat} {xs : Nat → Int32} (hL : L ≤ 384) (C0 : lw_At p s m meth c b L xs) : W p l e room_1 s m #[Value.ref b] below meth c s.heap [] 0 0 (lw_Z below #[Value.ref b] s) (entryFrame m ([Value.ref b] : List Value).toArray 4) := by
  obtain ⟨hx, hb, hr, hml, hown, hts, hX, hbl, hlocks, -⟩ := C0
  have htg : ∀ w ∈ gw, w.before #[Value.ref b] s = true := fun w hw => hts w (gw_in w hw)
  obtain ⟨c0, i0, k0⟩ := u_known htg iw_Id (htg _ ib_Id)
  obtain ⟨c1, i1, k1⟩ := u_known htg iw_Qu (htg _ ib_Qu)
  obtain ⟨c2, i2, k2⟩ := u_known htg iw_Rd (htg _ ib_Rd)
  obtain ⟨c3, i3, k3⟩ := u_known htg iw_To (htg _ ib_To)
  obtain ⟨c4, i4, k4⟩ := u_known htg iw_Tn (htg _ ib_Tn)
  obtain ⟨c5, i5, k5⟩ := u_known htg iw_Tr (htg _ ib_Tr)
  obtain ⟨c6, i6, k6⟩ := u_known htg iw_Wk (htg _ ib_Wk)
  obtain ⟨c7, i7, k7⟩ := u_known htg iw_Wd (htg _ ib_Wd)
  obtain ⟨c8, i8, k8⟩ := u_known htg iw_X (htg _ ib_X)
  obtain ⟨c9, i9, k9⟩ := u_known htg iw_M (htg _ ib_M)
  obtain ⟨D, eD⟩ : ∃ z : va_G, z = (fun c => ([c0, c1, c2, c3, c4, c5, c6, c7, c8, c9] : List ClassId).getD c 0, fun c => ([i0, i1, i2, i3, i4, i5, i6, i7, i8, i9] : List (Nat → Nat)).getD c (fun _ => 0)) := ⟨_, rfl⟩
  obtain ⟨K0, kc0, kp0, f0, g0, t0⟩ := Cond.arrayClass_spec (htg _ ac_int)
  obtain ⟨K1, kc1, kp1, f1, g1, t1⟩ := Cond.arrayClass_spec (htg _ ac_long)
  obtain ⟨K2, kc2, kp2, f2, g2, t2⟩ := Cond.arrayClass_spec (htg _ ac_byte)
  obtain ⟨K3, kc3, kp3, f3, g3, t3⟩ := Cond.arrayClass_spec (htg _ ac_boolean)
  obtain ⟨K, eK⟩ : ∃ z : Nat → ClassId, z = fun i => ([K0, K1, K2, K3] : List ClassId).getD i K0 := ⟨_, rfl⟩
  have hK : va_K D vwCl (tyB K) s := by
    refine ⟨fun c q hc => ?_, fun k q hk => ?_⟩
    · subst eD
      match c with
      | 0 => cases hc; exact k0
      | 1 => cases hc; exact k1
      | 2 => cases hc; exact k2
      | 3 => cases hc; exact k3
      | 4 => cases hc; exact k4
      | 5 => cases hc; exact k5
      | 6 => cases hc; exact k6
      | 7 => cases hc; exact k7
      | 8 => cases hc; exact k8
      | 9 => cases hc; exact k9
      | n + 10 => cases hc
    · subst eK
      match k with
      | 0 => cases hk; exact ⟨fun n z => ⟨fun k h => (by cases h), kc0, g0, kp0, t0⟩, f0⟩
      | 1 => cases hk; exact ⟨fun n z => ⟨fun k h => (by cases h), kc1, g1, kp1, t1⟩, f1⟩
      | 2 => cases hk; exact ⟨fun n z => ⟨fun k h => (by cases h), kc2, g2, kp2, t2⟩, f2⟩
      | 3 => cases hk; exact ⟨fun n z => ⟨fun k h => (by cases h), kc3, g3, kp3, t3⟩, f3⟩
      | n + 4 => cases hk
  have hNW : NW s := fun o i y h hm => va_Nw.of rfl (hts _ hm)
  have hAO : AO s := ⟨hts (.arrayOver (.array .int)) (nw_t 24 (by decide +kernel)), hts (.arrayOver (.array .byte)) (nw_t 26 (by decide +kernel)), hts (.arrayOver (.object "WideTown$Town")) (nw_t 76 (by decide +kernel))⟩
  have hC : CtB p s m #[Value.ref b] meth c D K "WideTownLaw" code 4 ret := ⟨hx, hb, hml, hown, htg, hK, ⟨hNW, hAO⟩, hr, hlocks⟩
  have hA : ∀ q : Nat, s.heap.size ≤ q → (fun q : Nat => s.heap.size ≤ q) q := fun _ h => h
  have hP : va_P D vwCl [] s.heap := fun k q h => by cases h
  have hD : va_D (fun q : Nat => s.heap.size ≤ q) [] := ⟨fun i j p q h => (by cases h), fun k q h => (by cases h)⟩
  have hS : va_S (fun q : Nat => s.heap.size ≤ q) s.heap s.heap [] := va_S.rf
  have hl := lv_entry ([.ref b]) (n := 4) (Nat.le_of_ble_eq_true rfl)
  rw [lg_entry_eq]
  generalize (lg_sl ([.ref b]) ++ List.replicate (4 - (lg_sl ([.ref b])).length) Slot.unset).toArray = ls at hl ⊢
  have hl : lv_has ls 4 [(0, .ref b)] := hl
  refine b_new (fs := [.null, .null, .null, .null, .null, .null, .null, .null, .null, .null, .null, .null, .null, .null, .null, .int 0, .int 0, .long 0, .long 0]) hC hP hD hS hA co_X cl_L_7 ib_X it_WideTown df_X (Nat.le_of_ble_eq_true rfl) (Nat.le_of_ble_eq_true rfl) d_L_law_0 (fun h0 H hP hD hS => ?_)
  refine lv_dup hx hb d_L_law_3 rfl ?_
  refine b_init (wr := []) (wc := [(h0, .inr (8, [.null, .null, .null, .null, .null, .null, .null, .null, .null, .null, .null, .null, .null, .null, .null, .int 0, .int 0, .long 0, .long 0]))]) (rest := [.ref h0]) hC hP hD hS hA (cb_X h0) ⟨Nat.le_of_ble_eq_true rfl, Nat.le_of_ble_eq_true rfl⟩ nm_X_init cd_X_init it_WideTown ml_L_9 im_X_init rfl hl.1 (Nat.le_of_ble_eq_true rfl) d_L_law_4 ⟨Nat.le_of_ble_eq_true rfl, Nat.le_of_ble_eq_true rfl⟩ rfl (fun u H locs hok hP hD hKu hS => ?_)
  refine lv_astore_n (lv' := [(1, .ref h0), (0, .ref b)]) hx hb d_L_law_7 rfl hl (by decide) rfl (fun ls hl => ?_)
  have hP : va_P D vwCl (wGX u.2 u.1) H := hP
  have hD : va_D (fun q : Nat => s.heap.size ≤ q) (wGX u.2 u.1) := hD
  refine b_new (fs := [.null, .null, .null, .null, .null, .null, .null, .null, .null, .int 0, .long 0, .long 0, .int 0, .null, .null, .int 0, .null, .null, .null, .null, .null, .null, .null, .null, .int 0, .null, .null, .null, .null, .int 0, .null]) hC hP hD hS hA co_M cl_L_10 ib_M it_WideTownModel df_M (Nat.le_of_ble_eq_true rfl) (Nat.le_of_ble_eq_true rfl) d_L_law_8 (fun h1 H hP hD hS => ?_)
  refine lv_dup hx hb d_L_law_11 rfl ?_
  refine b_init (wr := wGX u.2 u.1) (wc := [(h1, .inr (9, [.null, .null, .null, .null, .null, .null, .null, .null, .null, .int 0, .long 0, .long 0, .int 0, .null, .null, .int 0, .null, .null, .null, .null, .null, .null, .null, .null, .int 0, .null, .null, .null, .null, .int 0, .null]))]) (rest := [.ref h1]) hC hP hD hS hA (cb_M h1) ⟨Nat.le_of_ble_eq_true rfl, Nat.le_of_ble_eq_true rfl⟩ nm_M_init cd_M_init it_WideTownModel ml_L_12 im_M_init rfl hl.1 (Nat.le_of_ble_eq_true rfl) d_L_law_12 ⟨Nat.le_of_ble_eq_true rfl, Nat.le_of_ble_eq_true rfl⟩ rfl (fun v H locs _ hP hD _ hS => ?_)
  refine lv_astore_n (lv' := [(2, .ref h1), (1, .ref h0), (0, .ref b)]) hx hb d_L_law_15 rfl hl (by decide) rfl (fun ls hl => ?_)
  obtain ⟨wM, eM⟩ : ∃ z : va_W, z = [(h1, .inr (9, [.ref (v 0), .ref (v 1), .ref (v 2), .ref (v 3), .ref (v 4), .ref (v 5), .ref (v 6), .ref (v 7), .ref (v 8), .int 0, .long 0, .long 1, .int 0, .ref (v 9), .ref (v 10), .int 0, .ref (v 11), .ref (v 12), .ref (v 13), .ref (v 14), .ref (v 15), .ref (v 16), .ref (v 17), .ref (v 18), .int 0, .ref (v 19), .ref (v 20), .ref (v 21), .ref (v 22), .int 0, .ref (v 23)])), ((v 0), .inl (K 0, 6, .inl (upd (upd (upd (upd (upd (upd (fun _ => 0) 0 (-1)) 1 (-1)) 2 (-1)) 3 (-1)) 4 (-1)) 5 (-1)))), ((v 1), .inl (K 0, 240, .inl (fun _ => 0))), ((v 2), .inl (K 0, 4, .inl (upd (upd (upd (upd (fun _ => 0) 0 (-1)) 1 (-1)) 2 (-1)) 3 (-1)))), ((v 3), .inl (K 0, 320, .inl (fun _ => 0))), ((v 4), .inl (K 0, 27, .inl (fun _ => 0))), ((v 5), .inl (K 0, 1620, .inl (fun _ => 0))), ((v 6), .inl (K 0, 81, .inl (fun _ => 0))), ((v 7), .inl (K 0, 4860, .inl (fun _ => 0))), ((v 8), .inl (K 3, 3, .inl (fun _ => 0))), ((v 9), .inl (K 0, 6, .inl (fun _ => 0))), ((v 10), .inl (K 0, 27, .inl (fun _ => 0))), ((v 11), .inl (K 0, 64, .inl (fun _ => 0))), ((v 12), .inl (K 0, 64, .inl (fun _ => 0))), ((v 13), .inl (K 0, 64, .inl (fun _ => 0))), ((v 14), .inl (K 0, 64, .inl (fun _ => 0))), ((v 15), .inl (K 0, 64, .inl (fun _ => 0))), ((v 16), .inl (K 0, 27, .inl (fun _ => 0))), ((v 17), .inl (K 0, 128, .inl (fun _ => 0))), ((v 18), .inl (K 1, 128, .inr (.inl (fun _ => 0)))), ((v 19), .inl (K 0, 64, .inl (fun _ => 0))), ((v 20), .inl (K 0, 6, .inl (fun _ => 0))), ((v 21), .inl (K 0, 6, .inl (fun _ => 0))), ((v 22), .inl (K 0, 166, .inl (fun _ => 0))), ((v 23), .inl (K 0, 20, .inl (fun _ => 0)))] := ⟨_, rfl⟩
  have hP : va_P D vwCl (wGX u.2 u.1 ++ wM) H := by rw [eM]; exact hP
  have hD : va_D (fun q : Nat => s.heap.size ≤ q) (wGX u.2 u.1 ++ wM) := by rw [eM]; exact hD
  obtain ⟨ad, ead⟩ : ∃ z : Nat → Nat, z = fun k => if k < 63 then u.1 k else if k = 63 then h1 else v (k - 64) := ⟨_, rfl⟩
  have lenX : (wGX u.2 u.1).length = 63 := by unfold wGX; rw [List.length_map, List.length_range]
  obtain ⟨e00, e0, e1, e2, e3⟩ := hok
  have hPm : va_P D vwCl wM H := fun k q h => hP (63 + k) q (by rw [List.getElem?_append_right (by omega), lenX, Nat.add_sub_cancel_left]; exact h)
  have hPx : va_P D vwCl (wGX u.2 u.1) H := fun k q h => hP k q (by rw [List.getElem?_append_left (by rw [lenX]; exact ltX h)]; exact h)
  have hPG : va_P D vwCl (wG u.2 ad σ0) H := by
    intro k q hk
    have hlt := (memG hk).1
    rw [getG hlt] at hk
    cases hk
    rw [eM, ← e0, ← e1, ← e3] at hPm
    subst ead
    match k, hlt with
    | 0, _ => exact hPx 0 _ (getX (by decide))
    | 1, _ => exact arr_congr (fun j hj => by match j, hj with | 0, _ => rfl | 1, _ => rfl | 2, _ => rfl | 3, _ => rfl | 4, _ => rfl | 5, _ => rfl) (hPx 1 _ (getX (by decide)))
    | 2, _ => exact hPx 2 _ (getX (by decide))
    | 3, _ => exact hPx 3 _ (getX (by decide))
    | 4, _ => exact hPx 4 _ (getX (by decide))
    | 5, _ => exact hPx 5 _ (getX (by decide))
    | 6, _ => exact hPx 6 _ (getX (by decide))
    | 7, _ => exact hPx 7 _ (getX (by decide))
    | 8, _ => exact hPx 8 _ (getX (by decide))
    | 9, _ => exact arr_congr (fun j hj => by match j, hj with | 0, _ => rfl | 1, _ => rfl | 2, _ => rfl | 3, _ => rfl) (hPx 9 _ (getX (by decide)))
    | 10, _ => exact hPx 10 _ (getX (by decide))
    | 11, _ => exact hPx 11 _ (getX (by decide))
    | 12, _ => exact hPx 12 _ (getX (by decide))
    | 13, _ => exact hPx 13 _ (getX (by decide))
    | 14, _ => exact hPx 14 _ (getX (by decide))
    | 15, _ => exact hPx 15 _ (getX (by decide))
    | 16, _ => exact hPx 16 _ (getX (by decide))
    | 17, _ => exact hPx 17 _ (getX (by decide))
    | 18, _ => exact hPx 18 _ (getX (by decide))
    | 19, _ => exact hPx 19 _ (getX (by decide))
    | 20, _ => exact hPx 20 _ (getX (by decide))
    | 21, _ => exact hPx 21 _ (getX (by decide))
    | 22, _ => exact arr_congr (fun j hj => by match j, hj with | 0, _ => rfl | 1, _ => rfl | 2, _ => rfl) (hPx 22 _ (getX (by decide)))
    | 23, _ => exact hPx 23 _ (getX (by decide))
    | 24, _ => exact hPx 24 _ (getX (by decide))
    | 25, _ => exact hPx 25 _ (getX (by decide))
    | 26, _ => exact hPx 26 _ (getX (by decide))
    | 27, _ => exact hPx 27 _ (getX (by decide))
    | 28, _ => exact hPx 28 _ (getX (by decide))
    | 29, _ => exact hPx 29 _ (getX (by decide))
    | 30, _ => exact hPx 30 _ (getX (by decide))
    | 31, _ => exact hPx 31 _ (getX (by decide))
    | 32, _ => exact hPx 32 _ (getX (by decide))
    | 33, _ => exact hPx 33 _ (getX (by decide))
    | 34, _ => exact hPx 34 _ (getX (by decide))
    | 35, _ => exact hPx 35 _ (getX (by decide))
    | 36, _ => exact hPx 36 _ (getX (by decide))
    | 37, _ => exact hPx 37 _ (getX (by decide))
    | 38, _ => exact hPx 38 _ (getX (by decide))
    | 39, _ => exact hPx 39 _ (getX (by decide))
    | 40, _ => exact hPx 40 _ (getX (by decide))
    | 41, _ => exact hPx 41 _ (getX (by decide))
    | 42, _ => exact hPx 42 _ (getX (by decide))
    | 43, _ => exact hPx 43 _ (getX (by decide))
    | 44, _ => exact hPx 44 _ (getX (by decide))
    | 45, _ => exact hPx 45 _ (getX (by decide))
    | 46, _ => exact hPx 46 _ (getX (by decide))
    | 47, _ => exact hPx 47 _ (getX (by decide))
    | 48, _ => exact hPx 48 _ (getX (by decide))
    | 49, _ => exact hPx 49 _ (getX (by decide))
    | 50, _ => exact hPx 50 _ (getX (by decide))
    | 51, _ => exact hPx 51 _ (getX (by decide))
    | 52, _ => exact hPx 52 _ (getX (by decide))
    | 53, _ => exact hPx 53 _ (getX (by decide))
    | 54, _ => exact hPx 54 _ (getX (by decide))
    | 55, _ => exact hPx 55 _ (getX (by decide))
    | 56, _ => exact hPx 56 _ (getX (by decide))
    | 57, _ => exact hPx 57 _ (getX (by decide))
    | 58, _ => exact hPx 58 _ (getX (by decide))
    | 59, _ => exact hPx 59 _ (getX (by decide))
    | 60, _ => exact hPx 60 _ (getX (by decide))
    | 61, _ => exact hPx 61 _ (getX (by decide))
    | 62, _ => exact hPx 62 _ (getX (by decide))
    | 63, _ => exact hPm 0 _ rfl
    | 64, _ => exact arr_congrI (fun j hj => by match j, hj with | 0, _ => rfl | 1, _ => rfl | 2, _ => rfl | 3, _ => rfl | 4, _ => rfl | 5, _ => rfl) (hPm 1 _ rfl)
    | 65, _ => exact hPm 2 _ rfl
    | 66, _ => exact arr_congrI (fun j hj => by match j, hj with | 0, _ => rfl | 1, _ => rfl | 2, _ => rfl | 3, _ => rfl) (hPm 3 _ rfl)
    | 67, _ => exact hPm 4 _ rfl
    | 68, _ => exact hPm 5 _ rfl
    | 69, _ => exact hPm 6 _ rfl
    | 70, _ => exact hPm 7 _ rfl
    | 71, _ => exact hPm 8 _ rfl
    | 72, _ => exact hPm 9 _ rfl
    | 73, _ => exact hPm 10 _ rfl
    | 74, _ => exact hPm 11 _ rfl
    | 75, _ => exact hPm 12 _ rfl
    | 76, _ => exact hPm 13 _ rfl
    | 77, _ => exact hPm 14 _ rfl
    | 78, _ => exact hPm 15 _ rfl
    | 79, _ => exact hPm 16 _ rfl
    | 80, _ => exact hPm 17 _ rfl
    | 81, _ => exact hPm 18 _ rfl
    | 82, _ => exact hPm 19 _ rfl
    | 83, _ => exact hPm 20 _ rfl
    | 84, _ => exact hPm 21 _ rfl
    | 85, _ => exact hPm 22 _ rfl
    | 86, _ => exact hPm 23 _ rfl
    | 87, _ => exact hPm 24 _ rfl
    | n + 88, h => exact absurd h (by omega)
  have hat : ∀ k, k < 88 → ∃ ee : va_E, (wGX u.2 u.1 ++ wM)[k]? = some (ad k, ee) := by
    intro k hk
    by_cases h63 : k < 63
    · refine ⟨eG u.2 u.1 k (σ0.1 k) (σ0.2 k), ?_⟩
      rw [List.getElem?_append_left (by rw [lenX]; exact h63), getX h63, ead]
      simp only [h63, if_true]
    · rw [List.getElem?_append_right (by rw [lenX]; omega), lenX]
      obtain ⟨i, ei⟩ : ∃ i, k = 63 + i := ⟨k - 63, by omega⟩
      subst ei
      rw [Nat.add_sub_cancel_left]
      subst ead
      subst eM
      have hi : i < 25 := by omega
      match i, hi with
      | 0, _ => exact ⟨_, rfl⟩
      | 1, _ => exact ⟨_, rfl⟩
      | 2, _ => exact ⟨_, rfl⟩
      | 3, _ => exact ⟨_, rfl⟩
      | 4, _ => exact ⟨_, rfl⟩
      | 5, _ => exact ⟨_, rfl⟩
      | 6, _ => exact ⟨_, rfl⟩
      | 7, _ => exact ⟨_, rfl⟩
      | 8, _ => exact ⟨_, rfl⟩
      | 9, _ => exact ⟨_, rfl⟩
      | 10, _ => exact ⟨_, rfl⟩
      | 11, _ => exact ⟨_, rfl⟩
      | 12, _ => exact ⟨_, rfl⟩
      | 13, _ => exact ⟨_, rfl⟩
      | 14, _ => exact ⟨_, rfl⟩
      | 15, _ => exact ⟨_, rfl⟩
      | 16, _ => exact ⟨_, rfl⟩
      | 17, _ => exact ⟨_, rfl⟩
      | 18, _ => exact ⟨_, rfl⟩
      | 19, _ => exact ⟨_, rfl⟩
      | 20, _ => exact ⟨_, rfl⟩
      | 21, _ => exact ⟨_, rfl⟩
      | 22, _ => exact ⟨_, rfl⟩
      | 23, _ => exact ⟨_, rfl⟩
      | 24, _ => exact ⟨_, rfl⟩
      | n + 25, h => exact absurd h (by omega)
  have hinj : inj ad := fun i j hi hj eq => by
    obtain ⟨x, hx⟩ := hat i hi
    obtain ⟨y, hy⟩ := hat j hj
    exact hD.1 i j _ _ hx hy eq
  have hnew : ∀ k, k < 88 → s.heap.size ≤ ad k := fun k hk => by
    obtain ⟨x, hx⟩ := hat k hk
    exact hD.2 k _ hx
  have hCx : Ctx p s m #[Value.ref b] meth c D u.2 ad "WideTownLaw" code 4 ret := ⟨hx, hb, hml, hown, htg, hKu, hNW, hr, hlocks, hinj⟩
  refine va_forget (fun q hq => hS.2.2 q hq) ?_
  have hS : va_S (GA ad) s.heap H [] := ⟨hS.1, fun q h1 h2 => hS.2.1 q h1 (fun h3 => absurd h1 (Nat.not_lt.mpr h3)), fun q h => by cases h⟩
  have ea0 : ad 0 = h0 := by subst ead; exact e00
  have ea63 : ad 63 = h1 := by subst ead; rfl
  refine lv_iconst (v := 0) hx hb d_L_law_16 (by decide) ?_
  refine lv_istore_n (lv' := [(3, .int 0), (2, .ref h1), (1, .ref h0), (0, .ref b)]) hx hb d_L_law_17 rfl hl (by decide) rfl (fun ls hl => ?_)
  rw [← ea0, ← ea63] at hl
  exact law_loop hCx hX hbl hnew hL ⟨Nat.le_of_ble_eq_true rfl, Nat.le_of_ble_eq_true rfl⟩ ⟨Nat.le_of_ble_eq_true rfl, Nat.le_of_ble_eq_true rfl⟩ hAll 64 0 σ0 H [] ls (by decide) (by omega) hR0 hPG hS (lv_sub hl [3, 2, 1, 0] rfl)
