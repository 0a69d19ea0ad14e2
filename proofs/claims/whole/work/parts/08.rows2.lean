section RT
variable {p : Program} {l : Launch} {e : Env} {R : Room} {s : State} {m : MethodId} {args : Array Value} {below : List Frame} {meth : Method} {c : Code} {H : Heap} {locs : List Loc} {cells slots : Nat} {Q : State → Prop} {cc : ByteArray} {pc : Nat} {ls : Array Slot} {rest : List Value} {D : va_G} {K : Nat → ClassId} {ad : Nat → Nat} {σ : GS} {own : String} {nL : Nat} {ret : Option FieldType} {k n j index : Nat} {i x : Int32}
theorem g_iald2 (hC : Ctx p s m args meth c D K ad own cc nL ret) (hP : va_P D vwCl (wG K ad σ) H) (ho : isA K ad k 0 n) (hin : iB i n = true) (hj : i.toNatClampNeg = j) (hdg : decode cc pc = .ok (.iaload, 1))
    (kk : W p l e R s m args below meth c H locs cells slots Q (F0 m (pc + 1) ls (.int (σ.1 k j) :: rest))) : W p l e R s m args below meth c H locs cells slots Q (F0 m pc ls (.int i :: .ref (ad k) :: rest)) := by
  subst hj
  exact g_iald hC hP ho hin hdg kk
theorem g_bald2 (hC : Ctx p s m args meth c D K ad own cc nL ret) (hP : va_P D vwCl (wG K ad σ) H) (ho : isA K ad k 2 n) (hin : iB i n = true) (hj : i.toNatClampNeg = j) (hdg : decode cc pc = .ok (.baload, 1))
    (kk : W p l e R s m args below meth c H locs cells slots Q (F0 m (pc + 1) ls (.int (σ.1 k j) :: rest))) : W p l e R s m args below meth c H locs cells slots Q (F0 m pc ls (.int i :: .ref (ad k) :: rest)) := by
  subst hj
  exact g_bald hC hP ho hin hdg kk
theorem g_zald2 (hC : Ctx p s m args meth c D K ad own cc nL ret) (hP : va_P D vwCl (wG K ad σ) H) (ho : isA K ad k 3 n) (hin : iB i n = true) (hj : i.toNatClampNeg = j) (hdg : decode cc pc = .ok (.baload, 1))
    (kk : W p l e R s m args below meth c H locs cells slots Q (F0 m (pc + 1) ls (.int (σ.1 k j) :: rest))) : W p l e R s m args below meth c H locs cells slots Q (F0 m pc ls (.int i :: .ref (ad k) :: rest)) := by
  subst hj
  exact g_zald hC hP ho hin hdg kk
theorem g_lald2 (hC : Ctx p s m args meth c D K ad own cc nL ret) (hP : va_P D vwCl (wG K ad σ) H) (ho : isJ K ad k n) (hin : iB i n = true) (hj : i.toNatClampNeg = j) (hdg : decode cc pc = .ok (.laload, 1))
    (kk : W p l e R s m args below meth c H locs cells slots Q (F0 m (pc + 1) ls (.long (σ.2 k j) :: rest))) : W p l e R s m args below meth c H locs cells slots Q (F0 m pc ls (.int i :: .ref (ad k) :: rest)) := by
  subst hj
  exact g_lald hC hP ho hin hdg kk
theorem g_iast2 (hC : Ctx p s m args meth c D K ad own cc nL ret) (hP : va_P D vwCl (wG K ad σ) H) (hS : va_S (GA ad) s.heap H locs) (ho : isA K ad k 0 n) (hin : iB i n = true) (hj : i.toNatClampNeg = j) (hdg : decode cc pc = .ok (.iastore, 1))
    (kk : ∀ (H1 : Heap) (locs1 : List Loc), va_P D vwCl (wG K ad (s1 σ k j x)) H1 → va_S (GA ad) s.heap H1 locs1 → W p l e R s m args below meth c H1 locs1 cells slots Q (F0 m (pc + 1) ls rest)) : W p l e R s m args below meth c H locs cells slots Q (F0 m pc ls (.int x :: .int i :: .ref (ad k) :: rest)) := by
  subst hj
  exact g_iast hC hP hS ho hin hdg kk
theorem g_bast2 (hC : Ctx p s m args meth c D K ad own cc nL ret) (hP : va_P D vwCl (wG K ad σ) H) (hS : va_S (GA ad) s.heap H locs) (ho : isA K ad k 2 n) (hin : iB i n = true) (hj : i.toNatClampNeg = j) (hdg : decode cc pc = .ok (.bastore, 1))
    (kk : ∀ (H1 : Heap) (locs1 : List Loc), va_P D vwCl (wG K ad (s1 σ k j (vp_nar .byte x))) H1 → va_S (GA ad) s.heap H1 locs1 → W p l e R s m args below meth c H1 locs1 cells slots Q (F0 m (pc + 1) ls rest)) : W p l e R s m args below meth c H locs cells slots Q (F0 m pc ls (.int x :: .int i :: .ref (ad k) :: rest)) := by
  subst hj
  exact g_bast hC hP hS ho hin hdg kk
theorem g_zast2 (hC : Ctx p s m args meth c D K ad own cc nL ret) (hP : va_P D vwCl (wG K ad σ) H) (hS : va_S (GA ad) s.heap H locs) (ho : isA K ad k 3 n) (hin : iB i n = true) (hj : i.toNatClampNeg = j) (hdg : decode cc pc = .ok (.bastore, 1))
    (kk : ∀ (H1 : Heap) (locs1 : List Loc), va_P D vwCl (wG K ad (s1 σ k j (vp_nar .boolean x))) H1 → va_S (GA ad) s.heap H1 locs1 → W p l e R s m args below meth c H1 locs1 cells slots Q (F0 m (pc + 1) ls rest)) : W p l e R s m args below meth c H locs cells slots Q (F0 m pc ls (.int x :: .int i :: .ref (ad k) :: rest)) := by
  subst hj
  exact g_zast hC hP hS ho hin hdg kk
theorem g_last2 {x : Int64} (hC : Ctx p s m args meth c D K ad own cc nL ret) (hP : va_P D vwCl (wG K ad σ) H) (hS : va_S (GA ad) s.heap H locs) (ho : isJ K ad k n) (hin : iB i n = true) (hj : i.toNatClampNeg = j) (hdg : decode cc pc = .ok (.lastore, 1))
    (kk : ∀ (H1 : Heap) (locs1 : List Loc), va_P D vwCl (wG K ad (s2 σ k j x)) H1 → va_S (GA ad) s.heap H1 locs1 → W p l e R s m args below meth c H1 locs1 cells slots Q (F0 m (pc + 1) ls rest)) : W p l e R s m args below meth c H locs cells slots Q (F0 m pc ls (.long x :: .int i :: .ref (ad k) :: rest)) := by
  subst hj
  exact g_last hC hP hS ho hin hdg kk
theorem g_putr {ci N : Nat} {C : String} {T : u_T} {ty0 : Nat → FieldType} {fs : (Nat → Int32) → (Nat → Int64) → List Value} (hC : Ctx p s m args meth c D K ad own cc nL ret) (hP : va_P D vwCl (wG K ad σ) H) (hS : va_S (GA ad) s.heap H locs) (ho : isO K ad k ci fs) (hcl : CO ci C T N ty0) (i : Nat) (hi : i < N) (hT : (T i).1 = C) (hlink : Cond.fieldLink own index C (T i).2.1 (T i).2.2.1 ∈ gw) (hfin : (T i).2.2.2 = false) {ty : FieldType} (hd : parseFieldDescriptor (T i).2.2.1 = some ty) (hn : narrow ty (.ref (ad x.toNatClampNeg)) = .ref (ad x.toNatClampNeg)) (hfit : fits ty (.ref (ad x.toNatClampNeg)) = true) (hl : i < (fs (σ.1 k) (σ.2 k)).length) (hset : (fs (σ.1 k) (σ.2 k)).set i (.ref (ad x.toNatClampNeg)) = fs (upd (σ.1 k) i x) (σ.2 k)) (hdg : decode cc pc = .ok (.putfield index, 3))
    (kk : ∀ (H1 : Heap) (locs1 : List Loc), va_P D vwCl (wG K ad (s1 σ k i x)) H1 → va_S (GA ad) s.heap H1 locs1 → W p l e R s m args below meth c H1 locs1 cells slots Q (F0 m (pc + 3) ls rest)) : W p l e R s m args below meth c H locs cells slots Q (F0 m pc ls (.ref (ad x.toNatClampNeg) :: .ref (ad k) :: rest)) := by
  refine g_put hC hP hS ho hcl i hi hT hlink hfin hd hn hfit hl hset hdg (fun H1 locs1 hP1 hS1 => ?_)
  rw [up_id] at hP1
  exact kk H1 locs1 hP1 hS1
end RT
theorem sw_out {x : Int32} (lo hi : Int) (h : ∀ k : Int, lo ≤ k → k ≤ hi → ¬ x.toInt = k) : x.toInt < lo ∨ hi < x.toInt := by
  by_cases h1 : x.toInt < lo
  · exact Or.inl h1
  · by_cases h2 : hi < x.toInt
    · exact Or.inr h2
    · exact absurd rfl (h x.toInt (by omega) (by omega))
theorem sc_Mmax : Cond.static Lib.Math.max.name ∈ gw := gw_t 414 (by decide +kernel) (by decide +kernel)
theorem cd_Mmax : Cond.code Lib.Math.max.name Lib.Math.max.code 2 (some .int) ∈ gw := gw_t 415 (by decide +kernel) (by decide +kernel)
theorem sc_Mmin : Cond.static Lib.Math.min.name ∈ gw := gw_t 411 (by decide +kernel) (by decide +kernel)
theorem cd_Mmin : Cond.code Lib.Math.min.name Lib.Math.min.code 2 (some .int) ∈ gw := gw_t 412 (by decide +kernel) (by decide +kernel)
theorem na_copy : Cond.native arraycopyName ∈ gw := gw_t 349 (by decide +kernel) (by decide +kernel)
theorem st_copy : Cond.static arraycopyName ∈ gw := gw_t 348 (by decide +kernel) (by decide +kernel)
theorem nm_Id_init : NM y_Id_init 0 := ⟨by decide +kernel, by decide +kernel, by decide +kernel⟩
theorem nm_Id_tally : NM y_Id_tally 1 := ⟨by decide +kernel, by decide +kernel, by decide +kernel⟩
theorem nm_Id_takeOff : NM y_Id_takeOff 3 := ⟨by decide +kernel, by decide +kernel, by decide +kernel⟩
theorem nm_Id_add : NM y_Id_add 2 := ⟨by decide +kernel, by decide +kernel, by decide +kernel⟩
theorem nm_Id_swap : NM y_Id_swap 0 := ⟨by decide +kernel, by decide +kernel, by decide +kernel⟩
theorem nm_Qu_init : NM y_Qu_init 0 := ⟨by decide +kernel, by decide +kernel, by decide +kernel⟩
theorem nm_Qu_survey : NM y_Qu_survey 1 := ⟨by decide +kernel, by decide +kernel, by decide +kernel⟩
theorem nm_Qu_numberOf : NM y_Qu_numberOf 2 := ⟨by decide +kernel, by decide +kernel, by decide +kernel⟩
theorem nm_Qu_numberOfCode : NM y_Qu_numberOfCode 1 := ⟨by decide +kernel, by decide +kernel, by decide +kernel⟩
theorem nm_Qu_addGuard : NM y_Qu_addGuard 1 := ⟨by decide +kernel, by decide +kernel, by decide +kernel⟩
theorem nm_Qu_burn : NM y_Qu_burn 2 := ⟨by decide +kernel, by decide +kernel, by decide +kernel⟩
theorem nm_Qu_spread : NM y_Qu_spread 1 := ⟨by decide +kernel, by decide +kernel, by decide +kernel⟩
theorem nm_Qu_catchFire : NM y_Qu_catchFire 1 := ⟨by decide +kernel, by decide +kernel, by decide +kernel⟩
theorem nm_Qu_edgeBurns : NM y_Qu_edgeBurns 0 := ⟨by decide +kernel, by decide +kernel, by decide +kernel⟩
theorem nm_Rd_init : NM y_Rd_init 0 := ⟨by decide +kernel, by decide +kernel, by decide +kernel⟩
theorem nm_Rd_read : NM y_Rd_read 2 := ⟨by decide +kernel, by decide +kernel, by decide +kernel⟩
theorem nm_Rd_take : NM y_Rd_take 1 := ⟨by decide +kernel, by decide +kernel, by decide +kernel⟩
theorem nm_Rd_takeBlank : NM y_Rd_takeBlank 0 := ⟨by decide +kernel, by decide +kernel, by decide +kernel⟩
theorem nm_Rd_takeFigure : NM y_Rd_takeFigure 1 := ⟨by decide +kernel, by decide +kernel, by decide +kernel⟩
theorem nm_Rd_takeLetter : NM y_Rd_takeLetter 1 := ⟨by decide +kernel, by decide +kernel, by decide +kernel⟩
theorem nm_Rd_kindOf : NM y_Rd_kindOf 1 := ⟨by decide +kernel, by decide +kernel, by decide +kernel⟩
theorem nm_To_init : NM y_To_init 0 := ⟨by decide +kernel, by decide +kernel, by decide +kernel⟩
theorem nm_To_measure : NM y_To_measure 3 := ⟨by decide +kernel, by decide +kernel, by decide +kernel⟩
theorem nm_To_search : NM y_To_search 0 := ⟨by decide +kernel, by decide +kernel, by decide +kernel⟩
theorem nm_To_lengthOfOrder : NM y_To_lengthOfOrder 0 := ⟨by decide +kernel, by decide +kernel, by decide +kernel⟩
theorem nm_To_stepOrder : NM y_To_stepOrder 0 := ⟨by decide +kernel, by decide +kernel, by decide +kernel⟩
theorem nm_To_exchange : NM y_To_exchange 2 := ⟨by decide +kernel, by decide +kernel, by decide +kernel⟩
theorem nm_Tn_init : NM y_Tn_init 0 := ⟨by decide +kernel, by decide +kernel, by decide +kernel⟩
theorem nm_Tn_settle : NM y_Tn_settle 2 := ⟨by decide +kernel, by decide +kernel, by decide +kernel⟩
theorem nm_Tn_becomes : NM y_Tn_becomes 1 := ⟨by decide +kernel, by decide +kernel, by decide +kernel⟩
theorem nm_Tn_load : NM y_Tn_load 2 := ⟨by decide +kernel, by decide +kernel, by decide +kernel⟩
theorem nm_Tn_store : NM y_Tn_store 2 := ⟨by decide +kernel, by decide +kernel, by decide +kernel⟩
theorem nm_Tn_passHour : NM y_Tn_passHour 2 := ⟨by decide +kernel, by decide +kernel, by decide +kernel⟩
theorem nm_Tn_placeOf : NM y_Tn_placeOf 1 := ⟨by decide +kernel, by decide +kernel, by decide +kernel⟩
theorem nm_Tn_othersAt : NM y_Tn_othersAt 1 := ⟨by decide +kernel, by decide +kernel, by decide +kernel⟩
theorem nm_Tn_howManyAtHome : NM y_Tn_howManyAtHome 0 := ⟨by decide +kernel, by decide +kernel, by decide +kernel⟩
theorem nm_Tn_howManyAre : NM y_Tn_howManyAre 1 := ⟨by decide +kernel, by decide +kernel, by decide +kernel⟩
theorem nm_Tr_init : NM y_Tr_init 0 := ⟨by decide +kernel, by decide +kernel, by decide +kernel⟩
theorem nm_Tr_width : NM y_Tr_width 3 := ⟨by decide +kernel, by decide +kernel, by decide +kernel⟩
theorem nm_Tr_nearestFromFirst : NM y_Tr_nearestFromFirst 1 := ⟨by decide +kernel, by decide +kernel, by decide +kernel⟩
theorem nm_Tr_nearestFromSecond : NM y_Tr_nearestFromSecond 1 := ⟨by decide +kernel, by decide +kernel, by decide +kernel⟩
theorem nm_Tr_nearestAlong : NM y_Tr_nearestAlong 1 := ⟨by decide +kernel, by decide +kernel, by decide +kernel⟩
theorem nm_Wk_init : NM y_Wk_init 0 := ⟨by decide +kernel, by decide +kernel, by decide +kernel⟩
theorem nm_Wk_is : NM y_Wk_is 1 := ⟨by decide +kernel, by decide +kernel, by decide +kernel⟩
theorem nm_Wk_isOf : NM y_Wk_isOf 2 := ⟨by decide +kernel, by decide +kernel, by decide +kernel⟩
theorem nm_Wk_passHour : NM y_Wk_passHour 1 := ⟨by decide +kernel, by decide +kernel, by decide +kernel⟩
theorem nm_Wk_passStreet : NM y_Wk_passStreet 1 := ⟨by decide +kernel, by decide +kernel, by decide +kernel⟩
theorem nm_Wk_goHome : NM y_Wk_goHome 1 := ⟨by decide +kernel, by decide +kernel, by decide +kernel⟩
theorem nm_Wk_turn : NM y_Wk_turn 0 := ⟨by decide +kernel, by decide +kernel, by decide +kernel⟩
theorem nm_Wk_turnByTurns : NM y_Wk_turnByTurns 1 := ⟨by decide +kernel, by decide +kernel, by decide +kernel⟩
theorem nm_Wd_init : NM y_Wd_init 0 := ⟨by decide +kernel, by decide +kernel, by decide +kernel⟩
theorem nm_Wd_areNeighbours : NM y_Wd_areNeighbours 2 := ⟨by decide +kernel, by decide +kernel, by decide +kernel⟩
theorem nm_Wd_streetAt : NM y_Wd_streetAt 1 := ⟨by decide +kernel, by decide +kernel, by decide +kernel⟩
theorem nm_Wd_clear : NM y_Wd_clear 0 := ⟨by decide +kernel, by decide +kernel, by decide +kernel⟩
theorem nm_Wd_becomes : NM y_Wd_becomes 1 := ⟨by decide +kernel, by decide +kernel, by decide +kernel⟩
theorem nm_Wd_becomesWay : NM y_Wd_becomesWay 2 := ⟨by decide +kernel, by decide +kernel, by decide +kernel⟩
theorem nm_Wd_goAlong : NM y_Wd_goAlong 1 := ⟨by decide +kernel, by decide +kernel, by decide +kernel⟩
theorem nm_Wd_goBackAlong : NM y_Wd_goBackAlong 1 := ⟨by decide +kernel, by decide +kernel, by decide +kernel⟩
theorem nm_Wd_go : NM y_Wd_go 1 := ⟨by decide +kernel, by decide +kernel, by decide +kernel⟩
theorem nm_Wd_goNear : NM y_Wd_goNear 1 := ⟨by decide +kernel, by decide +kernel, by decide +kernel⟩
theorem nm_Wd_takeOut : NM y_Wd_takeOut 1 := ⟨by decide +kernel, by decide +kernel, by decide +kernel⟩
theorem nm_Wd_putIn : NM y_Wd_putIn 2 := ⟨by decide +kernel, by decide +kernel, by decide +kernel⟩
theorem nm_Wd_canBeLast : NM y_Wd_canBeLast 2 := ⟨by decide +kernel, by decide +kernel, by decide +kernel⟩
theorem nm_Wd_lastStreets : NM y_Wd_lastStreets 0 := ⟨by decide +kernel, by decide +kernel, by decide +kernel⟩
theorem nm_Wd_code : NM y_Wd_code 0 := ⟨by decide +kernel, by decide +kernel, by decide +kernel⟩
theorem nm_X_init : NM y_X_init 0 := ⟨by decide +kernel, by decide +kernel, by decide +kernel⟩
theorem nm_X_row : NM y_X_row 2 := ⟨by decide +kernel, by decide +kernel, by decide +kernel⟩
theorem nm_X_lay : NM y_X_lay 3 := ⟨by decide +kernel, by decide +kernel, by decide +kernel⟩
theorem nm_X_at : NM y_X_at 2 := ⟨by decide +kernel, by decide +kernel, by decide +kernel⟩
theorem nm_X_tear : NM y_X_tear 1 := ⟨by decide +kernel, by decide +kernel, by decide +kernel⟩
theorem nm_X_copy : NM y_X_copy 5 := ⟨by decide +kernel, by decide +kernel, by decide +kernel⟩
theorem nm_X_mean : NM y_X_mean 1 := ⟨by decide +kernel, by decide +kernel, by decide +kernel⟩
theorem nm_X_text : NM y_X_text 2 := ⟨by decide +kernel, by decide +kernel, by decide +kernel⟩
theorem nm_X_put : NM y_X_put 3 := ⟨by decide +kernel, by decide +kernel, by decide +kernel⟩
theorem nm_X_fault : NM y_X_fault 1 := ⟨by decide +kernel, by decide +kernel, by decide +kernel⟩
theorem nm_X_town : NM y_X_town 1 := ⟨by decide +kernel, by decide +kernel, by decide +kernel⟩
theorem nm_X_walker : NM y_X_walker 2 := ⟨by decide +kernel, by decide +kernel, by decide +kernel⟩
theorem nm_X_mark : NM y_X_mark 2 := ⟨by decide +kernel, by decide +kernel, by decide +kernel⟩
theorem nm_X_stand : NM y_X_stand 2 := ⟨by decide +kernel, by decide +kernel, by decide +kernel⟩
theorem nm_X_head : NM y_X_head 2 := ⟨by decide +kernel, by decide +kernel, by decide +kernel⟩
theorem nm_X_hours : NM y_X_hours 1 := ⟨by decide +kernel, by decide +kernel, by decide +kernel⟩
theorem nm_X_undo : NM y_X_undo 1 := ⟨by decide +kernel, by decide +kernel, by decide +kernel⟩
theorem nm_X_keep : NM y_X_keep 1 := ⟨by decide +kernel, by decide +kernel, by decide +kernel⟩
theorem nm_X_on : NM y_X_on 1 := ⟨by decide +kernel, by decide +kernel, by decide +kernel⟩
theorem nm_X_plain : NM y_X_plain 1 := ⟨by decide +kernel, by decide +kernel, by decide +kernel⟩
theorem nm_X_join : NM y_X_join 2 := ⟨by decide +kernel, by decide +kernel, by decide +kernel⟩
theorem nm_X_back : NM y_X_back 1 := ⟨by decide +kernel, by decide +kernel, by decide +kernel⟩
theorem nm_X_far : NM y_X_far 2 := ⟨by decide +kernel, by decide +kernel, by decide +kernel⟩
theorem nm_X_ends : NM y_X_ends 1 := ⟨by decide +kernel, by decide +kernel, by decide +kernel⟩
theorem nm_X_begins : NM y_X_begins 1 := ⟨by decide +kernel, by decide +kernel, by decide +kernel⟩
theorem nm_X_ways : NM y_X_ways 2 := ⟨by decide +kernel, by decide +kernel, by decide +kernel⟩
theorem nm_X_between : NM y_X_between 2 := ⟨by decide +kernel, by decide +kernel, by decide +kernel⟩
theorem nm_X_lies : NM y_X_lies 3 := ⟨by decide +kernel, by decide +kernel, by decide +kernel⟩
theorem nm_X_path : NM y_X_path 3 := ⟨by decide +kernel, by decide +kernel, by decide +kernel⟩
theorem nm_X_thin : NM y_X_thin 3 := ⟨by decide +kernel, by decide +kernel, by decide +kernel⟩
theorem nm_X_ring : NM y_X_ring 1 := ⟨by decide +kernel, by decide +kernel, by decide +kernel⟩
theorem nm_X_within : NM y_X_within 1 := ⟨by decide +kernel, by decide +kernel, by decide +kernel⟩
theorem nm_X_edge : NM y_X_edge 1 := ⟨by decide +kernel, by decide +kernel, by decide +kernel⟩
theorem nm_X_beyond : NM y_X_beyond 2 := ⟨by decide +kernel, by decide +kernel, by decide +kernel⟩
theorem nm_X_houses : NM y_X_houses 1 := ⟨by decide +kernel, by decide +kernel, by decide +kernel⟩
theorem nm_X_walk : NM y_X_walk 1 := ⟨by decide +kernel, by decide +kernel, by decide +kernel⟩
theorem nm_X_reaches : NM y_X_reaches 1 := ⟨by decide +kernel, by decide +kernel, by decide +kernel⟩
theorem nm_X_sees : NM y_X_sees 1 := ⟨by decide +kernel, by decide +kernel, by decide +kernel⟩
theorem nm_X_round : NM y_X_round 2 := ⟨by decide +kernel, by decide +kernel, by decide +kernel⟩
theorem nm_X_post : NM y_X_post 1 := ⟨by decide +kernel, by decide +kernel, by decide +kernel⟩
theorem nm_X_burns : NM y_X_burns 2 := ⟨by decide +kernel, by decide +kernel, by decide +kernel⟩
theorem nm_X_held : NM y_X_held 1 := ⟨by decide +kernel, by decide +kernel, by decide +kernel⟩
theorem nm_X_idle : NM y_X_idle 1 := ⟨by decide +kernel, by decide +kernel, by decide +kernel⟩
theorem nm_X_meet : NM y_X_meet 2 := ⟨by decide +kernel, by decide +kernel, by decide +kernel⟩
theorem nm_X_part : NM y_X_part 3 := ⟨by decide +kernel, by decide +kernel, by decide +kernel⟩
theorem nm_X_drunk : NM y_X_drunk 2 := ⟨by decide +kernel, by decide +kernel, by decide +kernel⟩
theorem nm_X_asked : NM y_X_asked 0 := ⟨by decide +kernel, by decide +kernel, by decide +kernel⟩
theorem nm_X_upper : NM y_X_upper 0 := ⟨by decide +kernel, by decide +kernel, by decide +kernel⟩
theorem nm_X_lower : NM y_X_lower 0 := ⟨by decide +kernel, by decide +kernel, by decide +kernel⟩
theorem nm_X_count : NM y_X_count 1 := ⟨by decide +kernel, by decide +kernel, by decide +kernel⟩
theorem nm_X_finding : NM y_X_finding 0 := ⟨by decide +kernel, by decide +kernel, by decide +kernel⟩
theorem nm_X_findings : NM y_X_findings 1 := ⟨by decide +kernel, by decide +kernel, by decide +kernel⟩
theorem nm_X_digest : NM y_X_digest 0 := ⟨by decide +kernel, by decide +kernel, by decide +kernel⟩
theorem nm_X_found : NM y_X_found 1 := ⟨by decide +kernel, by decide +kernel, by decide +kernel⟩
theorem nm_X_isRow : NM y_X_isRow 1 := ⟨by decide +kernel, by decide +kernel, by decide +kernel⟩
theorem nm_X_isText : NM y_X_isText 1 := ⟨by decide +kernel, by decide +kernel, by decide +kernel⟩
theorem nm_X_isKeepingPlace : NM y_X_isKeepingPlace 1 := ⟨by decide +kernel, by decide +kernel, by decide +kernel⟩
theorem nm_X_isStreet : NM y_X_isStreet 1 := ⟨by decide +kernel, by decide +kernel, by decide +kernel⟩
theorem nm_X_isWalker : NM y_X_isWalker 1 := ⟨by decide +kernel, by decide +kernel, by decide +kernel⟩
theorem nm_X_isCode : NM y_X_isCode 1 := ⟨by decide +kernel, by decide +kernel, by decide +kernel⟩
theorem nm_X_hasPlaces : NM y_X_hasPlaces 3 := ⟨by decide +kernel, by decide +kernel, by decide +kernel⟩
theorem nm_X_rowRefusal : NM y_X_rowRefusal 1 := ⟨by decide +kernel, by decide +kernel, by decide +kernel⟩
theorem nm_X_placeRefusal : NM y_X_placeRefusal 2 := ⟨by decide +kernel, by decide +kernel, by decide +kernel⟩
theorem nm_X_textRefusal : NM y_X_textRefusal 1 := ⟨by decide +kernel, by decide +kernel, by decide +kernel⟩
theorem nm_X_streetsRefusal : NM y_X_streetsRefusal 1 := ⟨by decide +kernel, by decide +kernel, by decide +kernel⟩
theorem nm_X_codesRefusal : NM y_X_codesRefusal 2 := ⟨by decide +kernel, by decide +kernel, by decide +kernel⟩
theorem nm_X_renewRow : NM y_X_renewRow 2 := ⟨by decide +kernel, by decide +kernel, by decide +kernel⟩
theorem nm_X_tell : NM y_X_tell 2 := ⟨by decide +kernel, by decide +kernel, by decide +kernel⟩
theorem nm_X_commonDivisor : NM y_X_commonDivisor 2 := ⟨by decide +kernel, by decide +kernel, by decide +kernel⟩
theorem nm_X_plainOf : NM y_X_plainOf 1 := ⟨by decide +kernel, by decide +kernel, by decide +kernel⟩
theorem nm_X_gap : NM y_X_gap 2 := ⟨by decide +kernel, by decide +kernel, by decide +kernel⟩
theorem nm_X_factOf : NM y_X_factOf 2 := ⟨by decide +kernel, by decide +kernel, by decide +kernel⟩
theorem nm_X_driftOf : NM y_X_driftOf 1 := ⟨by decide +kernel, by decide +kernel, by decide +kernel⟩
theorem nm_X_comesAgain : NM y_X_comesAgain 2 := ⟨by decide +kernel, by decide +kernel, by decide +kernel⟩
theorem nm_X_postGuards : NM y_X_postGuards 1 := ⟨by decide +kernel, by decide +kernel, by decide +kernel⟩
theorem nm_X_howManyKept : NM y_X_howManyKept 0 := ⟨by decide +kernel, by decide +kernel, by decide +kernel⟩
theorem nm_X_howManyThere : NM y_X_howManyThere 1 := ⟨by decide +kernel, by decide +kernel, by decide +kernel⟩
theorem nm_X_crossingsAt : NM y_X_crossingsAt 1 := ⟨by decide +kernel, by decide +kernel, by decide +kernel⟩
theorem nm_X_crossingsUpTo : NM y_X_crossingsUpTo 1 := ⟨by decide +kernel, by decide +kernel, by decide +kernel⟩
theorem nm_X_crossingsNotBy1 : NM y_X_crossingsNotBy1 1 := ⟨by decide +kernel, by decide +kernel, by decide +kernel⟩
theorem nm_X_crossingsNotBy2 : NM y_X_crossingsNotBy2 1 := ⟨by decide +kernel, by decide +kernel, by decide +kernel⟩
theorem nm_M_init : NM y_M_init 0 := ⟨by decide +kernel, by decide +kernel, by decide +kernel⟩
theorem nm_M_in : NM y_M_in 3 := ⟨by decide +kernel, by decide +kernel, by decide +kernel⟩
theorem nm_M_found : NM y_M_found 1 := ⟨by decide +kernel, by decide +kernel, by decide +kernel⟩
theorem nm_M_tell : NM y_M_tell 1 := ⟨by decide +kernel, by decide +kernel, by decide +kernel⟩
theorem nm_M_tells : NM y_M_tells 2 := ⟨by decide +kernel, by decide +kernel, by decide +kernel⟩
theorem nm_M_isRow : NM y_M_isRow 1 := ⟨by decide +kernel, by decide +kernel, by decide +kernel⟩
theorem nm_M_isText : NM y_M_isText 1 := ⟨by decide +kernel, by decide +kernel, by decide +kernel⟩
theorem nm_M_row : NM y_M_row 2 := ⟨by decide +kernel, by decide +kernel, by decide +kernel⟩
theorem nm_M_lay : NM y_M_lay 3 := ⟨by decide +kernel, by decide +kernel, by decide +kernel⟩
theorem nm_M_at : NM y_M_at 2 := ⟨by decide +kernel, by decide +kernel, by decide +kernel⟩
theorem nm_M_tear : NM y_M_tear 1 := ⟨by decide +kernel, by decide +kernel, by decide +kernel⟩
theorem nm_M_copy : NM y_M_copy 5 := ⟨by decide +kernel, by decide +kernel, by decide +kernel⟩
theorem nm_M_mean : NM y_M_mean 1 := ⟨by decide +kernel, by decide +kernel, by decide +kernel⟩
theorem nm_M_text : NM y_M_text 2 := ⟨by decide +kernel, by decide +kernel, by decide +kernel⟩
theorem nm_M_put : NM y_M_put 3 := ⟨by decide +kernel, by decide +kernel, by decide +kernel⟩
theorem nm_M_kindOf : NM y_M_kindOf 1 := ⟨by decide +kernel, by decide +kernel, by decide +kernel⟩
theorem nm_M_isStreet : NM y_M_isStreet 1 := ⟨by decide +kernel, by decide +kernel, by decide +kernel⟩
theorem nm_M_byteAt : NM y_M_byteAt 1 := ⟨by decide +kernel, by decide +kernel, by decide +kernel⟩
theorem nm_M_takesWalker : NM y_M_takesWalker 1 := ⟨by decide +kernel, by decide +kernel, by decide +kernel⟩
theorem nm_M_reads : NM y_M_reads 1 := ⟨by decide +kernel, by decide +kernel, by decide +kernel⟩
theorem nm_M_fault : NM y_M_fault 1 := ⟨by decide +kernel, by decide +kernel, by decide +kernel⟩
theorem nm_M_town : NM y_M_town 1 := ⟨by decide +kernel, by decide +kernel, by decide +kernel⟩
theorem nm_M_areNeighbours : NM y_M_areNeighbours 2 := ⟨by decide +kernel, by decide +kernel, by decide +kernel⟩
theorem nm_M_times : NM y_M_times 3 := ⟨by decide +kernel, by decide +kernel, by decide +kernel⟩
theorem nm_M_isFirst : NM y_M_isFirst 2 := ⟨by decide +kernel, by decide +kernel, by decide +kernel⟩
theorem nm_M_isLast : NM y_M_isLast 3 := ⟨by decide +kernel, by decide +kernel, by decide +kernel⟩
theorem nm_M_layPlain : NM y_M_layPlain 3 := ⟨by decide +kernel, by decide +kernel, by decide +kernel⟩
theorem nm_M_codeOf : NM y_M_codeOf 2 := ⟨by decide +kernel, by decide +kernel, by decide +kernel⟩
theorem nm_M_isCode : NM y_M_isCode 1 := ⟨by decide +kernel, by decide +kernel, by decide +kernel⟩
theorem nm_M_figures : NM y_M_figures 1 := ⟨by decide +kernel, by decide +kernel, by decide +kernel⟩
theorem nm_M_follow : NM y_M_follow 3 := ⟨by decide +kernel, by decide +kernel, by decide +kernel⟩
theorem nm_M_followBack : NM y_M_followBack 3 := ⟨by decide +kernel, by decide +kernel, by decide +kernel⟩
theorem nm_M_farOf : NM y_M_farOf 2 := ⟨by decide +kernel, by decide +kernel, by decide +kernel⟩
theorem nm_M_wordFrom : NM y_M_wordFrom 3 := ⟨by decide +kernel, by decide +kernel, by decide +kernel⟩
theorem nm_M_plainOf : NM y_M_plainOf 1 := ⟨by decide +kernel, by decide +kernel, by decide +kernel⟩
theorem nm_M_lengthOf : NM y_M_lengthOf 1 := ⟨by decide +kernel, by decide +kernel, by decide +kernel⟩
theorem nm_M_endsOf : NM y_M_endsOf 1 := ⟨by decide +kernel, by decide +kernel, by decide +kernel⟩
theorem nm_M_bits : NM y_M_bits 1 := ⟨by decide +kernel, by decide +kernel, by decide +kernel⟩
theorem nm_M_lowest : NM y_M_lowest 1 := ⟨by decide +kernel, by decide +kernel, by decide +kernel⟩
theorem nm_M_goes : NM y_M_goes 2 := ⟨by decide +kernel, by decide +kernel, by decide +kernel⟩
theorem nm_M_turns : NM y_M_turns 2 := ⟨by decide +kernel, by decide +kernel, by decide +kernel⟩
theorem nm_M_hourOf : NM y_M_hourOf 2 := ⟨by decide +kernel, by decide +kernel, by decide +kernel⟩
theorem nm_M_isWalker : NM y_M_isWalker 1 := ⟨by decide +kernel, by decide +kernel, by decide +kernel⟩
theorem nm_M_isOf : NM y_M_isOf 2 := ⟨by decide +kernel, by decide +kernel, by decide +kernel⟩
theorem nm_M_told : NM y_M_told 2 := ⟨by decide +kernel, by decide +kernel, by decide +kernel⟩
theorem nm_M_walker : NM y_M_walker 2 := ⟨by decide +kernel, by decide +kernel, by decide +kernel⟩
theorem nm_M_tries : NM y_M_tries 0 := ⟨by decide +kernel, by decide +kernel, by decide +kernel⟩
theorem nm_M_mark : NM y_M_mark 2 := ⟨by decide +kernel, by decide +kernel, by decide +kernel⟩
theorem nm_M_stand : NM y_M_stand 2 := ⟨by decide +kernel, by decide +kernel, by decide +kernel⟩
theorem nm_M_head : NM y_M_head 2 := ⟨by decide +kernel, by decide +kernel, by decide +kernel⟩
theorem nm_M_hours : NM y_M_hours 1 := ⟨by decide +kernel, by decide +kernel, by decide +kernel⟩
theorem nm_M_undo : NM y_M_undo 1 := ⟨by decide +kernel, by decide +kernel, by decide +kernel⟩
theorem nm_M_keep : NM y_M_keep 1 := ⟨by decide +kernel, by decide +kernel, by decide +kernel⟩
theorem nm_M_on : NM y_M_on 1 := ⟨by decide +kernel, by decide +kernel, by decide +kernel⟩
theorem nm_M_areCodes : NM y_M_areCodes 2 := ⟨by decide +kernel, by decide +kernel, by decide +kernel⟩
theorem nm_M_plain : NM y_M_plain 1 := ⟨by decide +kernel, by decide +kernel, by decide +kernel⟩
theorem nm_M_join : NM y_M_join 2 := ⟨by decide +kernel, by decide +kernel, by decide +kernel⟩
theorem nm_M_back : NM y_M_back 1 := ⟨by decide +kernel, by decide +kernel, by decide +kernel⟩
theorem nm_M_far : NM y_M_far 2 := ⟨by decide +kernel, by decide +kernel, by decide +kernel⟩
theorem nm_M_ends : NM y_M_ends 1 := ⟨by decide +kernel, by decide +kernel, by decide +kernel⟩
theorem nm_M_begins : NM y_M_begins 1 := ⟨by decide +kernel, by decide +kernel, by decide +kernel⟩
theorem nm_M_laySets : NM y_M_laySets 2 := ⟨by decide +kernel, by decide +kernel, by decide +kernel⟩
theorem nm_M_adds : NM y_M_adds 2 := ⟨by decide +kernel, by decide +kernel, by decide +kernel⟩
theorem nm_M_ways : NM y_M_ways 2 := ⟨by decide +kernel, by decide +kernel, by decide +kernel⟩
theorem nm_M_between : NM y_M_between 2 := ⟨by decide +kernel, by decide +kernel, by decide +kernel⟩
theorem nm_M_lies : NM y_M_lies 3 := ⟨by decide +kernel, by decide +kernel, by decide +kernel⟩
theorem nm_M_path : NM y_M_path 3 := ⟨by decide +kernel, by decide +kernel, by decide +kernel⟩
theorem nm_M_nearest : NM y_M_nearest 4 := ⟨by decide +kernel, by decide +kernel, by decide +kernel⟩
theorem nm_M_thin : NM y_M_thin 3 := ⟨by decide +kernel, by decide +kernel, by decide +kernel⟩
theorem nm_M_without : NM y_M_without 2 := ⟨by decide +kernel, by decide +kernel, by decide +kernel⟩
theorem nm_M_ring : NM y_M_ring 1 := ⟨by decide +kernel, by decide +kernel, by decide +kernel⟩
theorem nm_M_withinOf : NM y_M_withinOf 1 := ⟨by decide +kernel, by decide +kernel, by decide +kernel⟩
theorem nm_M_within : NM y_M_within 1 := ⟨by decide +kernel, by decide +kernel, by decide +kernel⟩
theorem nm_M_edge : NM y_M_edge 1 := ⟨by decide +kernel, by decide +kernel, by decide +kernel⟩
theorem nm_M_beyond : NM y_M_beyond 2 := ⟨by decide +kernel, by decide +kernel, by decide +kernel⟩
theorem nm_M_houses : NM y_M_houses 1 := ⟨by decide +kernel, by decide +kernel, by decide +kernel⟩
theorem nm_M_noStreets : NM y_M_noStreets 1 := ⟨by decide +kernel, by decide +kernel, by decide +kernel⟩
theorem nm_M_walk : NM y_M_walk 1 := ⟨by decide +kernel, by decide +kernel, by decide +kernel⟩
theorem nm_M_reaches : NM y_M_reaches 1 := ⟨by decide +kernel, by decide +kernel, by decide +kernel⟩
theorem nm_M_sees : NM y_M_sees 1 := ⟨by decide +kernel, by decide +kernel, by decide +kernel⟩
theorem nm_M_noCodes : NM y_M_noCodes 2 := ⟨by decide +kernel, by decide +kernel, by decide +kernel⟩
theorem nm_M_round : NM y_M_round 2 := ⟨by decide +kernel, by decide +kernel, by decide +kernel⟩
theorem nm_M_post : NM y_M_post 1 := ⟨by decide +kernel, by decide +kernel, by decide +kernel⟩
theorem nm_M_isBurning : NM y_M_isBurning 1 := ⟨by decide +kernel, by decide +kernel, by decide +kernel⟩
theorem nm_M_fire : NM y_M_fire 3 := ⟨by decide +kernel, by decide +kernel, by decide +kernel⟩
theorem nm_M_burns : NM y_M_burns 2 := ⟨by decide +kernel, by decide +kernel, by decide +kernel⟩
theorem nm_M_held : NM y_M_held 1 := ⟨by decide +kernel, by decide +kernel, by decide +kernel⟩
theorem nm_M_idle : NM y_M_idle 1 := ⟨by decide +kernel, by decide +kernel, by decide +kernel⟩
theorem nm_M_areTwo : NM y_M_areTwo 2 := ⟨by decide +kernel, by decide +kernel, by decide +kernel⟩
theorem nm_M_meet : NM y_M_meet 2 := ⟨by decide +kernel, by decide +kernel, by decide +kernel⟩
theorem nm_M_part : NM y_M_part 3 := ⟨by decide +kernel, by decide +kernel, by decide +kernel⟩
theorem nm_M_drunk : NM y_M_drunk 2 := ⟨by decide +kernel, by decide +kernel, by decide +kernel⟩
theorem nm_M_asked : NM y_M_asked 0 := ⟨by decide +kernel, by decide +kernel, by decide +kernel⟩
theorem nm_M_upper : NM y_M_upper 0 := ⟨by decide +kernel, by decide +kernel, by decide +kernel⟩
theorem nm_M_lower : NM y_M_lower 0 := ⟨by decide +kernel, by decide +kernel, by decide +kernel⟩
theorem nm_M_counted : NM y_M_counted 1 := ⟨by decide +kernel, by decide +kernel, by decide +kernel⟩
theorem nm_M_count : NM y_M_count 1 := ⟨by decide +kernel, by decide +kernel, by decide +kernel⟩
theorem nm_M_finding : NM y_M_finding 0 := ⟨by decide +kernel, by decide +kernel, by decide +kernel⟩
theorem nm_M_findings : NM y_M_findings 1 := ⟨by decide +kernel, by decide +kernel, by decide +kernel⟩
theorem nm_M_digest : NM y_M_digest 0 := ⟨by decide +kernel, by decide +kernel, by decide +kernel⟩
theorem nm_J_bitCount : NM y_J_bitCount 1 := ⟨by decide +kernel, by decide +kernel, by decide +kernel⟩
theorem nm_J_fillI : NM y_J_fillI 2 := ⟨by decide +kernel, by decide +kernel, by decide +kernel⟩
theorem nm_J_fillB : NM y_J_fillB 2 := ⟨by decide +kernel, by decide +kernel, by decide +kernel⟩
