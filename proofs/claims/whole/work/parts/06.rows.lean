/-- a class of the world: its number, its table -/
def CO (ci : Nat) (C : String) (T : u_T) (N : Nat) (ty0 : Nat → FieldType) : Prop := vwCl[ci]? = some (C, T, N) ∧ (∀ w ∈ u_ws C T N, w ∈ gw) ∧ (∀ k, k < N → parseFieldDescriptor (T k).2.2.1 = some (ty0 k)) ∧ ∀ a, a < N → ∀ b, b < N → a ≠ b → (T a).2.1 ≠ (T b).2.1
theorem co_Id : CO 0 R_Id T_Id 7 t_Id := ⟨rfl, iw_Id, to_Id, n_Id⟩
theorem co_Qu : CO 1 R_Qu T_Qu 10 t_Qu := ⟨rfl, iw_Qu, to_Qu, n_Qu⟩
theorem co_Rd : CO 2 R_Rd T_Rd 5 t_Rd := ⟨rfl, iw_Rd, to_Rd, n_Rd⟩
theorem co_To : CO 3 R_To T_To 5 t_To := ⟨rfl, iw_To, to_To, n_To⟩
theorem co_Tn : CO 4 R_Tn T_Tn 4 t_Tn := ⟨rfl, iw_Tn, to_Tn, n_Tn⟩
theorem co_Tr : CO 5 R_Tr T_Tr 4 t_Tr := ⟨rfl, iw_Tr, to_Tr, n_Tr⟩
theorem co_Wk : CO 6 R_Wk T_Wk 5 t_Wk := ⟨rfl, iw_Wk, to_Wk, n_Wk⟩
theorem co_Wd : CO 7 R_Wd T_Wd 2 t_Wd := ⟨rfl, iw_Wd, to_Wd, n_Wd⟩
theorem co_X : CO 8 R_X T_X 19 t_X := ⟨rfl, iw_X, to_X, n_X⟩
theorem co_M : CO 9 R_M T_M 31 t_M := ⟨rfl, iw_M, to_M, n_M⟩
/-- cell k is an object of class ci with the fields fs; an int array of n places, .. -/
def isO (K : Nat → ClassId) (ad : Nat → Nat) (k ci : Nat) (fs : (Nat → Int32) → (Nat → Int64) → List Value) : Prop := k < 88 ∧ ∀ f g, eG K ad k f g = .inr (ci, fs f g)
def isA (K : Nat → ClassId) (ad : Nat → Nat) (k t n : Nat) : Prop := k < 88 ∧ ∀ f g, eG K ad k f g = .inl (K t, n, .inl f)
def isJ (K : Nat → ClassId) (ad : Nat → Nat) (k n : Nat) : Prop := k < 88 ∧ ∀ f g, eG K ad k f g = .inl (K 1, n, .inr (.inl g))
def isR (K : Nat → ClassId) (ad : Nat → Nat) (k t n : Nat) (r : Nat → Nat) : Prop := k < 88 ∧ ∀ f g, eG K ad k f g = .inl (K t, n, .inr (.inr (.inr (.inr (fun j => some (ad (r j)))))))
section GR
variable {p : Program} {l : Launch} {e : Env} {R : Room} {s : State} {m : MethodId} {args : Array Value} {below : List Frame} {meth : Method} {c : Code} {H : Heap} {locs : List Loc} {cells slots : Nat} {Q : State → Prop} {cc : ByteArray} {pc : Nat} {ls : Array Slot} {rest : List Value} {D : va_G} {K : Nat → ClassId} {ad : Nat → Nat} {σ : GS} {own : String} {nL : Nat} {ret : Option FieldType} {k ci N n t index : Nat} {C : String} {T : u_T} {ty0 : Nat → FieldType} {fs : (Nat → Int32) → (Nat → Int64) → List Value}
theorem g_get (hC : Ctx p s m args meth c D K ad own cc nL ret) (hP : va_P D vwCl (wG K ad σ) H) (ho : isO K ad k ci fs) (hcl : CO ci C T N ty0) (i : Nat) (hi : i < N) (hT : (T i).1 = C) (hlink : Cond.fieldLink own index C (T i).2.1 (T i).2.2.1 ∈ gw) {v : Value} (hv : (fs (σ.1 k) (σ.2 k))[i]? = some v) (hdg : decode cc pc = .ok (.getfield index, 3))
    (kk : W p l e R s m args below meth c H locs cells slots Q (F0 m (pc + 3) ls (v :: rest))) : W p l e R s m args below meth c H locs cells slots Q (F0 m pc ls (.ref (ad k) :: rest)) := by
  obtain ⟨hx, hb, hml, hown, hts, hK, -⟩ := hC
  exact va_get (D := D) (ci := ci) (fs := fs (σ.1 k) (σ.2 k)) hx hb hts hcl.2.1 hown hK hP k (by rw [getG ho.1, ho.2]) hcl.1 i hi (hts _ hlink) (fun x h => by rw [hT] at h; exact h) hv hdg kk
theorem g_put (hC : Ctx p s m args meth c D K ad own cc nL ret) (hP : va_P D vwCl (wG K ad σ) H) (hS : va_S (GA ad) s.heap H locs) (ho : isO K ad k ci fs) (hcl : CO ci C T N ty0) (i : Nat) (hi : i < N) (hT : (T i).1 = C) (hlink : Cond.fieldLink own index C (T i).2.1 (T i).2.2.1 ∈ gw) (hfin : (T i).2.2.2 = false) {ty : FieldType} {v : Value} (hd : parseFieldDescriptor (T i).2.2.1 = some ty) (hn : narrow ty v = v) (hfit : fits ty v = true) (hl : i < (fs (σ.1 k) (σ.2 k)).length) {f' : Nat → Int32} {g' : Nat → Int64} (hset : (fs (σ.1 k) (σ.2 k)).set i v = fs f' g') (hdg : decode cc pc = .ok (.putfield index, 3))
    (kk : ∀ (H1 : Heap) (locs1 : List Loc), va_P D vwCl (wG K ad (va_up σ.1 k f', va_up σ.2 k g')) H1 → va_S (GA ad) s.heap H1 locs1 → W p l e R s m args below meth c H1 locs1 cells slots Q (F0 m (pc + 3) ls rest)) : W p l e R s m args below meth c H locs cells slots Q (F0 m pc ls (v :: .ref (ad k) :: rest)) := by
  obtain ⟨hx, hb, hml, hown, hts, hK, -, -, -, hj⟩ := hC
  refine va_put (D := D) (ci := ci) (fs := fs (σ.1 k) (σ.2 k)) hx hb hts hcl.2.1 ty0 hcl.2.2.1 hcl.2.2.2 hown hK hP (apG hj) hS k (by rw [getG ho.1, ho.2]) hcl.1 i hi (hts _ hlink) (fun x h => by rw [hT] at h; exact h) hfin hd hn hfit hl hdg (fun H1 locs1 hP1 _ hS1 => ?_)
  rw [hset, ← ho.2, setG ho.1] at hP1
  exact kk H1 locs1 hP1 hS1
theorem g_puti (hC : Ctx p s m args meth c D K ad own cc nL ret) (hP : va_P D vwCl (wG K ad σ) H) (hS : va_S (GA ad) s.heap H locs) (ho : isO K ad k ci fs) (hcl : CO ci C T N ty0) (i : Nat) (hi : i < N) (hT : (T i).1 = C) (hlink : Cond.fieldLink own index C (T i).2.1 (T i).2.2.1 ∈ gw) (hfin : (T i).2.2.2 = false) {v : Int32} (hd : parseFieldDescriptor (T i).2.2.1 = some .int) (hl : i < (fs (σ.1 k) (σ.2 k)).length) (hset : (fs (σ.1 k) (σ.2 k)).set i (.int v) = fs (upd (σ.1 k) i v) (σ.2 k)) (hdg : decode cc pc = .ok (.putfield index, 3))
    (kk : ∀ (H1 : Heap) (locs1 : List Loc), va_P D vwCl (wG K ad (s1 σ k i v)) H1 → va_S (GA ad) s.heap H1 locs1 → W p l e R s m args below meth c H1 locs1 cells slots Q (F0 m (pc + 3) ls rest)) : W p l e R s m args below meth c H locs cells slots Q (F0 m pc ls (.int v :: .ref (ad k) :: rest)) := by
  refine g_put hC hP hS ho hcl i hi hT hlink hfin hd rfl rfl hl hset hdg (fun H1 locs1 hP1 hS1 => ?_)
  rw [up_id] at hP1
  exact kk H1 locs1 hP1 hS1
theorem g_putl (hC : Ctx p s m args meth c D K ad own cc nL ret) (hP : va_P D vwCl (wG K ad σ) H) (hS : va_S (GA ad) s.heap H locs) (ho : isO K ad k ci fs) (hcl : CO ci C T N ty0) (i : Nat) (hi : i < N) (hT : (T i).1 = C) (hlink : Cond.fieldLink own index C (T i).2.1 (T i).2.2.1 ∈ gw) (hfin : (T i).2.2.2 = false) {v : Int64} (hd : parseFieldDescriptor (T i).2.2.1 = some .long) (hl : i < (fs (σ.1 k) (σ.2 k)).length) (hset : (fs (σ.1 k) (σ.2 k)).set i (.long v) = fs (σ.1 k) (vp_updL (σ.2 k) i v)) (hdg : decode cc pc = .ok (.putfield index, 3))
    (kk : ∀ (H1 : Heap) (locs1 : List Loc), va_P D vwCl (wG K ad (s2 σ k i v)) H1 → va_S (GA ad) s.heap H1 locs1 → W p l e R s m args below meth c H1 locs1 cells slots Q (F0 m (pc + 3) ls rest)) : W p l e R s m args below meth c H locs cells slots Q (F0 m pc ls (.long v :: .ref (ad k) :: rest)) := by
  refine g_put hC hP hS ho hcl i hi hT hlink hfin hd rfl rfl hl hset hdg (fun H1 locs1 hP1 hS1 => ?_)
  rw [up_id] at hP1
  exact kk H1 locs1 hP1 hS1
theorem g_iald (hC : Ctx p s m args meth c D K ad own cc nL ret) (hP : va_P D vwCl (wG K ad σ) H) (ho : isA K ad k 0 n) {i : Int32} (hin : iB i n = true) (hdg : decode cc pc = .ok (.iaload, 1))
    (kk : W p l e R s m args below meth c H locs cells slots Q (F0 m (pc + 1) ls (.int (σ.1 k i.toNatClampNeg) :: rest))) : W p l e R s m args below meth c H locs cells slots Q (F0 m pc ls (.int i :: .ref (ad k) :: rest)) := by
  obtain ⟨hx, hb, hml, hown, hts, hK, -⟩ := hC
  exact va_iald hx hb hK hP k 0 (by rw [getG ho.1, ho.2]) rfl (iB_in hin) hdg kk
theorem g_bald (hC : Ctx p s m args meth c D K ad own cc nL ret) (hP : va_P D vwCl (wG K ad σ) H) (ho : isA K ad k 2 n) {i : Int32} (hin : iB i n = true) (hdg : decode cc pc = .ok (.baload, 1))
    (kk : W p l e R s m args below meth c H locs cells slots Q (F0 m (pc + 1) ls (.int (σ.1 k i.toNatClampNeg) :: rest))) : W p l e R s m args below meth c H locs cells slots Q (F0 m pc ls (.int i :: .ref (ad k) :: rest)) := by
  obtain ⟨hx, hb, hml, hown, hts, hK, -⟩ := hC
  exact va_bald hx hb hK hP k 2 (by rw [getG ho.1, ho.2]) rfl (iB_in hin) hdg kk
theorem g_zald (hC : Ctx p s m args meth c D K ad own cc nL ret) (hP : va_P D vwCl (wG K ad σ) H) (ho : isA K ad k 3 n) {i : Int32} (hin : iB i n = true) (hdg : decode cc pc = .ok (.baload, 1))
    (kk : W p l e R s m args below meth c H locs cells slots Q (F0 m (pc + 1) ls (.int (σ.1 k i.toNatClampNeg) :: rest))) : W p l e R s m args below meth c H locs cells slots Q (F0 m pc ls (.int i :: .ref (ad k) :: rest)) := by
  obtain ⟨hx, hb, hml, hown, hts, hK, -⟩ := hC
  exact va_zald hx hb hK hP k 3 (by rw [getG ho.1, ho.2]) rfl (iB_in hin) hdg kk
theorem g_lald (hC : Ctx p s m args meth c D K ad own cc nL ret) (hP : va_P D vwCl (wG K ad σ) H) (ho : isJ K ad k n) {i : Int32} (hin : iB i n = true) (hdg : decode cc pc = .ok (.laload, 1))
    (kk : W p l e R s m args below meth c H locs cells slots Q (F0 m (pc + 1) ls (.long (σ.2 k i.toNatClampNeg) :: rest))) : W p l e R s m args below meth c H locs cells slots Q (F0 m pc ls (.int i :: .ref (ad k) :: rest)) := by
  obtain ⟨hx, hb, hml, hown, hts, hK, -⟩ := hC
  exact va_lald hx hb hK hP k 1 (by rw [getG ho.1, ho.2]) rfl (iB_in hin) hdg kk
theorem g_iast (hC : Ctx p s m args meth c D K ad own cc nL ret) (hP : va_P D vwCl (wG K ad σ) H) (hS : va_S (GA ad) s.heap H locs) (ho : isA K ad k 0 n) {i x : Int32} (hin : iB i n = true) (hdg : decode cc pc = .ok (.iastore, 1))
    (kk : ∀ (H1 : Heap) (locs1 : List Loc), va_P D vwCl (wG K ad (s1 σ k i.toNatClampNeg x)) H1 → va_S (GA ad) s.heap H1 locs1 → W p l e R s m args below meth c H1 locs1 cells slots Q (F0 m (pc + 1) ls rest)) : W p l e R s m args below meth c H locs cells slots Q (F0 m pc ls (.int x :: .int i :: .ref (ad k) :: rest)) := by
  obtain ⟨hx, hb, hml, hown, hts, hK, -, -, -, hj⟩ := hC
  refine va_iast hx hb hK hP (apG hj) hS k 0 (by rw [getG ho.1, ho.2]) rfl (iB_in hin) hdg (fun H1 locs1 hP1 _ hS1 => ?_)
  rw [← ho.2 _ (σ.2 k), setG1 ho.1] at hP1
  exact kk H1 locs1 hP1 hS1
theorem g_bast (hC : Ctx p s m args meth c D K ad own cc nL ret) (hP : va_P D vwCl (wG K ad σ) H) (hS : va_S (GA ad) s.heap H locs) (ho : isA K ad k 2 n) {i x : Int32} (hin : iB i n = true) (hdg : decode cc pc = .ok (.bastore, 1))
    (kk : ∀ (H1 : Heap) (locs1 : List Loc), va_P D vwCl (wG K ad (s1 σ k i.toNatClampNeg (vp_nar .byte x))) H1 → va_S (GA ad) s.heap H1 locs1 → W p l e R s m args below meth c H1 locs1 cells slots Q (F0 m (pc + 1) ls rest)) : W p l e R s m args below meth c H locs cells slots Q (F0 m pc ls (.int x :: .int i :: .ref (ad k) :: rest)) := by
  obtain ⟨hx, hb, hml, hown, hts, hK, -, -, -, hj⟩ := hC
  refine va_bast hx hb hK hP (apG hj) hS k 2 (by rw [getG ho.1, ho.2]) rfl (iB_in hin) hdg (fun H1 locs1 hP1 _ hS1 => ?_)
  rw [← ho.2 _ (σ.2 k), setG1 ho.1] at hP1
  exact kk H1 locs1 hP1 hS1
theorem g_zast (hC : Ctx p s m args meth c D K ad own cc nL ret) (hP : va_P D vwCl (wG K ad σ) H) (hS : va_S (GA ad) s.heap H locs) (ho : isA K ad k 3 n) {i x : Int32} (hin : iB i n = true) (hdg : decode cc pc = .ok (.bastore, 1))
    (kk : ∀ (H1 : Heap) (locs1 : List Loc), va_P D vwCl (wG K ad (s1 σ k i.toNatClampNeg (vp_nar .boolean x))) H1 → va_S (GA ad) s.heap H1 locs1 → W p l e R s m args below meth c H1 locs1 cells slots Q (F0 m (pc + 1) ls rest)) : W p l e R s m args below meth c H locs cells slots Q (F0 m pc ls (.int x :: .int i :: .ref (ad k) :: rest)) := by
  obtain ⟨hx, hb, hml, hown, hts, hK, -, -, -, hj⟩ := hC
  refine va_zast hx hb hK hP (apG hj) hS k 3 (by rw [getG ho.1, ho.2]) rfl (iB_in hin) hdg (fun H1 locs1 hP1 _ hS1 => ?_)
  rw [← ho.2 _ (σ.2 k), setG1 ho.1] at hP1
  exact kk H1 locs1 hP1 hS1
theorem g_last (hC : Ctx p s m args meth c D K ad own cc nL ret) (hP : va_P D vwCl (wG K ad σ) H) (hS : va_S (GA ad) s.heap H locs) (ho : isJ K ad k n) {i : Int32} {x : Int64} (hin : iB i n = true) (hdg : decode cc pc = .ok (.lastore, 1))
    (kk : ∀ (H1 : Heap) (locs1 : List Loc), va_P D vwCl (wG K ad (s2 σ k i.toNatClampNeg x)) H1 → va_S (GA ad) s.heap H1 locs1 → W p l e R s m args below meth c H1 locs1 cells slots Q (F0 m (pc + 1) ls rest)) : W p l e R s m args below meth c H locs cells slots Q (F0 m pc ls (.long x :: .int i :: .ref (ad k) :: rest)) := by
  obtain ⟨hx, hb, hml, hown, hts, hK, -, -, -, hj⟩ := hC
  refine va_last hx hb hK hP (apG hj) hS k 1 (by rw [getG ho.1, ho.2]) rfl (iB_in hin) hdg (fun H1 locs1 hP1 _ hS1 => ?_)
  rw [← ho.2 (σ.1 k), setG2 ho.1] at hP1
  exact kk H1 locs1 hP1 hS1
theorem g_alen (hC : Ctx p s m args meth c D K ad own cc nL ret) (hP : va_P D vwCl (wG K ad σ) H) (ho : isA K ad k t n) {ty : FieldType} (ht : (tyK K)[t]? = some (K t, ty)) {v : Int32} (hv : Int32.ofNat n = v) (hdg : decode cc pc = .ok (.arraylength, 1))
    (kk : W p l e R s m args below meth c H locs cells slots Q (F0 m (pc + 1) ls (.int v :: rest))) : W p l e R s m args below meth c H locs cells slots Q (F0 m pc ls (.ref (ad k) :: rest)) := by
  obtain ⟨hx, hb, hml, hown, hts, hK, -⟩ := hC
  exact va_alen hx hb hK hP k t (by rw [getG ho.1, ho.2]) ht hv hdg kk
theorem g_aald (hC : Ctx p s m args meth c D K ad own cc nL ret) (hP : va_P D vwCl (wG K ad σ) H) {r : Nat → Nat} (ho : isR K ad k t n r) {ty : FieldType} (ht : (tyK K)[t]? = some (K t, ty)) (hty : ty.isReference = true) {i : Int32} (hin : iB i n = true) (hdg : decode cc pc = .ok (.aaload, 1))
    (kk : W p l e R s m args below meth c H locs cells slots Q (F0 m (pc + 1) ls (.ref (ad (r i.toNatClampNeg)) :: rest))) : W p l e R s m args below meth c H locs cells slots Q (F0 m pc ls (.int i :: .ref (ad k) :: rest)) := by
  obtain ⟨hx, hb, hml, hown, hts, hK, -⟩ := hC
  have hin := iB_in hin
  have hlt : i.toNatClampNeg < n := Nat.not_le.mp fun q => hin (Or.inr q)
  have ha : (wG K ad σ)[k]? = some (ad k, .inl (K t, n, .inr (.inr (.inr (.inr (fun j => some (ad (r j)))))))) := by rw [getG ho.1, ho.2]
  exact W.aald (v := va_rf (some (ad (r i.toNatClampNeg)))) (ty := ty) hx hb (hP k _ ha) ((hK.2 t _ ht).1 n (fun j => va_rf (some (ad (r j))))) hty (fun q => by cases q) (by show ¬ (i < 0 ∨ (arrV _ _ _).slots.size ≤ _); rw [arrV_size]; exact hin) (by show (arrV _ _ _).slots[_]? = _; rw [arrV_read _ _ hlt]) rfl rfl hdg kk
-- ends
theorem g_iret {d : Nat} {Qw : Array Value → State → Outcome → State → Prop} {r : Int32} {σ' : GS} (hC : Ctx p s m args meth c D K ad own cc nL (some .int)) (hQ : Qw = QI D K ad r σ') (hP : va_P D vwCl (wG K ad σ') H) (hS : va_S (GA ad) s.heap H locs) (hdg : decode cc pc = .ok (.ireturn, 1)) : W p l e (rmd d) s m args below meth c H locs cells slots (MQ below Qw args s cells slots (GA ad)) (F0 m pc ls [.int r]) := by
  obtain ⟨hx, hb, hml, hown, hts, hK, -, hr, hlocks, hj⟩ := hC
  subst hQ
  exact W.iret hx hb hr (fun t ht hW => ⟨⟨r, (), rfl, rfl, by show va_P D vwCl (wG K ad σ') t.heap; rw [ht]; exact hP⟩, hS.F ht⟩) hS.2.2 hdg hlocks
theorem g_zret {d : Nat} {Qw : Array Value → State → Outcome → State → Prop} {r : Int32} {σ' : GS} (hC : Ctx p s m args meth c D K ad own cc nL (some .boolean)) (hQ : Qw = QI D K ad r σ') (hz : bB r = true) (hP : va_P D vwCl (wG K ad σ') H) (hS : va_S (GA ad) s.heap H locs) (hdg : decode cc pc = .ok (.ireturn, 1)) : W p l e (rmd d) s m args below meth c H locs cells slots (MQ below Qw args s cells slots (GA ad)) (F0 m pc ls [.int r]) := by
  obtain ⟨hx, hb, hml, hown, hts, hK, -, hr, hlocks, hj⟩ := hC
  subst hQ
  exact W.zret hx hb hr (bB_in hz) (fun t ht hW => ⟨⟨r, (), rfl, rfl, by show va_P D vwCl (wG K ad σ') t.heap; rw [ht]; exact hP⟩, hS.F ht⟩) hS.2.2 hdg hlocks
theorem g_lret {d : Nat} {Qw : Array Value → State → Outcome → State → Prop} {r : Int64} {σ' : GS} (hC : Ctx p s m args meth c D K ad own cc nL (some .long)) (hQ : Qw = QL D K ad r σ') (hP : va_P D vwCl (wG K ad σ') H) (hS : va_S (GA ad) s.heap H locs) (hdg : decode cc pc = .ok (.lreturn, 1)) : W p l e (rmd d) s m args below meth c H locs cells slots (MQ below Qw args s cells slots (GA ad)) (F0 m pc ls [.long r]) := by
  obtain ⟨hx, hb, hml, hown, hts, hK, -, hr, hlocks, hj⟩ := hC
  subst hQ
  exact W.lret hx hb hr (fun t ht hW => ⟨⟨r, (), rfl, rfl, by show va_P D vwCl (wG K ad σ') t.heap; rw [ht]; exact hP⟩, hS.F ht⟩) hS.2.2 hdg hlocks
theorem g_vret {d : Nat} {Qw : Array Value → State → Outcome → State → Prop} {σ' : GS} (hC : Ctx p s m args meth c D K ad own cc nL none) (hQ : Qw = QV D K ad σ') (hP : va_P D vwCl (wG K ad σ') H) (hS : va_S (GA ad) s.heap H locs) (hdg : decode cc pc = .ok (.return_, 1)) : W p l e (rmd d) s m args below meth c H locs cells slots (MQ below Qw args s cells slots (GA ad)) (F0 m pc ls []) := by
  obtain ⟨hx, hb, hml, hown, hts, hK, -, hr, hlocks, hj⟩ := hC
  subst hQ
  exact W.vret hx hb hr (fun t ht hW => ⟨⟨(), rfl, trivial, by show va_P D vwCl (wG K ad σ') t.heap; rw [ht]; exact hP⟩, hS.F ht⟩) hS.2.2 hdg hlocks
-- calls: R is the caller's room
def Rok (R : Room) (maxL d : Nat) : Prop := d + 1 ≤ R.frames ∧ 8 + (maxL + 11) + 40 * d ≤ R.locals
def NM (y : MethodName) (n : Nat) : Prop := y.cls ≠ "java/lang/invoke/MethodHandle" ∧ y.cls ≠ "java/lang/invoke/VarHandle" ∧ (parseMethodDescriptor y.desc).map (fun d => d.parameters.length) = some n
variable {y : MethodName} {bc1 : ByteArray} {maxL d na : Nat} {rt : Option FieldType} {As : List Value} {st0 : List Value} {Qc : Array Value → State → Outcome → State → Prop}
theorem g_runV {b : Nat} (hC : Ctx p s m args meth c D K ad own cc nL ret) (hP : va_P D vwCl (wG K ad σ) H) (hM : CT l D K ad y bc1 maxL rt d (.ref (ad b) :: As) σ Qc) (hR : Rok R maxL d) (hN : NM y na) (hcd : Cond.code y bc1 maxL rt ∈ gw) (hit : Cond.initialized y.cls ∈ gw) (hl : Cond.methodLink own index y ∈ gw) (him : Cond.instanceMethod y ∈ gw) (hsl : Cond.selects y.cls y y ∈ gw) (ho : isO K ad b ci fs) (hcl : CO ci y.cls T N ty0)
    (hlen : As.length = na) (hls : ls.size = nL) (hst : st0 = As.reverse ++ .ref (ad b) :: rest) (hW : (rest.map fun v => v.category).sum ≤ 8) (hdg : decode cc pc = .ok (.invokevirtual index, 3)) (hf : cells ≤ R.cells ∧ slots ≤ R.slots) :
    va_Run p l e R s m args below meth c H locs cells slots 0 0 (F0 m pc ls st0) rest (Qc (Value.ref (ad b) :: As).toArray) (GA ad) := by
  obtain ⟨hx, hb, hml, hown, hts, hK, hNW, hr, hlocks, hj⟩ := hC
  have he : (wG K ad σ)[b]? = some (ad b, .inr (ci, fs (σ.1 b) (σ.2 b))) := by rw [getG ho.1, ho.2]
  exact va_runV (C := y.cls) (Ts := gw) ⟨hx, hb, hml, hown, hts⟩ hM (⟨callB_of na hts (gwg hcd) rfl rfl rfl (hts _ hit) (hts _ hl) hN hR, hts _ him, hts _ hsl⟩) ⟨PreG.blind, va_recv hK hP hcl.1 he, fun U hU hW => PreG.at hP hK hNW hU hW⟩ rfl hlen hls hst (lv_room hW) hdg hf
theorem g_runS (hC : Ctx p s m args meth c D K ad own cc nL ret) (hP : va_P D vwCl (wG K ad σ) H) (hM : CT l D K ad y bc1 maxL rt d As σ Qc) (hR : Rok R maxL d) (hN : NM y na) (hcd : Cond.code y bc1 maxL rt ∈ gw) (hit : Cond.initialized y.cls ∈ gw) (hl : Cond.methodLink own index y ∈ gw) (hsc : Cond.static y ∈ gw)
    (hlen : As.length = na) (hls : ls.size = nL) (hst : st0 = As.reverse ++ rest) (hW : (rest.map fun v => v.category).sum ≤ 8) (hdg : decode cc pc = .ok (.invokestatic index, 3)) (hf : cells ≤ R.cells ∧ slots ≤ R.slots) :
    va_Run p l e R s m args below meth c H locs cells slots 0 0 (F0 m pc ls st0) rest (Qc As.toArray) (GA ad) := by
  obtain ⟨hx, hb, hml, hown, hts, hK, hNW, hr, hlocks, hj⟩ := hC
  exact va_runS (Ts := gw) ⟨hx, hb, hml, hown, hts⟩ hM ⟨callB_of na hts (gwg hcd) rfl rfl rfl (hts _ hit) (hts _ hl) hN hR, hts _ hsc⟩ ⟨PreG.blind, fun U hU hW => PreG.at hP hK hNW hU hW⟩ rfl hlen hls hst (lv_room hW) hdg hf
theorem g_runSN {host : String} (hC : Ctx p s m args meth c D K ad own cc nL ret) (hP : va_P D vwCl (wG K ad σ) H) (hM : CT l D K ad y bc1 maxL rt d As σ Qc) (hR : Rok R maxL d) (hN : NM y na) (hcd : Cond.code y bc1 maxL rt ∈ gw) (hit : Cond.initialized y.cls ∈ gw) (hl : Cond.methodLinkNest own index y host ∈ lw_tbl) (hsc : Cond.static y ∈ gw)
    (hlen : As.length = na) (hls : ls.size = nL) (hst : st0 = As.reverse ++ rest) (hW : (rest.map fun v => v.category).sum ≤ 8) (hdg : decode cc pc = .ok (.invokestatic index, 3)) (hf : cells ≤ R.cells ∧ slots ≤ R.slots) :
    va_Run p l e R s m args below meth c H locs cells slots 0 0 (F0 m pc ls st0) rest (Qc As.toArray) (GA ad) := by
  obtain ⟨hx, hb, hml, hown, hts, hK, hNW, hr, hlocks, hj⟩ := hC
  exact va_runSN (Ts := gw) ⟨hx, hb, hml, hown, hts⟩ hM ⟨va_cnB na hts (gwg hcd) rfl rfl rfl (hNW _ _ _ _ hl) (hts _ hit) hN hR, hts _ hsc, trivial⟩ ⟨PreG.blind, fun U hU hW => PreG.at hP hK hNW hU hW⟩ rfl hlen hls hst (lv_room hW) hdg hf
theorem g_calli {r : Int32} {σ' : GS} {a : Array Value} (hS : va_S (GA ad) s.heap H locs) (hr : va_Run p l e R s m args below meth c H locs cells slots 0 0 (F0 m pc ls st0) rest (QI D K ad r σ' a) (GA ad))
    (kk : ∀ (H1 : Heap) (locs1 : List Loc), va_P D vwCl (wG K ad σ') H1 → va_S (GA ad) s.heap H1 locs1 → W p l e R s m args below meth c H1 locs1 cells slots Q (F0 m (pc + 3) ls (.int r :: rest))) : W p l e R s m args below meth c H locs cells slots Q (F0 m pc ls st0) := by
  refine va_calli hr hS (fun q _ h => h) (fun q h => h) (fun r' u t H1 locs1 ht hvm hw hB hz1 hk1 hS1 => ?_)
  rw [ht] at hB
  have hw : r' = r := hw
  subst hw
  exact kk H1 locs1 hB hS1
theorem g_calll {r : Int64} {σ' : GS} {a : Array Value} (hS : va_S (GA ad) s.heap H locs) (hr : va_Run p l e R s m args below meth c H locs cells slots 0 0 (F0 m pc ls st0) rest (QL D K ad r σ' a) (GA ad))
    (kk : ∀ (H1 : Heap) (locs1 : List Loc), va_P D vwCl (wG K ad σ') H1 → va_S (GA ad) s.heap H1 locs1 → W p l e R s m args below meth c H1 locs1 cells slots Q (F0 m (pc + 3) ls (.long r :: rest))) : W p l e R s m args below meth c H locs cells slots Q (F0 m pc ls st0) := by
  refine va_calll hr hS (fun q _ h => h) (fun q h => h) (fun r' u t H1 locs1 ht hvm hw hB hz1 hk1 hS1 => ?_)
  rw [ht] at hB
  have hw : r' = r := hw
  subst hw
  exact kk H1 locs1 hB hS1
theorem g_callv {σ' : GS} {a : Array Value} (hS : va_S (GA ad) s.heap H locs) (hr : va_Run p l e R s m args below meth c H locs cells slots 0 0 (F0 m pc ls st0) rest (QV D K ad σ' a) (GA ad))
    (kk : ∀ (H1 : Heap) (locs1 : List Loc), va_P D vwCl (wG K ad σ') H1 → va_S (GA ad) s.heap H1 locs1 → W p l e R s m args below meth c H1 locs1 cells slots Q (F0 m (pc + 3) ls rest)) : W p l e R s m args below meth c H locs cells slots Q (F0 m pc ls st0) := by
  refine va_callv hr hS (fun q _ h => h) (fun q h => h) (fun u t H1 locs1 ht hvm hw hB hz1 hk1 hS1 => ?_)
  rw [ht] at hB
  exact kk H1 locs1 hB hS1
theorem g_mmax (hC : Ctx p s m args meth c D K ad own cc nL ret) (hls : ls.size = nL) (hl : Cond.methodLink own index Lib.Math.max.name ∈ gw) (hsc : Cond.static Lib.Math.max.name ∈ gw) (hcd : Cond.code Lib.Math.max.name Lib.Math.max.code 2 (some .int) ∈ gw) (hit : Cond.initialized "java/lang/Math" ∈ gw) (hfr : 1 ≤ R.frames) (hlo : (rest.map fun v => v.category).sum + 13 ≤ R.locals) (hf : cells ≤ R.cells ∧ slots ≤ R.slots) {x z : Int32} (hdg : decode cc pc = .ok (.invokestatic index, 3))
    (kk : W p l e R s m args below meth c H locs cells slots Q (F0 m (pc + 3) ls (.int (if x < z then z else x) :: rest))) : W p l e R s m args below meth c H locs cells slots Q (F0 m pc ls (.int z :: .int x :: rest)) := by
  obtain ⟨hx, hb, hml, hown, hts, hK, -⟩ := hC
  exact va_mmax hx hb (hml.trans hls.symm) hown (hts _ hl) (hts _ hsc) (hts _ hit) (hts _ hcd) hfr hlo hf.1 hf.2 hdg kk
theorem g_mmin (hC : Ctx p s m args meth c D K ad own cc nL ret) (hls : ls.size = nL) (hl : Cond.methodLink own index Lib.Math.min.name ∈ gw) (hsc : Cond.static Lib.Math.min.name ∈ gw) (hcd : Cond.code Lib.Math.min.name Lib.Math.min.code 2 (some .int) ∈ gw) (hit : Cond.initialized "java/lang/Math" ∈ gw) (hfr : 1 ≤ R.frames) (hlo : (rest.map fun v => v.category).sum + 13 ≤ R.locals) (hf : cells ≤ R.cells ∧ slots ≤ R.slots) {x z : Int32} (hdg : decode cc pc = .ok (.invokestatic index, 3))
    (kk : W p l e R s m args below meth c H locs cells slots Q (F0 m (pc + 3) ls (.int (if z < x then z else x) :: rest))) : W p l e R s m args below meth c H locs cells slots Q (F0 m pc ls (.int z :: .int x :: rest)) := by
  obtain ⟨hx, hb, hml, hown, hts, hK, -⟩ := hC
  exact va_mmin hx hb (hml.trans hls.symm) hown (hts _ hl) (hts _ hsc) (hts _ hit) (hts _ hcd) hfr hlo hf.1 hf.2 hdg kk
end GR
