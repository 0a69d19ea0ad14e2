/-! the world of the whole system: 87 cells at the addresses ad 0 .. ad 86; ints and longs of all cells in one state -/
abbrev GS : Type := (Nat → Nat → Int32) × (Nat → Nat → Int64)
def s1 (σ : GS) (k i : Nat) (v : Int32) : GS := (va_up σ.1 k (upd (σ.1 k) i v), σ.2)
def s2 (σ : GS) (k i : Nat) (v : Int64) : GS := (σ.1, va_up σ.2 k (vp_updL (σ.2 k) i v))
def cA (σ : GS) (k k' sp dp n : Nat) : GS := (va_up σ.1 k' (va_cpy (σ.1 k) (σ.1 k') sp dp n), σ.2)
abbrev rf (ad : Nat → Nat) (k : Nat) : Value := .ref (ad k)
def fX (ad : Nat → Nat) (f : Nat → Int32) (g : Nat → Int64) : List Value := [rf ad 1, rf ad 8, rf ad 9, rf ad 14, rf ad 15, rf ad 19, rf ad 22, rf ad 32, rf ad 34, rf ad 35, rf ad 36, rf ad 41, rf ad 50, rf ad 54, rf ad 62, .int (f 15), .int (f 16), .long (g 17), .long (g 18)]
def fRd (ad : Nat → Nat) (f : Nat → Int32) (_ : Nat → Int64) : List Value := [rf ad 16, rf ad 17, rf ad 18, .int (f 3), .int (f 4)]
def fTn (ad : Nat → Nat) (k : Nat) (f : Nat → Int32) (_ : Nat → Int64) : List Value := [rf ad (k + 1), rf ad (k + 2), .int (f 2), .int (f 3)]
def fWd (ad : Nat → Nat) (k : Nat) (f : Nat → Int32) (_ : Nat → Int64) : List Value := [rf ad (k + 1), .int (f 1)]
def fWk (f : Nat → Int32) (_ : Nat → Int64) : List Value := [.int (f 0), .int (f 1), .int (f 2), .int (f 3), .int (f 4)]
def fId (ad : Nat → Nat) (f : Nat → Int32) (g : Nat → Int64) : List Value := [rf ad (f 0).toNatClampNeg, rf ad (f 1).toNatClampNeg, rf ad (f 2).toNatClampNeg, rf ad (f 3).toNatClampNeg, .int (f 4), .long (g 5), .int (f 6)]
def fTr (ad : Nat → Nat) (_ : Nat → Int32) (_ : Nat → Int64) : List Value := [rf ad 42, rf ad 44, rf ad 46, rf ad 48]
def fTo (ad : Nat → Nat) (f : Nat → Int32) (_ : Nat → Int64) : List Value := [rf ad 51, rf ad 52, rf ad 53, .int (f 3), .int (f 4)]
def fQu (ad : Nat → Nat) (f : Nat → Int32) (_ : Nat → Int64) : List Value := [rf ad 55, rf ad 56, rf ad 57, rf ad 58, rf ad 59, rf ad 60, rf ad 61, .int (f 7), .int (f 8), .int (f 9)]
def fM (ad : Nat → Nat) (f : Nat → Int32) (g : Nat → Int64) : List Value := [rf ad 64, rf ad 65, rf ad 66, rf ad 67, rf ad 68, rf ad 69, rf ad 70, rf ad 71, rf ad 72, .int (f 9), .long (g 10), .long (g 11), .int (f 12), rf ad 73, rf ad 74, .int (f 15), rf ad 75, rf ad 76, rf ad 77, rf ad 78, rf ad 79, rf ad 80, rf ad 81, rf ad 82, .int (f 24), rf ad 83, rf ad 84, rf ad 85, rf ad 86, .int (f 29), rf ad 87]
abbrev aI (K : Nat → ClassId) (n : Nat) (f : Nat → Int32) : va_E := .inl (K 0, n, .inl f)
abbrev aB (K : Nat → ClassId) (n : Nat) (f : Nat → Int32) : va_E := .inl (K 2, n, .inl f)
abbrev aZ (K : Nat → ClassId) (n : Nat) (f : Nat → Int32) : va_E := .inl (K 3, n, .inl f)
abbrev aJ (K : Nat → ClassId) (n : Nat) (g : Nat → Int64) : va_E := .inl (K 1, n, .inr (.inl g))
abbrev aR (c : ClassId) (n : Nat) (f : Nat → Option Nat) : va_E := .inl (c, n, .inr (.inr (.inr (.inr f))))
def eL (K : Nat → ClassId) (ad : Nat → Nat) (f : Nat → Int32) (g : Nat → Int64) : List va_E :=
  [.inr (8, fX ad f g), aR (K 5) 6 (fun j => some (ad (2 + j))), aI K 40 f, aI K 40 f, aI K 40 f, aI K 40 f, aI K 40 f, aI K 40 f, aI K 6 f,
   aR (K 6) 4 (fun j => some (ad (10 + j))), aB K 80 f, aB K 80 f, aB K 80 f, aB K 80 f, aI K 4 f,
   .inr (2, fRd ad f g), aI K 5 f, aI K 5 f, aI K 5 f, .inr (4, fTn ad 19 f g), aI K 5 f, aI K 1220 f, aR (K 4) 3 (fun j => some (ad (23 + 3 * j))),
   .inr (4, fTn ad 23 f g), aI K 5 f, aI K 1220 f, .inr (4, fTn ad 26 f g), aI K 5 f, aI K 1220 f, .inr (4, fTn ad 29 f g), aI K 5 f, aI K 1220 f,
   .inr (7, fWd ad 32 f g), aI K 64 f, .inr (6, fWk f g), .inr (6, fWk f g), .inr (0, fId ad f g), aI K 40 f, aI K 40 f, aJ K 40 g, aJ K 40 g,
   .inr (5, fTr ad f g), .inr (7, fWd ad 42 f g), aI K 64 f, .inr (7, fWd ad 44 f g), aI K 64 f, .inr (7, fWd ad 46 f g), aI K 64 f, .inr (7, fWd ad 48 f g), aI K 64 f,
   .inr (3, fTo ad f g), aI K 49 f, aI K 6 f, aI K 6 f, .inr (1, fQu ad f g), aI K 166 f, aI K 166 f, aI K 830 f, aI K 781 f, aI K 166 f, aI K 166 f, aI K 20 f, aI K 6 f,
   .inr (9, fM ad f g), aI K 6 f, aI K 240 f, aI K 4 f, aI K 320 f, aI K 27 f, aI K 1620 f, aI K 81 f, aI K 4860 f, aZ K 3 f, aI K 6 f, aI K 27 f,
   aI K 64 f, aI K 64 f, aI K 64 f, aI K 64 f, aI K 64 f, aI K 27 f, aI K 128 f, aJ K 128 g, aI K 64 f, aI K 6 f, aI K 6 f, aI K 166 f, aI K 20 f]
def eG (K : Nat → ClassId) (ad : Nat → Nat) (k : Nat) (f : Nat → Int32) (g : Nat → Int64) : va_E := (eL K ad f g).getD k (.inr (0, []))
def wG (K : Nat → ClassId) (ad : Nat → Nat) (σ : GS) : va_W := (List.range 88).map (fun k => (ad k, eG K ad k (σ.1 k) (σ.2 k)))
def tyK (K : Nat → ClassId) : List (ClassId × FieldType) := [(K 0, .int), (K 1, .long), (K 2, .byte), (K 3, .boolean), (K 4, .object "WideTown$Town"), (K 5, .array .int), (K 6, .array .byte)]
def GA (ad : Nat → Nat) : Nat → Prop := fun q => ∃ k, k < 88 ∧ q = ad k
def inj (ad : Nat → Nat) : Prop := ∀ i j, i < 88 → j < 88 → ad i = ad j → i = j
theorem getG {K : Nat → ClassId} {ad : Nat → Nat} {σ : GS} {k : Nat} (h : k < 88) : (wG K ad σ)[k]? = some (ad k, eG K ad k (σ.1 k) (σ.2 k)) := by
  unfold wG
  rw [List.getElem?_map, List.getElem?_range h]
  rfl
theorem lenG {K : Nat → ClassId} {ad : Nat → Nat} {σ : GS} : (wG K ad σ).length = 88 := by
  unfold wG
  rw [List.length_map, List.length_range]
theorem noneG {K : Nat → ClassId} {ad : Nat → Nat} {σ : GS} {k : Nat} (h : ¬ k < 88) : (wG K ad σ)[k]? = none := List.getElem?_eq_none (by rw [lenG]; omega)
theorem setG {K : Nat → ClassId} {ad : Nat → Nat} {σ : GS} {k : Nat} (h : k < 88) (f : Nat → Int32) (g : Nat → Int64) : (wG K ad σ).set k (ad k, eG K ad k f g) = wG K ad (va_up σ.1 k f, va_up σ.2 k g) := by
  apply List.ext_getElem?
  intro i
  by_cases hi : i < 88
  · by_cases e : i = k
    · subst e
      rw [List.getElem?_set_self (by rw [lenG]; exact hi), getG hi]
      simp [va_up]
    · rw [List.getElem?_set_ne (Ne.symm e), getG hi, getG hi]
      simp [va_up, e]
  · rw [noneG hi]
    exact List.getElem?_eq_none (by rw [List.length_set, lenG]; omega)
theorem up_id {α : Type} (f : Nat → α) (k : Nat) : va_up f k (f k) = f := by
  funext j
  unfold va_up
  by_cases e : j = k
  · rw [if_pos e, e]
  · rw [if_neg e]
theorem setG1 {K : Nat → ClassId} {ad : Nat → Nat} {σ : GS} {k : Nat} (h : k < 88) (f : Nat → Int32) : (wG K ad σ).set k (ad k, eG K ad k f (σ.2 k)) = wG K ad (va_up σ.1 k f, σ.2) := by
  rw [setG h, up_id]
theorem setG2 {K : Nat → ClassId} {ad : Nat → Nat} {σ : GS} {k : Nat} (h : k < 88) (g : Nat → Int64) : (wG K ad σ).set k (ad k, eG K ad k (σ.1 k) g) = wG K ad (σ.1, va_up σ.2 k g) := by
  rw [setG h, up_id]
theorem memG {K : Nat → ClassId} {ad : Nat → Nat} {σ : GS} {i : Nat} {p : Nat × va_E} (h : (wG K ad σ)[i]? = some p) : i < 88 ∧ p.1 = ad i := by
  by_cases hi : i < 88
  · rw [getG hi] at h
    cases h
    exact ⟨hi, rfl⟩
  · rw [noneG hi] at h
    cases h
theorem apG {K : Nat → ClassId} {ad : Nat → Nat} {σ : GS} (hj : inj ad) : va_D (GA ad) (wG K ad σ) := by
  refine ⟨fun i j p q hi hj' e => ?_, fun k q hk => ?_⟩
  · obtain ⟨a1, a2⟩ := memG hi
    obtain ⟨b1, b2⟩ := memG hj'
    exact hj i j a1 b1 (by rw [← a2, ← b2, e])
  · obtain ⟨a1, a2⟩ := memG hk
    exact ⟨k, a1, a2⟩
-- the nest links
def nws : List Cond := lw_tbl.filter (fun w => match w with | .methodLinkNest _ _ _ _ => true | _ => false)
def NW (U : State) : Prop := ∀ (o : String) (i : Nat) (y : MethodName) (h : String), Cond.methodLinkNest o i y h ∈ lw_tbl → va_Nw (.methodLinkNest o i y h) U
theorem NW.warm {s U : State} (hW : s.WarmedH U.vm) (h : NW s) : NW U := fun o i y q hm => va_Nw.warmM hW (h o i y q hm)
theorem NW.same {s U : State} (e : s.vm = U.vm) (h : NW s) : NW U := fun o i y q hm => va_Nw.same rfl e (h o i y q hm)
theorem gwp {y : MethodName} {cc : ByteArray} {n : Nat} {r : Option FieldType} (hc : Cond.code y cc n r ∈ gw) {y0 : MethodName} {c0 : ByteArray} {n0 : Nat} {r0 : Option FieldType} : GoodIn (Cond.code y0 c0 n0 r0 :: gw) (Cond.code y cc n r :: gw) := by
  intro w hw
  have h : w ∈ gw := by
    rcases List.mem_cons.mp hw with rfl | h
    · exact hc
    · exact h
  exact ⟨List.mem_cons_of_mem _ h, good_of_word (gw_good w h)⟩
theorem gwl {y : MethodName} {cc : ByteArray} {n : Nat} {r : Option FieldType} (hc : Cond.code y cc n r ∈ gw) : GoodIn lw_tbl (Cond.code y cc n r :: gw) := by
  intro w hw
  have h : w ∈ gw := by
    rcases List.mem_cons.mp hw with rfl | h
    · exact hc
    · exact h
  exact ⟨gw_in w h, good_of_word (gw_good w h)⟩
theorem gwg {y : MethodName} {cc : ByteArray} {n : Nat} {r : Option FieldType} (hc : Cond.code y cc n r ∈ gw) : GoodIn gw (Cond.code y cc n r :: gw) := by
  intro w hw
  have h : w ∈ gw := by
    rcases List.mem_cons.mp hw with rfl | h
    · exact hc
    · exact h
  exact ⟨h, good_of_word (gw_good w h)⟩
def rmd (d : Nat) : Room := { frames := d, cells := 0, slots := 0, locals := 40 * d }
-- what a method's start asks
def PreG (D : va_G) (K : Nat → ClassId) (ad : Nat → Nat) (σ : GS) (av : List Value) : Array Value → State → Prop := va_Pc av (fun U => va_P D vwCl (wG K ad σ) U.heap ∧ va_K D vwCl (tyK K) U ∧ NW U)
theorem PreG.blind {D : va_G} {K : Nat → ClassId} {ad : Nat → Nat} {σ : GS} {av : List Value} : FrameBlind (PreG D K ad σ av) := fun a U g mk q => by
  obtain ⟨q0, qP, qK, qN⟩ := q
  exact ⟨q0, qP, va_K.moved (u := U) (U := U.calling g mk a) (Vm.Alike.refl U.vm) qK, NW.same rfl qN⟩
theorem PreG.at {D : va_G} {K : Nat → ClassId} {ad : Nat → Nat} {σ : GS} {av : List Value} {s U : State} {H : Heap} (hP : va_P D vwCl (wG K ad σ) H) (hK : va_K D vwCl (tyK K) s) (hN : NW s) (hU : U.heap = H) (hW : s.WarmedH U.vm) : PreG D K ad σ av av.toArray U := ⟨rfl, by rw [hU]; exact hP, va_K.moved hW.alike hK, hN.warm hW⟩
def QI (D : va_G) (K : Nat → ClassId) (ad : Nat → Nat) (r : Int32) (σ' : GS) : Array Value → State → Outcome → State → Prop := va_Qi (fun r' (_ : Unit) => r' = r) (fun _ t => va_P D vwCl (wG K ad σ') t.heap) (GA ad)
def QL (D : va_G) (K : Nat → ClassId) (ad : Nat → Nat) (r : Int64) (σ' : GS) : Array Value → State → Outcome → State → Prop := va_Ql (fun r' (_ : Unit) => r' = r) (fun _ t => va_P D vwCl (wG K ad σ') t.heap) (GA ad)
def QV (D : va_G) (K : Nat → ClassId) (ad : Nat → Nat) (σ' : GS) : Array Value → State → Outcome → State → Prop := va_Qv (fun (_ : Unit) => True) (fun _ t => va_P D vwCl (wG K ad σ') t.heap) (GA ad)
/-- a method's contract over the world -/
def CT (l : Launch) (D : va_G) (K : Nat → ClassId) (ad : Nat → Nat) (y : MethodName) (cc : ByteArray) (n : Nat) (ret : Option FieldType) (d : Nat) (av : List Value) (σ : GS) (Q : Array Value → State → Outcome → State → Prop) : Prop :=
  Met l y (Cond.code y cc n ret :: gw) (rmd d) (PreG D K ad σ av) Q 0 0 (GA ad)
/-- what stays through a method's walk -/
def Ctx (p : Program) (s : State) (m : MethodId) (args : Array Value) (meth : Method) (c : Code) (D : va_G) (K : Nat → ClassId) (ad : Nat → Nat) (own : String) (cc : ByteArray) (n : Nat) (ret : Option FieldType) : Prop :=
  p.tables.exec = Jvm.exec ∧ c.code = cc ∧ c.maxLocals = n ∧ s.vm.findClass own = some m.cls ∧ (∀ w ∈ gw, w.before args s = true) ∧ va_K D vwCl (tyK K) s ∧ NW s ∧ meth.sig.returnType = ret ∧ meth.locks = false ∧ inj ad
theorem CT.intro {l : Launch} {D : va_G} {K : Nat → ClassId} {ad : Nat → Nat} {y : MethodName} {cc : ByteArray} {n : Nat} {ret : Option FieldType} {d : Nat} {av : List Value} {σ : GS} {Q : Array Value → State → Outcome → State → Prop} (hj : inj ad) (hy : plainName y.cls = true) (hn : (lg_sl av).length ≤ n)
    (body : ∀ (p : Program) (e : Env) (s : State) (m : MethodId) (args : Array Value) (below : List Frame) (meth : Method) (c : Code) (ls : Array Slot), Ctx p s m args meth c D K ad y.cls cc n ret → va_P D vwCl (wG K ad σ) s.heap → va_S (GA ad) s.heap s.heap [] → lv_has ls n (lv_args 0 av) → W p l e (rmd d) s m args below meth c s.heap [] 0 0 (MQ below Q args s 0 0 (GA ad)) (F0 m 0 ls [])) : CT l D K ad y cc n ret d av σ Q := by
  refine Met.ofW (cc := cc) (maxL := n) (ret := ret) hy rfl ?_
  intro p e s m args below meth c s₁ B hml hv
  obtain ⟨rfl, hP, hK, hN⟩ := hv
  have hts := atoms_spec (ws := Cond.code y cc n ret :: gw) B.pre
  rw [lg_entry_eq]
  exact body p e s m _ below meth c _ ⟨B.exec, B.bytes, hml, findClass_of_methodNamed B.named, fun w hw => hts w (List.mem_cons_of_mem _ hw), hK, hN, B.returns, B.notSynchronized, hj⟩ hP va_S.rf (lv_entry av hn)
-- guards, calls, joins in the pure functions
def gd {α : Type} (b : Bool) (x : Option α) : Option α := match b with
  | true => x
  | false => none
theorem gd_some {α : Type} {b : Bool} {x : Option α} {r : α} (h : gd b x = some r) : b = true ∧ x = some r := by
  cases b
  · cases h
  · exact ⟨rfl, h⟩
def bc {α β : Type} (x : Option (α × GS)) (f : α → GS → Option β) : Option β := match x with
  | some (r, σ) => f r σ
  | none => none
theorem bc_some {α β : Type} {x : Option (α × GS)} {f : α → GS → Option β} {z : β} (h : bc x f = some z) : ∃ (r : α) (σ : GS), x = some (r, σ) ∧ f r σ = some z := by
  cases x with
  | none => cases h
  | some q => exact ⟨q.1, q.2, rfl, h⟩
def bv {β : Type} (x : Option GS) (f : GS → Option β) : Option β := match x with
  | some σ => f σ
  | none => none
theorem bv_some {β : Type} {x : Option GS} {f : GS → Option β} {z : β} (h : bv x f = some z) : ∃ σ : GS, x = some σ ∧ f σ = some z := by
  cases x with
  | none => cases h
  | some q => exact ⟨q, rfl, h⟩
def jn {α β : Type} (k : α) (f : α → β) : β := f k
def iB (i : Int32) (n : Nat) : Bool := decide (¬ (i < 0 ∨ n ≤ i.toNatClampNeg))
theorem iB_in {i : Int32} {n : Nat} (h : iB i n = true) : vp_in i n := of_decide_eq_true (p := ¬ (i < 0 ∨ n ≤ i.toNatClampNeg)) h
theorem lenL (K : Nat → ClassId) (ad : Nat → Nat) (f : Nat → Int32) (g : Nat → Int64) : (eL K ad f g).length = 88 := rfl
def zB (i : Int32) : Bool := decide (¬ i = 0)
theorem zB_in {i : Int32} (h : zB i = true) : ¬ i = 0 := of_decide_eq_true h
def zL (i : Int64) : Bool := decide (¬ i = 0)
theorem zL_in {i : Int64} (h : zL i = true) : ¬ i = 0 := of_decide_eq_true h
def bB (i : Int32) : Bool := decide (i = 0 ∨ i = 1)
theorem bB_in {i : Int32} (h : bB i = true) : narrow .boolean (.int i) = .int i := by
  rcases of_decide_eq_true h with rfl | rfl
  · rfl
  · rfl
