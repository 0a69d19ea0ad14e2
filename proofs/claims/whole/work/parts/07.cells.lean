section CE
variable {K : Nat → ClassId} {ad : Nat → Nat}
theorem jn_some {α β : Type} {k : α} {f : α → Option β} {z : β} (h : jn k f = some z) : ∃ x : α, x = k ∧ f x = some z := ⟨k, rfl, h⟩
def bp {α β : Type} (x : Option α) (f : α → Option β) : Option β := match x with
  | some r => f r
  | none => none
theorem bp_some {α β : Type} {x : Option α} {f : α → Option β} {z : β} (h : bp x f = some z) : ∃ r : α, x = some r ∧ f r = some z := by
  cases x with
  | none => cases h
  | some q => exact ⟨q, rfl, h⟩
theorem rk {d d' n : Nat} (h : d' + 1 ≤ d) (hn : n ≤ 21) : Rok (rmd d) n d' := ⟨h, by show 8 + (n + 11) + 40 * d' ≤ 40 * d; omega⟩
theorem zz {R : Room} : 0 ≤ R.cells ∧ 0 ≤ R.slots := ⟨Nat.zero_le _, Nat.zero_le _⟩
def WdOK (K : Nat → ClassId) (ad : Nat → Nat) (k : Nat) : Prop := isO K ad k 7 (fWd ad k) ∧ isA K ad (k + 1) 0 64
def TnOK (K : Nat → ClassId) (ad : Nat → Nat) (k : Nat) : Prop := isO K ad k 4 (fTn ad k) ∧ isA K ad (k + 1) 0 5 ∧ isA K ad (k + 2) 0 1220
def WkOK (K : Nat → ClassId) (ad : Nat → Nat) (k : Nat) : Prop := isO K ad k 6 fWk
theorem o_0 : isO K ad 0 8 (fX ad) := ⟨by decide, fun _ _ => rfl⟩
theorem o_15 : isO K ad 15 2 (fRd ad) := ⟨by decide, fun _ _ => rfl⟩
theorem o_19 : isO K ad 19 4 (fTn ad 19) := ⟨by decide, fun _ _ => rfl⟩
theorem o_32 : isO K ad 32 7 (fWd ad 32) := ⟨by decide, fun _ _ => rfl⟩
theorem o_42 : isO K ad 42 7 (fWd ad 42) := ⟨by decide, fun _ _ => rfl⟩
theorem o_44 : isO K ad 44 7 (fWd ad 44) := ⟨by decide, fun _ _ => rfl⟩
theorem o_46 : isO K ad 46 7 (fWd ad 46) := ⟨by decide, fun _ _ => rfl⟩
theorem o_48 : isO K ad 48 7 (fWd ad 48) := ⟨by decide, fun _ _ => rfl⟩
theorem o_34 : isO K ad 34 6 fWk := ⟨by decide, fun _ _ => rfl⟩
theorem o_35 : isO K ad 35 6 fWk := ⟨by decide, fun _ _ => rfl⟩
theorem o_36 : isO K ad 36 0 (fId ad) := ⟨by decide, fun _ _ => rfl⟩
theorem o_41 : isO K ad 41 5 (fTr ad) := ⟨by decide, fun _ _ => rfl⟩
theorem o_50 : isO K ad 50 3 (fTo ad) := ⟨by decide, fun _ _ => rfl⟩
theorem o_54 : isO K ad 54 1 (fQu ad) := ⟨by decide, fun _ _ => rfl⟩
theorem o_63 : isO K ad 63 9 (fM ad) := ⟨by decide, fun _ _ => rfl⟩
theorem r_1 : isR K ad 1 5 6 (fun j => 2 + j) := ⟨by decide, fun _ _ => rfl⟩
theorem r_9 : isR K ad 9 6 4 (fun j => 10 + j) := ⟨by decide, fun _ _ => rfl⟩
theorem r_22 : isR K ad 22 4 3 (fun j => 23 + 3 * j) := ⟨by decide, fun _ _ => rfl⟩
theorem a_2 : isA K ad 2 0 40 := ⟨by decide, fun _ _ => rfl⟩
theorem a_3 : isA K ad 3 0 40 := ⟨by decide, fun _ _ => rfl⟩
theorem a_4 : isA K ad 4 0 40 := ⟨by decide, fun _ _ => rfl⟩
theorem a_5 : isA K ad 5 0 40 := ⟨by decide, fun _ _ => rfl⟩
theorem a_6 : isA K ad 6 0 40 := ⟨by decide, fun _ _ => rfl⟩
theorem a_7 : isA K ad 7 0 40 := ⟨by decide, fun _ _ => rfl⟩
theorem a_8 : isA K ad 8 0 6 := ⟨by decide, fun _ _ => rfl⟩
theorem a_10 : isA K ad 10 2 80 := ⟨by decide, fun _ _ => rfl⟩
theorem a_11 : isA K ad 11 2 80 := ⟨by decide, fun _ _ => rfl⟩
theorem a_12 : isA K ad 12 2 80 := ⟨by decide, fun _ _ => rfl⟩
theorem a_13 : isA K ad 13 2 80 := ⟨by decide, fun _ _ => rfl⟩
theorem a_14 : isA K ad 14 0 4 := ⟨by decide, fun _ _ => rfl⟩
theorem a_16 : isA K ad 16 0 5 := ⟨by decide, fun _ _ => rfl⟩
theorem a_17 : isA K ad 17 0 5 := ⟨by decide, fun _ _ => rfl⟩
theorem a_18 : isA K ad 18 0 5 := ⟨by decide, fun _ _ => rfl⟩
theorem a_20 : isA K ad 20 0 5 := ⟨by decide, fun _ _ => rfl⟩
theorem a_21 : isA K ad 21 0 1220 := ⟨by decide, fun _ _ => rfl⟩
theorem a_33 : isA K ad 33 0 64 := ⟨by decide, fun _ _ => rfl⟩
theorem a_43 : isA K ad 43 0 64 := ⟨by decide, fun _ _ => rfl⟩
theorem a_45 : isA K ad 45 0 64 := ⟨by decide, fun _ _ => rfl⟩
theorem a_47 : isA K ad 47 0 64 := ⟨by decide, fun _ _ => rfl⟩
theorem a_49 : isA K ad 49 0 64 := ⟨by decide, fun _ _ => rfl⟩
theorem a_51 : isA K ad 51 0 49 := ⟨by decide, fun _ _ => rfl⟩
theorem a_52 : isA K ad 52 0 6 := ⟨by decide, fun _ _ => rfl⟩
theorem a_53 : isA K ad 53 0 6 := ⟨by decide, fun _ _ => rfl⟩
theorem a_55 : isA K ad 55 0 166 := ⟨by decide, fun _ _ => rfl⟩
theorem a_56 : isA K ad 56 0 166 := ⟨by decide, fun _ _ => rfl⟩
theorem a_57 : isA K ad 57 0 830 := ⟨by decide, fun _ _ => rfl⟩
theorem a_58 : isA K ad 58 0 781 := ⟨by decide, fun _ _ => rfl⟩
theorem a_59 : isA K ad 59 0 166 := ⟨by decide, fun _ _ => rfl⟩
theorem a_60 : isA K ad 60 0 166 := ⟨by decide, fun _ _ => rfl⟩
theorem a_61 : isA K ad 61 0 20 := ⟨by decide, fun _ _ => rfl⟩
theorem a_62 : isA K ad 62 0 6 := ⟨by decide, fun _ _ => rfl⟩
theorem a_64 : isA K ad 64 0 6 := ⟨by decide, fun _ _ => rfl⟩
theorem a_65 : isA K ad 65 0 240 := ⟨by decide, fun _ _ => rfl⟩
theorem a_66 : isA K ad 66 0 4 := ⟨by decide, fun _ _ => rfl⟩
theorem a_67 : isA K ad 67 0 320 := ⟨by decide, fun _ _ => rfl⟩
theorem a_68 : isA K ad 68 0 27 := ⟨by decide, fun _ _ => rfl⟩
theorem a_69 : isA K ad 69 0 1620 := ⟨by decide, fun _ _ => rfl⟩
theorem a_70 : isA K ad 70 0 81 := ⟨by decide, fun _ _ => rfl⟩
theorem a_71 : isA K ad 71 0 4860 := ⟨by decide, fun _ _ => rfl⟩
theorem a_72 : isA K ad 72 3 3 := ⟨by decide, fun _ _ => rfl⟩
theorem a_73 : isA K ad 73 0 6 := ⟨by decide, fun _ _ => rfl⟩
theorem a_74 : isA K ad 74 0 27 := ⟨by decide, fun _ _ => rfl⟩
theorem a_75 : isA K ad 75 0 64 := ⟨by decide, fun _ _ => rfl⟩
theorem a_76 : isA K ad 76 0 64 := ⟨by decide, fun _ _ => rfl⟩
theorem a_77 : isA K ad 77 0 64 := ⟨by decide, fun _ _ => rfl⟩
theorem a_78 : isA K ad 78 0 64 := ⟨by decide, fun _ _ => rfl⟩
theorem a_79 : isA K ad 79 0 64 := ⟨by decide, fun _ _ => rfl⟩
theorem a_80 : isA K ad 80 0 27 := ⟨by decide, fun _ _ => rfl⟩
theorem a_81 : isA K ad 81 0 128 := ⟨by decide, fun _ _ => rfl⟩
theorem a_83 : isA K ad 83 0 64 := ⟨by decide, fun _ _ => rfl⟩
theorem a_84 : isA K ad 84 0 6 := ⟨by decide, fun _ _ => rfl⟩
theorem a_85 : isA K ad 85 0 6 := ⟨by decide, fun _ _ => rfl⟩
theorem a_86 : isA K ad 86 0 166 := ⟨by decide, fun _ _ => rfl⟩
theorem a_87 : isA K ad 87 0 20 := ⟨by decide, fun _ _ => rfl⟩
theorem j_82 : isJ K ad 82 128 := ⟨by decide, fun _ _ => rfl⟩
theorem iB_lt {i : Int32} {n : Nat} (h : iB i n = true) : i.toNatClampNeg < n := Nat.not_le.mp fun q => iB_in h (Or.inr q)
theorem rowA {i : Int32} (h : iB i 6 = true) : isA K ad (2 + i.toNatClampNeg) 0 40 := by
  have := iB_lt h
  generalize i.toNatClampNeg = j at this ⊢
  match j, this with
  | 0, _ => exact ⟨by decide, fun _ _ => rfl⟩
  | 1, _ => exact ⟨by decide, fun _ _ => rfl⟩
  | 2, _ => exact ⟨by decide, fun _ _ => rfl⟩
  | 3, _ => exact ⟨by decide, fun _ _ => rfl⟩
  | 4, _ => exact ⟨by decide, fun _ _ => rfl⟩
  | 5, _ => exact ⟨by decide, fun _ _ => rfl⟩
theorem txtA {i : Int32} (h : iB i 4 = true) : isA K ad (10 + i.toNatClampNeg) 2 80 := by
  have := iB_lt h
  generalize i.toNatClampNeg = j at this ⊢
  match j, this with
  | 0, _ => exact ⟨by decide, fun _ _ => rfl⟩
  | 1, _ => exact ⟨by decide, fun _ _ => rfl⟩
  | 2, _ => exact ⟨by decide, fun _ _ => rfl⟩
  | 3, _ => exact ⟨by decide, fun _ _ => rfl⟩
theorem kepT {i : Int32} (h : iB i 3 = true) : TnOK K ad (23 + 3 * i.toNatClampNeg) := by
  have := iB_lt h
  generalize i.toNatClampNeg = j at this ⊢
  match j, this with
  | 0, _ => exact ⟨⟨by decide, fun _ _ => rfl⟩, ⟨by decide, fun _ _ => rfl⟩, ⟨by decide, fun _ _ => rfl⟩⟩
  | 1, _ => exact ⟨⟨by decide, fun _ _ => rfl⟩, ⟨by decide, fun _ _ => rfl⟩, ⟨by decide, fun _ _ => rfl⟩⟩
  | 2, _ => exact ⟨⟨by decide, fun _ _ => rfl⟩, ⟨by decide, fun _ _ => rfl⟩, ⟨by decide, fun _ _ => rfl⟩⟩
def idI (x : Int32) : Bool := decide (x = 37 ∨ x = 38)
def idJ (x : Int32) : Bool := decide (x = 39 ∨ x = 40)
theorem idA {x : Int32} (h : idI x = true) : isA K ad x.toNatClampNeg 0 40 := by
  rcases of_decide_eq_true h with rfl | rfl
  · exact ⟨by decide, fun _ _ => rfl⟩
  · exact ⟨by decide, fun _ _ => rfl⟩
theorem idL {x : Int32} (h : idJ x = true) : isJ K ad x.toNatClampNeg 40 := by
  rcases of_decide_eq_true h with rfl | rfl
  · exact ⟨by decide, fun _ _ => rfl⟩
  · exact ⟨by decide, fun _ _ => rfl⟩
def cpB (sp dp n : Int32) (n0 n1 : Nat) : Bool := decide (¬ sp < 0 ∧ ¬ dp < 0 ∧ ¬ n < 0 ∧ sp.toNatClampNeg + n.toNatClampNeg ≤ n0 ∧ dp.toNatClampNeg + n.toNatClampNeg ≤ n1)
end CE
section CP
variable {p : Program} {l : Launch} {e : Env} {R : Room} {s : State} {m : MethodId} {args : Array Value} {below : List Frame} {meth : Method} {c : Code} {H : Heap} {locs : List Loc} {cells slots : Nat} {Q : State → Prop} {cc : ByteArray} {pc : Nat} {ls : Array Slot} {rest : List Value} {D : va_G} {K : Nat → ClassId} {ad : Nat → Nat} {σ : GS} {own : String} {nL : Nat} {ret : Option FieldType} {k k' n0 n1 index : Nat}
theorem g_copy (hC : Ctx p s m args meth c D K ad own cc nL ret) (hP : va_P D vwCl (wG K ad σ) H) (hS : va_S (GA ad) s.heap H locs) (hls : ls.size = nL) (ho : isA K ad k 0 n0) (ho' : isA K ad k' 0 n1) (hl : Cond.methodLink own index arraycopyName ∈ gw) (hna : Cond.native arraycopyName ∈ gw) (hst : Cond.static arraycopyName ∈ gw) (hit : Cond.initialized "java/lang/System" ∈ gw) {sp dp n : Int32} (hb2 : cpB sp dp n n0 n1 = true) (hfr : 1 ≤ R.frames) (hlo : (rest.map fun v => v.category).sum + (nativeFrameWords "java/lang/System" "arraycopy" 5 + 11) ≤ R.locals) (hdg : decode cc pc = .ok (.invokestatic index, 3))
    (kk : ∀ (H1 : Heap) (locs1 : List Loc), va_P D vwCl (wG K ad (cA σ k k' sp.toNatClampNeg dp.toNatClampNeg n.toNatClampNeg)) H1 → va_S (GA ad) s.heap H1 locs1 → W p l e R s m args below meth c H1 locs1 cells slots Q (F0 m (pc + 3) ls rest)) : W p l e R s m args below meth c H locs cells slots Q (F0 m pc ls (.int n :: .int dp :: .ref (ad k') :: .int sp :: .ref (ad k) :: rest)) := by
  obtain ⟨hx, hb, hml, hown, hts, hK, -, -, -, hj⟩ := hC
  obtain ⟨h1, h2, h3, h4, h5⟩ := of_decide_eq_true hb2
  refine va_copyi hx hb (hml.trans hls.symm) hown (hts _ hl) (hts _ hna) (hts _ hst) (hts _ hit) hK hP (apG hj) hS k k' 0 0 (f := σ.1 k) (g := σ.1 k') (by rw [getG ho.1, ho.2]) (by rw [getG ho'.1, ho'.2]) rfl rfl rfl h1 h2 h3 h4 h5 (fun _ _ => rfl) hfr hlo hdg (fun H1 locs1 hP1 _ hS1 => ?_)
  rw [← ho'.2 _ (σ.2 k'), setG1 ho'.1] at hP1
  exact kk H1 locs1 hP1 hS1
end CP
