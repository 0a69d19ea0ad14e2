/-! ways, between: the model's sets -/
theorem bit0I {m p : Nat} (hm : m < 2 ^ 31) (hp : p < 32) : ((nI m >>> (nI p &&& 31)) &&& 1 = 0) ↔ m.testBit p = false := by
  have h1 : nI p &&& 31 = nI p := by
    rw [pk_andN (n := p) (by omega) 5 (by decide), Nat.mod_eq_of_lt (by omega)]
  have h2 : nI (m / 2 ^ p) &&& 1 = nI (m / 2 ^ p % 2) := pk_andN (n := m / 2 ^ p) (Nat.lt_of_le_of_lt (Nat.div_le_self _ _) (by omega)) 1 (by decide)
  rw [h1, pk_shrN hm (nI p) p (smod32 p hp), h2, Nat.testBit_eq_decide_div_mod_eq, decide_eq_false_iff_not]
  have h3 : nI (m / 2 ^ p % 2) = 0 ↔ m / 2 ^ p % 2 = 0 := nI_eq (b := 0) (by omega) (by decide)
  rw [h3]
  omega
theorem lpW {T β : Type} {G : Nat → Nat → T → β} {P : β → Prop} {Inv : Nat → T → Prop} {B : Nat} (hs : ∀ n i t, Inv i t → P (G (n + 1) i t) ∨ (i < B ∧ ∃ t', G (n + 1) i t = G n (i + 1) t' ∧ Inv (i + 1) t')) : ∀ d i n t, i + d = B → d < n → Inv i t → P (G n i t) := by
  intro d
  induction d with
  | zero =>
    intro i n t hi hn h
    obtain ⟨n, rfl⟩ : ∃ k, n = k + 1 := ⟨n - 1, by omega⟩
    rcases hs n i t h with q | ⟨q, -⟩
    · exact q
    · omega
  | succ d ih =>
    intro i n t hi hn h
    obtain ⟨n, rfl⟩ : ∃ k, n = k + 1 := ⟨n - 1, by omega⟩
    rcases hs n i t h with q | ⟨-, t', e, h'⟩
    · exact q
    · rw [e]
      exact ih (i + 1) n t' (by omega) (by omega) h'
theorem nd_getD {l : List Nat} (h : l.Nodup) {i j : Nat} (hi : i < l.length) (hj : j < l.length) (e : l.getD i 0 = l.getD j 0) : i = j := by
  rw [List.getD_eq_getElem?_getD, List.getD_eq_getElem?_getD, List.getElem?_eq_getElem hi, List.getElem?_eq_getElem hj] at e
  have e : l[i] = l[j] := e
  rw [← h.idxOf_getElem i hi, ← h.idxOf_getElem j hj, e]
theorem mem_tk {l : List Nat} {k x : Nat} : x ∈ l.take k ↔ ∃ j, j < k ∧ j < l.length ∧ l.getD j 0 = x := by
  rw [List.mem_take_iff_getElem]
  constructor
  · rintro ⟨i, hi, rfl⟩
    refine ⟨i, by omega, by omega, ?_⟩
    rw [List.getD_eq_getElem?_getD, List.getElem?_eq_getElem (by omega)]
    rfl
  · rintro ⟨j, h1, h2, rfl⟩
    refine ⟨j, by omega, ?_⟩
    rw [List.getD_eq_getElem?_getD, List.getElem?_eq_getElem h2]
    rfl
def MI (t : GS) (C : List Nat) (Wy : Nat → Nat) : Prop := t.1 63 24 = nI C.length ∧ ∀ k, k < C.length → t.1 81 k = nI (C.getD k 0) ∧ t.2 82 k = lN (Wy k)
def FS (t t' : GS) : Prop := (∀ q, q ≠ 63 → q ≠ 81 → t'.1 q = t.1 q) ∧ (∀ j, j ≠ 24 → t'.1 63 j = t.1 63 j) ∧ ∀ q, q ≠ 82 → t'.2 q = t.2 q
theorem FS.refl (t : GS) : FS t t := ⟨fun _ _ _ => rfl, fun _ _ => rfl, fun _ _ => rfl⟩
theorem FS.trans {t u v : GS} (h : FS t u) (h2 : FS u v) : FS t v := ⟨fun q h0 h1 => (h2.1 q h0 h1).trans (h.1 q h0 h1), fun j hj => (h2.2.1 j hj).trans (h.2.1 j hj), fun q hq => (h2.2.2 q hq).trans (h.2.2 q hq)⟩
theorem addsM {t : GS} {C : List Nat} {Wy : Nat → Nat} {m v : Nat} (hM : MI t C Wy) (hnd : C.Nodup) (hm : m < 2 ^ 31) (hC : ∀ x ∈ C, x < 2 ^ 31) (hlen : m ∉ C → C.length < 128) (hl : C.length ≤ 128) : ∃ t' Wy', F_M_adds (nI m) (lN v) t = some t' ∧ MI t' (zins C m) Wy' ∧ FS t t' ∧ (∀ j, j < C.length → C.getD j 0 ≠ m → Wy' j = Wy j) ∧ (∀ j, j < C.length → C.getD j 0 = m → Wy' j = Wy j + v) ∧ (m ∉ C → Wy' C.length = v) := by
  have hF : ∃ i, ((i < C.length ∧ C.getD i 0 = m) ∨ (i = C.length ∧ m ∉ C)) ∧ ∀ K : Int32 → Option GS, F_M_adds_3 (nI m) (lN v) t K 50000 0 = K (nI i) := by
    have := lpE (G := fun n i (_ : Unit) => fun (K : Int32 → Option GS) => F_M_adds_3 (nI m) (lN v) t K n (nI i)) (P := fun o => ∃ i, ((i < C.length ∧ C.getD i 0 = m) ∨ (i = C.length ∧ m ∉ C)) ∧ ∀ K, o K = K (nI i)) (Inv := fun i _ => ∀ k, k < i → C.getD k 0 ≠ m) (N := C.length) ?_ ?_ C.length 0 50000 () (by omega) (by omega) (fun k hk => absurd hk (Nat.not_lt_zero _))
    · exact this
    · intro n i _ hi h
      have hx := hC _ (getD_mem hi)
      by_cases e : C.getD i 0 = m
      · refine Or.inl ⟨i, Or.inl ⟨hi, e⟩, fun K => ?_⟩
        show F_M_adds_3 (nI m) (lN v) t K (n + 1) (nI i) = _
        rw [F_M_adds_3.eq_2, hM.1, if_neg (nI_ge hi (by omega)), gi (by omega) (by decide), c31 (n := i) (by omega), (hM.2 i hi).1, e, if_pos rfl]
      · refine Or.inr ⟨(), ?_, fun k hk => ?_⟩
        · funext K
          show F_M_adds_3 (nI m) (lN v) t K (n + 1) (nI i) = F_M_adds_3 (nI m) (lN v) t K n (nI (i + 1))
          rw [F_M_adds_3.eq_2, hM.1, if_neg (nI_ge hi (by omega)), gi (by omega) (by decide), c31 (n := i) (by omega), (hM.2 i hi).1, if_neg (fun q => e ((nI_eq (by omega) (by omega)).mp q)), nI_1]
        · by_cases q : k = i
          · rw [q]; exact e
          · exact h k (by omega)
    · intro n _ h
      refine ⟨C.length, Or.inr ⟨rfl, fun q => ?_⟩, fun K => ?_⟩
      · obtain ⟨i, hi, e⟩ := mem_getD q
        exact h i hi e
      · show F_M_adds_3 (nI m) (lN v) t K (n + 1) (nI C.length) = _
        rw [F_M_adds_3.eq_2, hM.1, if_pos (nI_le (Nat.le_refl _) (by omega))]
  obtain ⟨i, hi, eF⟩ := hF
  unfold F_M_adds
  rw [jn_s, eF, jn_s, hM.1]
  rcases hi with ⟨hi, e⟩ | ⟨rfl, hne⟩
  · have hmem : m ∈ C := by rw [← e]; exact getD_mem hi
    have ez : zins C m = C := if_pos hmem
    refine ⟨s2 t 82 i (lN (Wy i + v)), fun k => if k = i then Wy i + v else Wy k, ?_, ?_, ⟨fun _ _ _ => rfl, fun _ _ => rfl, fun q hq => s2_c hq⟩, fun j hj hj2 => ?_, fun j hj hj2 => ?_, fun q => absurd hmem q⟩
    · rw [if_neg (fun q => by have := (nI_eq (by omega) (by omega)).mp q; omega)]
      dsimp only
      rw [gi (by omega) (by decide), gi (by omega) (by decide), c31 (n := i) (by omega), (hM.2 i hi).2, lN_add, jn_s]
    · rw [ez]
      refine ⟨hM.1, fun k hk => ⟨(hM.2 k hk).1, ?_⟩⟩
      rw [s2_get]
      dsimp only
      by_cases q : k = i
      · rw [if_pos ⟨rfl, q⟩, if_pos q]
      · rw [if_neg (fun z => q z.2), if_neg q]
        exact (hM.2 k hk).2
    · show (if j = i then Wy i + v else Wy j) = Wy j
      rw [if_neg (fun q => hj2 (by rw [q]; exact e))]
    · show (if j = i then Wy i + v else Wy j) = Wy j + v
      have : j = i := nd_getD hnd hj hi (by rw [hj2, e])
      rw [if_pos this, this]
  · have hl2 := hlen hne
    have ez : zins C m = C ++ [m] := if_neg hne
    have g1 : (s2 (s1 t 81 C.length (nI m)) 82 C.length 0).1 63 24 = nI C.length := by rw [s2_i, s1_c (by decide), hM.1]
    refine ⟨s2 (s1 (s2 (s1 t 81 C.length (nI m)) 82 C.length 0) 63 24 (nI (C.length + 1))) 82 C.length (lN v), fun k => if k = C.length then v else Wy k, ?_, ?_, ⟨fun q q0 q1 => ?_, fun j hj => ?_, fun q hq => ?_⟩, fun j hj hj2 => ?_, fun j hj hj2 => ?_, fun _ => ?_⟩
    · rw [if_pos rfl, gi hl2 (by decide), c31 (n := C.length) (by omega), jn_s, gi hl2 (by decide), jn_s, g1, nI_1, jn_s]
      dsimp only
      rw [gi hl2 (by decide), gi hl2 (by decide)]
      have e0 : (s1 (s2 (s1 t 81 C.length (nI m)) 82 C.length 0) 63 24 (nI (C.length + 1))).2 82 C.length = lN 0 := by rw [s1_l, s2_get, if_pos ⟨rfl, rfl⟩]; rfl
      rw [e0, lN_add, Nat.zero_add, jn_s]
    · rw [ez]
      refine ⟨by rw [s2_i, s1_at, List.length_append]; rfl, fun k hk => ?_⟩
      rw [List.length_append, List.length_singleton] at hk
      rw [s2_i, s1_c (by decide), s2_i, s2_get, s1_l]
      by_cases q : k = C.length
      · rw [q, s1_at, getD_last, if_pos ⟨rfl, rfl⟩]
        exact ⟨rfl, by show lN v = lN (if C.length = C.length then v else Wy C.length); rw [if_pos rfl]⟩
      · rw [s1_i q, getD_l (by omega), if_neg (fun z => q z.2), s2_get, if_neg (fun z => q z.2), s1_l]
        refine ⟨(hM.2 k (by omega)).1, ?_⟩
        show t.2 82 k = lN (if k = C.length then v else Wy k)
        rw [if_neg q]
        exact (hM.2 k (by omega)).2
    · rw [s2_i, s1_c q0, s2_i, s1_c q1]
    · rw [s2_i, s1_i hj, s2_i, s1_c (by decide)]
    · rw [s2_c hq, s1_l, s2_c hq, s1_l]
    · show (if j = C.length then v else Wy j) = Wy j
      rw [if_neg (by omega)]
    · exact absurd (by rw [← hj2]; exact getD_mem hj) hne
    · show (if C.length = C.length then v else Wy C.length) = v
      rw [if_pos rfl]
def zmy (U : List Nat) (m p : Nat) : Nat → Bool
  | 0 => !(m.testBit p)
  | i + 1 => zmy U m p i && (m.testBit i || nb (U.getD i 0) (U.getD p 0))
theorem zmy_s (U : List Nat) (m p i : Nat) : zmy U m p (i + 1) = (zmy U m p i && (m.testBit i || nb (U.getD i 0) (U.getD p 0))) := rfl
theorem zmy_iff {U : List Nat} {m p : Nat} : ∀ i, zmy U m p i = true ↔ m.testBit p = false ∧ ∀ j, j < i → m.testBit j = true ∨ nb (U.getD j 0) (U.getD p 0) = true
  | 0 => by
    show (!(m.testBit p)) = true ↔ _
    rw [Bool.not_eq_true']
    exact ⟨fun h => ⟨h, fun j hj => absurd hj (Nat.not_lt_zero _)⟩, fun h => h.1⟩
  | i + 1 => by
    rw [zmy_s, Bool.and_eq_true, zmy_iff i, Bool.or_eq_true]
    constructor
    · rintro ⟨⟨h1, h2⟩, h3⟩
      refine ⟨h1, fun j hj => ?_⟩
      by_cases e : j = i
      · rw [e]; exact h3
      · exact h2 j (by omega)
    · rintro ⟨h1, h2⟩
      exact ⟨⟨h1, fun j hj => h2 j (by omega)⟩, h2 i (by omega)⟩
theorem mayM {U : List Nat} {t : GS} {k p m : Nat} {x2 : Int32} {K : Int32 → Int32 → Option GS} (ha : arr (t.1 75) U) (hv : wv U) (hL : U.length ≤ 18) (hk : k < 128) (hp : p < U.length) (h81 : t.1 81 k = nI m) (hm : m < 2 ^ 31) : F_M_laySets_62 75 x2 (nI k) (nI p) t K 50000 (if zmy U m p 0 = true then 1 else 0) 0 = K (if zmy U m p p = true then 1 else 0) (nI p) := by
  refine lpE (G := fun n i (b : Int32) => F_M_laySets_62 75 x2 (nI k) (nI p) t K n b (nI i)) (P := fun o => o = K (if zmy U m p p = true then 1 else 0) (nI p)) (Inv := fun i b => b = if zmy U m p i = true then 1 else 0) (N := p) ?_ ?_ p 0 50000 _ (by omega) (by omega) rfl
  · intro n i b hi h
    refine Or.inr ⟨if zmy U m p (i + 1) = true then 1 else 0, ?_, rfl⟩
    show F_M_laySets_62 75 x2 (nI k) (nI p) t K (n + 1) b (nI i) = F_M_laySets_62 75 x2 (nI k) (nI p) t K n _ (nI (i + 1))
    rw [F_M_laySets_62.eq_2, if_neg (nI_ge hi (by omega)), nI_1, h, zmy_s]
    by_cases z : zmy U m p i = true
    · rw [if_pos z, if_neg (by decide), gi hk (by decide), jn_s, c31 (n := k) (by omega), h81, z, Bool.true_and]
      by_cases y : m.testBit i = true
      · rw [if_pos ((bitI hm (by omega)).mpr y), y, Bool.true_or, if_pos rfl]
      · rw [if_neg (fun q => y ((bitI hm (by omega)).mp q)), gi (by omega) (by decide), gi (by omega) (by decide), c31 (n := i) (by omega), c31 (n := p) (by omega), ha i (by omega), ha p hp, bp_s (nbM _ (getD_lt hv (by omega)) _ (getD_lt hv hp)), Bool.eq_false_iff.mpr y, Bool.false_or]
        by_cases x : nb (U.getD i 0) (U.getD p 0) = true
        · rw [if_pos x, if_neg (by decide)]
        · rw [if_neg x, if_pos rfl]
    · rw [if_neg z, if_pos rfl, Bool.eq_false_iff.mpr z, Bool.false_and]
      rfl
  · intro n b h
    show F_M_laySets_62 75 x2 (nI k) (nI p) t K (n + 1) b (nI p) = _
    rw [F_M_laySets_62.eq_2, if_pos (nI_le (Nat.le_refl _) (by omega)), h]
-- what the sets so far are
def zws (U C : List Nat) (k p j : Nat) : Nat := zsm (fun q => if zlas U (C.getD j 0) q = true ∧ (zfl (C.getD j 0) q ∈ C.take k ∨ (zfl (C.getD j 0) q = C.getD k 0 ∧ q < p)) then zT U (zpc (C.getD j 0) U.length - 1) (zfl (C.getD j 0) q) else 0) U.length
def MV (U C : List Nat) (Wy : Nat → Nat) (k p : Nat) : Prop := C.Nodup ∧ (∀ x ∈ C, Idl U x) ∧ 0 < C.length ∧ C.getD 0 0 = 0 ∧ (∀ i j, i ≤ j → j < C.length → zpc (C.getD i 0) U.length ≤ zpc (C.getD j 0) U.length) ∧ (k < C.length → ∀ j, j < C.length → zpc (C.getD j 0) U.length ≤ zpc (C.getD k 0) U.length + 1) ∧ (∀ k', k' < k → ∀ q, q < U.length → zad U (C.getD k' 0) q → zfl (C.getD k' 0) q ∈ C) ∧ (∀ q, q < p → zad U (C.getD k 0) q → zfl (C.getD k 0) q ∈ C) ∧ (∀ j, 0 < j → j < C.length → Wy j = zws U C k p j) ∧ Wy 0 = 1
/-- a place may not come next: nothing changes -/
theorem MV.skip {U C : List Nat} {Wy : Nat → Nat} {k p : Nat} (h : MV U C Wy k p) (hp : p < U.length) (hn : ¬ zad U (C.getD k 0) p) : MV U C Wy k (p + 1) := by
  obtain ⟨h1, h2, h3, h4, h5, h6, h7, h8, h9, h10⟩ := h
  refine ⟨h1, h2, h3, h4, h5, h6, h7, fun q hq ha => ?_, fun j j0 hj => ?_, h10⟩
  · by_cases e : q = p
    · rw [e] at ha; exact absurd ha hn
    · exact h8 q (by omega) ha
  · rw [h9 j j0 hj]
    unfold zws
    refine zsm_congr _ fun q hq => ?_
    by_cases e : q = p
    · subst e
      have : zlas U (C.getD j 0) q = true → zfl (C.getD j 0) q ≠ C.getD k 0 := fun hl e2 => hn (by
        have hb := ((zlas_iff hq).mp hl).1
        rw [← e2]
        exact zad_of hq (by rw [zfl_p, hb]; rfl) (by rw [zfl_zfl]; exact h2 _ (getD_mem hj)))
      by_cases z : zlas U (C.getD j 0) q = true ∧ zfl (C.getD j 0) q ∈ C.take k
      · rw [if_pos ⟨z.1, Or.inl z.2⟩, if_pos ⟨z.1, Or.inl z.2⟩]
      · rw [if_neg (fun y => y.2.elim (fun x => z ⟨y.1, x⟩) (fun x => this y.1 x.1)), if_neg (fun y => y.2.elim (fun x => z ⟨y.1, x⟩) (fun x => this y.1 x.1))]
    · have e1 : (q < p) ↔ (q < p + 1) := by omega
      simp only [e1]
theorem MV.add {U C : List Nat} {Wy Wy' : Nat → Nat} {k p : Nat} (h : MV U C Wy k p) (hk : k < C.length) (hp : p < U.length) (ha : zad U (C.getD k 0) p) (hWk : Wy k = zT U (zpc (C.getD k 0) U.length) (C.getD k 0)) (w1 : ∀ j, j < C.length → C.getD j 0 ≠ zfl (C.getD k 0) p → Wy' j = Wy j) (w2 : ∀ j, j < C.length → C.getD j 0 = zfl (C.getD k 0) p → Wy' j = Wy j + Wy k) (w3 : zfl (C.getD k 0) p ∉ C → Wy' C.length = Wy k) : MV U (zins C (zfl (C.getD k 0) p)) Wy' k (p + 1) ∧ (zins C (zfl (C.getD k 0) p)).getD k 0 = C.getD k 0 ∧ C.length ≤ (zins C (zfl (C.getD k 0) p)).length ∧ Wy' k = Wy k := by
  obtain ⟨h1, h2, h3, h4, h5, h6, h7, h8, h9, h10⟩ := h
  have hI := h2 _ (getD_mem hk)
  have hI' := idl_ad hI hp ha
  have hpc' : zpc (zfl (C.getD k 0) p) U.length = zpc (C.getD k 0) U.length + 1 := by rw [zpc_on ha.1, if_pos hp]
  have hne : ∀ j, j < C.length → j ≤ k → C.getD j 0 ≠ zfl (C.getD k 0) p := fun j hj hjk e => by
    have := h5 j k hjk hk
    rw [e, hpc'] at this
    omega
  have hWy'k : Wy' k = Wy k := w1 k hk (hne k hk (Nat.le_refl _))
  have h0' : Wy' 0 = 1 := by rw [w1 0 h3 (hne 0 h3 (Nat.zero_le _)), h10]
  have hktk : C.getD k 0 ∉ C.take k := fun q => by
    obtain ⟨j, g1, g2, g3⟩ := mem_tk.mp q
    have := nd_getD h1 g2 hk g3
    omega
  -- the old sets, over C
  have hold : ∀ j, 0 < j → j < C.length → Wy' j = zws U C k (p + 1) j := fun j j0 hj => by
    by_cases e : C.getD j 0 = zfl (C.getD k 0) p
    · rw [w2 j hj e, h9 j j0 hj, hWk]
      unfold zws
      refine (zsm_upd (j := p) U.length hp ?_ fun q hq hqp => ?_).symm
      · have hz : zfl (C.getD j 0) p = C.getD k 0 := by rw [e, zfl_zfl]
        have hl : zlas U (C.getD j 0) p = true := by rw [e]; exact zlas_of hp ha.1 hI
        rw [if_pos ⟨hl, Or.inr ⟨hz, by omega⟩⟩, if_neg (fun y => y.2.elim (fun x => hktk (by rw [← hz]; exact x)) (fun x => by omega)), hz, e, hpc', Nat.zero_add, Nat.add_sub_cancel]
      · have e1 : (q < p) ↔ (q < p + 1) := by omega
        simp only [e1]
    · rw [w1 j hj e, h9 j j0 hj]
      unfold zws
      refine zsm_congr _ fun q hq => ?_
      by_cases eq : q = p
      · subst eq
        have : zfl (C.getD j 0) q ≠ C.getD k 0 := fun z => e (by rw [← z, zfl_zfl])
        by_cases z : zlas U (C.getD j 0) q = true ∧ zfl (C.getD j 0) q ∈ C.take k
        · rw [if_pos ⟨z.1, Or.inl z.2⟩, if_pos ⟨z.1, Or.inl z.2⟩]
        · rw [if_neg (fun y => y.2.elim (fun x => z ⟨y.1, x⟩) (fun x => this x.1)), if_neg (fun y => y.2.elim (fun x => z ⟨y.1, x⟩) (fun x => this x.1))]
      · have e1 : (q < p) ↔ (q < p + 1) := by omega
        simp only [e1]
  by_cases hmem : zfl (C.getD k 0) p ∈ C
  · have ez : zins C (zfl (C.getD k 0) p) = C := if_pos hmem
    rw [ez]
    refine ⟨⟨h1, h2, h3, h4, h5, h6, h7, fun q hq hq2 => ?_, hold, h0'⟩, rfl, Nat.le_refl _, hWy'k⟩
    by_cases e : q = p
    · rw [e]; exact hmem
    · exact h8 q (by omega) hq2
  · have ez : zins C (zfl (C.getD k 0) p) = C ++ [zfl (C.getD k 0) p] := if_neg hmem
    have gl : ∀ j, j < C.length → (C ++ [zfl (C.getD k 0) p]).getD j 0 = C.getD j 0 := fun j hj => getD_l hj
    have tk : (C ++ [zfl (C.getD k 0) p]).take k = C.take k := List.take_append_of_le_length (by omega)
    rw [ez]
    refine ⟨⟨?_, fun x hx => ?_, by rw [List.length_append]; omega, by rw [gl 0 h3]; exact h4, fun i j hij hj => ?_, fun _ j hj => ?_, fun k' hk' q hq hq2 => ?_, fun q hq hq2 => ?_, fun j j0 hj => ?_, h0'⟩, gl k hk, by rw [List.length_append]; omega, hWy'k⟩
    · rw [← ez]; exact zins_nd h1
    · rcases List.mem_append.mp hx with z | z
      · exact h2 x z
      · rw [List.mem_singleton.mp z]; exact hI'
    · rw [List.length_append, List.length_singleton] at hj
      by_cases e : j = C.length
      · subst e
        rw [getD_last, hpc']
        by_cases ei : i = C.length
        · rw [ei, getD_last, hpc']
          exact Nat.le_refl _
        · rw [gl i (by omega)]
          exact h6 hk i (by omega)
      · rw [gl j (by omega), gl i (by omega)]
        exact h5 i j hij (by omega)
    · rw [List.length_append, List.length_singleton] at hj
      rw [gl k hk]
      by_cases e : j = C.length
      · rw [e, getD_last, hpc']
        exact Nat.le_refl _
      · rw [gl j (by omega)]
        exact h6 hk j (by omega)
    · rw [gl k' (by omega)] at hq2 ⊢
      exact List.mem_append_left _ (h7 k' hk' q hq hq2)
    · rw [gl k hk] at hq2 ⊢
      by_cases e : q = p
      · rw [e]; simp
      · exact List.mem_append_left _ (h8 q (by omega) hq2)
    · rw [List.length_append, List.length_singleton] at hj
      by_cases e : j = C.length
      · subst e
        rw [w3 hmem, hWk]
        unfold zws
        rw [getD_last, tk, gl k hk]
        have hz0 : ∀ n, zsm (fun _ => 0) n = 0 := by
          intro n
          induction n with
          | zero => rfl
          | succ n ih => rw [zsm_s, ih]
        have := zsm_upd (f := fun _ => 0) (g := fun q => if zlas U (zfl (C.getD k 0) p) q = true ∧ (zfl (zfl (C.getD k 0) p) q ∈ C.take k ∨ (zfl (zfl (C.getD k 0) p) q = C.getD k 0 ∧ q < p + 1)) then zT U (zpc (zfl (C.getD k 0) p) U.length - 1) (zfl (zfl (C.getD k 0) p) q) else 0) (d := zT U (zpc (C.getD k 0) U.length) (C.getD k 0)) (j := p) U.length hp ?_ fun q hq hqp => ?_
        · rw [this, hz0, Nat.zero_add]
        · rw [if_pos ⟨zlas_of hp ha.1 hI, Or.inr ⟨zfl_zfl _ _, by omega⟩⟩, zfl_zfl, hpc', Nat.add_sub_cancel, Nat.zero_add]
        · rw [if_neg]
          rintro ⟨hl, hx | ⟨hx, -⟩⟩
          · obtain ⟨k', g1, g2, g3⟩ := mem_tk.mp hx
            have hb := ((zlas_iff hq).mp hl).1
            have := h7 k' g1 q hq (by rw [g3]; exact zad_of hq (by rw [zfl_p, hb]; rfl) (by rw [zfl_zfl]; exact hI'))
            rw [g3, zfl_zfl] at this
            exact hmem this
          · have e2 : zfl (zfl (C.getD k 0) p) q = zfl (zfl (C.getD k 0) p) p := by rw [hx, zfl_zfl]
            exact hqp (zfl_inj e2)
      · rw [hold j j0 (by omega)]
        unfold zws
        rw [gl j (by omega), tk, gl k hk]
/-- what is smaller has come before -/
theorem MV.compl {U C : List Nat} {Wy : Nat → Nat} {k : Nat} (h : MV U C Wy k 0) (hk : k ≤ C.length) {B : Nat} (hB : ∀ j, k ≤ j → j < C.length → B ≤ zpc (C.getD j 0) U.length) (h0 : 0 < k) : ∀ e m, zpc m U.length = e → Idl U m → e < B → m ∈ C.take k := by
  obtain ⟨h1, h2, h3, h4, h5, h6, h7, h8, h9, h10⟩ := h
  intro e
  induction e with
  | zero =>
    intro m hm hI _
    rw [zero_of hI hm]
    exact mem_tk.mpr ⟨0, h0, h3, h4⟩
  | succ e ih =>
    intro m hm hI hlt
    obtain ⟨p, hp, hl⟩ := ex_las (w := U) (m := m) (by omega)
    have hb := ((zlas_iff hp).mp hl).1
    have hpc := zpc_off hb hp
    have hin := ih (zfl m p) (by omega) (idl_las hI hp hl) (by omega)
    obtain ⟨k', g1, g2, g3⟩ := mem_tk.mp hin
    have := h7 k' g1 p hp (by rw [g3]; exact zad_of hp (by rw [zfl_p, hb]; rfl) (by rw [zfl_zfl]; exact hI))
    rw [g3, zfl_zfl] at this
    obtain ⟨j, hj, ej⟩ := mem_getD this
    by_cases z : j < k
    · exact mem_tk.mpr ⟨j, z, hj, ej⟩
    · have := hB j (by omega) hj
      rw [ej] at this
      omega
theorem MV.val {U C : List Nat} {Wy : Nat → Nat} {k K : Nat} (h : MV U C Wy K 0) (hk : k < C.length) (hin : 0 < k → ∀ q, q < U.length → zlas U (C.getD k 0) q = true → zfl (C.getD k 0) q ∈ C.take K) : Wy k = zT U (zpc (C.getD k 0) U.length) (C.getD k 0) := by
  obtain ⟨h1, h2, h3, h4, h5, h6, h7, h8, h9, h10⟩ := h
  by_cases e : k = 0
  · rw [e, h10, h4, zpc_zero]
    rfl
  · have hpc : zpc (C.getD k 0) U.length ≠ 0 := fun q => e (nd_getD h1 hk h3 (by rw [zero_of (h2 _ (getD_mem hk)) q, h4]))
    obtain ⟨n, hn⟩ : ∃ n, zpc (C.getD k 0) U.length = n + 1 := ⟨zpc (C.getD k 0) U.length - 1, by omega⟩
    rw [h9 k (by omega) hk, hn, zT_s]
    unfold zws
    rw [hn, Nat.add_sub_cancel]
    refine zsm_congr _ fun q hq => ?_
    by_cases z : zlas U (C.getD k 0) q = true
    · rw [if_pos ⟨z, Or.inl (hin (by omega) q hq z)⟩, if_pos z]
    · rw [if_neg (fun y => z y.1), if_neg z]
