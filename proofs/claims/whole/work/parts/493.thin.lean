/-! thin -/
def mnl (g : Nat → Nat) : Nat → Nat
  | 0 => g 0
  | k + 1 => if g (k + 1) < mnl g k then g (k + 1) else mnl g k
theorem mnl_s (g : Nat → Nat) (k : Nat) : mnl g (k + 1) = if g (k + 1) < mnl g k then g (k + 1) else mnl g k := rfl
theorem mnl_le {g : Nat → Nat} {B : Nat} (h : ∀ k, g k ≤ B) : ∀ n, mnl g n ≤ B
  | 0 => h 0
  | n + 1 => by
    rw [mnl_s]
    have := mnl_le h n
    have := h (n + 1)
    split <;> omega
/-- as the model finds it -/
def mlt (g : Nat → Nat) : Nat → Nat
  | 0 => 99
  | k + 1 => if mlt g k ≤ g k then mlt g k else g k
theorem mlt_s (g : Nat → Nat) (k : Nat) : mlt g (k + 1) = if mlt g k ≤ g k then mlt g k else g k := rfl
theorem mlt_eq {g : Nat → Nat} (h : ∀ k, g k ≤ 64) : ∀ n, mlt g (n + 1) = mnl g n
  | 0 => by
    have := h 0
    rw [mlt_s, show mlt g 0 = 99 from rfl, if_neg (by omega)]
    rfl
  | n + 1 => by
    rw [mlt_s, mlt_eq h n, mnl_s]
    by_cases q : g (n + 1) < mnl g n
    · rw [if_pos q, if_neg (by omega)]
    · rw [if_neg q, if_pos (by omega)]
theorem mlt_le {g : Nat → Nat} : ∀ n, mlt g n ≤ 99
  | 0 => Nat.le_refl _
  | n + 1 => by
    have := mlt_le (g := g) n
    rw [mlt_s]
    split <;> omega
def nl (X F : List Nat) (k : Nat) : Nat := (fo X (F.take k)).length
theorem nl_le {X F : List Nat} (h : X.length + F.length ≤ 64) (k : Nat) : nl X F k ≤ 64 := by
  have h1 := len_fo_le X (F.take k)
  rw [List.length_take] at h1
  unfold nl
  omega
theorem alongX {w : Nat} {X F : List Nat} {σ : GS} (hw : w ∉ [48, 49]) (hw2 : w + 1 ∉ [48, 49]) (hX : Rep σ 48 X) (hF : Rep σ w F) (hl : X.length + F.length < 64) : ∃ σ', F_Tr_nearestAlong w σ = some (nI (mnl (nl X F) F.length), σ') ∧ Fr [48, 49] σ σ' := by
  unfold F_Tr_nearestAlong
  rw [jn_s]
  refine lpE (G := fun n i (t : Int32 × GS) => F_Tr_nearestAlong_10 w (fun (v2_1 : Int32) (v3_1 : Int32) (σL1 : GS) => some (v2_1, σL1)) n t.1 (nI i) t.2) (P := fun o => ∃ σ', o = some (nI (mnl (nl X F) F.length), σ') ∧ Fr [48, 49] σ σ') (Inv := fun i t => t.1 = nI (mnl (nl X F) i) ∧ Rep t.2 48 (fo X (F.take i)) ∧ Fr [48, 49] σ t.2) (N := F.length) ?_ ?_ F.length 0 50000 (σ.1 48 1, σ) (by omega) (by omega) ⟨hX.1, hX, Fr.refl _ _⟩
  · rintro k i ⟨t1, t⟩ hi ⟨h1, h2, h3⟩
    have h1 : t1 = nI (mnl (nl X F) i) := h1
    have h2 : Rep t 48 (fo X (F.take i)) := h2
    have h3 : Fr [48, 49] σ t := h3
    have hF' : Rep t w F := hF.fr h3 hw hw2
    have hb := len_fo_le X (F.take i)
    rw [List.length_take] at hb
    obtain ⟨t', e, r, f⟩ := go_spec h2 (s := F.getD i 0) (by omega) (getD_lt hF.2.2.2 hi)
    have eq : go (fo X (F.take i)) (F.getD i 0) = fo X (F.take (i + 1)) := by rw [take_snoc hi, fo_snoc]
    rw [eq] at r
    refine Or.inr ⟨(nI (mnl (nl X F) (i + 1)), t'), ?_, rfl, r, h3.trans f⟩
    show F_Tr_nearestAlong_10 w _ (k + 1) t1 (nI i) t = F_Tr_nearestAlong_10 w _ k (nI (mnl (nl X F) (i + 1))) (nI (i + 1)) t'
    have hm := mnl_le (nl_le (X := X) (F := F) (by omega)) i
    have hm2 := nl_le (X := X) (F := F) (by omega) (i + 1)
    have hr : t'.1 48 1 = nI (nl X F (i + 1)) := r.1
    rw [F_Tr_nearestAlong_10.eq_2, hF'.1, if_neg (nI_ge hi (by omega)), bp_s (streetAt_spec hF' hi), bv_s e, hr, nI_1, h1, mnl_s]
    by_cases q : nl X F (i + 1) < mnl (nl X F) i
    · rw [if_pos (nI_lt q (by omega)), if_pos q]
    · rw [if_neg (nI_nlt (by omega) (by omega)), if_neg q]
  · rintro k ⟨t1, t⟩ ⟨h1, h2, h3⟩
    have h1 : t1 = nI (mnl (nl X F) F.length) := h1
    have h3 : Fr [48, 49] σ t := h3
    have hF' : Rep t w F := hF.fr h3 hw hw2
    refine ⟨t, ?_, h3⟩
    show F_Tr_nearestAlong_10 w _ (k + 1) t1 (nI F.length) t = _
    rw [F_Tr_nearestAlong_10.eq_2, hF'.1, if_pos (nI_le (Nat.le_refl _) (by omega)), h1]
theorem rev_getD {w : List Nat} {i d : Nat} (hi : i ≤ w.length) (hd : d < i) : (w.take i).reverse.getD d 0 = w.getD (i - 1 - d) 0 := by
  rw [List.getD_eq_getElem?_getD, List.getD_eq_getElem?_getD, List.getElem?_reverse (by rw [List.length_take]; omega), List.length_take, Nat.min_eq_left hi, List.getElem?_take_of_lt (by omega)]
theorem rev_len {w : List Nat} {i : Nat} (hi : i ≤ w.length) : (w.take i).reverse.length = i := by rw [List.length_reverse, List.length_take]; omega
theorem firstX {S F : List Nat} {p : Nat} {σ : GS} (hS : Rep σ 42 S) (hF : Rep σ 44 F) (hp : p ≤ S.length) (hl : S.length + F.length < 64) : ∃ σ', F_Tr_nearestFromFirst (nI p) σ = some (nI (mnl (nl (nf (S.take p).reverse) F) F.length), σ') ∧ Fr [48, 49] σ σ' := by
  unfold F_Tr_nearestFromFirst
  have hrl := rev_len hp
  have hvr : wv (S.take p).reverse := wv_rev (wv_take hS.2.2.2 p)
  have hnl := len_nf_le (S.take p).reverse
  rw [bv_s (clear_spec (w := 48) (σ := σ)).1, jn_s]
  refine lpE (G := fun n d (t : GS) => F_Tr_nearestFromFirst_11 (fun (v2_3 : Int32) (σL3 : GS) => bc (F_Tr_nearestAlong 44 σL3) (fun (r5 : Int32) (σ6 : GS) => some (r5, σ6))) n (nI (p - d) - 1) t) (P := fun o => ∃ σ', o = some (nI (mnl (nl (nf (S.take p).reverse) F) F.length), σ') ∧ Fr [48, 49] σ σ') (Inv := fun d t => Rep t 48 (nf ((S.take p).reverse.take d)) ∧ Fr [48, 49] σ t) (N := p) ?_ ?_ p 0 50000 _ (by omega) (by omega) ⟨(clear_spec (w := 48) (σ := σ)).2, Fr.s1 (by simp)⟩
  · intro k d t hd ⟨h1, h2⟩
    have hS' : Rep t 42 S := hS.fr h2 (by simp) (by simp)
    obtain ⟨t', e, r, f⟩ := goX_next hvr (by omega) (by omega) h1
    rw [rev_getD hp hd] at e
    refine Or.inr ⟨t', ?_, r, h2.trans f⟩
    show F_Tr_nearestFromFirst_11 _ (k + 1) (nI (p - d) - 1) t = F_Tr_nearestFromFirst_11 _ k (nI (p - (d + 1)) - 1) t'
    rw [sub1 (m := p - d) (by omega), F_Tr_nearestFromFirst_11.eq_2, if_neg (nI_pos (by omega)), show p - d - 1 = p - 1 - d by omega, bp_s (streetAt_spec hS' (by omega)), bv_s e, show p - (d + 1) = p - 1 - d by omega, Int32.sub_eq_add_neg]
  · intro k t ⟨h1, h2⟩
    rw [List.take_of_length_le (by omega)] at h1
    obtain ⟨t', e, f⟩ := alongX (w := 44) (by decide) (by decide) h1 (hF.fr h2 (by simp) (by simp)) (by omega)
    refine ⟨t', ?_, h2.trans f⟩
    show F_Tr_nearestFromFirst_11 _ (k + 1) (nI (p - p) - 1) t = _
    rw [Nat.sub_self, F_Tr_nearestFromFirst_11.eq_2, if_pos (by decide), bc_s e]
theorem secondX {S F : List Nat} {p : Nat} {σ : GS} (hS : Rep σ 42 S) (hF : Rep σ 46 F) (hp : p ≤ S.length) (hl : S.length + F.length < 64) : ∃ σ', F_Tr_nearestFromSecond (nI p) σ = some (nI (mnl (nl (nf (S.drop p)) F) F.length), σ') ∧ Fr [48, 49] σ σ' := by
  unfold F_Tr_nearestFromSecond
  have hdl : (S.drop p).length = S.length - p := List.length_drop
  have hg : ∀ d, (S.drop p).getD d 0 = S.getD (p + d) 0 := fun d => by rw [List.getD_eq_getElem?_getD, List.getD_eq_getElem?_getD, List.getElem?_drop]
  have hvr : wv (S.drop p) := wv_drop hS.2.2.2 p
  have hnl := len_nf_le (S.drop p)
  rw [bv_s (clear_spec (w := 48) (σ := σ)).1, jn_s]
  refine lpE (G := fun n d (t : GS) => F_Tr_nearestFromSecond_9 (fun (v2_3 : Int32) (σL3 : GS) => bc (F_Tr_nearestAlong 46 σL3) (fun (r5 : Int32) (σ6 : GS) => some (r5, σ6))) n (nI (p + d)) t) (P := fun o => ∃ σ', o = some (nI (mnl (nl (nf (S.drop p)) F) F.length), σ') ∧ Fr [48, 49] σ σ') (Inv := fun d t => Rep t 48 (nf ((S.drop p).take d)) ∧ Fr [48, 49] σ t) (N := S.length - p) ?_ ?_ (S.length - p) 0 50000 _ (by omega) (by omega) ⟨(clear_spec (w := 48) (σ := σ)).2, Fr.s1 (by simp)⟩
  · intro k d t hd ⟨h1, h2⟩
    have hS' : Rep t 42 S := hS.fr h2 (by simp) (by simp)
    obtain ⟨t', e, r, f⟩ := goX_next hvr (by omega) (by omega) h1
    rw [hg d] at e
    refine Or.inr ⟨t', ?_, r, h2.trans f⟩
    show F_Tr_nearestFromSecond_9 _ (k + 1) (nI (p + d)) t = F_Tr_nearestFromSecond_9 _ k (nI (p + (d + 1))) t'
    rw [F_Tr_nearestFromSecond_9.eq_2, hS'.1, if_neg (nI_ge (by omega) (by omega)), bp_s (streetAt_spec hS' (by omega)), bv_s e, nI_1, Nat.add_assoc]
  · intro k t ⟨h1, h2⟩
    have hS' : Rep t 42 S := hS.fr h2 (by simp) (by simp)
    rw [List.take_of_length_le (by omega)] at h1
    obtain ⟨t', e, f⟩ := alongX (w := 46) (by decide) (by decide) h1 (hF.fr h2 (by simp) (by simp)) (by omega)
    refine ⟨t', ?_, h2.trans f⟩
    show F_Tr_nearestFromSecond_9 _ (k + 1) (nI (p + (S.length - p))) t = _
    rw [F_Tr_nearestFromSecond_9.eq_2, hS'.1, if_pos (nI_le (by omega) (by omega)), bc_s e]
/-- the most of the least ones -/
def thn (A B : Nat → Nat) : Nat → Nat
  | 0 => 0
  | p + 1 => if thn A B p < (if B p < A p then B p else A p) then (if B p < A p then B p else A p) else thn A B p
theorem thn_s (A B : Nat → Nat) (p : Nat) : thn A B (p + 1) = if thn A B p < (if B p < A p then B p else A p) then (if B p < A p then B p else A p) else thn A B p := rfl
theorem thn_le {A B : Nat → Nat} (h : ∀ k, A k ≤ 64) : ∀ n, thn A B n ≤ 64
  | 0 => Nat.zero_le _
  | n + 1 => by
    have := thn_le (B := B) h n
    have := h n
    rw [thn_s]
    repeat' split
    all_goals omega
theorem widthX {a b c : Nat} {σ : GS} (ha : isC a = true) (hb : isC b = true) (hc : isC c = true) : ∃ σ', F_Tr_width (nI a) (nI b) (nI c) σ = some (nI (thn (fun p => mnl (nl (nf ((nf (dg a ++ wd b)).take p).reverse) (nf (dg a ++ wd c))) (nf (dg a ++ wd c)).length) (fun p => mnl (nl (nf ((nf (dg a ++ wd b)).drop p)) (nf (dg b ++ wd c))) (nf (dg b ++ wd c)).length) ((nf (dg a ++ wd b)).length + 1)), σ') ∧ Fr [42, 43, 44, 45, 46, 47, 48, 49] σ σ' := by
  obtain ⟨σ1, e1, r1, f1⟩ := way_spec (w := 42) (σ := σ) ha hb
  obtain ⟨σ2, e2, r2, f2⟩ := way_spec (w := 44) (σ := σ1) ha hc
  obtain ⟨σ3, e3, r3, f3⟩ := way_spec (w := 46) (σ := σ2) hb hc
  have l1 := len_way ha hb
  have l2 := len_way ha hc
  have l3 := len_way hb hc
  generalize nf (dg a ++ wd b) = S at *
  generalize nf (dg a ++ wd c) = F at *
  generalize nf (dg b ++ wd c) = G at *
  have r1 : Rep σ3 42 S := (r1.fr f2 (by simp) (by simp)).fr f3 (by simp) (by simp)
  have r2 : Rep σ3 44 F := r2.fr f3 (by simp) (by simp)
  unfold F_Tr_width
  rw [bv_s e1, bv_s e2, bv_s e3, jn_s]
  have f123 : Fr [42, 43, 44, 45, 46, 47, 48, 49] σ σ3 := ((f1.mono (by simp)).trans (f2.mono (by simp))).trans (f3.mono (by simp))
  generalize hA : (fun p => mnl (nl (nf (S.take p).reverse) F) F.length) = A
  generalize hB : (fun p => mnl (nl (nf (S.drop p)) G) G.length) = B
  have hA64 : ∀ p, A p ≤ 64 := fun p => by
    rw [← hA]
    refine mnl_le (nl_le ?_) _
    have := len_nf_le (S.take p).reverse
    rw [List.length_reverse, List.length_take] at this
    omega
  have hB64 : ∀ p, B p ≤ 64 := fun p => by
    rw [← hB]
    refine mnl_le (nl_le ?_) _
    have := len_nf_le (S.drop p)
    rw [List.length_drop] at this
    omega
  refine lpE (G := fun n i (t : Int32 × GS) => F_Tr_width_33 (fun (v4_7 : Int32) (v5_7 : Int32) (σL7 : GS) => some (v4_7, σL7)) n t.1 (nI i) t.2) (P := fun o => ∃ σ', o = some (nI (thn A B (S.length + 1)), σ') ∧ Fr [42, 43, 44, 45, 46, 47, 48, 49] σ σ') (Inv := fun i t => t.1 = nI (thn A B i) ∧ Fr [48, 49] σ3 t.2) (N := S.length + 1) ?_ ?_ (S.length + 1) 0 50000 (0, σ3) (by omega) (by omega) ⟨rfl, Fr.refl _ _⟩
  · rintro k i ⟨t1, t⟩ hi ⟨h1, h3⟩
    have h1 : t1 = nI (thn A B i) := h1
    have h3 : Fr [48, 49] σ3 t := h3
    have s1' : Rep t 42 S := r1.fr h3 (by simp) (by simp)
    obtain ⟨t2, g1, k1⟩ := firstX (p := i) s1' (r2.fr h3 (by simp) (by simp)) (by omega) (by omega)
    obtain ⟨t3, g2, k2⟩ := secondX (p := i) (s1'.fr k1 (by simp) (by simp)) ((r3.fr h3 (by simp) (by simp)).fr k1 (by simp) (by simp)) (by omega) (by omega)
    have eA : mnl (nl (nf (S.take i).reverse) F) F.length = A i := by rw [← hA]
    have eB : mnl (nl (nf (S.drop i)) G) G.length = B i := by rw [← hB]
    rw [eA] at g1
    rw [eB] at g2
    refine Or.inr ⟨(nI (thn A B (i + 1)), t3), ?_, rfl, (h3.trans k1).trans k2⟩
    show F_Tr_width_33 _ (k + 1) t1 (nI i) t = F_Tr_width_33 _ k (nI (thn A B (i + 1))) (nI (i + 1)) t3
    have b1 := hA64 i
    have b2 := hB64 i
    have b3 := thn_le (B := B) hA64 i
    have em : (if nI (B i) < nI (A i) then nI (B i) else nI (A i)) = nI (if B i < A i then B i else A i) := by
      by_cases q : B i < A i
      · rw [if_pos (nI_lt q (by omega)), if_pos q]
      · rw [if_neg (nI_nlt (by omega) (by omega)), if_neg q]
    have b4 : (if B i < A i then B i else A i) ≤ 64 := by split <;> omega
    rw [F_Tr_width_33.eq_2, s1'.1, if_neg (nI_nlt (by omega) (by omega)), bc_s g1, bc_s g2, em, nI_1, h1, thn_s]
    by_cases q : thn A B i < (if B i < A i then B i else A i)
    · rw [if_pos (nI_lt q (by omega)), if_pos q]
    · rw [if_neg (nI_nlt (by omega) (by omega)), if_neg q]
  · rintro k ⟨t1, t⟩ ⟨h1, h3⟩
    have h1 : t1 = nI (thn A B (S.length + 1)) := h1
    have h3 : Fr [48, 49] σ3 t := h3
    have s1' : Rep t 42 S := r1.fr h3 (by simp) (by simp)
    refine ⟨t, ?_, f123.trans (h3.mono (by simp))⟩
    show F_Tr_width_33 _ (k + 1) t1 (nI (S.length + 1)) t = _
    rw [F_Tr_width_33.eq_2, s1'.1, if_pos (nI_lt (by omega) (by omega)), h1]
