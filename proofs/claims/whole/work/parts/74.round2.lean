/-! round: the class's tour -/
def stc (cs : List Nat) : Nat → Nat
  | 0 => 0
  | i + 1 => cs.getD i 0
theorem stc_ok {cs : List Nat} (hcs : ∀ i, i < cs.length → isC (cs.getD i 0) = true) : ∀ i, i ≤ cs.length → isC (stc cs i) = true
  | 0, _ => rfl
  | i + 1, h => hcs i (by omega)
def gp (cs : List Nat) (i j : Nat) : Nat := (nf (dg (stc cs i) ++ wd (stc cs j))).length
theorem gp_le {cs : List Nat} (hcs : ∀ i, i < cs.length → isC (cs.getD i 0) = true) {i j : Nat} (hi : i ≤ cs.length) (hj : j ≤ cs.length) : gp cs i j ≤ 18 := len_way (stc_ok hcs i hi) (stc_ok hcs j hj)
def lnF (cs o : List Nat) : Nat → Nat × Nat
  | 0 => (0, 0)
  | i + 1 => ((lnF cs o i).1 + gp cs (lnF cs o i).2 (o.getD i 0 + 1), o.getD i 0 + 1)
theorem lnF_s (cs o : List Nat) (i : Nat) : lnF cs o (i + 1) = ((lnF cs o i).1 + gp cs (lnF cs o i).2 (o.getD i 0 + 1), o.getD i 0 + 1) := rfl
def lno (cs o : List Nat) : Nat := (lnF cs o cs.length).1 + gp cs (lnF cs o cs.length).2 0
theorem lnF_ok {cs o : List Nat} (hcs : ∀ i, i < cs.length → isC (cs.getD i 0) = true) (ho : ∀ i, i < cs.length → o.getD i 0 < cs.length) : ∀ i, i ≤ cs.length → (lnF cs o i).2 ≤ cs.length ∧ (lnF cs o i).1 ≤ 18 * i
  | 0, _ => ⟨Nat.zero_le _, Nat.le_refl _⟩
  | i + 1, h => by
    obtain ⟨h1, h2⟩ := lnF_ok hcs ho i (by omega)
    have h3 := ho i (by omega)
    have h4 := gp_le hcs (i := (lnF cs o i).2) (j := o.getD i 0 + 1) h1 (by omega)
    rw [lnF_s]
    exact ⟨by show o.getD i 0 + 1 ≤ cs.length; omega, by show (lnF cs o i).1 + gp cs (lnF cs o i).2 (o.getD i 0 + 1) ≤ 18 * (i + 1); omega⟩
theorem lno_le {cs o : List Nat} (hl : cs.length ≤ 6) (hcs : ∀ i, i < cs.length → isC (cs.getD i 0) = true) (ho : ∀ i, i < cs.length → o.getD i 0 < cs.length) : lno cs o ≤ 126 := by
  obtain ⟨h1, h2⟩ := lnF_ok hcs ho cs.length (Nat.le_refl _)
  have h4 := gp_le hcs h1 (Nat.zero_le _)
  unfold lno
  omega
theorem ixz7 (i j : Nat) : nI i * (7 : Int32) + nI j = nI (7 * i + j) := by rw [show nI i * (7 : Int32) = nI (i * 7) from pk_mul i 7, nI_add, Nat.mul_comm]
theorem measIn {r i : Nat} {cs : List Nat} {t : GS} (hr : r < 6) (hl : cs.length ≤ 6) (hcs : ∀ i, i < cs.length → isC (cs.getD i 0) = true) (hi : i ≤ cs.length) (h50 : t.1 50 3 = nI cs.length) (ha : arr (t.1 (2 + r)) cs) : ∃ t', (∀ j, j ≤ cs.length → t'.1 51 (7 * i + j) = nI (gp cs i j)) ∧ (∀ q, q < 7 * i → t'.1 51 q = t.1 51 q) ∧ Fr [32, 33, 51] t t' ∧ ∀ K : Int32 → GS → Option GS, F_To_measure_34 (2 + r) (nI i) K 50000 0 t = K (nI (cs.length + 1)) t' := by
  have := lpE (G := fun f j (t1 : GS) => fun (K : Int32 → GS → Option GS) => F_To_measure_34 (2 + r) (nI i) K f (nI j) t1) (P := fun o => ∃ t', (∀ j, j ≤ cs.length → t'.1 51 (7 * i + j) = nI (gp cs i j)) ∧ (∀ q, q < 7 * i → t'.1 51 q = t.1 51 q) ∧ Fr [32, 33, 51] t t' ∧ ∀ K, o K = K (nI (cs.length + 1)) t') (Inv := fun j t1 => (∀ j', j' < j → t1.1 51 (7 * i + j') = nI (gp cs i j')) ∧ (∀ q, q < 7 * i → t1.1 51 q = t.1 51 q) ∧ Fr [32, 33, 51] t t1) (N := cs.length + 1) ?_ ?_ (cs.length + 1) 0 50000 t (by omega) (by omega) ⟨fun j' h => absurd h (Nat.not_lt_zero _), fun _ _ => rfl, Fr.refl _ _⟩
  · exact this
  · rintro f j t1 hj ⟨i1, i2, i3⟩
    have k50 : t1.1 50 3 = nI cs.length := by rw [i3.1 50 (by simp)]; exact h50
    have ka : arr (t1.1 (2 + r)) cs := by rw [i3.1 (2 + r) (by simp; omega)]; exact ha
    obtain ⟨t2, e2, r2, f2⟩ := way_spec (w := 32) (σ := t1) (stc_ok hcs i hi) (stc_ok hcs j (by omega))
    have r21 : t2.1 32 1 = nI (gp cs i j) := r2.1
    refine Or.inr ⟨s1 t2 51 (7 * i + j) (nI (gp cs i j)), ?_, fun j' hj' => ?_, fun q hq => ?_, i3.trans ((f2.mono (by simp)).trans (Fr.s1 (by simp)))⟩
    · funext K
      show F_To_measure_34 (2 + r) (nI i) K (f + 1) (nI j) t1 = F_To_measure_34 (2 + r) (nI i) K f (nI (j + 1)) _
      have e4 : F_To_measure_34 (2 + r) (nI i) K (f + 1) (nI j) t1 = bv (F_Wd_becomesWay 32 (nI (stc cs i)) (nI (stc cs j)) t1) (fun (σ7 : GS) => gd (iB ((nI i * (7 : Int32)) + nI j) 49) (jn (s1 σ7 51 (((nI i * (7 : Int32)) + nI j).toNatClampNeg) (σ7.1 32 1)) (fun (σ9 : GS) => F_To_measure_34 (2 + r) (nI i) K f (nI j + 1) σ9))) := by
        rw [F_To_measure_34.eq_2, k50, if_neg (nI_nlt (by omega) (by omega)), jn_s]
        cases i with
        | zero =>
          rw [if_pos (show nI 0 = (0 : Int32) from rfl)]
          dsimp only
          rw [jn_s]
          cases j with
          | zero =>
            rw [if_pos (show nI 0 = (0 : Int32) from rfl)]
            rfl
          | succ j =>
            rw [if_neg (nI_ne0 (by omega) (by omega)), nI_pred, gi (by omega) (by decide), c31 (n := j) (by omega), ka j (by omega)]
            rfl
        | succ i =>
          rw [if_neg (nI_ne0 (by omega) (by omega)), nI_pred i, gi (by omega) (by decide), c31 (n := i) (by omega), ka i (by omega)]
          dsimp only
          rw [jn_s]
          cases j with
          | zero =>
            rw [if_pos (show nI 0 = (0 : Int32) from rfl)]
            rfl
          | succ j =>
            rw [if_neg (nI_ne0 (by omega) (by omega)), nI_pred j, gi (by omega) (by decide), c31 (n := j) (by omega), ka j (by omega)]
            rfl
      rw [e4, bv_s e2, ixz7, gi (by omega) (by decide), c31 (by omega), r21, jn_s, nI_1]
    · by_cases z : j' = j
      · rw [z, s1_at]
      · rw [s1_i (by omega), f2.1 51 (by simp), i1 j' (by omega)]
    · rw [s1_i (by omega), f2.1 51 (by simp), i2 q hq]
  · rintro f t1 ⟨i1, i2, i3⟩
    refine ⟨t1, fun j hj => i1 j (by omega), i2, i3, fun K => ?_⟩
    show F_To_measure_34 (2 + r) (nI i) K (f + 1) (nI (cs.length + 1)) t1 = _
    rw [F_To_measure_34.eq_2, i3.1 50 (by simp), h50, if_pos (nI_lt (by omega) (by omega))]
theorem measX {r : Nat} {cs : List Nat} {σ : GS} (hr : r < 6) (hl : cs.length ≤ 6) (hcs : ∀ i, i < cs.length → isC (cs.getD i 0) = true) (ha : arr (σ.1 (2 + r)) cs) : ∃ σ', F_To_measure (2 + r) (nI cs.length) σ = some σ' ∧ σ'.1 50 3 = nI cs.length ∧ (∀ i j, i ≤ cs.length → j ≤ cs.length → σ'.1 51 (7 * i + j) = nI (gp cs i j)) ∧ Fr [32, 33, 50, 51] σ σ' := by
  unfold F_To_measure
  have e6 : (if (6 : Int32) < (40 : Int32) then (6 : Int32) else (40 : Int32)) = 6 := by decide
  have e1 : (if (6 : Int32) < nI cs.length then (6 : Int32) else nI cs.length) = nI cs.length := if_neg (show ¬ (6 : Int32) < nI cs.length from nI_nlt (a := 6) hl (by decide))
  have e2 : (if (0 : Int32) < nI cs.length then nI cs.length else (0 : Int32)) = nI cs.length := by
    by_cases q : cs.length = 0
    · rw [q]; decide
    · rw [if_pos (show (0 : Int32) < nI cs.length from nI_lt (a := 0) (by omega) (by omega))]
  rw [e6, e1, e2, jn_s, jn_s]
  refine lpE (G := fun f i (t1 : GS) => F_To_measure_22 (2 + r) (fun (v4_2 : Int32) (σL2 : GS) => some σL2) f (nI i) t1) (P := fun o => ∃ σ', o = some σ' ∧ σ'.1 50 3 = nI cs.length ∧ (∀ i j, i ≤ cs.length → j ≤ cs.length → σ'.1 51 (7 * i + j) = nI (gp cs i j)) ∧ Fr [32, 33, 50, 51] σ σ') (Inv := fun i t1 => t1.1 50 3 = nI cs.length ∧ (∀ i' j, i' < i → j ≤ cs.length → t1.1 51 (7 * i' + j) = nI (gp cs i' j)) ∧ Fr [32, 33, 50, 51] σ t1) (N := cs.length + 1) ?_ ?_ (cs.length + 1) 0 50000 (s1 σ 50 3 (nI cs.length)) (by omega) (by omega) ⟨s1_at _ _ _ _, fun i' j h => absurd h (Nat.not_lt_zero _), Fr.s1 (by simp)⟩
  · rintro f i t1 hi ⟨i1, i2, i3⟩
    obtain ⟨t2, a1, a2, a3, a4⟩ := measIn (i := i) hr hl hcs (by omega) i1 (by rw [i3.1 (2 + r) (by simp; omega)]; exact ha)
    refine Or.inr ⟨t2, ?_, by rw [a3.1 50 (by simp)]; exact i1, fun i' j hi' hj => ?_, i3.trans (a3.mono (by simp))⟩
    · show F_To_measure_22 (2 + r) _ (f + 1) (nI i) t1 = F_To_measure_22 (2 + r) _ f (nI (i + 1)) t2
      rw [F_To_measure_22.eq_2, i1, if_neg (nI_nlt (by omega) (by omega)), jn_s, a4, nI_1]
    · by_cases z : i' = i
      · rw [z]; exact a1 j hj
      · rw [a2 _ (by omega)]
        exact i2 i' j (by omega) hj
  · rintro f t1 ⟨i1, i2, i3⟩
    refine ⟨t1, ?_, i1, fun i j hi hj => i2 i j (by omega) hj, i3⟩
    show F_To_measure_22 (2 + r) _ (f + 1) (nI (cs.length + 1)) t1 = _
    rw [F_To_measure_22.eq_2, i1, if_pos (nI_lt (by omega) (by omega))]
def ZO (cs : List Nat) (t : GS) : Prop := t.1 50 3 = nI cs.length ∧ ∀ i j, i ≤ cs.length → j ≤ cs.length → t.1 51 (7 * i + j) = nI (gp cs i j)
theorem lenX {cs o : List Nat} {t : GS} (hl : cs.length ≤ 6) (hcs : ∀ i, i < cs.length → isC (cs.getD i 0) = true) (ho : o.length = cs.length) (hoo : ∀ i, i < cs.length → o.getD i 0 < cs.length) (hz : ZO cs t) (h52 : arr (t.1 52) o) : F_To_lengthOfOrder t = some (nI (lno cs o)) := by
  unfold F_To_lengthOfOrder
  rw [jn_s]
  refine lpE (G := fun f i (s : Int32 × Int32) => F_To_lengthOfOrder_6 t (fun (v1_1 : Int32) (v2_1 : Int32) (v3_1 : Int32) => gd (iB (v2_1 * (7 : Int32)) 49) (some (v1_1 + (t.1 51 (v2_1 * (7 : Int32)).toNatClampNeg)))) f s.1 s.2 (nI i)) (P := fun x => x = some (nI (lno cs o))) (Inv := fun i s => s.1 = nI (lnF cs o i).1 ∧ s.2 = nI (lnF cs o i).2) (N := cs.length) ?_ ?_ cs.length 0 50000 (0, 0) (by omega) (by omega) ⟨rfl, rfl⟩
  · rintro f i ⟨s1', s2'⟩ hi ⟨h1, h2⟩
    have h1 : s1' = nI (lnF cs o i).1 := h1
    have h2 : s2' = nI (lnF cs o i).2 := h2
    obtain ⟨b1, b2⟩ := lnF_ok hcs hoo i (by omega)
    have b3 := hoo i hi
    refine Or.inr ⟨(nI (lnF cs o (i + 1)).1, nI (lnF cs o (i + 1)).2), ?_, rfl, rfl⟩
    show F_To_lengthOfOrder_6 t _ (f + 1) s1' s2' (nI i) = F_To_lengthOfOrder_6 t _ f (nI (lnF cs o (i + 1)).1) (nI (lnF cs o (i + 1)).2) (nI (i + 1))
    have ex : nI (lnF cs o i).2 * (7 : Int32) + nI (o.getD i 0) + 1 = nI (7 * (lnF cs o i).2 + (o.getD i 0 + 1)) := by rw [ixz7, nI_1, Nat.add_assoc]
    rw [F_To_lengthOfOrder_6.eq_2, hz.1, if_neg (nI_ge hi (by omega)), gi (by omega) (by decide), c31 (n := i) (by omega), h52 i (by omega), h1, h2, ex, gi (by omega) (by decide), gi (by omega) (by decide), c31 (n := 7 * (lnF cs o i).2 + (o.getD i 0 + 1)) (by omega), hz.2 _ _ b1 (by omega), nI_add, nI_1 (o.getD i 0), nI_1 i, lnF_s]
  · rintro f ⟨s1', s2'⟩ ⟨h1, h2⟩
    have h1 : s1' = nI (lnF cs o cs.length).1 := h1
    have h2 : s2' = nI (lnF cs o cs.length).2 := h2
    obtain ⟨b1, b2⟩ := lnF_ok hcs hoo cs.length (Nat.le_refl _)
    show F_To_lengthOfOrder_6 t _ (f + 1) s1' s2' (nI cs.length) = _
    have e7 : nI (lnF cs o cs.length).2 * (7 : Int32) = nI (7 * (lnF cs o cs.length).2 + 0) := by rw [show nI (lnF cs o cs.length).2 * (7 : Int32) = nI ((lnF cs o cs.length).2 * 7) from pk_mul _ 7, Nat.mul_comm, Nat.add_zero]
    rw [F_To_lengthOfOrder_6.eq_2, hz.1, if_pos (nI_le (Nat.le_refl _) (by omega)), h1, h2, e7, gi (by omega) (by decide), c31 (by omega), hz.2 _ 0 b1 (Nat.zero_le _), nI_add]
    rfl
-- the next order
theorem pfa_le (o : List Nat) : ∀ i, pfa o i ≤ i
  | 0 => Nat.le_refl _
  | i + 1 => by
    have := pfa_le o i
    unfold pfa
    split <;> omega
theorem pgr_le (o : List Nat) (f : Nat) : ∀ i, pgr o f i ≤ i
  | 0 => Nat.le_refl _
  | i + 1 => by
    have := pgr_le o f i
    unfold pgr
    split
    · omega
    · split <;> omega
theorem pfa_s (o : List Nat) (i : Nat) : pfa o (i + 1) = if o.getD i 0 ≤ o.getD (i + 1) 0 then i + 1 else pfa o i := rfl
theorem pgr_s (o : List Nat) (f i : Nat) : pgr o f (i + 1) = if i + 1 ≤ f then i + 1 else if o.getD f 0 ≤ o.getD (i + 1) 0 then i + 1 else pgr o f i := rfl
theorem faX {o : List Nat} {t : GS} {K : Int32 → Option (Int32 × GS)} (hl : o.length ≤ 6) (hs : ∀ i, i < o.length → o.getD i 0 < 6) (h52 : arr (t.1 52) o) : ∀ i f, i + 1 ≤ o.length → i < f → F_To_stepOrder_7 t K f (nI i - 1) = K (nI (pfa o i) - 1) := by
  intro i
  induction i with
  | zero =>
    intro f _ hf
    obtain ⟨f, rfl⟩ : ∃ k, f = k + 1 := ⟨f - 1, by omega⟩
    rw [F_To_stepOrder_7.eq_2, if_pos (by decide)]
    rfl
  | succ i ih =>
    intro f hi hf
    obtain ⟨f, rfl⟩ : ∃ k, f = k + 1 := ⟨f - 1, by omega⟩
    have a1 := hs i (by omega)
    have a2 := hs (i + 1) (by omega)
    rw [nI_pred, F_To_stepOrder_7.eq_2, if_neg (nI_pos (by omega)), gi (by omega) (by decide), nI_1, gi (by omega) (by decide), c31 (n := i) (by omega), c31 (n := i + 1) (by omega), h52 i (by omega), h52 (i + 1) (by omega), pfa_s]
    by_cases q : o.getD i 0 ≤ o.getD (i + 1) 0
    · rw [if_pos (nI_le q (by omega)), if_pos q, nI_pred]
    · rw [if_neg (nI_ge (by omega) (by omega)), if_neg q, ← Int32.sub_eq_add_neg]
      exact ih f (by omega) (by omega)
theorem grX {o : List Nat} {t : GS} {f0 : Nat} {K : Int32 → Option (Int32 × GS)} (hl : o.length ≤ 6) (hs : ∀ i, i < o.length → o.getD i 0 < 6) (h52 : arr (t.1 52) o) (hf0 : f0 < o.length) : ∀ i f, i < o.length → i < f → F_To_stepOrder_47 (nI f0) t K f (nI i) = K (nI (pgr o f0 i)) := by
  intro i
  induction i with
  | zero =>
    intro f _ hf
    obtain ⟨f, rfl⟩ : ∃ k, f = k + 1 := ⟨f - 1, by omega⟩
    rw [F_To_stepOrder_47.eq_2, if_pos (nI_le (Nat.zero_le _) (by omega))]
    rfl
  | succ i ih =>
    intro f hi hf
    obtain ⟨f, rfl⟩ : ∃ k, f = k + 1 := ⟨f - 1, by omega⟩
    have a1 := hs f0 hf0
    have a2 := hs (i + 1) hi
    rw [F_To_stepOrder_47.eq_2, pgr_s]
    by_cases q : i + 1 ≤ f0
    · rw [if_pos (nI_le q (by omega)), if_pos q]
    · rw [if_neg (nI_ge (by omega) (by omega)), if_neg q, gi (by omega) (by decide), gi (by omega) (by decide), c31 (n := i + 1) (by omega), c31 (n := f0) (by omega), h52 f0 hf0, h52 (i + 1) hi]
      by_cases z : o.getD f0 0 ≤ o.getD (i + 1) 0
      · rw [if_pos (nI_le z (by omega)), if_pos z]
      · rw [if_neg (nI_ge (by omega) (by omega)), if_neg z, pk_m1]
        exact ih f (by omega) (by omega)
theorem zset_getD (l : List Nat) (i a k : Nat) (hi : i < l.length) : (l.set i a).getD k 0 = if k = i then a else l.getD k 0 := by
  rw [List.getD_eq_getElem?_getD, List.getD_eq_getElem?_getD, List.getElem?_set]
  by_cases e : k = i
  · rw [if_pos e.symm, if_pos e, if_pos (by omega)]
    rfl
  · rw [if_neg (fun q => e q.symm), if_neg e]
theorem psw_len (o : List Nat) (i j : Nat) : (psw o i j).length = o.length := by unfold psw; rw [List.length_set, List.length_set]
theorem exX {o : List Nat} {t : GS} {i j : Nat} (hl : o.length ≤ 6) (hi : i < o.length) (hj : j < o.length) (h52 : arr (t.1 52) o) : ∃ t', F_To_exchange (nI i) (nI j) t = some t' ∧ arr (t'.1 52) (psw o i j) ∧ Fr [52] t t' := by
  refine ⟨s1 (s1 t 52 i (nI (o.getD j 0))) 52 j (nI (o.getD i 0)), ?_, fun k hk => ?_, Fr.trans (Fr.s1 (by simp)) (Fr.s1 (by simp))⟩
  · unfold F_To_exchange
    rw [gi (by omega) (by decide), gi (by omega) (by decide), gi (by omega) (by decide), c31 (n := i) (by omega), c31 (n := j) (by omega), h52 j hj, h52 i hi, jn_s, gi (by omega) (by decide), jn_s]
  · rw [psw_len] at hk
    unfold psw
    rw [zset_getD _ _ _ _ (by rw [List.length_set]; exact hj), zset_getD _ _ _ _ hi]
    by_cases e : k = j
    · rw [e, s1_at, if_pos rfl]
    · rw [s1_i e, if_neg e]
      by_cases e2 : k = i
      · rw [e2, s1_at, if_pos rfl]
      · rw [s1_i e2, if_neg e2, h52 k hk]
theorem prv_s (o : List Nat) (i j d : Nat) : prv o i j (d + 1) = if j ≤ i then o else prv (psw o i j) (i + 1) (j - 1) d := rfl
theorem rvX : ∀ (d : Nat) (o : List Nat) (i j f : Nat) (t : GS), o.length ≤ 6 → j < o.length → i ≤ 6 → j ≤ i + 2 * d → d < f → arr (t.1 52) o → ∃ t' v3 v4, arr (t'.1 52) (prv o i j d) ∧ Fr [52] t t' ∧ ∀ K : Int32 → Int32 → GS → Option (Int32 × GS), F_To_stepOrder_91 K f (nI i) (nI j) t = K v3 v4 t' := by
  intro d
  induction d with
  | zero =>
    intro o i j f t hl hj hi hd hf h52
    obtain ⟨f, rfl⟩ : ∃ k, f = k + 1 := ⟨f - 1, by omega⟩
    exact ⟨t, nI i, nI j, h52, Fr.refl _ _, fun K => by rw [F_To_stepOrder_91.eq_2, if_pos (nI_le (by omega) (by omega))]⟩
  | succ d ih =>
    intro o i j f t hl hj hi hd hf h52
    obtain ⟨f, rfl⟩ : ∃ k, f = k + 1 := ⟨f - 1, by omega⟩
    rw [prv_s]
    by_cases q : j ≤ i
    · rw [if_pos q]
      exact ⟨t, nI i, nI j, h52, Fr.refl _ _, fun K => by rw [F_To_stepOrder_91.eq_2, if_pos (nI_le q (by omega))]⟩
    · rw [if_neg q]
      obtain ⟨t1, e1, a1, f1⟩ := exX hl (i := i) (j := j) (by omega) hj h52
      obtain ⟨t2, v3, v4, a2, f2, e2⟩ := ih (psw o i j) (i + 1) (j - 1) f t1 (by rw [psw_len]; exact hl) (by rw [psw_len]; omega) (by omega) (by omega) (by omega) a1
      refine ⟨t2, v3, v4, a2, f1.trans f2, fun K => ?_⟩
      have ej : nI j + (-1) = nI (j - 1) := by
        obtain ⟨j', rfl⟩ : ∃ k, j = k + 1 := ⟨j - 1, by omega⟩
        exact pk_m1 j'
      rw [F_To_stepOrder_91.eq_2, if_neg (nI_ge (by omega) (by omega)), bv_s e1, nI_1, ej, e2]
theorem n2m1 : ∀ k, k < 6 → nI (k + 1) - 2 = nI k - 1 := by decide +kernel
theorem stepX {o : List Nat} {t : GS} {n : Nat} (hn : n ≤ 6) (ho : o.length = n) (hs : ∀ i, i < o.length → o.getD i 0 < 6) (h50 : t.1 50 3 = nI n) (h52 : arr (t.1 52) o) : (pnx o = none → F_To_stepOrder t = some (0, t)) ∧ ∀ o', pnx o = some o' → ∃ t', F_To_stepOrder t = some (1, t') ∧ arr (t'.1 52) o' ∧ Fr [52] t t' := by
  cases n with
  | zero =>
    have e : o = [] := List.length_eq_zero_iff.mp ho
    subst e
    refine ⟨fun _ => ?_, fun o' h => by cases h⟩
    unfold F_To_stepOrder
    rw [jn_s, h50]
    have : ∀ f (K : Int32 → Option (Int32 × GS)), F_To_stepOrder_7 t K (f + 1) (nI 0 - 2) = K (nI 0 - 2) := fun f K => by rw [F_To_stepOrder_7.eq_2, if_pos (by decide)]
    have e2 := this 49999
    rw [e2, if_neg (by decide)]
  | succ n =>
    have hF := pfa_le o n
    have e0 : o.length - 1 = n := by omega
    have hst : F_To_stepOrder t = (fun (v1_1 : Int32) => if (0 : Int32) ≤ v1_1 then jn (fun (v2_2 : Int32) => bv (F_To_exchange v1_1 v2_2 t) (fun (σ4 : GS) => jn (fun (v3_5 : Int32) (v4_5 : Int32) (σL5 : GS) => some ((1 : Int32), σL5)) (fun KL5_113 => F_To_stepOrder_91 KL5_113 50000 (v1_1 + (1 : Int32)) ((σ4.1 50 3) - (1 : Int32)) σ4))) (fun KL2_73 => F_To_stepOrder_47 v1_1 t KL2_73 50000 ((t.1 50 3) - (1 : Int32))) else some ((0 : Int32), t)) (nI (pfa o n) - 1) := by
      unfold F_To_stepOrder
      rw [jn_s, h50, n2m1 n (by omega), faX (by omega) hs h52 n 50000 (by omega) (by omega)]
    unfold pnx
    rw [e0]
    by_cases q : pfa o n = 0
    · rw [if_pos q]
      refine ⟨fun _ => ?_, fun o' h => by cases h⟩
      rw [hst, q]
      dsimp only
      rw [if_neg (by decide)]
    · rw [if_neg q]
      refine ⟨fun h => (by cases h), fun o' h => ?_⟩
      cases h
      obtain ⟨f0, hf0⟩ : ∃ f0, pfa o n = f0 + 1 := ⟨pfa o n - 1, by omega⟩
      have hg := pgr_le o f0 n
      obtain ⟨t1, e1, a1, f1⟩ := exX (i := f0) (j := pgr o f0 n) (by omega) (by omega) (by omega) h52
      obtain ⟨t2, v3, v4, a2, f2, e2⟩ := rvX 6 (psw o f0 (pgr o f0 n)) (f0 + 1) n 50000 t1 (by rw [psw_len]; omega) (by rw [psw_len]; omega) (by omega) (by omega) (by omega) a1
      rw [hf0, Nat.add_sub_cancel]
      refine ⟨t2, ?_, a2, f1.trans f2⟩
      have e50 : t1.1 50 3 = nI (n + 1) := by rw [f1.1 50 (by simp)]; exact h50
      rw [hst, hf0, nI_pred]
      dsimp only
      rw [if_pos (nI_pos' (by omega)), jn_s, h50, nI_pred, grX (by omega) hs h52 (by omega) n 50000 (by omega) (by omega), bv_s e1, jn_s, e50, nI_pred, nI_1, e2]
