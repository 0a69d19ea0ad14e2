/-! first streets, paths -/
theorem red_rev {w : List Nat} (h : Red w) : Red w.reverse := by
  intro x r z e
  cases hl : lastb x r with
  | false => rfl
  | true =>
    exfalso
    obtain ⟨a, b, rfl, hb⟩ := last_iff.mp hl
    have e2 : w = (z.reverse ++ r :: b.reverse) ++ r :: a.reverse := by
      have := congrArg List.reverse e
      rw [List.reverse_reverse] at this
      rw [this]
      simp
    have h1 := h _ _ _ e2
    have h2 : lastb (z.reverse ++ r :: b.reverse) r = true := last_iff.mpr ⟨_, _, rfl, fun x hx => hb x (List.mem_reverse.mp hx)⟩
    rw [h1] at h2
    cases h2
theorem last_rev {w : List Nat} {s : Nat} : lastb w.reverse s = true ↔ fstB w s := by
  rw [last_iff]
  constructor
  · rintro ⟨a, b, e, hb⟩
    refine ⟨b.reverse, a.reverse, ?_, fun x hx => hb x (List.mem_reverse.mp hx)⟩
    have := congrArg List.reverse e
    rw [List.reverse_reverse] at this
    rw [this]
    simp
  · rintro ⟨a, b, rfl, ha⟩
    exact ⟨b.reverse, a.reverse, by simp, fun x hx => ha x (List.mem_reverse.mp hx)⟩
def fsF (l : List Nat) : Nat → Nat
  | 0 => 0
  | p + 1 => if fpl l p = true then fsF l p ||| 2 ^ (l.getD p 0) else fsF l p
theorem fsF_bit (l : List Nat) (s : Nat) : ∀ p, (fsF l p).testBit s = true ↔ ∃ j, j < p ∧ fpl l j = true ∧ l.getD j 0 = s
  | 0 => by simp [fsF]
  | p + 1 => by
    have ih := fsF_bit l s p
    unfold fsF
    by_cases h : fpl l p = true
    · rw [if_pos h, Nat.testBit_or, Bool.or_eq_true, ih, Nat.testBit_two_pow]
      constructor
      · rintro (⟨j, h1, h2⟩ | h1)
        · exact ⟨j, by omega, h2⟩
        · exact ⟨p, by omega, h, of_decide_eq_true h1⟩
      · rintro ⟨j, h1, h2, h3⟩
        by_cases e : j = p
        · subst e; exact Or.inr (decide_eq_true h3)
        · exact Or.inl ⟨j, by omega, h2, h3⟩
    · rw [if_neg h, ih]
      constructor
      · rintro ⟨j, h1, h2⟩
        exact ⟨j, by omega, h2⟩
      · rintro ⟨j, h1, h2, h3⟩
        by_cases e : j = p
        · subst e; exact absurd h2 h
        · exact ⟨j, by omega, h2, h3⟩
theorem fset_last (u : List Nat) : fsF (rd u) (rd u).length = lset (nf u.reverse) := by
  refine Nat.eq_of_testBit_eq fun s => ?_
  rw [Bool.eq_iff_iff, lset_bit, fsF_bit]
  have h1 : lastb (nf u.reverse) s = true ↔ fstB (nf u) s := by
    rw [← nf_rev, last_eqv (eqv_red _ (red_rev (good_nf u).2)) s]
    exact last_rev
  rw [h1]
  constructor
  · rintro ⟨j, hj, hf, rfl⟩
    exact fst_eqv (eqv_rd u).symm (fpl_fst hj hf)
  · intro h
    exact fst_fpl (fst_eqv (eqv_rd u) h)
theorem beginsM_loop {l : List Nat} {σ : GS} (ha : arr (σ.1 75) l) (hv : wv l) (hl : l.length ≤ 64) (K : Int32 → Int32 → Option (Int32 × GS)) : F_M_begins_24 (nI l.length) σ K 50000 0 0 = K (nI (fsF l l.length)) (nI l.length) := by
  refine lpE (G := fun n i (t : Int32) => F_M_begins_24 (nI l.length) σ K n t (nI i)) (P := fun o => o = K (nI (fsF l l.length)) (nI l.length)) (Inv := fun i t => t = nI (fsF l i)) (N := l.length) ?_ ?_ l.length 0 50000 0 (by omega) (by omega) rfl
  · intro n i t hi h
    refine Or.inr ⟨nI (fsF l (i + 1)), ?_, rfl⟩
    show F_M_begins_24 (nI l.length) σ K (n + 1) t (nI i) = F_M_begins_24 (nI l.length) σ K n _ (nI (i + 1))
    have e2 : fsF l (i + 1) = if fpl l i = true then fsF l i ||| 2 ^ (l.getD i 0) else fsF l i := rfl
    rw [F_M_begins_24.eq_2, if_neg (nI_ge hi (by omega)), bp_s (isFirst_spec ha hv hl hi), nI_1, h, e2]
    by_cases z : fpl l i = true
    · rw [if_pos z, if_pos z, if_neg (by decide), gi (by omega) (by decide), c31 (by omega), ha i hi, shl5 _ (getD_lt hv hi), or_nI]
    · rw [if_neg z, if_neg z, if_pos rfl, show (0 : Int32) = nI 0 from rfl, or_nI, Nat.or_zero]
  · intro n t h
    show F_M_begins_24 (nI l.length) σ K (n + 1) t (nI l.length) = _
    rw [F_M_begins_24.eq_2, if_pos (nI_le (Nat.le_refl _) (by omega)), h]
theorem stp_begins : St_begins Rel := by
  intro σ hR a1
  unfold F_X_begins
  rcases code_c a1 with ⟨h1, h2⟩ | ⟨m, rfl, hc, h1, h2⟩
  · exact ⟨-1, σ, σ, by rw [bp_s h1, if_pos rfl], by unfold F_M_begins; rw [bp_s h2, if_pos rfl], hR⟩
  · obtain ⟨σ0, σ1, e0, e1, r1, f1⟩ := backX (σ := σ) hc
    obtain ⟨σ2, e2, a2, v2, f2⟩ := follow0 (q := 75) (σ := σ1) hc
    have hv := wd_wv hc
    have h9 := wd_le hc
    have hl := len_rd hv
    have hl2 := len_nf_le (wd m)
    refine ⟨_, σ1, σ2, by rw [bp_s h1, if_neg (by decide), bv_s e0, bv_s e1, bp_s (lastStreets_spec r1)], ?_, (hR.fr f1 rfl rfl).fr f2 rfl rfl⟩
    unfold F_M_begins
    rw [bp_s h2, if_neg (by decide), bc_s e2, jn_s, beginsM_loop a2 v2 (by omega), fset_last]
    unfold wd
    rw [List.reverse_reverse]
-- paths
theorem pathX_loop {r : Nat} {l : List Nat} (hr : r < 6) (hl : l.length ≤ 40) (σ : GS) (hW : Rep σ 32 l) (h8 : σ.1 8 r = nI l.length) : ∃ σ', F_X_path_47 (nI r) (fun (v4_11 : Int32) (σL11 : GS) => some (σL11.1 32 1, σL11)) 50000 0 σ = some (nI l.length, σ') ∧ (∀ j, σ'.1 (2 + r) j = if j < l.length then nI (l.getD j 0) else σ.1 (2 + r) j) ∧ Fr [2 + r] σ σ' := by
  refine lpE (G := fun n i (t : GS) => F_X_path_47 (nI r) (fun (v4_11 : Int32) (σL11 : GS) => some (σL11.1 32 1, σL11)) n (nI i) t) (P := fun o => ∃ σ', o = some (nI l.length, σ') ∧ (∀ j, σ'.1 (2 + r) j = if j < l.length then nI (l.getD j 0) else σ.1 (2 + r) j) ∧ Fr [2 + r] σ σ') (Inv := fun i t => (∀ j, t.1 (2 + r) j = if j < i then nI (l.getD j 0) else σ.1 (2 + r) j) ∧ Fr [2 + r] σ t) (N := l.length) ?_ ?_ l.length 0 50000 σ (by omega) (by omega) ⟨fun j => by rw [if_neg (Nat.not_lt_zero j)], Fr.refl _ _⟩
  · intro n i t hi h
    have hW' : Rep t 32 l := by
      unfold Rep
      rw [h.2.1 32 (by simp; omega), h.2.1 (32 + 1) (by simp; omega)]
      exact hW
    refine Or.inr ⟨s1 t (2 + r) i (nI (l.getD i 0)), ?_, fun j => ?_, Fr.trans h.2 (Fr.s1 (by simp))⟩
    · show F_X_path_47 (nI r) _ (n + 1) (nI i) t = F_X_path_47 (nI r) _ n (nI (i + 1)) _
      rw [F_X_path_47.eq_2, gi hr (by decide), c31 (by omega), h.2.1 8 (by simp; omega), h8, if_neg (nI_ge hi (by omega)), gi hr (by decide), bp_s (streetAt_spec hW' hi), gi (by omega) (by decide), c31 (by omega), jn_s, nI_1]
    · rw [s1_get]
      by_cases e : j = i
      · rw [if_pos ⟨rfl, e⟩, if_pos (by omega), e]
      · rw [if_neg (fun z => e z.2), h.1 j]
        by_cases q : j < i
        · rw [if_pos q, if_pos (by omega)]
        · rw [if_neg q, if_neg (by omega)]
  · intro n t h
    refine ⟨t, ?_, h.1, h.2⟩
    show F_X_path_47 (nI r) _ (n + 1) (nI l.length) t = _
    rw [F_X_path_47.eq_2, gi hr (by decide), c31 (by omega), h.2.1 8 (by simp; omega), h8, if_pos (nI_le (Nat.le_refl _) (by omega)), h.2.1 32 (by simp; omega), hW.1]
theorem pathM_loop {r : Nat} {l : List Nat} {y : Int32} (hr : r < 6) (hl : l.length ≤ 40) (σ : GS) (ha : arr (σ.1 79) l) : ∃ σ', F_M_path_51 (nI r) (nI l.length) y (fun (v6_13 : Int32) (σL13 : GS) => some (y, σL13)) 50000 0 σ = some (y, σ') ∧ (∀ j, σ'.1 65 j = if 40 * r ≤ j ∧ j < 40 * r + l.length then nI (l.getD (j - 40 * r) 0) else σ.1 65 j) ∧ Fr [65] σ σ' := by
  refine lpE (G := fun n i (t : GS) => F_M_path_51 (nI r) (nI l.length) y (fun (v6_13 : Int32) (σL13 : GS) => some (y, σL13)) n (nI i) t) (P := fun o => ∃ σ', o = some (y, σ') ∧ (∀ j, σ'.1 65 j = if 40 * r ≤ j ∧ j < 40 * r + l.length then nI (l.getD (j - 40 * r) 0) else σ.1 65 j) ∧ Fr [65] σ σ') (Inv := fun i t => (∀ j, t.1 65 j = if 40 * r ≤ j ∧ j < 40 * r + i then nI (l.getD (j - 40 * r) 0) else σ.1 65 j) ∧ Fr [65] σ t) (N := l.length) ?_ ?_ l.length 0 50000 σ (by omega) (by omega) ⟨fun j => by rw [if_neg (by omega)], Fr.refl _ _⟩
  · intro n i t hi h
    refine Or.inr ⟨s1 t 65 (40 * r + i) (nI (l.getD i 0)), ?_, fun j => ?_, Fr.trans h.2 (Fr.s1 (by simp))⟩
    · show F_M_path_51 (nI r) (nI l.length) y _ (n + 1) (nI i) t = F_M_path_51 (nI r) (nI l.length) y _ n (nI (i + 1)) _
      rw [F_M_path_51.eq_2, if_neg (nI_ge hi (by omega)), gi (by omega) (by decide), ix40, gi (by omega) (by decide), c31 (by omega), c31 (by omega), h.2.1 79 (by simp), ha i hi, jn_s, nI_1]
    · rw [s1_get]
      by_cases e : j = 40 * r + i
      · rw [if_pos ⟨rfl, e⟩, if_pos (by omega), e, Nat.add_sub_cancel_left]
      · rw [if_neg (fun z => e z.2), h.1 j]
        by_cases q : 40 * r ≤ j ∧ j < 40 * r + i
        · rw [if_pos q, if_pos (by omega)]
        · rw [if_neg q, if_neg (by omega)]
  · intro n t h
    refine ⟨t, ?_, h.1, h.2⟩
    show F_M_path_51 (nI r) (nI l.length) y _ (n + 1) (nI l.length) t = _
    rw [F_M_path_51.eq_2, if_pos (nI_le (Nat.le_refl _) (by omega))]
theorem Rep.fr {S : List Nat} {σ σ' : GS} {k : Nat} {w : List Nat} (h : Rep σ k w) (f : Fr S σ σ') (h1 : k ∉ S) (h2 : k + 1 ∉ S) : Rep σ' k w := by
  unfold Rep
  rw [f.1 k h1, f.1 (k + 1) h2]
  exact h
theorem RL.fr2 {σ σ' : GS} (hL : RL σ) (h : ∀ c, c = 0 ∨ c = 62 ∨ c = 63 ∨ c = 73 → σ'.1 c = σ.1 c) (h2 : σ'.2 = σ.2) : RL σ' := by
  unfold RL
  rw [h 0 (by omega), h 62 (by omega), h 63 (by omega), h 73 (by omega), h2]
  exact hL
theorem stp_path : St_path Rel := by
  intro σ hR a1 a2 a3
  unfold F_X_path
  rcases codes_c a1 a2 with ⟨h1, h2⟩ | ⟨a, b, rfl, rfl, ha, hb, h1, h2, h3⟩
  · refine ⟨-1, σ, σ, ?_, by unfold F_M_path; rw [bp_s h1, if_pos rfl], hR⟩
    rcases h2 with h | ⟨h, h'⟩
    · rw [bp_s h, if_pos rfl]
    · rw [bp_s h, if_neg (by decide), bp_s h', if_pos rfl]
  rcases row_c a3 with ⟨h4, h5⟩ | ⟨r, hr, rfl, h4, h5⟩
  · exact ⟨-1, σ, σ, by rw [bp_s h1, if_neg (by decide), bp_s h2, if_neg (by decide), bp_s h4, if_pos rfl], by unfold F_M_path; rw [bp_s h3, if_neg (by decide), bp_s h5, if_pos rfl], hR⟩
  have hl := len_way ha hb
  have hv := wv_cd ha hb
  obtain ⟨σ1, e1, r1, f1⟩ := way_spec (w := 32) (σ := σ) ha hb
  obtain ⟨σ2, e2, x2, y2, f2⟩ := renewX (r := r) (n := (nf (dg a ++ wd b)).length) hr σ1
  have r2 := r1.fr f2 (by simp; omega) (by simp; omega)
  obtain ⟨σ3, e3, y3, f3⟩ := pathX_loop hr (by omega) σ2 r2 (by rw [x2, if_pos rfl])
  obtain ⟨σ4, e4, a4, v4, f4⟩ := farOf_spec (σ := σ3) ha hb
  obtain ⟨σ5, e5, a5, f5⟩ := layPlain_spec (q1 := 75) (q3 := 79) (σ := σ4) (by decide) (by decide) (good_nf (dg a ++ wd b)).1 (wv_nf hv) (eqv_rd _) v4 (by rw [len_rd hv]; omega) a4
  obtain ⟨σ6, e6, x6, y6, f6⟩ := rowM (r := r) (n := (nf (dg a ++ wd b)).length) hr (by omega) σ5 h5
  obtain ⟨σ7, e7, y7, f7⟩ := pathM_loop (r := r) (l := nf (dg a ++ wd b)) (y := nI (nf (dg a ++ wd b)).length) hr (by omega) σ6 (by rw [f6.1 79 (by simp)]; exact a5)
  refine ⟨nI (nf (dg a ++ wd b)).length, σ3, σ7, ?_, ?_, ?_, ?_⟩
  · rw [bp_s h1, if_neg (by decide), bp_s h2, if_neg (by decide), bp_s h4, if_neg (by decide), bv_s e1, r1.1, bv_s e2, jn_s]
    exact e3
  · unfold F_M_path
    rw [bp_s h3, if_neg (by decide), bp_s h5, if_neg (by decide), bc_s e4, bv_s e5, far_eq ha hb, bc_s e6, jn_s]
    exact e7
  · have k : ∀ c, c ≠ 32 → c ≠ 33 → c ≠ 8 → c ≠ 2 + r → c ≠ 75 → c ≠ 78 → c ≠ 79 → c ≠ 64 → c ≠ 65 → σ7.1 c = σ.1 c := fun c g1 g2 g3 g4 g5 g6 g7 g8 g9 => by
      rw [f7.1 c (by simp [g9]), f6.1 c (by simp [g8, g9]), f5.1 c (by simp [g6, g7]), f4.1 c (by simp [g5]), f3.1 c (by simp [g4]), f2.1 c (by simp [g3, g4]), f1.1 c (by simp [g1, g2])]
    refine hR.1.rows (fun c hc hnc => ?_) ?_
    · have := of_decide_eq_true hc
      exact k c (by omega) (by omega) (by omega) (by omega) (by omega) (by omega) (by omega) (by omega) (by omega)
    · have k65 : σ5.1 65 = σ.1 65 := by rw [f5.1 65 (by simp), f4.1 65 (by simp), f3.1 65 (by simp; omega), f2.1 65 (by simp; omega), f1.1 65 (by simp)]
      have k64 : σ5.1 64 = σ.1 64 := by rw [f5.1 64 (by simp), f4.1 64 (by simp), f3.1 64 (by simp; omega), f2.1 64 (by simp; omega), f1.1 64 (by simp)]
      refine RR.put hR.1.1 (r := r) (nI (nf (dg a ++ wd b)).length) (fun i => if i < (nf (dg a ++ wd b)).length then nI ((nf (dg a ++ wd b)).getD i 0) else 0) (Or.inr ⟨_, by omega, rfl⟩) (fun j => ?_) (fun j => ?_) (fun i hi => ?_) (fun q hq hne => ?_) (fun q i hq hi => ?_)
      · rw [f7.1 8 (by simp), f6.1 8 (by simp), f5.1 8 (by simp), f4.1 8 (by simp), f3.1 8 (by simp; omega), x2, f1.1 8 (by simp)]
      · rw [f7.1 64 (by simp), x6, k64]
      · rw [f7.1 (2 + r) (by simp; omega), f6.1 (2 + r) (by simp; omega), f5.1 (2 + r) (by simp; omega), f4.1 (2 + r) (by simp; omega), y3, y2 i hi]
      · exact k (2 + q) (by omega) (by omega) (by omega) (by omega) (by omega) (by omega) (by omega) (by omega) (by omega)
      · rw [y7, y6, k65]
        by_cases e : q = r
        · subst e
          rw [if_pos rfl]
          by_cases z : i < (nf (dg a ++ wd b)).length
          · rw [if_pos z, if_pos (by omega), Nat.add_sub_cancel_left]
          · rw [if_neg z, if_neg (by omega), if_pos (by omega)]
        · rw [if_neg e, if_neg (by omega), if_neg (by omega)]
  · refine hR.2.fr2 (fun c hc => ?_) ?_
    · rw [f7.1 c (by simp; omega), f6.1 c (by simp; omega), f5.1 c (by simp; omega), f4.1 c (by simp; omega), f3.1 c (by simp; omega), f2.1 c (by simp; omega), f1.1 c (by simp; omega)]
    · rw [f7.2, f6.2, f5.2, f4.2, f3.2, f2.2, f1.2]
