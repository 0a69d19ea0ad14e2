/-! rows of codes asked for -/
theorem cX_loop {r n : Nat} (hr : r < 6) (hn : n ≤ 40) (σ : GS) (h8 : σ.1 8 r = nI n) : F_X_codesRefusal_31 (nI r) (fun (v4_5 : Int32) (σL5 : GS) => some ((0 : Int32), σL5)) 50000 0 σ = if alp cob (σ.1 (2 + r)) n = true then some (0, σ) else some (-3, gX 3 σ) := by
  refine lpE (G := fun k i (t : GS) => F_X_codesRefusal_31 (nI r) (fun (v4_5 : Int32) (σL5 : GS) => some ((0 : Int32), σL5)) k (nI i) t) (P := fun o => o = if alp cob (σ.1 (2 + r)) n = true then some (0, σ) else some (-3, gX 3 σ)) (Inv := fun i t => t = σ ∧ alp cob (σ.1 (2 + r)) i = true) (N := n) ?_ ?_ n 0 50000 σ (by omega) (by omega) ⟨rfl, rfl⟩
  · rintro k i t hi ⟨rfl, h⟩
    have e : F_X_codesRefusal_31 (nI r) (fun (v4_5 : Int32) (σL5 : GS) => some ((0 : Int32), σL5)) (k + 1) (nI i) t = if (if cob (t.1 (2 + r) i) = true then (1 : Int32) else 0) = 0 then some (-3, gX 3 t) else F_X_codesRefusal_31 (nI r) (fun (v4_5 : Int32) (σL5 : GS) => some ((0 : Int32), σL5)) k (nI (i + 1)) t := by
      rw [F_X_codesRefusal_31.eq_2, gi hr (by decide), c31 (by omega), h8, if_neg (nI_ge hi (by omega)), gi hr (by decide), gi (by omega) (by decide), c31 (by omega), bp_s (cob_X _), bc_s (foX3 t), nI_1]
    by_cases q : cob (t.1 (2 + r) i) = true
    · refine Or.inr ⟨t, ?_, rfl, by rw [alp_s, h, q]; rfl⟩
      show F_X_codesRefusal_31 (nI r) _ (k + 1) (nI i) t = _
      rw [e, if_pos q, if_neg (by decide)]
    · refine Or.inl ?_
      show F_X_codesRefusal_31 (nI r) _ (k + 1) (nI i) t = _
      have : alp cob (t.1 (2 + r)) n = false := alp_f (i := i + 1) (by rw [alp_s, Bool.eq_false_iff.mpr q, Bool.and_false]) (by omega)
      rw [e, if_neg q, if_pos rfl, this, if_neg (by decide)]
  · rintro k t ⟨rfl, h⟩
    show F_X_codesRefusal_31 (nI r) _ (k + 1) (nI n) t = _
    rw [F_X_codesRefusal_31.eq_2, gi hr (by decide), c31 (by omega), h8, if_pos (nI_le (Nat.le_refl _) (by omega)), if_pos h]
theorem cM_loop {r n : Nat} (hr : r < 6) (hn : n ≤ 40) (σ : GS) (h64 : σ.1 64 r = nI n) (K : Int32 → Int32 → Option (Int32 × GS)) : F_M_noCodes_45 (nI r) σ K 50000 1 0 = K (if alp cob (fun i => σ.1 65 (40 * r + i)) n = true then 1 else 0) (nI n) := by
  refine lpE (G := fun k i (t : Int32) => F_M_noCodes_45 (nI r) σ K k t (nI i)) (P := fun o => o = K (if alp cob (fun i => σ.1 65 (40 * r + i)) n = true then 1 else 0) (nI n)) (Inv := fun i t => t = if alp cob (fun i => σ.1 65 (40 * r + i)) i = true then 1 else 0) (N := n) ?_ ?_ n 0 50000 1 (by omega) (by omega) rfl
  · intro k i t hi h
    refine Or.inr ⟨if alp cob (fun i => σ.1 65 (40 * r + i)) (i + 1) = true then 1 else 0, ?_, rfl⟩
    show F_M_noCodes_45 (nI r) σ K (k + 1) t (nI i) = F_M_noCodes_45 (nI r) σ K k _ (nI (i + 1))
    rw [F_M_noCodes_45.eq_2, gi hr (by decide), c31 (by omega), h64, if_neg (nI_ge hi (by omega)), nI_1, ix40, gi (by omega) (by decide), c31 (by omega), bp_s (cob_M _), h, alp_s]
    by_cases z : alp cob (fun i => σ.1 65 (40 * r + i)) i = true
    · rw [if_pos z, if_neg (by decide), z, Bool.true_and]
      by_cases y : cob (σ.1 65 (40 * r + i)) = true
      · rw [if_pos y, if_neg (by decide)]
      · rw [if_neg y, if_pos rfl]
    · rw [if_neg z, if_pos rfl, Bool.eq_false_iff.mpr z, Bool.false_and]
      rfl
  · intro k t h
    show F_M_noCodes_45 (nI r) σ K (k + 1) t (nI n) = _
    rw [F_M_noCodes_45.eq_2, gi hr (by decide), c31 (by omega), h64, if_pos (nI_le (Nat.le_refl _) (by omega)), h]
/-- codes asked for: refused by both alike, or there -/
theorem cod_c {σ : GS} (hR : Rel σ) (a1 : Int32) {M : Nat} (hM : M < 100) : (∃ v σ1 σ2, F_X_codesRefusal a1 (nI M) σ = some (v, σ1) ∧ v ≠ 0 ∧ ¬ 0 ≤ v ∧ F_M_noCodes a1 (nI M) σ1 = some (v, σ2) ∧ Rel σ2) ∨ ∃ r cs, r < 6 ∧ a1 = nI r ∧ cs.length ≤ 40 ∧ cs.length ≤ M ∧ (∀ i, i < cs.length → isC (cs.getD i 0) = true) ∧ σ.1 8 r = nI cs.length ∧ σ.1 64 r = nI cs.length ∧ arr (σ.1 (2 + r)) cs ∧ F_X_codesRefusal a1 (nI M) σ = some (0, σ) ∧ ∀ s : GS, s.1 64 = σ.1 64 → s.1 65 = σ.1 65 → F_M_noCodes a1 (nI M) s = some (0, s) := by
  rcases row_c a1 with ⟨h1, h2⟩ | ⟨r, hr, rfl, h1, h2⟩
  · exact Or.inl ⟨-1, σ, σ, by unfold F_X_codesRefusal; rw [bc_s (rowRef_bad h1 σ), if_neg (by decide)], by decide, by decide, by unfold F_M_noCodes; rw [bp_s h2, if_pos rfl], hR⟩
  · rcases rowsz hR.1.1 hr with ⟨h8, h64⟩ | ⟨n, hn, h8, h64⟩
    · refine Or.inl ⟨-3, gX 1 σ, gM 1 (gX 1 σ), by unfold F_X_codesRefusal; rw [bc_s (rowRef_no hr h1 h8), if_neg (by decide)], by decide, by decide, ?_, fR hR⟩
      unfold F_M_noCodes
      rw [bp_s h2, if_neg (by decide), gi hr (by decide), c31 (by omega), gX_c (by decide) (by decide), h64, if_neg (by decide), bc_s (foM1 _)]
    · by_cases hnM : n ≤ M
      · have eX : ∀ b, alp cob (σ.1 (2 + r)) n = b → F_X_codesRefusal (nI r) (nI M) σ = if b = true then some (0, σ) else some (-3, gX 3 σ) := fun b hb => by
          unfold F_X_codesRefusal
          rw [bc_s (rowRef_ok hr hn h1 h8), if_pos rfl, gi hr (by decide), c31 (by omega), h8, if_pos (nI_le hnM (by omega)), jn_s, cX_loop hr hn σ h8, hb]
        have eM : ∀ b, alp cob (σ.1 (2 + r)) n = b → ∀ s : GS, s.1 64 = σ.1 64 → s.1 65 = σ.1 65 → F_M_noCodes (nI r) (nI M) s = if b = true then some (0, s) else some (-3, gM 3 s) := fun b hb s e1 e2 => by
          unfold F_M_noCodes
          rw [bp_s h2, if_neg (by decide), gi hr (by decide), c31 (by omega), e1, h64, if_pos (nI_pos' (by omega)), gi hr (by decide), if_pos (nI_le hnM (by omega)), jn_s, cM_loop hr hn s (by rw [e1, h64]), e2, alp_congr (g := σ.1 (2 + r)) (fun i hi => (hR.1.1.2 r hr i (by omega)).symm), hb, bc_s (foM3 s)]
          cases b <;> rfl
        cases hb : alp cob (σ.1 (2 + r)) n with
        | false =>
          exact Or.inl ⟨-3, gX 3 σ, gM 3 (gX 3 σ), eX false hb, by decide, by decide, by rw [eM false hb _ (gX_c (by decide) (by decide)) (gX_c (by decide) (by decide)), if_neg (by decide)], fR hR⟩
        | true =>
          have hs := alp_t hb
          have hl : ((List.range n).map (fun i => (σ.1 (2 + r) i).toNatClampNeg)).length = n := by rw [List.length_map, List.length_range]
          have hw : ∀ i, i < n → isC (((List.range n).map (fun i => (σ.1 (2 + r) i).toNatClampNeg)).getD i 0) = true ∧ σ.1 (2 + r) i = nI (((List.range n).map (fun i => (σ.1 (2 + r) i).toNatClampNeg)).getD i 0) := fun i hi => by
            obtain ⟨s, h5, e⟩ := cob_t (hs i hi)
            have := isC_le h5
            rw [map_getD _ hi, e, c31 (by omega)]
            exact ⟨h5, rfl⟩
          exact Or.inr ⟨r, (List.range n).map (fun i => (σ.1 (2 + r) i).toNatClampNeg), hr, rfl, by rw [hl]; exact hn, by rw [hl]; exact hnM, fun i hi => (hw i (by rw [hl] at hi; exact hi)).1, by rw [hl]; exact h8, by rw [hl]; exact h64, fun i hi => (hw i (by rw [hl] at hi; exact hi)).2, eX true hb, fun s e1 e2 => by rw [eM true hb s e1 e2, if_pos rfl]⟩
      · refine Or.inl ⟨-3, gX 5 σ, gM 5 (gX 5 σ), ?_, by decide, by decide, ?_, fR hR⟩
        · unfold F_X_codesRefusal
          rw [bc_s (rowRef_ok hr hn h1 h8), if_pos rfl, gi hr (by decide), c31 (by omega), h8, if_neg (nI_ge (by omega) (by omega)), bc_s (foX5 σ)]
        · unfold F_M_noCodes
          rw [bp_s h2, if_neg (by decide), gi hr (by decide), c31 (by omega), gX_c (by decide) (by decide), h64, if_pos (nI_pos' (by omega)), gi hr (by decide), if_neg (nI_ge (by omega) (by omega)), bc_s (foM5 _)]
