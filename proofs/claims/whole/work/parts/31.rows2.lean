theorem ask_get (σ : GS) (v : Int32) (i : Nat) (hi : i ≠ 16) : (s1 σ 0 16 v).1 0 i = σ.1 0 i := s1_i hi
/-- refusals of rows, by both -/
theorem rowRef_bad {a1 : Int32} (h1 : F_X_isRow a1 = some 0) (σ : GS) : F_X_rowRefusal a1 σ = some (-1, σ) := by
  unfold F_X_rowRefusal
  rw [bp_s h1, if_pos rfl]
theorem rowRef_no {r : Nat} (hr : r < 6) (h1 : F_X_isRow (nI r) = some 1) {σ : GS} (h8 : σ.1 8 r = -1) : F_X_rowRefusal (nI r) σ = some (-3, gX 1 σ) := by
  unfold F_X_rowRefusal
  rw [bp_s h1, if_neg (by decide), gi hr (by decide), c31 (by omega), h8, if_neg (by decide), bc_s (foX1 σ)]
theorem rowRef_ok {r n : Nat} (hr : r < 6) (hn : n ≤ 40) (h1 : F_X_isRow (nI r) = some 1) {σ : GS} (h8 : σ.1 8 r = nI n) : F_X_rowRefusal (nI r) σ = some (0, σ) := by
  unfold F_X_rowRefusal
  rw [bp_s h1, if_neg (by decide), gi hr (by decide), c31 (by omega), h8, if_pos (nI_pos' (by omega))]
theorem txtRef_bad {a1 : Int32} (h1 : F_X_isText a1 = some 0) (σ : GS) : F_X_textRefusal a1 σ = some (-1, σ) := by
  unfold F_X_textRefusal
  rw [bp_s h1, if_pos rfl]
theorem txtRef_no {r : Nat} (hr : r < 4) (h1 : F_X_isText (nI r) = some 1) {σ : GS} (h8 : σ.1 14 r = -1) : F_X_textRefusal (nI r) σ = some (-3, gX 1 σ) := by
  unfold F_X_textRefusal
  rw [bp_s h1, if_neg (by decide), gi hr (by decide), c31 (by omega), h8, if_neg (by decide), bc_s (foX1 σ)]
theorem txtRef_ok {r n : Nat} (hr : r < 4) (hn : n ≤ 80) (h1 : F_X_isText (nI r) = some 1) {σ : GS} (h8 : σ.1 14 r = nI n) : F_X_textRefusal (nI r) σ = some (0, σ) := by
  unfold F_X_textRefusal
  rw [bp_s h1, if_neg (by decide), gi hr (by decide), c31 (by omega), h8, if_pos (nI_pos' (by omega))]
theorem place_c {a2 : Int32} {n : Nat} (hn : n ≤ 80) : (F_M_in a2.toInt64 (0 : Int64) (nI n - 1).toInt64 = some 0 ∧ (a2 < 0 ∨ (¬ a2 < 0 ∧ ¬ a2 < nI n))) ∨ ∃ i, i < n ∧ a2 = nI i ∧ F_M_in a2.toInt64 (0 : Int64) (nI n - 1).toInt64 = some 1 := by
  rcases rng_c a2 (n := n) (by omega) with ⟨h1, h2⟩ | h
  · refine Or.inl ⟨h1, h2.imp id fun q => ⟨q.1, Int32.not_lt.mpr q.2⟩⟩
  · exact Or.inr h
theorem placeRef_no {r n : Nat} {a2 : Int32} (hr : r < 6) (hn : n ≤ 40) (h1 : F_X_isRow (nI r) = some 1) {σ : GS} (h8 : σ.1 8 r = nI n) (h : a2 < 0 ∨ (¬ a2 < 0 ∧ ¬ a2 < nI n)) : F_X_placeRefusal (nI r) a2 σ = some (-3, gX 2 σ) := by
  unfold F_X_placeRefusal
  rw [bc_s (rowRef_ok hr hn h1 h8), if_pos rfl, jn_s]
  rcases h with h | ⟨h, h'⟩
  · rw [if_pos h, bc_s (foX2 σ)]
  · rw [if_neg h, gi hr (by decide), c31 (by omega), h8, if_neg h', bc_s (foX2 σ)]
theorem placeRef_ok {r n i : Nat} (hr : r < 6) (hn : n ≤ 40) (hi : i < n) (h1 : F_X_isRow (nI r) = some 1) {σ : GS} (h8 : σ.1 8 r = nI n) : F_X_placeRefusal (nI r) (nI i) σ = some (0, σ) := by
  unfold F_X_placeRefusal
  rw [bc_s (rowRef_ok hr hn h1 h8), if_pos rfl, jn_s, if_neg (nI_pos (by omega)), gi hr (by decide), c31 (by omega), h8, if_pos (nI_lt hi (by omega))]
theorem placeRef_x {a1 a2 : Int32} {σ σ' : GS} {v : Int32} (hv : v ≠ 0) (h : F_X_rowRefusal a1 σ = some (v, σ')) : F_X_placeRefusal a1 a2 σ = some (v, σ') := by
  unfold F_X_placeRefusal
  rw [bc_s h, if_neg hv]
theorem st_at : St_at Rel := by
  intro σ hR a1 a2
  unfold F_X_at
  rcases row_c a1 with ⟨h1, h2⟩ | ⟨r, hr, rfl, h1, h2⟩
  · exact ⟨-1, σ, σ, by rw [bc_s (placeRef_x (by decide) (rowRef_bad h1 σ)), if_neg (by decide)], by unfold F_M_at; rw [bp_s h2, if_pos rfl], hR⟩
  · rcases rowsz hR.1.1 hr with ⟨h8, h64⟩ | ⟨n, hn, h8, h64⟩
    · refine ⟨-3, gX 1 σ, gM 1 (gX 1 σ), by rw [bc_s (placeRef_x (by decide) (rowRef_no hr h1 h8)), if_neg (by decide)], ?_, fR hR⟩
      unfold F_M_at
      rw [bp_s h2, if_neg (by decide), gi hr (by decide), c31 (by omega), gX_c (by decide) (by decide), h64, if_neg (by decide), bc_s (foM1 _)]
    · rcases place_c (a2 := a2) (n := n) (by omega) with ⟨q1, q2⟩ | ⟨i, hi, rfl, q1⟩
      · refine ⟨-3, gX 2 σ, gM 2 (gX 2 σ), by rw [bc_s (placeRef_no hr hn h1 h8 q2), if_neg (by decide)], ?_, fR hR⟩
        unfold F_M_at
        rw [bp_s h2, if_neg (by decide), gi hr (by decide), c31 (by omega), gX_c (by decide) (by decide), h64, if_pos (nI_pos' (by omega)), gi hr (by decide), bp_s q1, if_pos rfl, bc_s (foM2 _)]
      · refine ⟨1, s1 σ 0 16 (σ.1 (2 + r) i), s1 (s1 σ 0 16 (σ.1 (2 + r) i)) 63 9 (σ.1 (2 + r) i), ?_, ?_, ?_⟩
        · rw [bc_s (placeRef_ok hr hn hi h1 h8), if_pos rfl, gi hr (by decide), gi (by omega) (by decide), c31 (by omega), c31 (by omega), jn_s]
        · unfold F_M_at
          rw [bp_s h2, if_neg (by decide), gi hr (by decide), c31 (by omega), s1_c (k' := 64) (by decide), h64, if_pos (nI_pos' (by omega)), gi hr (by decide), bp_s q1, if_neg (by decide), ix40, gi (by omega) (by decide), c31 (by omega), s1_c (k' := 65) (by decide), ← hR.1.1.2 r hr i (by omega)]
          rfl
        · refine ⟨hR.1.fr (S := [0, 63]) (Fr.trans (Fr.s1 (by simp)) (Fr.s1 (by simp))) rfl, RL.ask hR.2 (σ.1 (2 + r) i) ?_ ?_ ?_ ?_ rfl ?_ ?_⟩
          · rw [s1_c (by decide), s1_at]
          · rw [s1_c (by decide), s1_i (by decide)]
          · rw [s1_at]
          · rw [s1_i (by decide), s1_c (by decide)]
          · rw [s1_c (by decide), s1_c (by decide)]
          · rw [s1_c (by decide), s1_c (by decide)]
theorem st_lay : St_lay Rel := by
  intro σ hR a1 a2 a3
  unfold F_X_lay
  rcases row_c a1 with ⟨h1, h2⟩ | ⟨r, hr, rfl, h1, h2⟩
  · exact ⟨-1, σ, σ, by rw [bc_s (placeRef_x (by decide) (rowRef_bad h1 σ)), if_neg (by decide)], by unfold F_M_lay; rw [bp_s h2, if_pos rfl], hR⟩
  · rcases rowsz hR.1.1 hr with ⟨h8, h64⟩ | ⟨n, hn, h8, h64⟩
    · refine ⟨-3, gX 1 σ, gM 1 (gX 1 σ), by rw [bc_s (placeRef_x (by decide) (rowRef_no hr h1 h8)), if_neg (by decide)], ?_, fR hR⟩
      unfold F_M_lay
      rw [bp_s h2, if_neg (by decide), gi hr (by decide), c31 (by omega), gX_c (by decide) (by decide), h64, if_neg (by decide), bc_s (foM1 _)]
    · rcases place_c (a2 := a2) (n := n) (by omega) with ⟨q1, q2⟩ | ⟨i, hi, rfl, q1⟩
      · refine ⟨-3, gX 2 σ, gM 2 (gX 2 σ), by rw [bc_s (placeRef_no hr hn h1 h8 q2), if_neg (by decide)], ?_, fR hR⟩
        unfold F_M_lay
        rw [bp_s h2, if_neg (by decide), gi hr (by decide), c31 (by omega), gX_c (by decide) (by decide), h64, if_pos (nI_pos' (by omega)), gi hr (by decide), bp_s q1, if_pos rfl, bc_s (foM2 _)]
      · refine ⟨1, s1 (s1 σ 0 16 (σ.1 (2 + r) i)) (2 + r) i a3, s1 (s1 (s1 (s1 σ 0 16 (σ.1 (2 + r) i)) (2 + r) i a3) 65 (40 * r + i) a3) 63 9 (σ.1 (2 + r) i), ?_, ?_, ?_⟩
        · rw [bc_s (placeRef_ok hr hn hi h1 h8), if_pos rfl, gi hr (by decide), gi (by omega) (by decide), c31 (by omega), c31 (by omega), jn_s, gi hr (by decide), gi (by omega) (by decide), jn_s]
        · unfold F_M_lay
          rw [bp_s h2, if_neg (by decide), gi hr (by decide), c31 (by omega), s1_c (k' := 64) (by omega), s1_c (k' := 64) (by decide), h64, if_pos (nI_pos' (by omega)), gi hr (by decide), bp_s q1, if_neg (by decide), ix40, gi (by omega) (by decide), gi (by omega) (by decide), c31 (by omega), jn_s, s1_c (k' := 65) (by omega), s1_c (k' := 65) (by decide), ← hR.1.1.2 r hr i (by omega)]
          rfl
        · refine ⟨hR.1.rows (fun c hc hnc => ?_) ?_, RL.ask hR.2 (σ.1 (2 + r) i) ?_ ?_ ?_ ?_ rfl ?_ ?_⟩
          · have hc0 : c ≠ 0 ∧ c ≠ 63 := by
              have := of_decide_eq_true hc
              omega
            rw [s1_c hc0.2, s1_c (by omega), s1_c (by omega), s1_c hc0.1]
          · refine RR.put hR.1.1 (r := r) (nI n) (fun j => if j = i then a3 else σ.1 (2 + r) j) (Or.inr ⟨n, hn, rfl⟩) (fun j => ?_) (fun j => ?_) (fun j hj => ?_) (fun q hq hne => ?_) (fun q j hq hj => ?_)
            · rw [s1_c (by decide), s1_c (by decide), s1_c (by omega), s1_c (by decide)]
              by_cases e : j = r
              · rw [if_pos e, e, h8]
              · rw [if_neg e]
            · rw [s1_c (by decide), s1_c (by decide), s1_c (by omega), s1_c (by decide)]
              by_cases e : j = r
              · rw [if_pos e, e, h64]
              · rw [if_neg e]
            · rw [s1_c (by omega), s1_c (by omega), s1_get, s1_c (by omega)]
              simp
            · rw [s1_c (by omega), s1_c (by omega), s1_c (by omega), s1_c (by omega)]
            · rw [s1_c (by decide), s1_get, s1_c (by omega), s1_c (by decide)]
              by_cases e : q = r
              · subst e
                rw [if_pos rfl]
                by_cases e2 : j = i
                · rw [if_pos ⟨rfl, by omega⟩, if_pos e2]
                · rw [if_neg (by omega), if_neg e2, ← hR.1.1.2 q hq j hj]
              · rw [if_neg (by omega), if_neg e]
          · rw [s1_c (by decide), s1_c (by decide), s1_c (by omega), s1_at]
          · rw [s1_c (by decide), s1_c (by decide), s1_c (by omega), s1_i (by decide)]
          · rw [s1_at]
          · rw [s1_i (by decide), s1_c (by decide), s1_c (by omega), s1_c (by decide)]
          · rw [s1_c (by decide), s1_c (by decide), s1_c (by omega), s1_c (by decide)]
          · rw [s1_c (by decide), s1_c (by decide), s1_c (by omega), s1_c (by decide)]
theorem st_tear : St_tear Rel := by
  intro σ hR a1
  unfold F_X_tear
  rcases row_c a1 with ⟨h1, h2⟩ | ⟨r, hr, rfl, h1, h2⟩
  · exact ⟨-1, σ, σ, by rw [bc_s (rowRef_bad h1 σ), if_neg (by decide)], by unfold F_M_tear; rw [bp_s h2, if_pos rfl], hR⟩
  · rcases rowsz hR.1.1 hr with ⟨h8, h64⟩ | ⟨n, hn, h8, h64⟩
    · refine ⟨-3, gX 1 σ, gM 1 (gX 1 σ), by rw [bc_s (rowRef_no hr h1 h8), if_neg (by decide)], ?_, fR hR⟩
      unfold F_M_tear
      rw [bp_s h2, if_neg (by decide), gi hr (by decide), c31 (by omega), gX_c (by decide) (by decide), h64, if_neg (by decide), bc_s (foM1 _)]
    · refine ⟨1, s1 σ 8 r (-1), s1 (s1 σ 8 r (-1)) 64 r (-1), ?_, ?_, ?_⟩
      · rw [bc_s (rowRef_ok hr hn h1 h8), if_pos rfl, gi hr (by decide), c31 (by omega), jn_s]
      · unfold F_M_tear
        rw [bp_s h2, if_neg (by decide), gi hr (by decide), c31 (by omega), s1_c (k' := 64) (by decide), h64, if_pos (nI_pos' (by omega)), gi hr (by decide), jn_s]
      · have hf : Fr [8, 64] σ (s1 (s1 σ 8 r (-1)) 64 r (-1)) := Fr.trans (Fr.s1 (by simp)) (Fr.s1 (by simp))
        refine ⟨hR.1.rows (fun c hc hnc => hf.1 c (by simp; omega)) ?_, hR.2.fr hf rfl⟩
        refine RR.put hR.1.1 (r := r) (-1) (σ.1 (2 + r)) (Or.inl rfl) (fun j => ?_) (fun j => ?_) (fun j hj => ?_) (fun q hq hne => ?_) (fun q j hq hj => ?_)
        · rw [s1_c (by decide), s1_get]; simp
        · rw [s1_get, s1_c (by decide)]; simp
        · rw [s1_c (by omega), s1_c (by omega)]
        · rw [s1_c (by omega), s1_c (by omega)]
        · rw [s1_c (by decide), s1_c (by decide), ← hR.1.1.2 q hq j hj]
          by_cases e : q = r
          · rw [if_pos e, e]
          · rw [if_neg e]
