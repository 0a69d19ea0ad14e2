def sumR (f : Nat → Int32) : Nat → Int64
  | 0 => 0
  | n + 1 => sumR f n + (f n).toInt64
theorem sumR_congr {f g : Nat → Int32} : ∀ {n : Nat}, (∀ i, i < n → f i = g i) → sumR f n = sumR g n
  | 0, _ => rfl
  | n + 1, h => by
    show sumR f n + (f n).toInt64 = sumR g n + (g n).toInt64
    rw [sumR_congr (fun i hi => h i (by omega)), h n (by omega)]
theorem meanX_loop {r n : Nat} (hr : r < 6) (hn : n ≤ 40) (σ : GS) (K : Int64 → Int32 → Option (Int32 × GS)) : F_X_mean_35 (nI r) (nI n) σ K 50000 (0 : Int64) (0 : Int32) = K (sumR (σ.1 (2 + r)) n) (nI n) := by
  refine lpE (G := fun k i (t : Int64) => F_X_mean_35 (nI r) (nI n) σ K k t (nI i)) (P := fun o => o = K (sumR (σ.1 (2 + r)) n) (nI n)) (Inv := fun i t => t = sumR (σ.1 (2 + r)) i) (N := n) ?_ ?_ n 0 50000 0 (by omega) (by omega) rfl
  · intro k i t hi h
    refine Or.inr ⟨sumR (σ.1 (2 + r)) (i + 1), ?_, rfl⟩
    show F_X_mean_35 (nI r) (nI n) σ K (k + 1) t (nI i) = F_X_mean_35 (nI r) (nI n) σ K k _ (nI (i + 1))
    rw [F_X_mean_35.eq_2, if_neg (nI_ge hi (by omega)), gi hr (by decide), gi (by omega) (by decide), c31 (by omega), c31 (by omega), nI_1, h]
    rfl
  · intro k t h
    show F_X_mean_35 (nI r) (nI n) σ K (k + 1) t (nI n) = _
    rw [F_X_mean_35.eq_2, if_pos (nI_le (Nat.le_refl _) (by omega)), h]
theorem meanM_loop {r n : Nat} (hr : r < 6) (hn : n ≤ 40) (σ : GS) (h64 : σ.1 64 r = nI n) (K : Int64 → Int32 → Option (Int32 × GS)) : F_M_mean_44 (nI r) σ K 50000 (0 : Int64) (0 : Int32) = K (sumR (fun i => σ.1 65 (40 * r + i)) n) (nI n) := by
  refine lpE (G := fun k i (t : Int64) => F_M_mean_44 (nI r) σ K k t (nI i)) (P := fun o => o = K (sumR (fun i => σ.1 65 (40 * r + i)) n) (nI n)) (Inv := fun i t => t = sumR (fun i => σ.1 65 (40 * r + i)) i) (N := n) ?_ ?_ n 0 50000 0 (by omega) (by omega) rfl
  · intro k i t hi h
    refine Or.inr ⟨sumR (fun i => σ.1 65 (40 * r + i)) (i + 1), ?_, rfl⟩
    show F_M_mean_44 (nI r) σ K (k + 1) t (nI i) = F_M_mean_44 (nI r) σ K k _ (nI (i + 1))
    rw [F_M_mean_44.eq_2, gi hr (by decide), c31 (by omega), h64, if_neg (nI_ge hi (by omega)), ix40, gi (by omega) (by decide), c31 (by omega), nI_1, h]
    rfl
  · intro k t h
    show F_M_mean_44 (nI r) σ K (k + 1) t (nI n) = _
    rw [F_M_mean_44.eq_2, gi hr (by decide), c31 (by omega), h64, if_pos (nI_le (Nat.le_refl _) (by omega)), h]
theorem zLn {α : Type} {n : Nat} {x : Option α} (h0 : n ≠ 0) (hn : n < 2 ^ 31) : gd (zL (nI n).toInt64) x = x := gd_t (decide_eq_true (by
  rw [nI_l hn]
  intro q
  exact h0 ((pk_lEQ (a := n) (b := 0) (by omega) (by decide)).mp q)))
theorem st_mean : St_mean Rel := by
  intro σ hR a1
  unfold F_X_mean
  rcases row_c a1 with ⟨h1, h2⟩ | ⟨r, hr, rfl, h1, h2⟩
  · exact ⟨-1, σ, σ, by rw [bc_s (rowRef_bad h1 σ), if_neg (by decide)], by unfold F_M_mean; rw [bp_s h2, if_pos rfl], hR⟩
  · rcases rowsz hR.1.1 hr with ⟨h8, h64⟩ | ⟨n, hn, h8, h64⟩
    · refine ⟨-3, gX 1 σ, gM 1 (gX 1 σ), by rw [bc_s (rowRef_no hr h1 h8), if_neg (by decide)], ?_, fR hR⟩
      unfold F_M_mean
      rw [bp_s h2, if_neg (by decide), gi hr (by decide), c31 (by omega), gX_c (by decide) (by decide), h64, if_neg (by decide), bc_s (foM1 _)]
    · by_cases h0 : n = 0
      · subst h0
        refine ⟨-3, gX 4 σ, gM 4 (gX 4 σ), ?_, ?_, fR hR⟩
        · rw [bc_s (rowRef_ok hr hn h1 h8), if_pos rfl, gi hr (by decide), c31 (by omega), h8, if_pos (by decide), bc_s (foX4 σ)]
        · unfold F_M_mean
          rw [bp_s h2, if_neg (by decide), gi hr (by decide), c31 (by omega), gX_c (by decide) (by decide), h64, if_pos (by decide), gi hr (by decide), if_pos (by decide), bc_s (foM4 _)]
      · have e : sumR (fun i => σ.1 65 (40 * r + i)) n = sumR (σ.1 (2 + r)) n := sumR_congr fun i hi => (hR.1.1.2 r hr i (by omega)).symm
        refine ⟨1, s1 σ 0 16 (sumR (σ.1 (2 + r)) n / (nI n).toInt64).toInt32, s1 (s1 σ 0 16 (sumR (σ.1 (2 + r)) n / (nI n).toInt64).toInt32) 63 9 (sumR (σ.1 (2 + r)) n / (nI n).toInt64).toInt32, ?_, ?_, ?_⟩
        · rw [bc_s (rowRef_ok hr hn h1 h8), if_pos rfl, gi hr (by decide), c31 (by omega), h8, if_neg (nI_ne0 (by omega) (by omega)), jn_s, jn_s, meanX_loop hr hn, zLn h0 (by omega), jn_s]
        · unfold F_M_mean
          have e64 : (s1 σ 0 16 (sumR (σ.1 (2 + r)) n / (nI n).toInt64).toInt32).1 64 r = nI n := by rw [s1_c (by decide)]; exact h64
          rw [bp_s h2, if_neg (by decide), gi hr (by decide), c31 (by omega), e64, if_pos (nI_pos' (by omega)), gi hr (by decide), if_neg (nI_ne0 (by omega) (by omega)), jn_s, meanM_loop hr hn _ e64, gi hr (by decide), zLn h0 (by omega), s1_c (k' := 65) (by decide), e]
          rfl
        · refine ⟨hR.1.fr (S := [0, 63]) (Fr.trans (Fr.s1 (by simp)) (Fr.s1 (by simp))) rfl, RL.ask hR.2 (sumR (σ.1 (2 + r)) n / (nI n).toInt64).toInt32 ?_ ?_ ?_ ?_ rfl ?_ ?_⟩
          · rw [s1_c (by decide), s1_at]
          · rw [s1_c (by decide), s1_i (by decide)]
          · rw [s1_at]
          · rw [s1_i (by decide), s1_c (by decide)]
          · rw [s1_c (by decide), s1_c (by decide)]
          · rw [s1_c (by decide), s1_c (by decide)]
-- texts
theorem RT.put {σ σ2 : GS} {r : Nat} (hR : RT σ) (v : Int32) (g : Nat → Int32) (hv : v = -1 ∨ ∃ n, n ≤ 80 ∧ v = nI n) (h8 : ∀ j, σ2.1 14 j = if j = r then v else σ.1 14 j) (h64 : ∀ j, σ2.1 66 j = if j = r then v else σ.1 66 j) (hrow : ∀ i, i < 80 → σ2.1 (10 + r) i = g i) (ho : ∀ r', r' < 4 → r' ≠ r → σ2.1 (10 + r') = σ.1 (10 + r')) (h65 : ∀ r' i, r' < 4 → i < 80 → σ2.1 67 (80 * r' + i) = if r' = r then g i else σ.1 67 (80 * r' + i)) : RT σ2 := by
  refine ⟨fun q hq => ?_, fun q hq i hi => ?_⟩
  · rw [h8, h64]
    by_cases e : q = r
    · rw [if_pos e, if_pos e]
      exact ⟨rfl, hv⟩
    · rw [if_neg e, if_neg e]
      exact hR.1 q hq
  · rw [h65 q i hq hi]
    by_cases e : q = r
    · subst e
      rw [if_pos rfl, hrow i hi]
    · rw [if_neg e, ho q hq e]
      exact hR.2 q hq i hi
theorem textM {r n : Nat} (hr : r < 4) (hn : n ≤ 80) (σ : GS) (hM : F_M_isText (nI r) = some 1) : ∃ σ', F_M_text (nI r) (nI n) σ = some (nI n, σ') ∧ (∀ j, σ'.1 66 j = if j = r then nI n else σ.1 66 j) ∧ (∀ j, σ'.1 67 j = if 80 * r ≤ j ∧ j < 80 * r + 80 then 32 else σ.1 67 j) ∧ Fr [66, 67] σ σ' := by
  unfold F_M_text
  rw [bp_s hM, if_neg (by decide), if_pos (show nI n ≤ 80 from nI_le (b := 80) hn (by decide)), if_pos (nI_pos' (by omega)), gi hr (by decide), c31 (by omega), jn_s, jn_s]
  refine lpE (G := fun k i (t : GS) => F_M_text_34 (nI r) (nI n) (fun (v3_5 : Int32) (σL5 : GS) => some (nI n, σL5)) k (nI i) t) (P := fun o => ∃ σ', o = some (nI n, σ') ∧ (∀ j, σ'.1 66 j = if j = r then nI n else σ.1 66 j) ∧ (∀ j, σ'.1 67 j = if 80 * r ≤ j ∧ j < 80 * r + 80 then 32 else σ.1 67 j) ∧ Fr [66, 67] σ σ') (Inv := fun i t => (∀ j, t.1 66 j = if j = r then nI n else σ.1 66 j) ∧ (∀ j, t.1 67 j = if 80 * r ≤ j ∧ j < 80 * r + i then 32 else σ.1 67 j) ∧ Fr [66, 67] σ t) (N := 80) ?_ ?_ 80 0 50000 _ (by omega) (by omega) ⟨fun j => by rw [s1_get]; simp, fun j => by rw [s1_c (by decide), if_neg (by omega)], Fr.s1 (by simp)⟩
  · intro m i t hi h
    refine Or.inr ⟨s1 t 67 (80 * r + i) 32, ?_, fun j => by rw [s1_c (by decide)]; exact h.1 j, fun j => ?_, Fr.trans h.2.2 (Fr.s1 (by simp))⟩
    · show F_M_text_34 (nI r) (nI n) _ (m + 1) (nI i) t = F_M_text_34 (nI r) (nI n) _ m (nI (i + 1)) _
      rw [F_M_text_34.eq_2, if_neg (show ¬ (80 : Int32) ≤ nI i from nI_ge (b := 80) hi (by decide)), ix80, gi (by omega) (by decide), c31 (by omega), jn_s, nI_1]
    · rw [s1_get]
      by_cases e : j = 80 * r + i
      · rw [if_pos ⟨rfl, e⟩, if_pos (by omega)]
      · rw [if_neg (fun z => e z.2), h.2.1 j]
        by_cases q : 80 * r ≤ j ∧ j < 80 * r + i
        · rw [if_pos q, if_pos (by omega)]
        · rw [if_neg q, if_neg (by omega)]
  · intro m t h
    refine ⟨t, ?_, h.1, h.2.1, h.2.2⟩
    show F_M_text_34 (nI r) (nI n) _ (m + 1) (nI 80) t = _
    rw [F_M_text_34.eq_2, if_pos (show (80 : Int32) ≤ nI 80 from by decide)]
theorem st_text : St_text Rel := by
  intro σ hR a1 a2
  unfold F_X_text
  rcases text_c a1 with ⟨h1, h2⟩ | ⟨r, hr, rfl, h1, h2⟩
  · exact ⟨-1, σ, σ, by rw [bp_s h1, if_pos rfl], by unfold F_M_text; rw [bp_s h2, if_pos rfl], hR⟩
  · rw [bp_s h1, if_neg (by decide)]
    by_cases ha : a2 ≤ 80
    · by_cases hb : 0 ≤ a2
      · obtain ⟨n, hn, rfl⟩ := nI_of2 (x := a2) (M := 80) (n := 80) (by decide) (Int32.not_lt.mpr hb) ha
        obtain ⟨σ1, e1, x1, f1⟩ := fillB_spec (q := 10 + r) (N := 80) (by decide) 32 (s1 σ 14 r (nI n))
        have f1' : Fr [14, 10 + r] σ σ1 := Fr.trans (Fr.s1 (by simp)) (f1.mono (by simp))
        obtain ⟨σ2, e2, y1, y2, f2⟩ := textM (n := n) hr hn σ1 h2
        refine ⟨nI n, σ1, σ2, ?_, e2, ?_, ?_⟩
        · rw [if_pos ha, if_pos hb, gi hr (by decide), c31 (by omega), jn_s, gi hr (by decide), bv_s e1]
        · refine hR.1.texts (fun c hc hn => ?_) ?_
          · rw [f2.1 c (by simp; omega), f1'.1 c (by simp; omega)]
          · refine RT.put hR.1.2.1 (r := r) (nI n) (fun _ => 32) (Or.inr ⟨n, hn, rfl⟩) (fun j => ?_) (fun j => ?_) (fun i hi => ?_) (fun q hq hne => ?_) (fun q i hq hi => ?_)
            · rw [f2.1 14 (by simp), f1.1 14 (by simp; omega), s1_get]; simp
            · rw [y1 j, f1'.1 66 (by simp; omega)]
            · rw [f2.1 (10 + r) (by simp; omega), x1 i, if_pos hi]
              decide
            · rw [f2.1 (10 + q) (by simp; omega), f1'.1 (10 + q) (by simp; omega)]
            · rw [y2, f1'.1 67 (by simp; omega)]
              by_cases e : q = r
              · subst e
                rw [if_pos (by omega), if_pos rfl]
              · rw [if_neg (by omega), if_neg e]
        · have h1 : RL σ1 := by
            have k : ∀ c, c = 0 ∨ c = 62 ∨ c = 63 ∨ c = 73 → σ1.1 c = σ.1 c := fun c hc => f1'.1 c (by simp; omega)
            unfold RL
            rw [k 0 (by omega), k 62 (by omega), k 63 (by omega), k 73 (by omega), f1'.2]
            exact hR.2
          exact h1.fr f2 rfl
      · refine ⟨-3, gX 5 σ, gM 5 (gX 5 σ), by rw [if_pos ha, if_neg hb, bc_s (foX5 σ)], ?_, fR hR⟩
        unfold F_M_text
        rw [bp_s h2, if_neg (by decide), if_pos ha, if_neg hb, bc_s (foM5 _)]
    · refine ⟨-1, σ, σ, by rw [if_neg ha], ?_, hR⟩
      unfold F_M_text
      rw [bp_s h2, if_neg (by decide), if_neg ha]
theorem st_put : St_put Rel := by
  intro σ hR a1 a2 a3
  unfold F_X_put
  rcases text_c a1 with ⟨h1, h2⟩ | ⟨r, hr, rfl, h1, h2⟩
  · exact ⟨-1, σ, σ, by rw [bc_s (txtRef_bad h1 σ), if_neg (by decide)], by unfold F_M_put; rw [bp_s h2, if_pos rfl], hR⟩
  · rcases txtsz hR.1.2.1 hr with ⟨h8, h64⟩ | ⟨n, hn, h8, h64⟩
    · refine ⟨-3, gX 1 σ, gM 1 (gX 1 σ), by rw [bc_s (txtRef_no hr h1 h8), if_neg (by decide)], ?_, fR hR⟩
      unfold F_M_put
      rw [bp_s h2, if_neg (by decide), gi hr (by decide), c31 (by omega), gX_c (by decide) (by decide), h64, if_neg (by decide), bc_s (foM1 _)]
    · rcases place_c (a2 := a2) (n := n) (by omega) with ⟨q1, q2⟩ | ⟨i, hi, rfl, q1⟩
      · refine ⟨-3, gX 2 σ, gM 2 (gX 2 σ), ?_, ?_, fR hR⟩
        · rw [bc_s (txtRef_ok hr hn h1 h8), if_pos rfl]
          rcases q2 with q2 | ⟨q2, q3⟩
          · rw [if_pos q2, bc_s (foX2 σ)]
          · rw [if_neg q2, gi hr (by decide), c31 (by omega), h8, if_neg q3, bc_s (foX2 σ)]
        · unfold F_M_put
          rw [bp_s h2, if_neg (by decide), gi hr (by decide), c31 (by omega), gX_c (by decide) (by decide), h64, if_pos (nI_pos' (by omega)), gi hr (by decide), bp_s q1, if_pos rfl, bc_s (foM2 _)]
      · refine ⟨σ.1 (10 + r) i + 1000, s1 σ (10 + r) i a3.toInt8.toInt32, s1 (s1 σ (10 + r) i a3.toInt8.toInt32) 67 (80 * r + i) a3.toInt8.toInt32, ?_, ?_, ?_⟩
        · rw [bc_s (txtRef_ok hr hn h1 h8), if_pos rfl, if_neg (nI_pos (by omega)), gi hr (by decide), c31 (by omega), h8, if_pos (nI_lt hi (by omega)), gi hr (by decide), gi (by omega) (by decide), gi hr (by decide), gi (by omega) (by decide), c31 (by omega), jn_s, pk_vb]
        · unfold F_M_put
          rw [bp_s h2, if_neg (by decide), gi hr (by decide), c31 (by omega), s1_c (k' := 66) (by omega), h64, if_pos (nI_pos' (by omega)), gi hr (by decide), bp_s q1, if_neg (by decide), ix80, gi (by omega) (by decide), gi (by omega) (by decide), c31 (by omega), jn_s, s1_c (k' := 67) (by omega), ← hR.1.2.1.2 r hr i (by omega)]
        · refine ⟨hR.1.texts (fun c hc hnc => ?_) ?_, ?_⟩
          · rw [s1_c (by omega), s1_c (by omega)]
          · refine RT.put hR.1.2.1 (r := r) (nI n) (fun j => if j = i then a3.toInt8.toInt32 else σ.1 (10 + r) j) (Or.inr ⟨n, hn, rfl⟩) (fun j => ?_) (fun j => ?_) (fun j hj => ?_) (fun q hq hne => ?_) (fun q j hq hj => ?_)
            · rw [s1_c (by decide), s1_c (by omega)]
              by_cases e : j = r
              · rw [if_pos e, e, h8]
              · rw [if_neg e]
            · rw [s1_c (by decide), s1_c (by omega)]
              by_cases e : j = r
              · rw [if_pos e, e, h64]
              · rw [if_neg e]
            · rw [s1_c (by omega), s1_get]
              simp
            · rw [s1_c (by omega), s1_c (by omega)]
            · rw [s1_get, s1_c (by omega)]
              by_cases e : q = r
              · subst e
                rw [if_pos rfl]
                by_cases e2 : j = i
                · rw [if_pos ⟨rfl, by omega⟩, if_pos e2]
                · rw [if_neg (by omega), if_neg e2, ← hR.1.2.1.2 q hq j hj]
              · rw [if_neg (by omega), if_neg e]
          · have k : ∀ c, c = 0 ∨ c = 62 ∨ c = 63 ∨ c = 73 → (s1 (s1 σ (10 + r) i a3.toInt8.toInt32) 67 (80 * r + i) a3.toInt8.toInt32).1 c = σ.1 c := fun c hc => by rw [s1_c (by omega), s1_c (by omega)]
            unfold RL
            rw [k 0 (by omega), k 62 (by omega), k 63 (by omega), k 73 (by omega)]
            exact hR.2
