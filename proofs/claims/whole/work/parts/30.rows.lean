/-! rows and texts -/
def gX (f : Nat) (σ : GS) : GS := s1 (s1 σ 0 15 (nI f)) 62 f (σ.1 62 f + 1)
def gM (f : Nat) (σ : GS) : GS := s1 (s1 σ 63 12 (nI f)) 73 f (σ.1 73 f + 1)
theorem foX1 (σ : GS) : F_X_found (1 : Int32) σ = some (-3, gX 1 σ) := foundX (f := 1) (by decide) (by decide) σ
theorem foX2 (σ : GS) : F_X_found (2 : Int32) σ = some (-3, gX 2 σ) := foundX (f := 2) (by decide) (by decide) σ
theorem foX3 (σ : GS) : F_X_found (3 : Int32) σ = some (-3, gX 3 σ) := foundX (f := 3) (by decide) (by decide) σ
theorem foX4 (σ : GS) : F_X_found (4 : Int32) σ = some (-3, gX 4 σ) := foundX (f := 4) (by decide) (by decide) σ
theorem foX5 (σ : GS) : F_X_found (5 : Int32) σ = some (-3, gX 5 σ) := foundX (f := 5) (by decide) (by decide) σ
theorem foM1 (σ : GS) : F_M_found (1 : Int32) σ = some (-3, gM 1 σ) := foundM (f := 1) (by decide) (by decide) σ
theorem foM2 (σ : GS) : F_M_found (2 : Int32) σ = some (-3, gM 2 σ) := foundM (f := 2) (by decide) (by decide) σ
theorem foM3 (σ : GS) : F_M_found (3 : Int32) σ = some (-3, gM 3 σ) := foundM (f := 3) (by decide) (by decide) σ
theorem foM4 (σ : GS) : F_M_found (4 : Int32) σ = some (-3, gM 4 σ) := foundM (f := 4) (by decide) (by decide) σ
theorem foM5 (σ : GS) : F_M_found (5 : Int32) σ = some (-3, gM 5 σ) := foundM (f := 5) (by decide) (by decide) σ
theorem gX_fr {f : Nat} (σ : GS) : Fr [0, 62] σ (gX f σ) := found_fr σ
theorem gX_c {f : Nat} {σ : GS} {c : Nat} (h0 : c ≠ 0) (h : c ≠ 62) : (gX f σ).1 c = σ.1 c := (gX_fr σ).1 c (by simp [h0, h])
theorem fR {f : Nat} {σ : GS} (hR : Rel σ) : Rel (gM f (gX f σ)) := found_rel σ hR [] rfl rfl (Fr.refl _ _)
theorem fRS {f : Nat} {σ σ1 : GS} (hR : Rel σ) (S : List Nat) (hF : Fr S (gX f σ) σ1) (hS : S.all (fun c => !kB c) = true) (hS2 : S.all (fun c => !(c == 0 || c == 62 || c == 63 || c == 73)) = true) : Rel (gM f σ1) := found_rel σ hR S hS hS2 hF
theorem m1_neg : ¬ (0 : Int32) ≤ -1 := by decide
theorem ixm (c r i : Nat) : nI c * nI r + nI i = nI (c * r + i) := by rw [pk_mul, nI_add]
theorem ix40 (r i : Nat) : (40 : Int32) * nI r + nI i = nI (40 * r + i) := ixm 40 r i
theorem ix80 (r i : Nat) : (80 : Int32) * nI r + nI i = nI (80 * r + i) := ixm 80 r i
theorem fillI_spec {q N : Nat} (hN : N < 40000) (v : Int32) (σ : GS) : ∃ σ', F_J_fillI q N v σ = some σ' ∧ (∀ j, σ'.1 q j = if j < N then v else σ.1 q j) ∧ Fr [q] σ σ' := by
  unfold F_J_fillI
  rw [jn_s, jn_s]
  refine lpE (G := fun n i (t : GS) => F_J_fillI_5 q N v (nI N) (fun (v2_2 : Int32) (σL2 : GS) => some σL2) n (nI i) t) (P := fun o => ∃ σ', o = some σ' ∧ (∀ j, σ'.1 q j = if j < N then v else σ.1 q j) ∧ Fr [q] σ σ') (Inv := fun i t => (∀ j, t.1 q j = if j < i then v else σ.1 q j) ∧ Fr [q] σ t) (N := N) ?_ ?_ N 0 50000 σ (by omega) (by omega) ⟨fun j => by rw [if_neg (Nat.not_lt_zero j)], Fr.refl _ _⟩
  · intro n i t hi h
    refine Or.inr ⟨s1 t q i v, ?_, fun j => ?_, Fr.trans h.2 (Fr.s1 (by simp))⟩
    · show F_J_fillI_5 q N v (nI N) _ (n + 1) (nI i) t = F_J_fillI_5 q N v (nI N) _ n (nI (i + 1)) _
      rw [F_J_fillI_5.eq_2, if_neg (nI_ge hi (by omega)), gi hi (by omega), jn_s, c31 (by omega), nI_1]
    · rw [s1_get]
      by_cases e : j = i
      · rw [if_pos ⟨rfl, e⟩, if_pos (by omega)]
      · rw [if_neg (fun z => e z.2), h.1 j]
        by_cases q : j < i
        · rw [if_pos q, if_pos (by omega)]
        · rw [if_neg q, if_neg (by omega)]
  · intro n t h
    refine ⟨t, ?_, h.1, h.2⟩
    show F_J_fillI_5 q N v (nI N) _ (n + 1) (nI N) t = some t
    rw [F_J_fillI_5.eq_2, if_pos (nI_le (Nat.le_refl _) (by omega))]
theorem fillB_spec {q N : Nat} (hN : N < 40000) (v : Int32) (σ : GS) : ∃ σ', F_J_fillB q N v σ = some σ' ∧ (∀ j, σ'.1 q j = if j < N then vp_nar .byte v else σ.1 q j) ∧ Fr [q] σ σ' := by
  unfold F_J_fillB
  rw [jn_s, jn_s]
  refine lpE (G := fun n i (t : GS) => F_J_fillB_5 q N v (nI N) (fun (v2_2 : Int32) (σL2 : GS) => some σL2) n (nI i) t) (P := fun o => ∃ σ', o = some σ' ∧ (∀ j, σ'.1 q j = if j < N then vp_nar .byte v else σ.1 q j) ∧ Fr [q] σ σ') (Inv := fun i t => (∀ j, t.1 q j = if j < i then vp_nar .byte v else σ.1 q j) ∧ Fr [q] σ t) (N := N) ?_ ?_ N 0 50000 σ (by omega) (by omega) ⟨fun j => by rw [if_neg (Nat.not_lt_zero j)], Fr.refl _ _⟩
  · intro n i t hi h
    refine Or.inr ⟨s1 t q i (vp_nar .byte v), ?_, fun j => ?_, Fr.trans h.2 (Fr.s1 (by simp))⟩
    · show F_J_fillB_5 q N v (nI N) _ (n + 1) (nI i) t = F_J_fillB_5 q N v (nI N) _ n (nI (i + 1)) _
      rw [F_J_fillB_5.eq_2, if_neg (nI_ge hi (by omega)), gi hi (by omega), jn_s, c31 (by omega), nI_1]
    · rw [s1_get]
      by_cases e : j = i
      · rw [if_pos ⟨rfl, e⟩, if_pos (by omega)]
      · rw [if_neg (fun z => e z.2), h.1 j]
        by_cases q : j < i
        · rw [if_pos q, if_pos (by omega)]
        · rw [if_neg q, if_neg (by omega)]
  · intro n t h
    refine ⟨t, ?_, h.1, h.2⟩
    show F_J_fillB_5 q N v (nI N) _ (n + 1) (nI N) t = some t
    rw [F_J_fillB_5.eq_2, if_pos (nI_le (Nat.le_refl _) (by omega))]
theorem renewX {r n : Nat} (hr : r < 6) (σ : GS) : ∃ σ', F_X_renewRow (nI r) (nI n) σ = some σ' ∧ (∀ j, σ'.1 8 j = if j = r then nI n else σ.1 8 j) ∧ (∀ i, i < 40 → σ'.1 (2 + r) i = 0) ∧ Fr [8, 2 + r] σ σ' := by
  obtain ⟨σ', e, h1, f⟩ := fillI_spec (q := 2 + r) (N := 40) (by decide) 0 (s1 σ 8 r (nI n))
  refine ⟨σ', ?_, fun j => ?_, fun i hi => by rw [h1 i, if_pos hi], Fr.trans (Fr.s1 (by simp)) (f.mono (by simp))⟩
  · unfold F_X_renewRow
    rw [gi hr (by decide), c31 (by omega), jn_s, gi hr (by decide), bv_s e]
  · rw [f.1 8 (by simp; omega), s1_get]
    simp
/-- the model's row, filled -/
theorem rowM {r n : Nat} (hr : r < 6) (hn : n ≤ 40) (σ : GS) (hM : F_M_isRow (nI r) = some 1) : ∃ σ', F_M_row (nI r) (nI n) σ = some (nI n, σ') ∧ (∀ j, σ'.1 64 j = if j = r then nI n else σ.1 64 j) ∧ (∀ j, σ'.1 65 j = if 40 * r ≤ j ∧ j < 40 * r + 40 then 0 else σ.1 65 j) ∧ Fr [64, 65] σ σ' := by
  unfold F_M_row
  rw [bp_s hM, if_neg (by decide), if_pos (show nI n ≤ 40 from nI_le (b := 40) hn (by decide)), if_pos (nI_pos' (by omega)), gi hr (by decide), c31 (by omega), jn_s, jn_s]
  refine lpE (G := fun k i (t : GS) => F_M_row_34 (nI r) (nI n) (fun (v3_5 : Int32) (σL5 : GS) => some (nI n, σL5)) k (nI i) t) (P := fun o => ∃ σ', o = some (nI n, σ') ∧ (∀ j, σ'.1 64 j = if j = r then nI n else σ.1 64 j) ∧ (∀ j, σ'.1 65 j = if 40 * r ≤ j ∧ j < 40 * r + 40 then 0 else σ.1 65 j) ∧ Fr [64, 65] σ σ') (Inv := fun i t => (∀ j, t.1 64 j = if j = r then nI n else σ.1 64 j) ∧ (∀ j, t.1 65 j = if 40 * r ≤ j ∧ j < 40 * r + i then 0 else σ.1 65 j) ∧ Fr [64, 65] σ t) (N := 40) ?_ ?_ 40 0 50000 _ (by omega) (by omega) ⟨fun j => by rw [s1_get]; simp, fun j => by rw [s1_c (by decide), if_neg (by omega)], Fr.s1 (by simp)⟩
  · intro m i t hi h
    refine Or.inr ⟨s1 t 65 (40 * r + i) 0, ?_, fun j => by rw [s1_c (by decide)]; exact h.1 j, fun j => ?_, Fr.trans h.2.2 (Fr.s1 (by simp))⟩
    · show F_M_row_34 (nI r) (nI n) _ (m + 1) (nI i) t = F_M_row_34 (nI r) (nI n) _ m (nI (i + 1)) _
      rw [F_M_row_34.eq_2, if_neg (show ¬ (40 : Int32) ≤ nI i from nI_ge (b := 40) hi (by decide)), ix40, gi (by omega) (by decide), c31 (by omega), jn_s, nI_1]
    · rw [s1_get]
      by_cases e : j = 40 * r + i
      · rw [if_pos ⟨rfl, e⟩, if_pos (by omega)]
      · rw [if_neg (fun z => e z.2), h.2.1 j]
        by_cases q : 40 * r ≤ j ∧ j < 40 * r + i
        · rw [if_pos q, if_pos (by omega)]
        · rw [if_neg q, if_neg (by omega)]
  · intro m t h
    refine ⟨t, ?_, h.1, h.2.1, h.2.2⟩
    show F_M_row_34 (nI r) (nI n) _ (m + 1) (nI 40) t = _
    rw [F_M_row_34.eq_2, if_pos (show (40 : Int32) ≤ nI 40 from by decide)]
theorem RR.put {σ σ2 : GS} {r : Nat} (hR : RR σ) (v : Int32) (g : Nat → Int32) (hv : v = -1 ∨ ∃ n, n ≤ 40 ∧ v = nI n) (h8 : ∀ j, σ2.1 8 j = if j = r then v else σ.1 8 j) (h64 : ∀ j, σ2.1 64 j = if j = r then v else σ.1 64 j) (hrow : ∀ i, i < 40 → σ2.1 (2 + r) i = g i) (ho : ∀ r', r' < 6 → r' ≠ r → σ2.1 (2 + r') = σ.1 (2 + r')) (h65 : ∀ r' i, r' < 6 → i < 40 → σ2.1 65 (40 * r' + i) = if r' = r then g i else σ.1 65 (40 * r' + i)) : RR σ2 := by
  refine ⟨fun q hq => ?_, fun q hq i hi => ?_⟩
  · rw [h8, h64]
    by_cases e : q = r
    · rw [if_pos e, if_pos e]
      exact ⟨rfl, hv⟩
    · rw [if_neg e, if_neg e]
      exact hR.1 q hq
  · rw [h65 q i hq hi]
    by_cases e : q = r
    · subst e
      rw [if_pos rfl, hrow i hi]
    · rw [if_neg e, ho q hq e]
      exact hR.2 q hq i hi
theorem RB.rows {σ σ2 : GS} (hB : RB σ) (h : ∀ c, kB c = true → ¬ ((2 ≤ c ∧ c ≤ 8) ∨ c = 64 ∨ c = 65) → σ2.1 c = σ.1 c) (hRR : RR σ2) : RB σ2 := by
  have k : ∀ c, ((10 ≤ c ∧ c ≤ 14) ∨ (19 ≤ c ∧ c ≤ 31) ∨ c = 36 ∨ (54 ≤ c ∧ c ≤ 58) ∨ (66 ≤ c ∧ c ≤ 72)) → σ2.1 c = σ.1 c := fun c hc => h c (decide_eq_true (by omega)) (by omega)
  obtain ⟨h1, h2, h3, h4, h5, h6⟩ := hB
  refine ⟨hRR, h2.fr fun c hc => k c (by omega), h3.fr fun c hc => k c (by omega), h4.fr fun c hc => k c (by omega), ?_, h6.fr fun c hc => k c (by omega)⟩
  unfold RI
  rw [k 36 (by omega)]
  exact h5
theorem RB.texts {σ σ2 : GS} (hB : RB σ) (h : ∀ c, kB c = true → ¬ ((10 ≤ c ∧ c ≤ 14) ∨ c = 66 ∨ c = 67) → σ2.1 c = σ.1 c) (hRT : RT σ2) : RB σ2 := by
  have k : ∀ c, ((2 ≤ c ∧ c ≤ 8) ∨ (19 ≤ c ∧ c ≤ 31) ∨ c = 36 ∨ (54 ≤ c ∧ c ≤ 58) ∨ c = 64 ∨ c = 65 ∨ (68 ≤ c ∧ c ≤ 72)) → σ2.1 c = σ.1 c := fun c hc => h c (decide_eq_true (by omega)) (by omega)
  obtain ⟨h1, h2, h3, h4, h5, h6⟩ := hB
  refine ⟨h1.fr fun c hc => k c (by omega), hRT, h3.fr fun c hc => k c (by omega), h4.fr fun c hc => k c (by omega), ?_, h6.fr fun c hc => k c (by omega)⟩
  unfold RI
  rw [k 36 (by omega)]
  exact h5
theorem RL.ask {σ σ2 : GS} (hL : RL σ) (v : Int32) (h0 : σ2.1 0 16 = v) (h0' : σ2.1 0 15 = σ.1 0 15) (h63 : σ2.1 63 9 = v) (h63' : σ2.1 63 12 = σ.1 63 12) (h2 : σ2.2 = σ.2) (h62 : σ2.1 62 = σ.1 62) (h73 : σ2.1 73 = σ.1 73) : RL σ2 := by
  obtain ⟨a1, a2, a3, a4, a5⟩ := hL
  unfold RL
  rw [h0, h0', h63, h63', h2, h62, h73]
  exact ⟨a1, rfl, a3, a4, a5⟩
theorem rowsz {σ : GS} (hR : RR σ) {r : Nat} (hr : r < 6) : (σ.1 8 r = -1 ∧ σ.1 64 r = -1) ∨ ∃ n, n ≤ 40 ∧ σ.1 8 r = nI n ∧ σ.1 64 r = nI n := by
  obtain ⟨h1, h2⟩ := hR.1 r hr
  rcases h2 with h | ⟨n, hn, h⟩
  · exact Or.inl ⟨h, by rw [← h1, h]⟩
  · exact Or.inr ⟨n, hn, h, by rw [← h1, h]⟩
theorem txtsz {σ : GS} (hR : RT σ) {r : Nat} (hr : r < 4) : (σ.1 14 r = -1 ∧ σ.1 66 r = -1) ∨ ∃ n, n ≤ 80 ∧ σ.1 14 r = nI n ∧ σ.1 66 r = nI n := by
  obtain ⟨h1, h2⟩ := hR.1 r hr
  rcases h2 with h | ⟨n, hn, h⟩
  · exact Or.inl ⟨h, by rw [← h1, h]⟩
  · exact Or.inr ⟨n, hn, h, by rw [← h1, h]⟩
theorem st_row : St_row Rel := by
  intro σ hR a1 a2
  unfold F_X_row
  rcases row_c a1 with ⟨h1, h2⟩ | ⟨r, hr, rfl, h1, h2⟩
  · exact ⟨-1, σ, σ, by rw [bp_s h1, if_pos rfl], by unfold F_M_row; rw [bp_s h2, if_pos rfl], hR⟩
  · rw [bp_s h1, if_neg (by decide)]
    by_cases ha : a2 ≤ 40
    · by_cases hb : 0 ≤ a2
      · obtain ⟨n, hn, rfl⟩ := nI_of2 (x := a2) (M := 40) (n := 40) (by decide) (Int32.not_lt.mpr hb) ha
        obtain ⟨σ1, e1, x1, x2, f1⟩ := renewX (n := n) hr σ
        obtain ⟨σ2, e2, y1, y2, f2⟩ := rowM (n := n) hr hn σ1 h2
        refine ⟨nI n, σ1, σ2, by rw [if_pos ha, if_pos hb, bv_s e1], e2, ?_, ?_⟩
        · refine hR.1.rows (fun c hc hn => ?_) ?_
          · rw [f2.1 c (by simp; omega), f1.1 c (by simp; omega)]
          · refine RR.put hR.1.1 (r := r) (nI n) (fun _ => 0) (Or.inr ⟨n, hn, rfl⟩) (fun j => ?_) (fun j => ?_) (fun i hi => ?_) (fun q hq hne => ?_) (fun q i hq hi => ?_)
            · rw [f2.1 8 (by simp), x1 j]
            · rw [y1 j, f1.1 64 (by simp; omega)]
            · rw [f2.1 (2 + r) (by simp; omega), x2 i hi]
            · rw [f2.1 (2 + q) (by simp; omega), f1.1 (2 + q) (by simp; omega)]
            · rw [y2, f1.1 65 (by simp; omega)]
              by_cases e : q = r
              · subst e
                rw [if_pos (by omega), if_pos rfl]
              · rw [if_neg (by omega), if_neg e]
        · have h1 : RL σ1 := by
            have k : ∀ c, c = 0 ∨ c = 62 ∨ c = 63 ∨ c = 73 → σ1.1 c = σ.1 c := fun c hc => f1.1 c (by simp; omega)
            unfold RL
            rw [k 0 (by omega), k 62 (by omega), k 63 (by omega), k 73 (by omega), f1.2]
            exact hR.2
          exact h1.fr f2 rfl
      · refine ⟨-3, gX 5 σ, gM 5 (gX 5 σ), by rw [if_pos ha, if_neg hb, bc_s (foX5 σ)], ?_, fR hR⟩
        unfold F_M_row
        rw [bp_s h2, if_neg (by decide), if_pos ha, if_neg hb, bc_s (foM5 _)]
    · refine ⟨-1, σ, σ, by rw [if_neg ha], ?_, hR⟩
      unfold F_M_row
      rw [bp_s h2, if_neg (by decide), if_neg ha]
