theorem Rel.ask3 {S1 S2 S3 : List Nat} {σ a c e : GS} {v : Int32} (hR : Rel σ) (f1 : Fr S1 σ a) (f2 : Fr S2 (s1 a 0 16 v) c) (f3 : Fr S3 (s1 c 63 9 v) e) (hS : (S1 ++ (S2 ++ S3)).all (fun c => !kB c && !(c == 0 || c == 62 || c == 63 || c == 73)) = true) : Rel e := by
  have hB : ∀ c, c ∈ S1 ++ (S2 ++ S3) → kB c = false ∧ (c == 0 || c == 62 || c == 63 || c == 73) = false := fun c hc => by
    have := List.all_eq_true.mp hS c hc
    rw [Bool.and_eq_true, Bool.not_eq_true', Bool.not_eq_true'] at this
    exact this
  have hk : ∀ z, kB z = true ∨ (z == 0 || z == 62 || z == 63 || z == 73) = true → z ∉ S1 ∧ z ∉ S2 ∧ z ∉ S3 := fun z hz => by
    refine ⟨fun q => ?_, fun q => ?_, fun q => ?_⟩
    all_goals
      have := hB z (by simp [q])
      rcases hz with h | h
      · rw [this.1] at h; cases h
      · rw [this.2] at h; cases h
  refine ⟨hR.1.fr1 fun z hz => ?_, RL.ask hR.2 v ?_ ?_ ?_ ?_ ?_ ?_ ?_⟩
  · obtain ⟨k1, k2, k3⟩ := hk z (Or.inl hz)
    have h0 : z ≠ 0 ∧ z ≠ 63 := by
      have := of_decide_eq_true hz
      omega
    rw [f3.1 z k3, s1_c h0.2, f2.1 z k2, s1_c h0.1, f1.1 z k1]
  · obtain ⟨k1, k2, k3⟩ := hk 0 (Or.inr rfl)
    rw [f3.1 0 k3, s1_c (by decide), f2.1 0 k2, s1_at]
  · obtain ⟨k1, k2, k3⟩ := hk 0 (Or.inr rfl)
    rw [f3.1 0 k3, s1_c (by decide), f2.1 0 k2, s1_i (by decide), f1.1 0 k1]
  · obtain ⟨k1, k2, k3⟩ := hk 63 (Or.inr rfl)
    rw [f3.1 63 k3, s1_at]
  · obtain ⟨k1, k2, k3⟩ := hk 63 (Or.inr rfl)
    rw [f3.1 63 k3, s1_i (by decide), f2.1 63 k2, s1_c (by decide), f1.1 63 k1]
  · rw [f3.2, s1_l, f2.2, s1_l, f1.2]
  · obtain ⟨k1, k2, k3⟩ := hk 62 (Or.inr rfl)
    rw [f3.1 62 k3, s1_c (by decide), f2.1 62 k2, s1_c (by decide), f1.1 62 k1]
  · obtain ⟨k1, k2, k3⟩ := hk 73 (Or.inr rfl)
    rw [f3.1 73 k3, s1_c (by decide), f2.1 73 k2, s1_c (by decide), f1.1 73 k1]
-- copying
theorem has_neg {s i n : Int32} (h : i < 0) : F_X_hasPlaces s i n = some 0 := by
  unfold F_X_hasPlaces
  rw [if_pos h]
theorem has_nI {s i n : Nat} (hs : s ≤ 40) (hi : i < 2 ^ 31) (hn : n < 2 ^ 31) : F_X_hasPlaces (nI s) (nI i) (nI n) = some (if i + n ≤ s then 1 else 0) := by
  unfold F_X_hasPlaces
  rw [if_neg (nI_pos hi)]
  by_cases h : s < i
  · rw [if_pos (nI_lt h hi), if_neg (by omega)]
  · rw [if_neg (nI_nlt (by omega) (by omega)), pk_sub (by omega)]
    by_cases h2 : s - i < n
    · rw [if_pos (nI_lt h2 hn), if_neg (by omega)]
    · rw [if_neg (nI_nlt (by omega) (by omega)), if_pos (by omega)]
theorem cpM_loop {r to i j n : Nat} (hr : r < 6) (ht : to < 6) (hi : i + n ≤ 40) (hj : j + n ≤ 40) (σ : GS) : ∃ σ', F_M_copy_104 (nI r) (nI i) (nI to) (nI j) (nI n) (fun (v6_21 : Int32) (σL21 : GS) => some ((1 : Int32), σL21)) 50000 (0 : Int32) σ = some (1, σ') ∧ (∀ q, σ'.1 65 q = if 40 * to + j ≤ q ∧ q < 40 * to + j + n then σ.1 65 (40 * r + i + (q - (40 * to + j))) else σ.1 65 q) ∧ Fr [65] σ σ' := by
  by_cases hij : j ≤ i
  · refine lpE (G := fun m k (t : GS) => F_M_copy_104 (nI r) (nI i) (nI to) (nI j) (nI n) (fun (v6_21 : Int32) (σL21 : GS) => some ((1 : Int32), σL21)) m (nI k) t) (P := fun o => ∃ σ', o = some (1, σ') ∧ (∀ q, σ'.1 65 q = if 40 * to + j ≤ q ∧ q < 40 * to + j + n then σ.1 65 (40 * r + i + (q - (40 * to + j))) else σ.1 65 q) ∧ Fr [65] σ σ') (Inv := fun k t => (∀ q, t.1 65 q = if 40 * to + j ≤ q ∧ q < 40 * to + j + k then σ.1 65 (40 * r + i + (q - (40 * to + j))) else σ.1 65 q) ∧ Fr [65] σ t) (N := n) ?_ ?_ n 0 50000 σ (by omega) (by omega) ⟨fun q => by rw [if_neg (by omega)], Fr.refl _ _⟩
    · intro m k t hk h
      refine Or.inr ⟨s1 t 65 (40 * to + j + k) (t.1 65 (40 * r + i + k)), ?_, fun q => ?_, Fr.trans h.2 (Fr.s1 (by simp))⟩
      · show F_M_copy_104 (nI r) (nI i) (nI to) (nI j) (nI n) _ (m + 1) (nI k) t = F_M_copy_104 (nI r) (nI i) (nI to) (nI j) (nI n) _ m (nI (k + 1)) _
        rw [F_M_copy_104.eq_2, if_neg (nI_ge hk (by omega)), jn_s, if_pos (nI_le hij (by omega)), ix40, ix40]
        dsimp only
        rw [nI_add, nI_add, gi (by omega) (by decide), gi (by omega) (by decide), c31 (by omega), c31 (by omega), jn_s, nI_1]
      · rw [s1_get]
        by_cases e : q = 40 * to + j + k
        · rw [if_pos ⟨rfl, e⟩, if_pos (by omega), h.1, if_neg (by omega), show q - (40 * to + j) = k by omega]
        · rw [if_neg (fun z => e z.2), h.1 q]
          by_cases c : 40 * to + j ≤ q ∧ q < 40 * to + j + k
          · rw [if_pos c, if_pos (by omega)]
          · rw [if_neg c, if_neg (by omega)]
    · intro m t h
      refine ⟨t, ?_, h.1, h.2⟩
      show F_M_copy_104 (nI r) (nI i) (nI to) (nI j) (nI n) _ (m + 1) (nI n) t = _
      rw [F_M_copy_104.eq_2, if_pos (nI_le (Nat.le_refl _) (by omega))]
  · refine lpE (G := fun m k (t : GS) => F_M_copy_104 (nI r) (nI i) (nI to) (nI j) (nI n) (fun (v6_21 : Int32) (σL21 : GS) => some ((1 : Int32), σL21)) m (nI k) t) (P := fun o => ∃ σ', o = some (1, σ') ∧ (∀ q, σ'.1 65 q = if 40 * to + j ≤ q ∧ q < 40 * to + j + n then σ.1 65 (40 * r + i + (q - (40 * to + j))) else σ.1 65 q) ∧ Fr [65] σ σ') (Inv := fun k t => (∀ q, t.1 65 q = if 40 * to + j + (n - k) ≤ q ∧ q < 40 * to + j + n then σ.1 65 (40 * r + i + (q - (40 * to + j))) else σ.1 65 q) ∧ Fr [65] σ t) (N := n) ?_ ?_ n 0 50000 σ (by omega) (by omega) ⟨fun q => by rw [if_neg (by omega)], Fr.refl _ _⟩
    · intro m k t hk h
      refine Or.inr ⟨s1 t 65 (40 * to + j + (n - 1 - k)) (t.1 65 (40 * r + i + (n - 1 - k))), ?_, fun q => ?_, Fr.trans h.2 (Fr.s1 (by simp))⟩
      · show F_M_copy_104 (nI r) (nI i) (nI to) (nI j) (nI n) _ (m + 1) (nI k) t = F_M_copy_104 (nI r) (nI i) (nI to) (nI j) (nI n) _ m (nI (k + 1)) _
        rw [F_M_copy_104.eq_2, if_neg (nI_ge hk (by omega)), jn_s, if_neg (nI_ge (by omega) (by omega)), sub1 (by omega), pk_sub (by omega), ix40, ix40]
        dsimp only
        rw [nI_add, nI_add, gi (by omega) (by decide), gi (by omega) (by decide), c31 (by omega), c31 (by omega), jn_s, nI_1]
      · rw [s1_get]
        by_cases e : q = 40 * to + j + (n - 1 - k)
        · rw [if_pos ⟨rfl, e⟩, if_pos (by omega), h.1, if_neg (by omega), show q - (40 * to + j) = n - 1 - k by omega]
        · rw [if_neg (fun z => e z.2), h.1 q]
          by_cases c : 40 * to + j + (n - k) ≤ q ∧ q < 40 * to + j + n
          · rw [if_pos c, if_pos (by omega)]
          · rw [if_neg c, if_neg (by omega)]
    · intro m t h
      refine ⟨t, ?_, fun q => by rw [h.1 q, Nat.sub_self, Nat.add_zero], h.2⟩
      show F_M_copy_104 (nI r) (nI i) (nI to) (nI j) (nI n) _ (m + 1) (nI n) t = _
      rw [F_M_copy_104.eq_2, if_pos (nI_le (Nat.le_refl _) (by omega))]
theorem stp_copy : St_copy Rel := by
  intro σ hR a1 a2 a3 a4 a5
  unfold F_X_copy
  rcases row_c a1 with ⟨h1, h2⟩ | ⟨r, hr, rfl, h1, h2⟩
  · exact ⟨-1, σ, σ, by rw [bp_s h1, if_pos rfl], by unfold F_M_copy; rw [bp_s h2, if_pos rfl], hR⟩
  rcases row_c a3 with ⟨h3, h4⟩ | ⟨to, ht, rfl, h3, h4⟩
  · exact ⟨-1, σ, σ, by rw [bp_s h1, if_neg (by decide), bp_s h3, if_pos rfl], by unfold F_M_copy; rw [bp_s h2, if_neg (by decide), bp_s h4, if_pos rfl], hR⟩
  rw [bp_s h1, if_neg (by decide), bp_s h3, if_neg (by decide)]
  have hM : ∀ s, F_M_copy (nI r) a2 (nI to) a4 a5 s = _ := fun s => by
    unfold F_M_copy
    rw [bp_s h2, if_neg (by decide), bp_s h4, if_neg (by decide)]
  by_cases h5 : 0 ≤ a5
  case neg =>
    exact ⟨-3, gX 5 σ, gM 5 (gX 5 σ), by rw [if_neg h5, bc_s (foX5 σ)], by rw [hM, if_neg h5, bc_s (foM5 _)], fR hR⟩
  rw [if_pos h5, gi hr (by decide), c31 (by omega)]
  rcases rowsz hR.1.1 hr with ⟨h8, h64⟩ | ⟨s, hs, h8, h64⟩
  · exact ⟨-3, gX 1 σ, gM 1 (gX 1 σ), by rw [h8, if_pos (by decide), bc_s (foX1 σ)], by rw [hM, if_pos h5, gi hr (by decide), c31 (by omega), gX_c (by decide) (by decide), h64, if_pos (by decide), bc_s (foM1 _)], fR hR⟩
  rw [h8, if_neg (nI_pos (by omega)), gi ht (by decide), c31 (n := to) (by omega)]
  rcases rowsz hR.1.1 ht with ⟨g8, g64⟩ | ⟨u, hu, g8, g64⟩
  · exact ⟨-3, gX 1 σ, gM 1 (gX 1 σ), by rw [g8, if_neg (by decide), bc_s (foX1 σ)], by rw [hM, if_pos h5, gi hr (by decide), c31 (by omega), gX_c (by decide) (by decide), h64, if_neg (nI_pos (by omega)), gi ht (by decide), c31 (by omega), g64, if_neg (by decide), bc_s (foM1 _)], fR hR⟩
  obtain ⟨n, hn, rfl⟩ := nI_of (x := a5) (Int32.not_lt.mpr h5)
  rw [g8, if_pos (nI_pos' (by omega)), gi hr (by decide)]
  have hM2 : ∀ s', s'.1 64 = σ.1 64 → F_M_copy (nI r) a2 (nI to) a4 (nI n) s' = if a2 < (0 : Int32) then some (-3, gM 2 s') else if a4 < (0 : Int32) then some (-3, gM 2 s') else (if (0 : Int32) < (lg_cmp (a2.toInt64 + (nI n).toInt64) (nI s).toInt64) then some (-3, gM 2 s') else (if (lg_cmp (a4.toInt64 + (nI n).toInt64) (nI u).toInt64) ≤ (0 : Int32) then F_M_copy_104 (nI r) a2 (nI to) a4 (nI n) (fun (v6_21 : Int32) (σL21 : GS) => some ((1 : Int32), σL21)) 50000 (0 : Int32) s' else some (-3, gM 2 s'))) := fun s' e => by
    rw [hM, if_pos h5, gi hr (by decide), c31 (by omega), e, h64, if_neg (nI_pos (by omega)), gi ht (by decide), c31 (by omega), g64, if_pos (nI_pos' (by omega)), gi hr (by decide), gi ht (by decide), bc_s (foM2 s'), jn_s]
  have bad : F_M_copy (nI r) a2 (nI to) a4 (nI n) (gX 2 σ) = some (-3, gM 2 (gX 2 σ)) → ∃ (q : Int32) (σ1 σ2 : GS), bc (F_X_found 2 σ) (fun r14 σ15 => some (r14, σ15)) = some (q, σ1) ∧ F_M_copy (nI r) a2 (nI to) a4 (nI n) σ1 = some (q, σ2) ∧ Rel σ2 := fun h => ⟨-3, gX 2 σ, gM 2 (gX 2 σ), by rw [bc_s (foX2 σ)], h, fR hR⟩
  have e64 : (gX 2 σ).1 64 = σ.1 64 := gX_c (by decide) (by decide)
  by_cases hx2 : a2 < 0
  · rw [bp_s (has_neg hx2), if_pos rfl]
    exact bad (by rw [hM2 _ e64, if_pos hx2])
  obtain ⟨i, hi, rfl⟩ := nI_of hx2
  have c1 : ∀ {i : Nat} {z : Nat}, i < 2 ^ 31 → z ≤ 40 → ((0 : Int32) < lg_cmp ((nI i).toInt64 + (nI n).toInt64) (nI z).toInt64 ↔ z < i + n) := fun {i z} h hz => by
    rw [lg_cmp_gt, nI_l h, nI_l hn, nI_l (by omega), lN_add, pk_lLT (by omega) (by omega)]
  have c2 : ∀ {i : Nat} {z : Nat}, i < 2 ^ 31 → z ≤ 40 → (lg_cmp ((nI i).toInt64 + (nI n).toInt64) (nI z).toInt64 ≤ (0 : Int32) ↔ i + n ≤ z) := fun {i z} h hz => by
    rw [lg_cmp_le, nI_l h, nI_l hn, nI_l (by omega), lN_add, pk_lLE (by omega) (by omega)]
  rw [bp_s (has_nI hs hi hn)]
  by_cases hin : i + n ≤ s
  case neg =>
    rw [if_neg hin, if_pos rfl]
    refine bad ?_
    rw [hM2 _ e64, if_neg hx2]
    by_cases hx4 : a4 < 0
    · rw [if_pos hx4]
    · rw [if_neg hx4, if_pos ((c1 hi hs).mpr (by omega))]
  rw [if_pos hin, if_neg (by decide), gi ht (by decide)]
  by_cases hx4 : a4 < 0
  · rw [bp_s (has_neg hx4), if_pos rfl]
    exact bad (by rw [hM2 _ e64, if_neg hx2, if_pos hx4])
  obtain ⟨j, hj, rfl⟩ := nI_of hx4
  rw [bp_s (has_nI hu hj hn)]
  by_cases hjn : j + n ≤ u
  case neg =>
    rw [if_neg hjn, if_pos rfl]
    refine bad ?_
    rw [hM2 _ e64, if_neg hx2, if_neg hx4, if_neg (fun q => by have := (c1 hi hs).mp q; omega), if_neg (fun q => hjn ((c2 hj hu).mp q))]
  rw [if_pos hjn, if_neg (by decide), gi hr (by decide), gi ht (by decide), c31 (by omega), c31 (by omega), c31 (by omega)]
  have hcp : cpB (nI i) (nI j) (nI n) 40 40 = true := decide_eq_true ⟨nI_pos (by omega), nI_pos (by omega), nI_pos (by omega), by rw [c31 (by omega), c31 (by omega)]; omega, by rw [c31 (by omega), c31 (by omega)]; omega⟩
  rw [gd_t hcp, jn_s]
  have fA : Fr [2 + to] σ (cA σ (2 + r) (2 + to) i j n) := ⟨fun c hc => by
    show va_up σ.1 (2 + to) _ c = σ.1 c
    unfold va_up
    rw [if_neg (fun e => hc (by simp [e]))], rfl⟩
  have eA : ∀ q, (cA σ (2 + r) (2 + to) i j n).1 (2 + to) q = if j ≤ q ∧ q < j + n then σ.1 (2 + r) (i + (q - j)) else σ.1 (2 + to) q := fun q => by
    show va_up σ.1 (2 + to) _ (2 + to) q = _
    unfold va_up
    rw [if_pos rfl]
    rfl
  obtain ⟨σ2, e2, y, f2⟩ := cpM_loop (i := i) (j := j) (n := n) hr ht (by omega) (by omega) (cA σ (2 + r) (2 + to) i j n)
  have e65 : (cA σ (2 + r) (2 + to) i j n).1 65 = σ.1 65 := fA.1 65 (by simp; omega)
  refine ⟨1, _, σ2, rfl, ?_, ?_, ?_⟩
  · rw [hM2 _ (fA.1 64 (by simp; omega)), if_neg hx2, if_neg hx4, if_neg (fun q => by have := (c1 hi hs).mp q; omega), if_pos ((c2 hj hu).mpr hjn)]
    exact e2
  · refine hR.1.rows (fun c hc hnc => by rw [f2.1 c (by simp; omega), fA.1 c (by simp; omega)]) ?_
    refine RR.put hR.1.1 (r := to) (nI u) (fun q => if j ≤ q ∧ q < j + n then σ.1 (2 + r) (i + (q - j)) else σ.1 (2 + to) q) (Or.inr ⟨u, hu, rfl⟩) (fun q => ?_) (fun q => ?_) (fun q hq => ?_) (fun z hz hne => ?_) (fun z q hz hq => ?_)
    · rw [f2.1 8 (by simp), fA.1 8 (by simp; omega)]
      by_cases e : q = to
      · rw [if_pos e, e, g8]
      · rw [if_neg e]
    · rw [f2.1 64 (by simp), fA.1 64 (by simp; omega)]
      by_cases e : q = to
      · rw [if_pos e, e, g64]
      · rw [if_neg e]
    · rw [f2.1 (2 + to) (by simp; omega), eA]
    · rw [f2.1 (2 + z) (by simp; omega), fA.1 (2 + z) (by simp; omega)]
    · rw [y, e65]
      by_cases e : z = to
      · subst e
        rw [if_pos rfl]
        by_cases c : j ≤ q ∧ q < j + n
        · rw [if_pos c, if_pos (by omega), hR.1.1.2 r hr (i + (q - j)) (by omega), show 40 * r + i + (40 * z + q - (40 * z + j)) = 40 * r + (i + (q - j)) by omega]
        · rw [if_neg c, if_neg (by omega), hR.1.1.2 z hz q hq]
      · rw [if_neg e, if_neg (by omega)]
  · have k : ∀ c, c = 0 ∨ c = 62 ∨ c = 63 ∨ c = 73 → σ2.1 c = σ.1 c := fun c hc => by rw [f2.1 c (by simp; omega), fA.1 c (by simp; omega)]
    have e2 : σ2.2 = σ.2 := by rw [f2.2, fA.2]
    unfold RL
    rw [k 0 (by omega), k 62 (by omega), k 63 (by omega), k 73 (by omega), e2]
    exact hR.2
