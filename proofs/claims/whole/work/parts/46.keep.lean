/-! undo, keep, on -/
theorem stp_undo : St_undo Rel := by
  intro σ hR a1
  obtain ⟨n, h, e2, e3, hT⟩ := hR.1.2.2.1
  obtain ⟨hn, hh, m1, ⟨S, m0, hS⟩, hp⟩ := id hT
  unfold F_X_undo
  rw [e3]
  rcases bt_c a1 0 h (by decide) (by omega) with ⟨q1, q2⟩ | ⟨d, q1, q2, rfl, q3⟩
  · exact ⟨-1, σ, σ, lo_hi (hi := h) q2 _ _, by unfold F_M_undo; rw [m1, show F_M_in a1.toInt64 0 (nI h).toInt64 = some 0 from q1]; rfl, hR⟩
  have k68 : (s1 σ 19 3 (nI d)).1 68 = σ.1 68 := s1_c (by decide)
  have k69 : (s1 σ 19 3 (nI d)).1 69 = σ.1 69 := s1_c (by decide)
  have eM : ∀ r, (F_M_undo_29 (nI d) (nI (h - d)) (fun (v3_4 : Int32) (σL4 : GS) => some (nI (h - d), σL4)) 50000 0 (s1 σ 19 3 (nI d)) = r) → F_M_undo (nI d) (s1 σ 19 3 (nI d)) = r := fun r hr => by
    unfold F_M_undo
    rw [k68, m1, show F_M_in (nI d).toInt64 0 (nI h).toInt64 = some 1 from q3, bp_s rfl, if_neg (by decide), jn_s, pk_sub q2, jn_s]
    exact hr
  have hlo := lo_in (hi := h) q2 (by omega) (some ((-1 : Int32), σ)) (jn (s1 σ 19 3 (nI d)) (fun (σ1 : GS) => some (nI h - nI d, σ1)))
  rw [hlo, jn_s, pk_sub q2]
  by_cases hd : d = h
  · subst hd
    refine ⟨nI (d - d), s1 σ 19 3 (nI d), s1 σ 19 3 (nI d), rfl, eM _ ?_, ?_⟩
    · have : ∀ k, F_M_undo_29 (nI d) (nI (d - d)) (fun (v3_4 : Int32) (σL4 : GS) => some (nI (d - d), σL4)) (k + 1) 0 (s1 σ 19 3 (nI d)) = some (nI (d - d), s1 σ 19 3 (nI d)) := fun k => by
        rw [F_M_undo_29.eq_2, if_neg (by decide), if_pos (by rw [Nat.sub_self]; decide)]
      exact this 49999
    · have : s1 σ 19 3 (nI d) = σ := by
        unfold s1
        have e : upd (σ.1 19) 3 (nI d) = σ.1 19 := by
          funext j
          unfold upd
          by_cases q : j = 3
          · rw [if_pos q, q, e3]
          · rw [if_neg q]
        rw [e, up_id]
      rw [this]
      exact hR
  · have hM : ∃ σ', F_M_undo_29 (nI d) (nI (h - d)) (fun (v3_4 : Int32) (σL4 : GS) => some (nI (h - d), σL4)) 50000 0 (s1 σ 19 3 (nI d)) = some (nI (h - d), σ') ∧ (∀ j, j < 27 → σ'.1 68 j = σ.1 69 (27 * d + j)) ∧ Fr [68] (s1 σ 19 3 (nI d)) σ' := by
      refine lpE (G := fun k e (t : GS) => F_M_undo_29 (nI d) (nI (h - d)) (fun (v3_4 : Int32) (σL4 : GS) => some (nI (h - d), σL4)) k (nI e) t) (P := fun o => ∃ σ', o = some (nI (h - d), σ') ∧ (∀ j, j < 27 → σ'.1 68 j = σ.1 69 (27 * d + j)) ∧ Fr [68] (s1 σ 19 3 (nI d)) σ') (Inv := fun e t => (∀ j, j < e → t.1 68 j = σ.1 69 (27 * d + j)) ∧ Fr [68] (s1 σ 19 3 (nI d)) t) (N := 27) ?_ ?_ 27 0 50000 _ (by omega) (by omega) ⟨fun j hj => absurd hj (Nat.not_lt_zero _), Fr.refl _ _⟩
      · intro k e t he hI
        refine Or.inr ⟨s1 t 68 e (σ.1 69 (27 * d + e)), ?_, fun j hj => ?_, Fr.trans hI.2 (Fr.s1 (by simp))⟩
        · show F_M_undo_29 (nI d) (nI (h - d)) _ (k + 1) (nI e) t = F_M_undo_29 (nI d) (nI (h - d)) _ k (nI (e + 1)) _
          rw [F_M_undo_29.eq_2, if_neg (show ¬ (27 : Int32) ≤ nI e from nI_ge (b := 27) he (by decide)), if_neg (nI_nle (by omega) (by omega)), show (27 : Int32) * nI d + nI e = nI (27 * d + e) from ixm 27 d e, gi (by omega) (by decide), gi he (by decide), c31 (by omega), c31 (by omega), hI.2.1 69 (by simp), k69, jn_s, nI_1]
        · by_cases q : j = e
          · rw [q, s1_at]
          · rw [s1_i q, hI.1 j (by omega)]
      · intro k t hI
        refine ⟨t, ?_, hI.1, hI.2⟩
        show F_M_undo_29 (nI d) (nI (h - d)) _ (k + 1) (nI 27) t = _
        rw [F_M_undo_29.eq_2, if_pos (by decide)]
    obtain ⟨σ2, g1, g2, f2⟩ := hM
    refine ⟨nI (h - d), s1 σ 19 3 (nI d), σ2, rfl, eM _ g1, ?_, ?_⟩
    · refine hR.1.now (fun c hc hnc => ?_) ⟨n, d, ?_, ?_, ?_⟩
      · rw [f2.1 c (by simp; omega), s1_c (by omega)]
      · rw [f2.1 19 (by simp), s1_i (by decide)]; exact e2
      · rw [f2.1 19 (by simp), s1_at]
      · rw [f2.1 20 (by simp), f2.1 21 (by simp), f2.1 69 (by simp), s1_c (k' := 20) (by decide), s1_c (k' := 21) (by decide), k69]
        obtain ⟨b1, b2⟩ := hp d (by omega)
        refine ⟨hn, by omega, by rw [g2 1 (by omega)]; exact b1, b2.cg hn (fun _ _ _ => rfl) (fun j hj => g2 j hj) (fun _ _ => rfl), fun g hg => hp g (by omega)⟩
    · refine hR.2.fr2 (fun c hc => ?_) ?_
      · rw [f2.1 c (by simp; omega), s1_c (by omega)]
      · rw [f2.2, s1_l]
theorem becomesT {t u : Nat} {σ : GS} (h1 : t ≠ u) (h2 : t ≠ u + 1) (h3 : t ≠ u + 2) (h4 : t + 1 ≠ u + 2) (h6 : t + 1 ≠ u) (h7 : t + 2 ≠ u) (h8 : t + 2 ≠ u + 1) : ∃ σ', F_Tn_becomes t u σ = some σ' ∧ σ'.1 t 2 = σ.1 u 2 ∧ σ'.1 t 3 = σ.1 u 3 ∧ (∀ j, j < 5 → σ'.1 (t + 1) j = σ.1 (u + 1) j) ∧ (∀ j, j < 1220 → σ'.1 (t + 2) j = σ.1 (u + 2) j) ∧ Fr [t, t + 1, t + 2] σ σ' := by
  have e1 : (s1 (s1 σ t 2 (σ.1 u 2)) t 3 (σ.1 u 3)).1 = fun c => if c = t then upd (upd (σ.1 t) 2 (σ.1 u 2)) 3 (σ.1 u 3) else σ.1 c := by
    funext c
    by_cases q : c = t
    · subst q
      rw [if_pos rfl]
      funext j
      rw [s1_get, s1_get]
      unfold upd
      by_cases a : j = 3
      · rw [if_pos ⟨rfl, a⟩, if_pos a]
      · rw [if_neg (fun z => a z.2), if_neg a]
        by_cases b : j = 2
        · rw [if_pos ⟨rfl, b⟩, if_pos b]
        · rw [if_neg (fun z => b z.2), if_neg b]
    · rw [if_neg q, s1_c q, s1_c q]
  refine ⟨cA (cA (s1 (s1 σ t 2 (σ.1 u 2)) t 3 (σ.1 u 3)) (u + 1) (t + 1) 0 0 5) (u + 2) (t + 2) 0 0 1220, ?_, ?_, ?_, fun j hj => ?_, fun j hj => ?_, ?_⟩
  · unfold F_Tn_becomes
    rw [jn_s, s1_c (k' := u) (Ne.symm h1), jn_s, gd_t (show cpB (0 : Int32) (0 : Int32) (5 : Int32) 5 5 = true by decide), jn_s, gd_t (show cpB (0 : Int32) (0 : Int32) (1220 : Int32) 1220 1220 = true by decide), jn_s]
    rfl
  · rw [(cA_fr _ _ _ _ _ _).1 t (by simp), (cA_fr _ _ _ _ _ _).1 t (by simp), s1_i (by decide), s1_at]
  · rw [(cA_fr _ _ _ _ _ _).1 t (by simp), (cA_fr _ _ _ _ _ _).1 t (by simp), s1_at]
  · rw [(cA_fr _ _ _ _ _ _).1 (t + 1) (by simp), cA_at, if_pos (by omega), s1_c (by omega), s1_c (by omega), Nat.zero_add, Nat.sub_zero]
  · rw [cA_at, if_pos (by omega), (cA_fr _ _ _ _ _ _).1 (u + 2) (by simp; omega), s1_c (by omega), s1_c (by omega), Nat.zero_add, Nat.sub_zero]
  · exact Fr.trans (Fr.s1 (by simp)) (Fr.trans (Fr.s1 (by simp)) (Fr.trans ((cA_fr _ _ _ _ _ _).mono (by simp)) ((cA_fr _ _ _ _ _ _).mono (by simp))))
theorem ix27 (r i : Nat) : (27 : Int32) * nI r + nI i = nI (27 * r + i) := ixm 27 r i
theorem ix1620 (r i : Nat) : (1620 : Int32) * nI r + nI i = nI (1620 * r + i) := ixm 1620 r i
theorem RB.kept {σ σ2 : GS} (hB : RB σ) (h : ∀ c, kB c = true → ¬ ((23 ≤ c ∧ c ≤ 31) ∨ (70 ≤ c ∧ c ≤ 72)) → σ2.1 c = σ.1 c) (hRK : RK σ2) : RB σ2 := by
  have k : ∀ c, ((2 ≤ c ∧ c ≤ 8) ∨ (10 ≤ c ∧ c ≤ 14) ∨ (19 ≤ c ∧ c ≤ 22) ∨ c = 36 ∨ (54 ≤ c ∧ c ≤ 58) ∨ (64 ≤ c ∧ c ≤ 69)) → σ2.1 c = σ.1 c := fun c hc => h c (decide_eq_true (by omega)) (by omega)
  obtain ⟨h1, h2, h3, h4, h5, h6⟩ := hB
  refine ⟨h1.fr fun c hc => k c (by omega), h2.fr fun c hc => k c (by omega), h3.fr fun c hc => k c (by omega), hRK, ?_, h6.fr fun c hc => k c (by omega)⟩
  unfold RI
  rw [k 36 (by omega)]
  exact h5
theorem stp_keep : St_keep Rel := by
  intro σ hR a1
  obtain ⟨n, h, e2, e3, hT⟩ := hR.1.2.2.1
  obtain ⟨hn, hh, m1, ⟨S, m0, hS⟩, hp⟩ := id hT
  unfold F_X_keep
  rcases keep_c a1 with ⟨h1, h2⟩ | ⟨k, hk, rfl, h1, h2⟩
  · exact ⟨-1, σ, σ, by rw [bp_s h1, if_pos rfl], by unfold F_M_keep; rw [bp_s h2, if_pos rfl], hR⟩
  rw [bp_s h1, if_neg (by decide), e2]
  by_cases n0 : n = 0
  · subst n0
    exact ⟨-4, σ, σ, by rw [if_pos (by decide)], by unfold F_M_keep; rw [bp_s h2, if_neg (by decide), m0, if_pos (by decide)], hR⟩
  rw [if_neg (nI_ne0 (by omega) (by omega)), gi hk (by decide), c31 (by omega)]
  obtain ⟨σ1, g1, x2, x3, x4, x5, f1⟩ := becomesT (t := 23 + 3 * k) (u := 19) (σ := σ) (by omega) (by omega) (by omega) (by omega) (by omega) (by omega) (by omega)
  have k68 : σ1.1 68 = σ.1 68 := f1.1 68 (by simp; omega)
  have k69 : σ1.1 69 = σ.1 69 := f1.1 69 (by simp; omega)
  have hA : ∃ σ2, (∀ j, σ2.1 70 j = if 27 * k ≤ j ∧ j < 27 * k + 27 then σ1.1 68 (j - 27 * k) else σ1.1 70 j) ∧ Fr [70] σ1 σ2 ∧ ∀ K, F_M_keep_28 (nI k) K 50000 0 σ1 = K (nI 27) σ2 := by
    have := lpE (G := fun m e (t : GS) => fun (K : Int32 → GS → Option (Int32 × GS)) => F_M_keep_28 (nI k) K m (nI e) t) (P := fun o => ∃ σ2, (∀ j, σ2.1 70 j = if 27 * k ≤ j ∧ j < 27 * k + 27 then σ1.1 68 (j - 27 * k) else σ1.1 70 j) ∧ Fr [70] σ1 σ2 ∧ ∀ K, o K = K (nI 27) σ2) (Inv := fun e t => (∀ j, t.1 70 j = if 27 * k ≤ j ∧ j < 27 * k + e then σ1.1 68 (j - 27 * k) else σ1.1 70 j) ∧ Fr [70] σ1 t) (N := 27) ?_ ?_ 27 0 50000 σ1 (by omega) (by omega) ⟨fun j => by rw [if_neg (by omega)], Fr.refl _ _⟩
    · exact this
    · intro m e t he hI
      refine Or.inr ⟨s1 t 70 (27 * k + e) (σ1.1 68 e), ?_, copyM (by decide) (27 * k) σ1 t e hI⟩
      funext K
      show F_M_keep_28 (nI k) K (m + 1) (nI e) t = F_M_keep_28 (nI k) K m (nI (e + 1)) _
      rw [F_M_keep_28.eq_2, if_neg (show ¬ (27 : Int32) ≤ nI e from nI_ge (b := 27) he (by decide)), gi he (by decide), ix27, gi (by omega) (by decide), c31 (by omega), c31 (by omega), hI.2.1 68 (by simp), jn_s, nI_1]
    · intro m t hI
      refine ⟨t, hI.1, hI.2, fun K => ?_⟩
      show F_M_keep_28 (nI k) K (m + 1) (nI 27) t = _
      rw [F_M_keep_28.eq_2, if_pos (by decide)]
  obtain ⟨σ2, y1, f2, eA⟩ := hA
  have hB : ∃ σ3, (∀ j, σ3.1 71 j = if 1620 * k ≤ j ∧ j < 1620 * k + 1620 then σ2.1 69 (j - 1620 * k) else σ2.1 71 j) ∧ Fr [71] σ2 σ3 ∧ ∀ K, F_M_keep_59 (nI k) K 50000 0 σ2 = K (nI 1620) σ3 := by
    have := lpE (G := fun m e (t : GS) => fun (K : Int32 → GS → Option (Int32 × GS)) => F_M_keep_59 (nI k) K m (nI e) t) (P := fun o => ∃ σ3, (∀ j, σ3.1 71 j = if 1620 * k ≤ j ∧ j < 1620 * k + 1620 then σ2.1 69 (j - 1620 * k) else σ2.1 71 j) ∧ Fr [71] σ2 σ3 ∧ ∀ K, o K = K (nI 1620) σ3) (Inv := fun e t => (∀ j, t.1 71 j = if 1620 * k ≤ j ∧ j < 1620 * k + e then σ2.1 69 (j - 1620 * k) else σ2.1 71 j) ∧ Fr [71] σ2 t) (N := 1620) ?_ ?_ 1620 0 50000 σ2 (by omega) (by omega) ⟨fun j => by rw [if_neg (by omega)], Fr.refl _ _⟩
    · exact this
    · intro m e t he hI
      refine Or.inr ⟨s1 t 71 (1620 * k + e) (σ2.1 69 e), ?_, copyM (by decide) (1620 * k) σ2 t e hI⟩
      funext K
      show F_M_keep_59 (nI k) K (m + 1) (nI e) t = F_M_keep_59 (nI k) K m (nI (e + 1)) _
      rw [F_M_keep_59.eq_2, if_neg (show ¬ (1620 : Int32) ≤ nI e from nI_ge (b := 1620) he (by decide)), gi he (by decide), ix1620, gi (by omega) (by decide), c31 (by omega), c31 (by omega), hI.2.1 69 (by simp), jn_s, nI_1]
    · intro m t hI
      refine ⟨t, hI.1, hI.2, fun K => ?_⟩
      show F_M_keep_59 (nI k) K (m + 1) (nI 1620) t = _
      rw [F_M_keep_59.eq_2, if_pos (by decide)]
  obtain ⟨σ3, y2, f3, eB⟩ := hB
  have kk : ∀ c, c ≠ 70 → c ≠ 71 → c ≠ 72 → (s1 σ3 72 k 1).1 c = σ1.1 c := fun c a b d => by rw [s1_c d, f3.1 c (by simp [b]), f2.1 c (by simp [a])]
  refine ⟨nI h, σ1, s1 σ3 72 k 1, ?_, ?_, ?_, ?_⟩
  · rw [bv_s g1, f1.1 19 (by simp; omega), e3]
  · unfold F_M_keep
    rw [bp_s h2, if_neg (by decide), k68, m0, if_neg (nI_ne0 (by omega) (by omega)), jn_s, eA, jn_s, eB, gi hk (by decide), c31 (by omega), show vp_nar .boolean (1 : Int32) = 1 from by decide, jn_s, kk 68 (by decide) (by decide) (by decide), k68, m1]
  · refine hR.1.kept (fun c hc hnc => ?_) fun z hz => ?_
    · rw [kk c (by omega) (by omega) (by omega), f1.1 c (by simp; omega)]
    · by_cases q : z = k
      · subst q
        refine Or.inr ⟨s1_at _ _ _ _, n, h, n0, ?_, ?_, ?_⟩
        · rw [kk _ (by omega) (by omega) (by omega), x2]; exact e2
        · rw [kk _ (by omega) (by omega) (by omega), x3]; exact e3
        · rw [kk _ (by omega) (by omega) (by omega), kk _ (by omega) (by omega) (by omega)]
          refine hT.cg x4 x5 (fun j hj => ?_) (fun j hj => ?_)
          · rw [s1_c (k' := 70) (by decide), f3.1 70 (by simp), y1, if_pos (by omega), Nat.add_sub_cancel_left, k68]
          · rw [s1_c (k' := 71) (by decide), y2, if_pos (by omega), Nat.add_sub_cancel_left, f2.1 69 (by simp), k69]
      · have hz2 : ∀ c, 23 + 3 * z ≤ c → c ≤ 23 + 3 * z + 2 → (s1 σ3 72 k 1).1 c = σ.1 c := fun c a b => by rw [kk c (by omega) (by omega) (by omega), f1.1 c (by simp; omega)]
        have k72 : (s1 σ3 72 k 1).1 72 z = σ.1 72 z := by rw [s1_i q, f3.1 72 (by simp), f2.1 72 (by simp), f1.1 72 (by simp; omega)]
        rw [k72, hz2 _ (by omega) (by omega), hz2 (23 + 3 * z + 1) (by omega) (by omega), hz2 (23 + 3 * z + 2) (by omega) (by omega)]
        rcases hR.1.2.2.2.1 z hz with g | ⟨g, n', h', g1, g2, g3, g4⟩
        · exact Or.inl g
        · refine Or.inr ⟨g, n', h', g1, g2, g3, g4.cg (fun _ _ => rfl) (fun _ _ => rfl) (fun j hj => ?_) (fun j hj => ?_)⟩
          · rw [s1_c (k' := 70) (by decide), f3.1 70 (by simp), y1, if_neg (by omega), f1.1 70 (by simp; omega)]
          · rw [s1_c (k' := 71) (by decide), y2, if_neg (by omega), f2.1 71 (by simp), f1.1 71 (by simp; omega)]
  · refine hR.2.fr2 (fun c hc => ?_) ?_
    · rw [kk c (by omega) (by omega) (by omega), f1.1 c (by simp; omega)]
    · rw [s1_l, f3.2, f2.2, f1.2]
theorem stp_on : St_on Rel := by
  intro σ hR a1
  unfold F_X_on
  rcases keep_c a1 with ⟨h1, h2⟩ | ⟨k, hk, rfl, h1, h2⟩
  · exact ⟨-1, σ, σ, by rw [bp_s h1, if_pos rfl], by unfold F_M_on; rw [bp_s h2, if_pos rfl], hR⟩
  rw [bp_s h1, if_neg (by decide), gi hk (by decide), c31 (by omega)]
  rcases hR.1.2.2.2.1 k hk with ⟨z1, z2⟩ | ⟨z1, n, h, n0, e2, e3, hT⟩
  · refine ⟨-3, gX 1 σ, gM 1 (gX 1 σ), by rw [z2, if_pos rfl, bc_s (foX1 σ)], ?_, fR hR⟩
    unfold F_M_on
    rw [bp_s h2, if_neg (by decide), gi hk (by decide), c31 (by omega), gX_c (by decide) (by decide), z1, if_pos rfl, bc_s (foM1 _)]
  obtain ⟨hn, hh, m1, ⟨S, m0, hS⟩, hp⟩ := id hT
  rw [e2, if_neg (nI_ne0 (by omega) (by omega)), gi hk (by decide)]
  obtain ⟨σ1, g1, x2, x3, x4, x5, f1⟩ := becomesT (t := 19) (u := 23 + 3 * k) (σ := σ) (by omega) (by omega) (by omega) (by omega) (by omega) (by omega) (by omega)
  have k70 : σ1.1 70 = σ.1 70 := f1.1 70 (by simp)
  have k71 : σ1.1 71 = σ.1 71 := f1.1 71 (by simp)
  have hA : ∃ σ2, (∀ j, j < 27 → σ2.1 68 j = σ.1 70 (27 * k + j)) ∧ Fr [68] σ1 σ2 ∧ ∀ K, F_M_on_31 (nI k) K 50000 0 σ1 = K (nI 27) σ2 := by
    have := lpE (G := fun m e (t : GS) => fun (K : Int32 → GS → Option (Int32 × GS)) => F_M_on_31 (nI k) K m (nI e) t) (P := fun o => ∃ σ2, (∀ j, j < 27 → σ2.1 68 j = σ.1 70 (27 * k + j)) ∧ Fr [68] σ1 σ2 ∧ ∀ K, o K = K (nI 27) σ2) (Inv := fun e t => (∀ j, j < e → t.1 68 j = σ.1 70 (27 * k + j)) ∧ Fr [68] σ1 t) (N := 27) ?_ ?_ 27 0 50000 σ1 (by omega) (by omega) ⟨fun j hj => absurd hj (Nat.not_lt_zero _), Fr.refl _ _⟩
    · exact this
    · intro m e t he hI
      refine Or.inr ⟨s1 t 68 e (σ.1 70 (27 * k + e)), ?_, fun j hj => ?_, Fr.trans hI.2 (Fr.s1 (by simp))⟩
      · funext K
        show F_M_on_31 (nI k) K (m + 1) (nI e) t = F_M_on_31 (nI k) K m (nI (e + 1)) _
        rw [F_M_on_31.eq_2, if_neg (show ¬ (27 : Int32) ≤ nI e from nI_ge (b := 27) he (by decide)), ix27, gi (by omega) (by decide), gi he (by decide), c31 (by omega), c31 (by omega), hI.2.1 70 (by simp), k70, jn_s, nI_1]
      · by_cases q : j = e
        · rw [q, s1_at]
        · rw [s1_i q, hI.1 j (by omega)]
    · intro m t hI
      refine ⟨t, hI.1, hI.2, fun K => ?_⟩
      show F_M_on_31 (nI k) K (m + 1) (nI 27) t = _
      rw [F_M_on_31.eq_2, if_pos (by decide)]
  obtain ⟨σ2, y1, f2, eA⟩ := hA
  have hB : ∃ σ3, (∀ j, j < 1620 → σ3.1 69 j = σ.1 71 (1620 * k + j)) ∧ Fr [69] σ2 σ3 ∧ ∀ K, F_M_on_62 (nI k) K 50000 0 σ2 = K (nI 1620) σ3 := by
    have := lpE (G := fun m e (t : GS) => fun (K : Int32 → GS → Option (Int32 × GS)) => F_M_on_62 (nI k) K m (nI e) t) (P := fun o => ∃ σ3, (∀ j, j < 1620 → σ3.1 69 j = σ.1 71 (1620 * k + j)) ∧ Fr [69] σ2 σ3 ∧ ∀ K, o K = K (nI 1620) σ3) (Inv := fun e t => (∀ j, j < e → t.1 69 j = σ.1 71 (1620 * k + j)) ∧ Fr [69] σ2 t) (N := 1620) ?_ ?_ 1620 0 50000 σ2 (by omega) (by omega) ⟨fun j hj => absurd hj (Nat.not_lt_zero _), Fr.refl _ _⟩
    · exact this
    · intro m e t he hI
      refine Or.inr ⟨s1 t 69 e (σ.1 71 (1620 * k + e)), ?_, fun j hj => ?_, Fr.trans hI.2 (Fr.s1 (by simp))⟩
      · funext K
        show F_M_on_62 (nI k) K (m + 1) (nI e) t = F_M_on_62 (nI k) K m (nI (e + 1)) _
        rw [F_M_on_62.eq_2, if_neg (show ¬ (1620 : Int32) ≤ nI e from nI_ge (b := 1620) he (by decide)), ix1620, gi (by omega) (by decide), gi he (by decide), c31 (by omega), c31 (by omega), hI.2.1 71 (by simp), f2.1 71 (by simp), k71, jn_s, nI_1]
      · by_cases q : j = e
        · rw [q, s1_at]
        · rw [s1_i q, hI.1 j (by omega)]
    · intro m t hI
      refine ⟨t, hI.1, hI.2, fun K => ?_⟩
      show F_M_on_62 (nI k) K (m + 1) (nI 1620) t = _
      rw [F_M_on_62.eq_2, if_pos (by decide)]
  obtain ⟨σ3, y2, f3, eB⟩ := hB
  have k68 : ∀ j, j < 27 → σ3.1 68 j = σ.1 70 (27 * k + j) := fun j hj => by rw [f3.1 68 (by simp), y1 j hj]
  refine ⟨nI h, σ1, σ3, ?_, ?_, ?_, ?_⟩
  · rw [bv_s g1, x3, e3]
  · unfold F_M_on
    rw [bp_s h2, if_neg (by decide), gi hk (by decide), c31 (by omega), f1.1 72 (by simp), z1, if_neg (by decide), jn_s, eA, jn_s, eB, k68 1 (by omega), show σ.1 70 (27 * k + 1) = nI h from m1]
  · refine hR.1.now (fun c hc hnc => ?_) ⟨n, h, ?_, ?_, ?_⟩
    · rw [f3.1 c (by simp; omega), f2.1 c (by simp; omega), f1.1 c (by simp; omega)]
    · rw [f3.1 19 (by simp), f2.1 19 (by simp), x2]; exact e2
    · rw [f3.1 19 (by simp), f2.1 19 (by simp), x3]; exact e3
    · rw [f3.1 20 (by simp), f2.1 20 (by simp), f3.1 21 (by simp), f2.1 21 (by simp)]
      exact hT.cg x4 x5 k68 y2
  · refine hR.2.fr2 (fun c hc => ?_) ?_
    · rw [f3.1 c (by simp; omega), f2.1 c (by simp; omega), f1.1 c (by simp; omega)]
    · rw [f3.2, f2.2, f1.2]
