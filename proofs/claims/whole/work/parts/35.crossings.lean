/-! crossings by codes -/
theorem wv_cd {a b : Nat} (ha : isC a = true) (hb : isC b = true) : wv (dg a ++ wd b) := wv_app (dg_wv ha) (wd_wv hb)
theorem len_cd {a b : Nat} (ha : isC a = true) (hb : isC b = true) : (dg a ++ wd b).length ≤ 18 := by
  have := dg_le ha
  have := wd_le hb
  rw [List.length_append]
  omega
theorem far_eq {a b : Nat} (ha : isC a = true) (hb : isC b = true) : (rd (dg a ++ wd b)).length = (nf (dg a ++ wd b)).length := len_rd (wv_cd ha hb)
theorem len_way {a b : Nat} (ha : isC a = true) (hb : isC b = true) : (nf (dg a ++ wd b)).length ≤ 18 := Nat.le_trans (len_nf_le _) (len_cd ha hb)
theorem stp_plain : St_plain Rel := by
  intro σ hR a1
  unfold F_X_plain
  rcases code_c a1 with ⟨h1, h2⟩ | ⟨m, rfl, hc, h1, h2⟩
  · exact ⟨-1, σ, σ, by rw [bp_s h1, if_pos rfl], by unfold F_M_plain; rw [bp_s h2, if_pos rfl], hR⟩
  · obtain ⟨σ1, e1, -, f1⟩ := plainOfX_spec (σ := σ) hc
    obtain ⟨σ2, e2, f2⟩ := plainOfM_spec (σ := σ1) hc
    exact ⟨_, σ1, σ2, by rw [bp_s h1, if_neg (by decide), bc_s e1], by unfold F_M_plain; rw [bp_s h2, if_neg (by decide), bc_s e2], (hR.fr f1 rfl rfl).fr f2 rfl rfl⟩
theorem stp_far : St_far Rel := by
  intro σ hR a1 a2
  unfold F_X_far
  rcases codes_c a1 a2 with ⟨h1, h2⟩ | ⟨a, b, rfl, rfl, ha, hb, h1, h2, h3⟩
  · refine ⟨-1, σ, σ, ?_, by unfold F_M_far; rw [bp_s h1, if_pos rfl], hR⟩
    rcases h2 with h | ⟨h, h'⟩
    · rw [bp_s h, if_pos rfl]
    · rw [bp_s h, if_neg (by decide), bp_s h', if_pos rfl]
  · obtain ⟨σ1, e1, -, f1⟩ := gapX_spec (σ := σ) ha hb
    obtain ⟨σ2, e2, -, -, f2⟩ := farOf_spec (σ := σ1) ha hb
    refine ⟨_, σ1, σ2, by rw [bp_s h1, if_neg (by decide), bp_s h2, if_neg (by decide), bc_s e1], ?_, (hR.fr f1 rfl rfl).fr f2 rfl rfl⟩
    unfold F_M_far
    rw [bp_s h3, if_neg (by decide), bc_s e2, far_eq ha hb]
theorem stp_lies : St_lies Rel := by
  intro σ hR a1 a2 a3
  unfold F_X_lies
  rcases codes_c a1 a2 with ⟨h1, h2⟩ | ⟨a, b, rfl, rfl, ha, hb, h1, h2, h3⟩
  · refine ⟨-1, σ, σ, ?_, by unfold F_M_lies; rw [bp_s h1, if_pos rfl], hR⟩
    rcases h2 with h | ⟨h, h'⟩
    · rw [bp_s h, if_pos rfl]
    · rw [bp_s h, if_neg (by decide), bp_s h', if_pos rfl]
  · rcases code_c a3 with ⟨h4, h5⟩ | ⟨c, rfl, hc, h4, h5⟩
    · exact ⟨-1, σ, σ, by rw [bp_s h1, if_neg (by decide), bp_s h2, if_neg (by decide), bp_s h4, if_pos rfl], by unfold F_M_lies; rw [bp_s h3, if_neg (by decide), bp_s h5, if_pos rfl], hR⟩
    · obtain ⟨σ1, e1, -, f1⟩ := gapX_spec (σ := σ) ha hc
      obtain ⟨σ2, e2, -, f2⟩ := gapX_spec (σ := σ1) hc hb
      obtain ⟨σ3, e3, -, f3⟩ := gapX_spec (σ := σ2) ha hb
      obtain ⟨σ4, e4, -, -, f4⟩ := farOf_spec (σ := σ3) ha hc
      obtain ⟨σ5, e5, -, -, f5⟩ := farOf_spec (σ := σ4) hc hb
      obtain ⟨σ6, e6, -, -, f6⟩ := farOf_spec (σ := σ5) ha hb
      have hR6 : Rel σ6 := (hR.fr ((f1.trans f2).trans f3) rfl rfl).fr ((f4.trans f5).trans f6) rfl rfl
      have eM : F_M_lies (nI a) (nI b) (nI c) σ3 = if nI (nf (dg a ++ wd c)).length + nI (nf (dg c ++ wd b)).length = nI (nf (dg a ++ wd b)).length then some (1, σ6) else some (0, σ6) := by
        unfold F_M_lies
        rw [bp_s h3, if_neg (by decide), bp_s h5, if_neg (by decide), bc_s e4, bc_s e5, bc_s e6, far_eq ha hc, far_eq hc hb, far_eq ha hb]
      rw [bp_s h1, if_neg (by decide), bp_s h2, if_neg (by decide), bp_s h4, if_neg (by decide), bc_s e1, bc_s e2, bc_s e3]
      by_cases q : nI (nf (dg a ++ wd c)).length + nI (nf (dg c ++ wd b)).length = nI (nf (dg a ++ wd b)).length
      · exact ⟨1, σ3, σ6, by rw [if_pos q], by rw [eM, if_pos q], hR6⟩
      · exact ⟨0, σ3, σ6, by rw [if_neg q], by rw [eM, if_neg q], hR6⟩
theorem fm_rd (u v : List Nat) : fm (rd u) v = rd (u ++ v) := by
  unfold fm rd
  rw [List.foldl_append]
theorem stp_join : St_join Rel := by
  intro σ hR a1 a2
  unfold F_X_join
  rcases codes_c a1 a2 with ⟨h1, h2⟩ | ⟨a, b, rfl, rfl, ha, hb, h1, h2, h3⟩
  · refine ⟨-1, σ, σ, ?_, by unfold F_M_join; rw [bp_s h1, if_pos rfl], hR⟩
    rcases h2 with h | ⟨h, h'⟩
    · rw [bp_s h, if_pos rfl]
    · rw [bp_s h, if_neg (by decide), bp_s h', if_pos rfl]
  · have hva := wd_wv ha
    have hvb := wd_wv hb
    have hla := wd_le ha
    have hlb := wd_le hb
    have hn1 := len_nf_le (wd a)
    have hr1 := len_rd hva
    obtain ⟨σ1, e1, r1, f1⟩ := becomes_spec (w := 32) (σ := σ) ha
    obtain ⟨σ2, e2, r2, f2⟩ := goAlong_spec (w := 32) r1 hb (by omega)
    rw [← nf_app] at r2
    obtain ⟨σ3, e3, a3, v3, f3⟩ := follow0 (q := 75) (σ := σ2) ha
    obtain ⟨σ4, e4, a4, v4, f4⟩ := follow_spec (q := 75) (σ := σ3) a3 v3 hb (by omega)
    rw [fm_rd] at e4 a4 v4
    have hv := wv_app hva hvb
    have el := len_rd hv
    have hR4 : Rel σ4 := (hR.fr (f1.trans f2) rfl rfl).fr (f3.trans f4) rfl rfl
    rw [bp_s h1, if_neg (by decide), bp_s h2, if_neg (by decide), bv_s e1, bv_s e2, bp_s (code_spec r2)]
    have eM : F_M_join (nI a) (nI b) σ2 = if nI (nf (wd a ++ wd b)).length ≤ (9 : Int32) then bc (F_M_codeOf 75 (nI (rd (wd a ++ wd b)).length) σ4) (fun (r10 : Int32) (σ11 : GS) => some (r10, σ11)) else some ((-6 : Int32), σ4) := by
      unfold F_M_join
      rw [bp_s h3, if_neg (by decide), bc_s e3, bc_s e4, el]
    have hlen : (nf (wd a ++ wd b)).length ≤ 18 := by
      have := len_nf_le (wd a ++ wd b)
      rw [List.length_append] at this
      omega
    by_cases h9 : (nf (wd a ++ wd b)).length ≤ 9
    · obtain ⟨σ5, e5, f5⟩ := codeOf_spec (q1 := 75) (σ := σ4) (u := nf (wd a ++ wd b)) (by decide) (good_nf _).1 (wv_nf hv) (eqv_rd _) v4 (by omega) a4
      exact ⟨_, σ2, σ5, by rw [if_pos h9], by rw [eM, if_pos (show nI _ ≤ (9 : Int32) from nI_le (b := 9) h9 (by decide)), bc_s e5], hR4.fr f5 rfl rfl⟩
    · exact ⟨-6, σ2, σ4, by rw [if_neg h9], by rw [eM, if_neg (show ¬ nI (nf (wd a ++ wd b)).length ≤ (9 : Int32) from nI_ge (a := 9) (by omega) (by omega))], hR4⟩
theorem backX {m : Nat} {σ : GS} (hc : isC m = true) : ∃ σ1 σ', F_Wd_clear 32 σ = some σ1 ∧ F_Wd_goBackAlong 32 (nI m) σ1 = some σ' ∧ Rep σ' 32 (nf (dg m)) ∧ Fr [32, 33] σ σ' := by
  obtain ⟨σ', e, r, f⟩ := goBack_spec (w := 32) (clear_spec (w := 32) (σ := σ)).2 hc (Nat.zero_le _)
  exact ⟨_, σ', rfl, e, r, Fr.trans (Fr.s1 (by simp)) f⟩
theorem stp_back : St_back Rel := by
  intro σ hR a1
  unfold F_X_back
  rcases code_c a1 with ⟨h1, h2⟩ | ⟨m, rfl, hc, h1, h2⟩
  · exact ⟨-1, σ, σ, by rw [bp_s h1, if_pos rfl], by unfold F_M_back; rw [bp_s h2, if_pos rfl], hR⟩
  · obtain ⟨σ0, σ1, e0, e1, r1, f1⟩ := backX (σ := σ) hc
    have hv := dg_wv hc
    have hl := dg_le hc
    have hn := len_nf_le (dg m)
    have el := len_rd hv
    obtain ⟨σ2, e2, a2, v2, f2⟩ := followBack_spec (q := 75) (σ := σ1) (arr_nil _) wv_nil hc (by decide)
    have e2 : F_M_followBack 75 0 (nI m) σ1 = some (nI (rd (dg m)).length, σ2) := e2
    have a2 : arr (σ2.1 75) (rd (dg m)) := a2
    obtain ⟨σ3, e3, f3⟩ := codeOf_spec (q1 := 75) (σ := σ2) (u := nf (dg m)) (by decide) (good_nf _).1 (wv_nf hv) (eqv_rd _) v2 (by show (rd (dg m)).length ≤ 64; omega) a2
    have e3 : F_M_codeOf 75 (nI (rd (dg m)).length) σ2 = _ := e3
    refine ⟨_, σ1, σ3, by rw [bp_s h1, if_neg (by decide), bv_s e0, bv_s e1, bp_s (code_spec r1), if_pos (by omega)], ?_, ((hR.fr f1 rfl rfl).fr f2 rfl rfl).fr f3 rfl rfl⟩
    unfold F_M_back
    rw [bp_s h2, if_neg (by decide), bc_s e2, bc_s e3]
-- last streets, by the model
theorem isLast_spec {q k : Nat} {σ : GS} {l : List Nat} (ha : arr (σ.1 q) l) (hv : wv l) (hl : l.length ≤ 64) (hk : k < l.length) : F_M_isLast q (nI l.length) (nI k) σ = some (if lpl l k = true then 1 else 0) := by
  unfold F_M_isLast
  rw [jn_s, nI_1]
  have hg : ∀ i, i < l.length - (k + 1) → (l.drop (k + 1)).getD i 0 = l.getD (k + 1 + i) 0 := fun i hi => by
    rw [List.getD_eq_getElem?_getD, List.getD_eq_getElem?_getD, List.getElem?_drop]
  refine lpE (G := fun n i (t : Int32) => F_M_isLast_7 q (nI l.length) (nI k) σ (fun (v3_1 : Int32) (v4_1 : Int32) => gd (bB v3_1) (some v3_1)) n t (nI (k + 1 + i))) (P := fun o => o = some (if lpl l k = true then 1 else 0)) (Inv := fun i t => t = if ((l.drop (k + 1)).take i).all (fun x => nb x (l.getD k 0)) = true then 1 else 0) (N := l.length - (k + 1)) ?_ ?_ (l.length - (k + 1)) 0 50000 1 (by omega) (by omega) rfl
  · intro n i t hi h
    refine Or.inr ⟨if ((l.drop (k + 1)).take (i + 1)).all (fun x => nb x (l.getD k 0)) = true then 1 else 0, ?_, rfl⟩
    show F_M_isLast_7 q (nI l.length) (nI k) σ _ (n + 1) t (nI (k + 1 + i)) = F_M_isLast_7 q (nI l.length) (nI k) σ _ n _ (nI (k + 1 + (i + 1)))
    rw [F_M_isLast_7.eq_2, if_neg (nI_ge (by omega) (by omega)), nI_1, take_snoc (by rw [List.length_drop]; exact hi), List.all_append, hg i hi, h, ← Nat.add_assoc]
    by_cases z : ((l.drop (k + 1)).take i).all (fun x => nb x (l.getD k 0)) = true
    · rw [if_pos z, if_neg (by decide), gi (by omega) (by decide), gi (by omega) (by decide), c31 (by omega), c31 (by omega), ha k hk, ha (k + 1 + i) (by omega), bp_s (nbM _ (getD_lt hv (by omega)) _ (getD_lt hv hk)), z, Bool.true_and, List.all_cons, List.all_nil, Bool.and_true]
      by_cases y : nb (l.getD (k + 1 + i) 0) (l.getD k 0) = true
      · rw [if_pos y, if_neg (by decide)]
      · rw [if_neg y, if_pos rfl]
    · rw [if_neg z, if_pos rfl, Bool.eq_false_iff.mpr z, Bool.false_and]
      rfl
  · intro n t h
    show F_M_isLast_7 q (nI l.length) (nI k) σ _ (n + 1) t (nI (k + 1 + (l.length - (k + 1)))) = _
    rw [F_M_isLast_7.eq_2, if_pos (nI_le (by omega) (by omega)), h, List.take_of_length_le (by rw [List.length_drop]; omega)]
    unfold lpl
    by_cases z : (l.drop (k + 1)).all (fun x => nb x (l.getD k 0)) = true
    · rw [if_pos z]; rfl
    · rw [if_neg z]; rfl
theorem endsM_loop {l : List Nat} {σ : GS} (ha : arr (σ.1 75) l) (hv : wv l) (hl : l.length ≤ 64) (K : Int32 → Int32 → Option (Int32 × GS)) : F_M_endsOf_15 (nI l.length) σ K 50000 0 0 = K (nI (lset l)) (nI l.length) := by
  refine lpE (G := fun n i (t : Int32) => F_M_endsOf_15 (nI l.length) σ K n t (nI i)) (P := fun o => o = K (nI (lset l)) (nI l.length)) (Inv := fun i t => t = nI (lsF l i)) (N := l.length) ?_ ?_ l.length 0 50000 0 (by omega) (by omega) rfl
  · intro n i t hi h
    refine Or.inr ⟨nI (lsF l (i + 1)), ?_, rfl⟩
    show F_M_endsOf_15 (nI l.length) σ K (n + 1) t (nI i) = F_M_endsOf_15 (nI l.length) σ K n _ (nI (i + 1))
    have e2 : lsF l (i + 1) = if lpl l i = true then lsF l i ||| 2 ^ (l.getD i 0) else lsF l i := rfl
    rw [F_M_endsOf_15.eq_2, if_neg (nI_ge hi (by omega)), bp_s (isLast_spec ha hv hl hi), nI_1, h, e2]
    by_cases z : lpl l i = true
    · rw [if_pos z, if_pos z, if_neg (by decide), gi (by omega) (by decide), c31 (by omega), ha i hi, shl5 _ (getD_lt hv hi), or_nI]
    · rw [if_neg z, if_neg z, if_pos rfl, show (0 : Int32) = nI 0 from rfl, or_nI, Nat.or_zero]
  · intro n t h
    show F_M_endsOf_15 (nI l.length) σ K (n + 1) t (nI l.length) = _
    rw [F_M_endsOf_15.eq_2, if_pos (nI_le (Nat.le_refl _) (by omega)), h]
    rfl
theorem endsOf_spec {m : Nat} {σ : GS} (hc : isC m = true) : ∃ σ', F_M_endsOf (nI m) σ = some (nI (lset (nf (wd m))), σ') ∧ Fr [75] σ σ' := by
  obtain ⟨σ1, e1, a1, v1, f1⟩ := follow0 (q := 75) (σ := σ) hc
  have hv := wd_wv hc
  have h9 := wd_le hc
  have hl := len_rd hv
  have hl2 := len_nf_le (wd m)
  refine ⟨σ1, ?_, f1⟩
  unfold F_M_endsOf
  rw [bc_s e1, jn_s, endsM_loop a1 v1 (by omega), lset_eqv (eqv_rd (wd m)).symm]
theorem stp_ends : St_ends Rel := by
  intro σ hR a1
  unfold F_X_ends
  rcases code_c a1 with ⟨h1, h2⟩ | ⟨m, rfl, hc, h1, h2⟩
  · exact ⟨-1, σ, σ, by rw [bp_s h1, if_pos rfl], by unfold F_M_ends; rw [bp_s h2, if_pos rfl], hR⟩
  · obtain ⟨σ1, e1, r1, f1⟩ := becomes_spec (w := 32) (σ := σ) hc
    obtain ⟨σ2, e2, f2⟩ := endsOf_spec (σ := σ1) hc
    exact ⟨_, σ1, σ2, by rw [bp_s h1, if_neg (by decide), bv_s e1, bp_s (lastStreets_spec r1)], by unfold F_M_ends; rw [bp_s h2, if_neg (by decide), bc_s e2], (hR.fr f1 rfl rfl).fr f2 rfl rfl⟩
theorem stp_beyond : St_beyond Rel := by
  intro σ hR a1 a2
  unfold F_X_beyond
  rcases code_c a1 with ⟨h1, h2⟩ | ⟨m, rfl, hc, h1, h2⟩
  · exact ⟨-1, σ, σ, by rw [bp_s h1, if_pos rfl], by unfold F_M_beyond; rw [bp_s h2, if_pos rfl], hR⟩
  · rw [bp_s h1, if_neg (by decide)]
    rcases bt_c a2 0 20 (by decide) (by decide) with ⟨q1, q2⟩ | ⟨j, q1, q2, rfl, q3⟩
    · exact ⟨-1, σ, σ, lo_hi (hi := 20) q2 _ _, by unfold F_M_beyond; rw [bp_s h2, if_neg (by decide), show F_M_in a2.toInt64 0 20 = some 0 from q1]; rfl, hR⟩
    · obtain ⟨σ1, e1, r1, f1⟩ := becomes_spec (w := 32) (σ := σ) hc
      have hls := lset_lt (wv_nf (wd_wv hc))
      obtain ⟨k, hk, b1, b2⟩ := bits_s _ hls
      -- the number told by both
      have key : ∀ u : Int64, F_M_without (nI k) (nI j) = some u → ∃ (r : Int32) (σ1' σ2 : GS), some ((1 : Int32), s2 (s2 σ1 0 17 u) 0 18 1) = some (r, σ1') ∧ F_M_beyond (nI m) (nI j) σ1' = some (r, σ2) ∧ Rel σ2 := fun u hu => by
        obtain ⟨σ2, e2, f2⟩ := endsOf_spec (σ := s2 (s2 σ1 0 17 u) 0 18 1) hc
        refine ⟨1, _, s2 (s2 σ2 63 10 u) 63 11 1, rfl, ?_, hR.told f1 f2 (Fr.refl [] _) rfl⟩
        unfold F_M_beyond
        rw [bp_s h2, if_neg (by decide), show F_M_in (nI j).toInt64 0 20 = some 1 from q3, bp_s rfl, if_neg (by decide), bc_s e2, bp_s b2, bp_s hu, bc_s (tellsM1 _ _)]
      have eX := lo_in (hi := 20) q2 (by decide) (some ((-1 : Int32), σ)) (bv (F_Wd_becomes 32 (nI m) σ) fun σ4 => bp (F_Wd_lastStreets 32 σ4) fun r6 => bp (F_J_bitCount r6) fun r8 => if r8 = (0 : Int32) then bp (F_X_crossingsAt (nI j)) (fun (r21 : Int64) => bc (F_X_tell r21 (1 : Int64) σ4) (fun (r23 : Int32) (σ24 : GS) => some (r23, σ24))) else if r8 = (1 : Int32) then bp (F_X_crossingsNotBy1 (nI j)) (fun (r15 : Int64) => bc (F_X_tell r15 (1 : Int64) σ4) (fun (r17 : Int32) (σ18 : GS) => some (r17, σ18))) else bp (F_X_crossingsNotBy2 (nI j)) (fun (r10 : Int64) => bc (F_X_tell r10 (1 : Int64) σ4) (fun (r12 : Int32) (σ13 : GS) => some (r12, σ13))))
      rw [show (20 : Int32) = nI 20 from rfl, eX, bv_s e1, bp_s (lastStreets_spec r1), bp_s b1]
      by_cases k0 : k = 0
      · subst k0
        obtain ⟨g1, g2⟩ := vA_s j (by omega)
        rw [if_pos (by decide), bp_s g1, bc_s (tellX1 _ _)]
        exact key _ g2
      · rw [if_neg (nI_ne0 (by omega) (by omega))]
        by_cases k1 : k = 1
        · subst k1
          obtain ⟨g1, g2⟩ := v1_s j (by omega)
          rw [if_pos (by decide), bp_s g1, bc_s (tellX1 _ _)]
          exact key _ g2
        · obtain ⟨g1, g2⟩ := v2_s j (by omega)
          rw [if_neg (show ¬ nI k = (1 : Int32) from fun q => k1 ((nI_eq (a := k) (b := 1) (by omega) (by decide)).mp q)), bp_s g1, bc_s (tellX1 _ _)]
          exact key _ (g2 k hk (by omega))
