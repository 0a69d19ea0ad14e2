theorem revM {S : List Nat} {p : Nat} {σ : GS} {x1 x2 x3 v5 r2 v7 : Int32} (hS : arr (σ.1 76) S) (hv : wv S) (hp : p ≤ S.length) (hl : S.length ≤ 40) : ∃ σ', arr (σ'.1 77) (rd (S.take p).reverse) ∧ Fr [77] σ σ' ∧ ∀ K : Int32 → Int32 → GS → Option (Int32 × GS), F_M_nearest_45 x1 x2 x3 v5 r2 v7 K 50000 0 (nI p - 1) σ = K (nI (rd (S.take p).reverse).length) (-1) σ' := by
  have hrl := rev_len hp
  have hvr : wv (S.take p).reverse := wv_rev (wv_take hv p)
  have := lpE (G := fun n d (t : Int32 × GS) => fun (K : Int32 → Int32 → GS → Option (Int32 × GS)) => F_M_nearest_45 x1 x2 x3 v5 r2 v7 K n t.1 (nI (p - d) - 1) t.2) (P := fun o => ∃ σ', arr (σ'.1 77) (rd (S.take p).reverse) ∧ Fr [77] σ σ' ∧ ∀ K, o K = K (nI (rd (S.take p).reverse).length) (-1) σ') (Inv := fun d t => t.1 = nI (rd ((S.take p).reverse.take d)).length ∧ arr (t.2.1 77) (rd ((S.take p).reverse.take d)) ∧ Fr [77] σ t.2) (N := p) ?_ ?_ p 0 50000 (0, σ) (by omega) (by omega) ⟨rfl, arr_nil _, Fr.refl _ _⟩
  · exact this
  · rintro k d ⟨t1, t⟩ hd ⟨h1, h2, h3⟩
    have h1 : t1 = nI (rd ((S.take p).reverse.take d)).length := h1
    have h2 : arr (t.1 77) (rd ((S.take p).reverse.take d)) := h2
    have h3 : Fr [77] σ t := h3
    obtain ⟨t', e, r, f⟩ := tmM_next hvr (by omega) (by omega) h2
    rw [rev_getD hp hd] at e
    refine Or.inr ⟨(nI (rd ((S.take p).reverse.take (d + 1))).length, t'), ?_, rfl, r, h3.trans f⟩
    funext K
    show F_M_nearest_45 x1 x2 x3 v5 r2 v7 K (k + 1) t1 (nI (p - d) - 1) t = F_M_nearest_45 x1 x2 x3 v5 r2 v7 K k (nI (rd ((S.take p).reverse.take (d + 1))).length) (nI (p - (d + 1)) - 1) t'
    rw [sub1 (m := p - d) (by omega), F_M_nearest_45.eq_2, if_neg (nI_pos (by omega)), gi (by omega) (by decide), c31 (by omega), h3.1 76 (by simp), hS _ (by omega), show p - d - 1 = p - 1 - d by omega, h1, bc_s e, show p - (d + 1) = p - 1 - d by omega, Int32.sub_eq_add_neg]
  · rintro k ⟨t1, t⟩ ⟨h1, h2, h3⟩
    have h1 : t1 = nI (rd ((S.take p).reverse.take p)).length := h1
    have h2 : arr (t.1 77) (rd ((S.take p).reverse.take p)) := h2
    have h3 : Fr [77] σ t := h3
    rw [List.take_of_length_le (by omega)] at h1 h2
    refine ⟨t, h2, h3, fun K => ?_⟩
    show F_M_nearest_45 x1 x2 x3 v5 r2 v7 K (k + 1) t1 (nI (p - p) - 1) t = _
    rw [Nat.sub_self, F_M_nearest_45.eq_2, if_pos (by decide), h1]
    rfl
theorem sideM {Q V : List Nat} {n : Nat} {σ : GS} {x1 x2 x3 v5 r2 : Int32} (hQ : arr (σ.1 77) (rd Q)) (hV : arr (σ.1 83) V) (vQ : wv Q) (vV : wv V) (hn : n ≤ V.length) (hl : Q.length + V.length < 64) : ∃ σ', Fr [77] σ σ' ∧ ∀ K : Int32 → Int32 → GS → Option (Int32 × GS), F_M_nearest_97 x1 x2 x3 v5 r2 (nI n) K 50000 (nI (rd Q).length) 0 σ = K (nI (rd (Q ++ V.take n)).length) (nI n) σ' := by
  have h0 : Q ++ V.take 0 = Q := by rw [List.take_zero, List.append_nil]
  have := lpE (G := fun m i (t : Int32 × GS) => fun (K : Int32 → Int32 → GS → Option (Int32 × GS)) => F_M_nearest_97 x1 x2 x3 v5 r2 (nI n) K m t.1 (nI i) t.2) (P := fun o => ∃ σ', Fr [77] σ σ' ∧ ∀ K, o K = K (nI (rd (Q ++ V.take n)).length) (nI n) σ') (Inv := fun i t => t.1 = nI (rd (Q ++ V.take i)).length ∧ arr (t.2.1 77) (rd (Q ++ V.take i)) ∧ Fr [77] σ t.2) (N := n) ?_ ?_ n 0 50000 (nI (rd Q).length, σ) (by omega) (by omega) ⟨by rw [h0], by rw [h0]; exact hQ, Fr.refl _ _⟩
  · exact this
  · rintro k i ⟨t1, t⟩ hi ⟨h1, h2, h3⟩
    have h1 : t1 = nI (rd (Q ++ V.take i)).length := h1
    have h2 : arr (t.1 77) (rd (Q ++ V.take i)) := h2
    have h3 : Fr [77] σ t := h3
    have hw := wv_app vQ (wv_take vV i)
    have hb := len_rd_le hw
    rw [List.length_append, List.length_take] at hb
    obtain ⟨t', e, r, f⟩ := times_spec h2 (wv_rd hw) (s := V.getD i 0) (by omega) (getD_lt vV (by omega))
    have eq : tm (rd (Q ++ V.take i)) (V.getD i 0) = rd (Q ++ V.take (i + 1)) := by rw [take_snoc (by omega), ← List.append_assoc, rd_snoc]
    rw [eq] at e r
    refine Or.inr ⟨(nI (rd (Q ++ V.take (i + 1))).length, t'), ?_, rfl, r, h3.trans f⟩
    funext K
    show F_M_nearest_97 x1 x2 x3 v5 r2 (nI n) K (k + 1) t1 (nI i) t = F_M_nearest_97 x1 x2 x3 v5 r2 (nI n) K k (nI (rd (Q ++ V.take (i + 1))).length) (nI (i + 1)) t'
    rw [F_M_nearest_97.eq_2, if_neg (nI_ge hi (by omega)), gi (by omega) (by decide), c31 (by omega), h3.1 83 (by simp), hV i (by omega), h1, bc_s e, nI_1]
  · rintro k ⟨t1, t⟩ ⟨h1, h2, h3⟩
    have h1 : t1 = nI (rd (Q ++ V.take n)).length := h1
    have h3 : Fr [77] σ t := h3
    refine ⟨t, h3, fun K => ?_⟩
    show F_M_nearest_97 x1 x2 x3 v5 r2 (nI n) K (k + 1) t1 (nI n) t = _
    rw [F_M_nearest_97.eq_2, if_pos (nI_le (Nat.le_refl _) (by omega)), h1]
theorem nearM {S : List Nat} {p a f c : Nat} {σ : GS} (hS : arr (σ.1 76) S) (vS : wv S) (hp : p ≤ S.length) (hl : S.length ≤ 18) (ha : isC a = true) (hf : isC f = true) (hc : isC c = true) : ∃ σ', F_M_nearest (nI p) (nI a) (nI f) (nI c) σ = some (nI (mnl (nl (nf ((S.take p).reverse ++ (dg a ++ wd f))) (nf (dg f ++ wd c))) (nf (dg f ++ wd c)).length), σ') ∧ Fr [75, 77, 78, 83] σ σ' := by
  unfold F_M_nearest
  obtain ⟨σ1, e1, a1, v1, f1⟩ := farOf_spec (σ := σ) hf hc
  have hv := wv_cd hf hc
  have hV := len_way hf hc
  obtain ⟨σ2, e2, a2, f2⟩ := layPlain_spec (q1 := 75) (q3 := 83) (σ := σ1) (by decide) (by decide) (good_nf (dg f ++ wd c)).1 (wv_nf hv) (eqv_rd _) v1 (by rw [len_rd hv]; omega) a1
  have vV := wv_nf hv
  rw [bc_s e1, bv_s e2, far_eq hf hc, jn_s]
  have f12 : Fr [75, 77, 78, 83] σ σ2 := (f1.mono (by simp)).trans (f2.mono (by simp))
  generalize nf (dg f ++ wd c) = V at *
  have vR : wv (S.take p).reverse := wv_rev (wv_take vS p)
  have lR := rev_len hp
  have la := dg_le ha
  have lf := wd_le hf
  have hS2 : arr (σ2.1 76) S := by rw [f12.1 76 (by simp)]; exact hS
  obtain ⟨R, eR⟩ : ∃ R, R = (S.take p).reverse := ⟨_, rfl⟩
  rw [← eR] at vR lR ⊢
  have vQ : wv (R ++ (dg a ++ wd f)) := wv_app vR (wv_cd ha hf)
  have lQ : (R ++ (dg a ++ wd f)).length + V.length < 64 := by
    rw [List.length_append, List.length_append]
    omega
  have lnQ := len_nf_le (R ++ (dg a ++ wd f))
  have hg : ∀ k, nl (nf (R ++ (dg a ++ wd f))) V k ≤ 64 := nl_le (by omega)
  have eg : ∀ k, (rd ((R ++ (dg a ++ wd f)) ++ V.take k)).length = nl (nf (R ++ (dg a ++ wd f))) V k := fun k => by
    rw [len_rd (wv_app vQ (wv_take vV k)), nf_app]
    rfl
  refine lpE (G := fun n k (t : Int32 × GS) => F_M_nearest_30 (nI p) (nI a) (nI f) (nI V.length) (fun (v5_6 : Int32) (v7_6 : Int32) (σL6 : GS) => some (v5_6, σL6)) n t.1 (nI k) t.2) (P := fun o => ∃ σ', o = some (nI (mnl (nl (nf (R ++ (dg a ++ wd f))) V) V.length), σ') ∧ Fr [75, 77, 78, 83] σ σ') (Inv := fun k t => t.1 = nI (mlt (nl (nf (R ++ (dg a ++ wd f))) V) k) ∧ Fr [77] σ2 t.2) (N := V.length + 1) ?_ ?_ (V.length + 1) 0 50000 (99, σ2) (by omega) (by omega) ⟨rfl, Fr.refl _ _⟩
  · rintro n k ⟨t1, t⟩ hk ⟨h1, h3⟩
    have h1 : t1 = nI (mlt (nl (nf (R ++ (dg a ++ wd f))) V) k) := h1
    have h3 : Fr [77] σ2 t := h3
    obtain ⟨t2, b2, g2, z2⟩ := revM (p := p) (σ := t) (x1 := nI p) (x2 := nI a) (x3 := nI f) (v5 := t1) (r2 := nI V.length) (v7 := nI k) (S := S) (by rw [h3.1 76 (by simp)]; exact hS2) vS hp (by omega)
    rw [← eR] at b2 z2
    have lr := len_rd_le vR
    obtain ⟨t3, z3, b3, v3, g3⟩ := followBack_spec (q := 77) b2 (wv_rd vR) ha (by omega)
    rw [fm_rd] at z3 b3 v3
    have lr3 := len_rd_le (wv_app vR (dg_wv ha))
    rw [List.length_append] at lr3
    obtain ⟨t4, z4, b4, v4, g4⟩ := follow_spec (q := 77) b3 v3 hf (by omega)
    rw [fm_rd, List.append_assoc] at z4 b4 v4
    have g24 : Fr [77] σ2 t4 := ((h3.trans g2).trans g3).trans g4
    obtain ⟨t5, g5, z5⟩ := sideM (n := k) (x1 := nI p) (x2 := nI a) (x3 := nI f) (v5 := t1) (r2 := nI V.length) (σ := t4) b4 (by rw [g24.1 83 (by simp)]; exact a2) vQ vV (by omega) lQ
    refine Or.inr ⟨(nI (mlt (nl (nf (R ++ (dg a ++ wd f))) V) (k + 1)), t5), ?_, rfl, g24.trans g5⟩
    show F_M_nearest_30 (nI p) (nI a) (nI f) (nI V.length) _ (n + 1) t1 (nI k) t = F_M_nearest_30 (nI p) (nI a) (nI f) (nI V.length) _ n (nI (mlt (nl (nf (R ++ (dg a ++ wd f))) V) (k + 1))) (nI (k + 1)) t5
    have hm := mlt_le (g := nl (nf (R ++ (dg a ++ wd f))) V) k
    have hg1 := hg k
    rw [F_M_nearest_30.eq_2, if_neg (nI_nlt (by omega) (by omega)), jn_s, z2, bc_s z3, bc_s z4, jn_s, z5, eg, nI_1, h1, mlt_s]
    by_cases q : mlt (nl (nf (R ++ (dg a ++ wd f))) V) k ≤ nl (nf (R ++ (dg a ++ wd f))) V k
    · rw [if_pos (nI_le q (by omega)), if_pos q]
    · rw [if_neg (nI_ge (by omega) (by omega)), if_neg q]
  · rintro n ⟨t1, t⟩ ⟨h1, h3⟩
    have h1 : t1 = nI (mlt (nl (nf (R ++ (dg a ++ wd f))) V) (V.length + 1)) := h1
    have h3 : Fr [77] σ2 t := h3
    refine ⟨t, ?_, f12.trans (h3.mono (by simp))⟩
    show F_M_nearest_30 (nI p) (nI a) (nI f) (nI V.length) _ (n + 1) t1 (nI (V.length + 1)) t = _
    rw [F_M_nearest_30.eq_2, if_pos (nI_lt (by omega) (by omega)), h1, mlt_eq hg]
theorem thinM {a b c : Nat} {σ : GS} (ha : isC a = true) (hb : isC b = true) (hc : isC c = true) (e1 : F_M_areCodes (nI a) (nI b) = some 1) (e2 : F_M_isCode (nI c) = some 1) : ∃ σ', F_M_thin (nI a) (nI b) (nI c) σ = some (nI (thn (fun p => mnl (nl (nf ((nf (dg a ++ wd b)).take p).reverse) (nf (dg a ++ wd c))) (nf (dg a ++ wd c)).length) (fun p => mnl (nl (nf ((nf (dg a ++ wd b)).drop p)) (nf (dg b ++ wd c))) (nf (dg b ++ wd c)).length) ((nf (dg a ++ wd b)).length + 1)), σ') ∧ Fr [75, 76, 77, 78, 83] σ σ' := by
  unfold F_M_thin
  rw [bp_s e1, if_neg (by decide), bp_s e2, if_neg (by decide)]
  obtain ⟨σ1, e1, a1, v1, f1⟩ := farOf_spec (σ := σ) ha hb
  have hv := wv_cd ha hb
  have hV := len_way ha hb
  obtain ⟨σ2, e2, a2, f2⟩ := layPlain_spec (q1 := 75) (q3 := 76) (σ := σ1) (by decide) (by decide) (good_nf (dg a ++ wd b)).1 (wv_nf hv) (eqv_rd _) v1 (by rw [len_rd hv]; omega) a1
  have vS := wv_nf hv
  rw [bc_s e1, bv_s e2, far_eq ha hb, jn_s]
  have f12 : Fr [75, 76, 77, 78, 83] σ σ2 := (f1.mono (by simp)).trans (f2.mono (by simp))
  have q1 : ∀ p, nf (((nf (dg a ++ wd b)).take p).reverse ++ (dg a ++ wd a)) = nf ((nf (dg a ++ wd b)).take p).reverse := fun p => by
    rw [nf_app]
    exact fo_rev (good_nf _) (dg a)
  have q2 : ∀ p, nf (((nf (dg a ++ wd b)).take p).reverse ++ (dg a ++ wd b)) = nf ((nf (dg a ++ wd b)).drop p) := fun p => by
    rw [nf_app, ← fo_nf (good_nf _) (dg a ++ wd b)]
    have h : ∀ S : List Nat, fo (nf (S.take p).reverse) S = nf (S.drop p) := fun S => by
      have h1 : fo (nf (S.take p).reverse) (S.take p) = [] := by
        rw [← nf_app]
        exact fo_rev2 good_nil _
      conv => lhs; arg 2; rw [← List.take_append_drop p S]
      rw [fo_app, h1]
      rfl
    exact h _
  have l2 := len_way ha hc
  have l3 := len_way hb hc
  have N1 : ∀ (p : Nat) (t : GS), p ≤ (nf (dg a ++ wd b)).length → arr (t.1 76) (nf (dg a ++ wd b)) → ∃ σ', F_M_nearest (nI p) (nI a) (nI a) (nI c) t = some (nI (mnl (nl (nf ((nf (dg a ++ wd b)).take p).reverse) (nf (dg a ++ wd c))) (nf (dg a ++ wd c)).length), σ') ∧ Fr [75, 77, 78, 83] t σ' := fun p t h1 h2 => by
    rw [← q1 p]
    exact nearM h2 vS h1 hV ha ha hc
  have N2 : ∀ (p : Nat) (t : GS), p ≤ (nf (dg a ++ wd b)).length → arr (t.1 76) (nf (dg a ++ wd b)) → ∃ σ', F_M_nearest (nI p) (nI a) (nI b) (nI c) t = some (nI (mnl (nl (nf ((nf (dg a ++ wd b)).drop p)) (nf (dg b ++ wd c))) (nf (dg b ++ wd c)).length), σ') ∧ Fr [75, 77, 78, 83] t σ' := fun p t h1 h2 => by
    rw [← q2 p]
    exact nearM h2 vS h1 hV ha hb hc
  clear q1 q2
  generalize nf (dg a ++ wd b) = S at *
  generalize nf (dg a ++ wd c) = F at *
  generalize nf (dg b ++ wd c) = G at *
  generalize hA : (fun p => mnl (nl (nf (S.take p).reverse) F) F.length) = A
  generalize hB : (fun p => mnl (nl (nf (S.drop p)) G) G.length) = B
  have hA64 : ∀ p, A p ≤ 64 := fun p => by
    rw [← hA]
    refine mnl_le (nl_le ?_) _
    have := len_nf_le (S.take p).reverse
    rw [List.length_reverse, List.length_take] at this
    omega
  have hB64 : ∀ p, B p ≤ 64 := fun p => by
    rw [← hB]
    refine mnl_le (nl_le ?_) _
    have := len_nf_le (S.drop p)
    rw [List.length_drop] at this
    omega
  refine lpE (G := fun n i (t : Int32 × GS) => F_M_thin_45 (nI a) (nI b) (nI c) (nI S.length) (fun (v5_10 : Int32) (v6_10 : Int32) (σL10 : GS) => some (v5_10, σL10)) n t.1 (nI i) t.2) (P := fun o => ∃ σ', o = some (nI (thn A B (S.length + 1)), σ') ∧ Fr [75, 76, 77, 78, 83] σ σ') (Inv := fun i t => t.1 = nI (thn A B i) ∧ Fr [75, 77, 78, 83] σ2 t.2) (N := S.length + 1) ?_ ?_ (S.length + 1) 0 50000 (0, σ2) (by omega) (by omega) ⟨rfl, Fr.refl _ _⟩
  · rintro k i ⟨t1, t⟩ hi ⟨h1, h3⟩
    have h1 : t1 = nI (thn A B i) := h1
    have h3 : Fr [75, 77, 78, 83] σ2 t := h3
    obtain ⟨t2, g1, k1⟩ := N1 i t (by omega) (by rw [h3.1 76 (by simp)]; exact a2)
    have h4 := h3.trans k1
    obtain ⟨t3, g2, k2⟩ := N2 i t2 (by omega) (by rw [h4.1 76 (by simp)]; exact a2)
    have eA : mnl (nl (nf (S.take i).reverse) F) F.length = A i := by rw [← hA]
    have eB : mnl (nl (nf (S.drop i)) G) G.length = B i := by rw [← hB]
    rw [eA] at g1
    rw [eB] at g2
    refine Or.inr ⟨(nI (thn A B (i + 1)), t3), ?_, rfl, h4.trans k2⟩
    show F_M_thin_45 (nI a) (nI b) (nI c) (nI S.length) _ (k + 1) t1 (nI i) t = F_M_thin_45 (nI a) (nI b) (nI c) (nI S.length) _ k (nI (thn A B (i + 1))) (nI (i + 1)) t3
    have b1 := hA64 i
    have b2 := hB64 i
    have b3 := thn_le (B := B) hA64 i
    rw [F_M_thin_45.eq_2, if_neg (nI_nlt (by omega) (by omega)), bc_s g1, bc_s g2, jn_s, nI_1, h1, thn_s]
    by_cases q : B i ≤ A i
    · have em : (if B i < A i then B i else A i) = B i := by split <;> omega
      rw [if_pos (nI_le q (by omega)), em]
      dsimp only
      by_cases z : thn A B i < B i
      · rw [if_pos z, if_neg (nI_ge z (by omega))]
      · rw [if_neg z, if_pos (nI_le (by omega) (by omega))]
    · have em : (if B i < A i then B i else A i) = A i := by split <;> omega
      rw [if_neg (nI_ge (by omega) (by omega)), em]
      dsimp only
      by_cases z : thn A B i < A i
      · rw [if_pos z, if_neg (nI_ge z (by omega))]
      · rw [if_neg z, if_pos (nI_le (by omega) (by omega))]
  · rintro k ⟨t1, t⟩ ⟨h1, h3⟩
    have h1 : t1 = nI (thn A B (S.length + 1)) := h1
    have h3 : Fr [75, 77, 78, 83] σ2 t := h3
    refine ⟨t, ?_, f12.trans (h3.mono (by simp))⟩
    show F_M_thin_45 (nI a) (nI b) (nI c) (nI S.length) _ (k + 1) t1 (nI (S.length + 1)) t = _
    rw [F_M_thin_45.eq_2, if_pos (nI_lt (by omega) (by omega)), h1]
theorem stp_thin : St_thin Rel := by
  intro σ hR a1 a2 a3
  unfold F_X_thin
  rcases codes_c a1 a2 with ⟨h1, h2⟩ | ⟨a, b, rfl, rfl, ha, hb, h1, h2, h3⟩
  · refine ⟨-1, σ, σ, ?_, by unfold F_M_thin; rw [bp_s h1, if_pos rfl], hR⟩
    rcases h2 with h | ⟨h, h'⟩
    · rw [bp_s h, if_pos rfl]
    · rw [bp_s h, if_neg (by decide), bp_s h', if_pos rfl]
  · rcases code_c a3 with ⟨h4, h5⟩ | ⟨c, rfl, hc, h4, h5⟩
    · exact ⟨-1, σ, σ, by rw [bp_s h1, if_neg (by decide), bp_s h2, if_neg (by decide), bp_s h4, if_pos rfl], by unfold F_M_thin; rw [bp_s h3, if_neg (by decide), bp_s h5, if_pos rfl], hR⟩
    · obtain ⟨σ1, e1, f1⟩ := widthX (σ := σ) ha hb hc
      obtain ⟨σ2, e2, f2⟩ := thinM (σ := σ1) ha hb hc h3 h5
      exact ⟨_, σ1, σ2, by rw [bp_s h1, if_neg (by decide), bp_s h2, if_neg (by decide), bp_s h4, if_neg (by decide), bc_s e1], e2, (hR.fr f1 rfl rfl).fr f2 rfl rfl⟩
