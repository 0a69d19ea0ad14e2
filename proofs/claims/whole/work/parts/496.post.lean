/-! post -/
def pLit : List Nat := [0, 1, 2, 3, 4, 5, 12, 13, 14, 15, 23, 24, 25, 31, 34, 35, 41, 42, 45, 52, 53, 123, 124, 125, 131, 134, 135, 141, 142, 145, 152, 153, 231, 234, 235, 241, 242, 245, 252, 253, 313, 314, 315, 341, 342, 345, 352, 353, 412, 413, 414, 415, 424, 425, 452, 453, 523, 524, 525, 531, 535]
def gps (cs : List Nat) (a : Nat) : Nat → Nat
  | 0 => 0
  | i + 1 => gps cs a i + (nf (dg a ++ wd (cs.getD i 0))).length
theorem gps_s (cs : List Nat) (a i : Nat) : gps cs a (i + 1) = gps cs a i + (nf (dg a ++ wd (cs.getD i 0))).length := rfl
theorem gps_le {cs : List Nat} {a : Nat} (ha : isC a = true) (hcs : ∀ i, i < cs.length → isC (cs.getD i 0) = true) : ∀ n, n ≤ cs.length → gps cs a n ≤ 18 * n
  | 0, _ => Nat.le_refl _
  | n + 1, h => by
    have h1 := gps_le ha hcs n (by omega)
    have h2 := len_way ha (hcs n (by omega))
    rw [gps_s]
    omega
theorem sumX {r c a : Nat} {cs : List Nat} {σ : GS} {v3 v4 : Int32} (hr : r < 6) (hc : c < 166) (hl : cs.length ≤ 20) (ha : isC a = true) (hcs : ∀ i, i < cs.length → isC (cs.getD i 0) = true) (h8 : σ.1 8 r = nI cs.length) (hrow : arr (σ.1 (2 + r)) cs) (h55 : σ.1 55 c = nI a) : ∃ σ', Fr [32, 33] σ σ' ∧ ∀ K : Int32 → Int32 → GS → Option (Int32 × GS), F_X_post_67 (nI r) v3 v4 (nI c) K 50000 0 0 σ = K (nI (gps cs a cs.length)) (nI cs.length) σ' := by
  have := lpE (G := fun n i (t : Int32 × GS) => fun (K : Int32 → Int32 → GS → Option (Int32 × GS)) => F_X_post_67 (nI r) v3 v4 (nI c) K n t.1 (nI i) t.2) (P := fun o => ∃ σ', Fr [32, 33] σ σ' ∧ ∀ K, o K = K (nI (gps cs a cs.length)) (nI cs.length) σ') (Inv := fun i t => t.1 = nI (gps cs a i) ∧ Fr [32, 33] σ t.2) (N := cs.length) ?_ ?_ cs.length 0 50000 (0, σ) (by omega) (by omega) ⟨rfl, Fr.refl _ _⟩
  · exact this
  · rintro n i ⟨t1, t⟩ hi ⟨h1, h3⟩
    have h1 : t1 = nI (gps cs a i) := h1
    have h3 : Fr [32, 33] σ t := h3
    obtain ⟨t', e, -, f⟩ := gapX_spec (σ := t) ha (hcs i hi)
    refine Or.inr ⟨(nI (gps cs a (i + 1)), t'), ?_, rfl, h3.trans f⟩
    funext K
    show F_X_post_67 (nI r) v3 v4 (nI c) K (n + 1) t1 (nI i) t = F_X_post_67 (nI r) v3 v4 (nI c) K n (nI (gps cs a (i + 1))) (nI (i + 1)) t'
    rw [F_X_post_67.eq_2, gi hr (by decide), c31 (by omega), h3.1 8 (by simp), h8, if_neg (nI_ge hi (by omega)), gi hc (by decide), gi hr (by decide), gi (by omega) (by decide), c31 (by omega), c31 (by omega), h3.1 55 (by simp), h55, h3.1 (2 + r) (by simp; omega), hrow i hi, bc_s e, h1, nI_add, nI_1, gps_s]
  · rintro n ⟨t1, t⟩ ⟨h1, h3⟩
    have h1 : t1 = nI (gps cs a cs.length) := h1
    have h3 : Fr [32, 33] σ t := h3
    refine ⟨t, h3, fun K => ?_⟩
    show F_X_post_67 (nI r) v3 v4 (nI c) K (n + 1) t1 (nI cs.length) t = _
    rw [F_X_post_67.eq_2, gi hr (by decide), c31 (by omega), h3.1 8 (by simp), h8, if_pos (nI_le (Nat.le_refl _) (by omega)), h1]
theorem sumM {r a : Nat} {cs : List Nat} {σ : GS} {v3 v4 : Int32} (hr : r < 6) (hl : cs.length ≤ 20) (ha : isC a = true) (hcs : ∀ i, i < cs.length → isC (cs.getD i 0) = true) (h64 : σ.1 64 r = nI cs.length) (h65 : ∀ i, i < cs.length → σ.1 65 (40 * r + i) = nI (cs.getD i 0)) : ∃ σ', Fr [75] σ σ' ∧ ∀ K : Int32 → Int32 → GS → Option (Int32 × GS), F_M_post_58 (nI r) v3 v4 (nI a) K 50000 0 0 σ = K (nI (gps cs a cs.length)) (nI cs.length) σ' := by
  have := lpE (G := fun n i (t : Int32 × GS) => fun (K : Int32 → Int32 → GS → Option (Int32 × GS)) => F_M_post_58 (nI r) v3 v4 (nI a) K n t.1 (nI i) t.2) (P := fun o => ∃ σ', Fr [75] σ σ' ∧ ∀ K, o K = K (nI (gps cs a cs.length)) (nI cs.length) σ') (Inv := fun i t => t.1 = nI (gps cs a i) ∧ Fr [75] σ t.2) (N := cs.length) ?_ ?_ cs.length 0 50000 (0, σ) (by omega) (by omega) ⟨rfl, Fr.refl _ _⟩
  · exact this
  · rintro n i ⟨t1, t⟩ hi ⟨h1, h3⟩
    have h1 : t1 = nI (gps cs a i) := h1
    have h3 : Fr [75] σ t := h3
    obtain ⟨t', e, -, -, f⟩ := farOf_spec (σ := t) ha (hcs i hi)
    rw [far_eq ha (hcs i hi)] at e
    refine Or.inr ⟨(nI (gps cs a (i + 1)), t'), ?_, rfl, h3.trans f⟩
    funext K
    show F_M_post_58 (nI r) v3 v4 (nI a) K (n + 1) t1 (nI i) t = F_M_post_58 (nI r) v3 v4 (nI a) K n (nI (gps cs a (i + 1))) (nI (i + 1)) t'
    rw [F_M_post_58.eq_2, gi hr (by decide), c31 (by omega), h3.1 64 (by simp), h64, if_neg (nI_ge hi (by omega)), ix40, gi (by omega) (by decide), c31 (by omega), h3.1 65 (by simp), h65 i hi, bc_s e, h1, nI_add, nI_1, gps_s]
  · rintro n ⟨t1, t⟩ ⟨h1, h3⟩
    have h1 : t1 = nI (gps cs a cs.length) := h1
    have h3 : Fr [75] σ t := h3
    refine ⟨t, h3, fun K => ?_⟩
    show F_M_post_58 (nI r) v3 v4 (nI a) K (n + 1) t1 (nI cs.length) t = _
    rw [F_M_post_58.eq_2, gi hr (by decide), c31 (by omega), h3.1 64 (by simp), h64, if_pos (nI_le (Nat.le_refl _) (by omega)), h1]
/-- the best of some codes -/
def pst (f : Nat → Nat) (ps : List Nat) : Nat × Nat := ps.foldl (fun st a => if st.2 ≤ f a then st else (a, f a)) (0, 1000000)
theorem pst_snoc (f : Nat → Nat) (ps : List Nat) (a : Nat) : pst f (ps ++ [a]) = if (pst f ps).2 ≤ f a then pst f ps else (a, f a) := by unfold pst; rw [List.foldl_append]; rfl
theorem pst_le {f : Nat → Nat} : ∀ ps : List Nat, (pst f ps).2 ≤ 1000000 := by
  refine snocRec (Nat.le_refl _) fun ps a ih => ?_
  rw [pst_snoc]
  split
  · exact ih
  · show f a ≤ 1000000
    omega
def plB (m : Nat) : Bool := isC m && (cdv (nf (wd m)) == m)
def plL (m : Nat) : List Nat := (List.range m).filter plB
theorem plL_s (m : Nat) : plL (m + 1) = if plB m = true then plL m ++ [m] else plL m := by
  unfold plL
  rw [List.range_succ, List.filter_append, List.filter_cons, List.filter_nil]
  by_cases h : plB m = true
  · rw [if_pos h, if_pos h]
  · rw [if_neg h, if_neg h, List.append_nil]
theorem plL_end : plL 556 = pLit := by decide +kernel
theorem pl_c : ∀ c, c < 61 → pLit.getD c 0 = cdv (qv c) ∧ (qv c).length ≤ 3 := by decide +kernel
theorem pl_61 : pLit.length = 61 ∧ (qv 61).length = 4 := by decide +kernel
theorem stp_post : St_post Rel := by
  intro σ hR a1
  unfold F_X_post
  rcases cod_c hR a1 (M := 20) (by decide) with ⟨v, σ1, σ2, e1, hv, hv2, e2, h⟩ | ⟨r, cs, hr, rfl, hl40, hl, hcs, h8, h64, ha, eX, eM⟩
  · exact ⟨v, σ1, σ2, by rw [bc_s (show F_X_codesRefusal a1 20 σ = _ from e1), if_neg hv], by unfold F_M_post; rw [bc_s (show F_M_noCodes a1 20 σ1 = _ from e2), if_neg hv2], h⟩
  obtain ⟨σs, es, qs, fs⟩ := survey_spec hR.1.2.2.2.2.2
  have hRs : Rel σs := hR.qt (fs.mono (by simp)) qs
  obtain ⟨f, ef⟩ : ∃ f : Nat → Nat, f = fun a => gps cs a cs.length := ⟨_, rfl⟩
  have hf : ∀ a, isC a = true → f a ≤ 360 := fun a h => by
    have := gps_le h hcs cs.length (Nat.le_refl _)
    rw [ef]
    show gps cs a cs.length ≤ 360
    omega
  have hX : ∃ σ', Fr [32, 33] σs σ' ∧ ∀ K : Int32 → Int32 → Int32 → GS → Option (Int32 × GS), F_X_post_35 (nI r) K 50000 0 1000000 0 σs = K (nI (pst f pLit).1) (nI (pst f pLit).2) (nI 61) σ' := by
    have := lpE (G := fun n c (t : Int32 × Int32 × GS) => fun (K : Int32 → Int32 → Int32 → GS → Option (Int32 × GS)) => F_X_post_35 (nI r) K n t.1 t.2.1 (nI c) t.2.2) (P := fun o => ∃ σ', Fr [32, 33] σs σ' ∧ ∀ K, o K = K (nI (pst f pLit).1) (nI (pst f pLit).2) (nI 61) σ') (Inv := fun c t => t.1 = nI (pst f (pLit.take c)).1 ∧ t.2.1 = nI (pst f (pLit.take c)).2 ∧ Fr [32, 33] σs t.2.2) (N := 61) ?_ ?_ 61 0 50000 (0, 1000000, σs) (by omega) (by omega) ⟨rfl, rfl, Fr.refl _ _⟩
    · exact this
    · rintro n c ⟨t1, t2, t⟩ hc ⟨h1, h2, h3⟩
      have h1 : t1 = nI (pst f (pLit.take c)).1 := h1
      have h2 : t2 = nI (pst f (pLit.take c)).2 := h2
      have h3 : Fr [32, 33] σs t := h3
      obtain ⟨p1, p2⟩ := pl_c c hc
      rw [← qw_v] at p1 p2
      obtain ⟨w1, w2, w3⟩ := qw_ok (c := c) (by omega)
      have hcc := cdv_isC w1 (by omega)
      obtain ⟨x1, x2, x3⟩ := qs.2.1 c (by omega)
      obtain ⟨t', f', eS⟩ := sumX (r := r) (c := c) (a := cdv (qw c)) (cs := cs) (σ := t) (v3 := t1) (v4 := t2) hr (by omega) hl hcc hcs (by rw [h3.1 8 (by simp), fs.1 8 (by simp)]; exact h8) (by rw [h3.1 (2 + r) (by simp; omega), fs.1 (2 + r) (by simp; omega)]; exact ha) (by rw [h3.1 55 (by simp)]; exact x1)
      have eg : gps cs (cdv (qw c)) cs.length = f (cdv (qw c)) := by rw [ef]
      rw [eg] at eS
      have hb := hf _ hcc
      have hb2 := pst_le (f := f) (pLit.take c)
      have h55 : t'.1 55 c = nI (cdv (qw c)) := by rw [f'.1 55 (by simp), h3.1 55 (by simp)]; exact x1
      refine Or.inr ⟨(nI (pst f (pLit.take (c + 1))).1, nI (pst f (pLit.take (c + 1))).2, t'), ?_, rfl, rfl, h3.trans f'⟩
      funext K
      show F_X_post_35 (nI r) K (n + 1) t1 t2 (nI c) t = F_X_post_35 (nI r) K n (nI (pst f (pLit.take (c + 1))).1) (nI (pst f (pLit.take (c + 1))).2) (nI (c + 1)) t'
      rw [F_X_post_35.eq_2, h3.1 54 (by simp), qs.1, if_neg (nI_ge (by omega) (by omega)), gi (by omega) (by decide), c31 (by omega), h3.1 56 (by simp), x2, if_neg (show ¬ (3 : Int32) < nI _ from nI_nlt (a := 3) p2 (by decide)), jn_s, eS, take_snoc (by rw [pl_61.1]; exact hc), p1, pst_snoc, gi (by omega) (by decide), h55, nI_1, h1, h2]
      by_cases q : (pst f (pLit.take c)).2 ≤ f (cdv (qw c))
      · rw [if_pos (nI_le q (by omega)), if_pos q]
      · rw [if_neg (nI_ge (by omega) (by omega)), if_neg q]
    · rintro n ⟨t1, t2, t⟩ ⟨h1, h2, h3⟩
      have h1 : t1 = nI (pst f (pLit.take 61)).1 := h1
      have h2 : t2 = nI (pst f (pLit.take 61)).2 := h2
      have h3 : Fr [32, 33] σs t := h3
      obtain ⟨x1, x2, x3⟩ := qs.2.1 61 (by omega)
      have hq := pl_61.2
      rw [← qw_v] at hq
      rw [List.take_of_length_le (by rw [pl_61.1]; omega)] at h1 h2
      refine ⟨t, h3, fun K => ?_⟩
      show F_X_post_35 (nI r) K (n + 1) t1 t2 (nI 61) t = _
      rw [F_X_post_35.eq_2, h3.1 54 (by simp), qs.1, if_neg (nI_ge (by omega) (by omega)), gi (by omega) (by decide), c31 (by omega), h3.1 56 (by simp), x2, hq, if_pos (by decide), h1, h2]
  obtain ⟨σx, fx, eW⟩ := hX
  have hM : ∀ s : GS, s.1 64 = σ.1 64 → s.1 65 = σ.1 65 → ∃ σ', Fr [75, 78, 79] s σ' ∧ ∀ K : Int32 → Int32 → Int32 → GS → Option (Int32 × GS), F_M_post_22 (nI r) K 50000 0 (-1) 0 s = K (nI (pst f pLit).1) (nI (pst f pLit).2) (nI 556) σ' := fun s k64 k65 => by
    have := lpE (G := fun n c (t : Int32 × Int32 × GS) => fun (K : Int32 → Int32 → Int32 → GS → Option (Int32 × GS)) => F_M_post_22 (nI r) K n t.1 t.2.1 (nI c) t.2.2) (P := fun o => ∃ σ', Fr [75, 78, 79] s σ' ∧ ∀ K, o K = K (nI (pst f pLit).1) (nI (pst f pLit).2) (nI 556) σ') (Inv := fun c t => t.1 = nI (pst f (plL c)).1 ∧ (t.2.1 = if plL c = [] then -1 else nI (pst f (plL c)).2) ∧ Fr [75, 78, 79] s t.2.2) (N := 556) ?_ ?_ 556 0 50000 (0, -1, s) (by omega) (by omega) ⟨rfl, rfl, Fr.refl _ _⟩
    · exact this
    · rintro n m ⟨t1, t2, t⟩ hm ⟨h1, h2, h3⟩
      have h1 : t1 = nI (pst f (plL m)).1 := h1
      have h2 : t2 = if plL m = [] then -1 else nI (pst f (plL m)).2 := h2
      have h3 : Fr [75, 78, 79] s t := h3
      have hcm : F_M_isCode (nI m) = some (if isC m = true then 1 else 0) := isCM (by omega)
      have hi : ¬ (556 : Int32) ≤ nI m := nI_ge (b := 556) hm (by decide)
      -- a code that is not plain, or none
      have skip : plB m = false → (t' : GS) → Fr [75, 78, 79] t t' → (∀ K, F_M_post_22 (nI r) K (n + 1) t1 t2 (nI m) t = F_M_post_22 (nI r) K n t1 t2 (nI (m + 1)) t') → (∃ t' : Int32 × Int32 × GS, (fun (K : Int32 → Int32 → Int32 → GS → Option (Int32 × GS)) => F_M_post_22 (nI r) K (n + 1) t1 t2 (nI m) t) = (fun (K : Int32 → Int32 → Int32 → GS → Option (Int32 × GS)) => F_M_post_22 (nI r) K n t'.1 t'.2.1 (nI (m + 1)) t'.2.2) ∧ (t'.1 = nI (pst f (plL (m + 1))).1 ∧ (t'.2.1 = if plL (m + 1) = [] then -1 else nI (pst f (plL (m + 1))).2) ∧ Fr [75, 78, 79] s t'.2.2)) := fun hp t' ft he => by
        refine ⟨(t1, t2, t'), funext he, ?_⟩
        rw [plL_s, if_neg (by rw [hp]; decide)]
        exact ⟨h1, h2, h3.trans ft⟩
      by_cases hc : isC m = true
      · obtain ⟨t2', e2, f2⟩ := plainOfM_spec (σ := t) hc
        by_cases hp : cdv (nf (wd m)) = m
        · have hpl : plB m = true := by unfold plB; rw [hc, hp, Bool.true_and]; exact beq_self_eq_true _
          obtain ⟨t3, f3, eS⟩ := sumM (r := r) (a := m) (cs := cs) (σ := t2') (v3 := t1) (v4 := t2) hr hl hc hcs (by rw [f2.1 64 (by simp), h3.1 64 (by simp), k64]; exact h64) (fun i hi => by rw [f2.1 65 (by simp), h3.1 65 (by simp), k65, ← hR.1.1.2 r hr i (by omega)]; exact ha i hi)
          have eg : gps cs m cs.length = f m := by rw [ef]
          rw [eg] at eS
          have hb := hf _ hc
          have hb2 := pst_le (f := f) (plL m)
          refine Or.inr ⟨(nI (pst f (plL (m + 1))).1, nI (pst f (plL (m + 1))).2, t3), ?_, rfl, ?_, h3.trans (f2.trans (f3.mono (by simp)))⟩
          · funext K
            show F_M_post_22 (nI r) K (n + 1) t1 t2 (nI m) t = F_M_post_22 (nI r) K n (nI (pst f (plL (m + 1))).1) (nI (pst f (plL (m + 1))).2) (nI (m + 1)) t3
            rw [F_M_post_22.eq_2, if_neg hi, bp_s hcm, if_pos hc, if_neg (by decide), bc_s e2, hp, if_pos rfl, jn_s, eS, jn_s, nI_1, plL_s, if_pos hpl, pst_snoc, h2]
            by_cases z : plL m = []
            · rw [if_pos z, if_pos (by decide), z, if_neg (show ¬ (pst f []).2 ≤ f m from by show ¬ 1000000 ≤ f m; omega)]
            · rw [if_neg z, if_neg (nI_pos (by omega)), h1]
              by_cases q : (pst f (plL m)).2 ≤ f m
              · rw [if_pos (nI_le q (by omega)), if_pos q]
              · rw [if_neg (nI_ge (by omega) (by omega)), if_neg q]
          · rw [if_neg]
            rw [plL_s, if_pos hpl]
            simp
        · refine Or.inr (skip (by unfold plB; rw [hc, Bool.true_and]; exact beq_eq_false_iff_ne.mpr hp) t2' f2 fun K => ?_)
          have hle := isC_le (cdv_isC (wv_nf (wd_wv hc)) (Nat.le_trans (len_nf_le _) (wd_le hc)))
          rw [F_M_post_22.eq_2, if_neg hi, bp_s hcm, if_pos hc, if_neg (by decide), bc_s e2, if_neg (fun y => hp ((nI_eq (by omega) (by omega)).mp y)), nI_1]
      · refine Or.inr (skip (by unfold plB; rw [Bool.eq_false_iff.mpr hc, Bool.false_and]) t (Fr.refl _ _) fun K => ?_)
        rw [F_M_post_22.eq_2, if_neg hi, bp_s hcm, if_neg hc, if_pos rfl, nI_1]
    · rintro n ⟨t1, t2, t⟩ ⟨h1, h2, h3⟩
      have h1 : t1 = nI (pst f (plL 556)).1 := h1
      have h2 : t2 = if plL 556 = [] then -1 else nI (pst f (plL 556)).2 := h2
      have h3 : Fr [75, 78, 79] s t := h3
      rw [plL_end] at h1 h2
      rw [if_neg (by decide)] at h2
      refine ⟨t, h3, fun K => ?_⟩
      show F_M_post_22 (nI r) K (n + 1) t1 t2 (nI 556) t = _
      rw [F_M_post_22.eq_2, if_pos (by decide), h1, h2]
  have k64 : (s1 σx 0 16 (nI (pst f pLit).2)).1 64 = σ.1 64 := by rw [s1_c (by decide), fx.1 64 (by simp), fs.1 64 (by simp)]
  have k65 : (s1 σx 0 16 (nI (pst f pLit).2)).1 65 = σ.1 65 := by rw [s1_c (by decide), fx.1 65 (by simp), fs.1 65 (by simp)]
  obtain ⟨σm, fm, eW2⟩ := hM _ k64 k65
  refine ⟨nI (pst f pLit).1, s1 σx 0 16 (nI (pst f pLit).2), s1 σm 63 9 (nI (pst f pLit).2), ?_, ?_, hRs.ask3 fx fm (Fr.refl [] _) rfl⟩
  · rw [bc_s (show F_X_codesRefusal (nI r) 20 σ = _ from eX), if_pos rfl, bv_s es, jn_s, eW, jn_s]
  · unfold F_M_post
    have e4 : F_M_tell (nI (pst f pLit).2) σm = some (1, s1 σm 63 9 (nI (pst f pLit).2)) := rfl
    rw [bc_s (show F_M_noCodes (nI r) 20 _ = _ from eM _ k64 k65), if_pos (by decide), jn_s, eW2, bc_s e4]
