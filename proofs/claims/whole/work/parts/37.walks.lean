/-! walks by rows of streets -/
def alp (p : Int32 → Bool) (f : Nat → Int32) : Nat → Bool
  | 0 => true
  | n + 1 => alp p f n && p (f n)
theorem alp_s (p : Int32 → Bool) (f : Nat → Int32) (n : Nat) : alp p f (n + 1) = (alp p f n && p (f n)) := rfl
theorem alp_t {p : Int32 → Bool} {f : Nat → Int32} : ∀ {n : Nat}, alp p f n = true → ∀ i, i < n → p (f i) = true
  | n + 1, h, i, hi => by
    rw [alp_s, Bool.and_eq_true] at h
    by_cases e : i = n
    · rw [e]; exact h.2
    · exact alp_t h.1 i (by omega)
theorem alp_f {p : Int32 → Bool} {f : Nat → Int32} {i : Nat} : ∀ {n : Nat}, alp p f i = false → i ≤ n → alp p f n = false
  | 0, h, hi => by rw [show i = 0 by omega] at h; exact h
  | n + 1, h, hi => by
    by_cases e : i = n + 1
    · rw [← e]; exact h
    · rw [alp_s, alp_f h (by omega), Bool.false_and]
theorem alp_congr {p : Int32 → Bool} {f g : Nat → Int32} : ∀ {n : Nat}, (∀ i, i < n → f i = g i) → alp p f n = alp p g n
  | 0, _ => rfl
  | n + 1, h => by rw [alp_s, alp_s, alp_congr (fun i hi => h i (by omega)), h n (by omega)]
def stb (x : Int32) : Bool := F_X_isStreet x == some 1
theorem stb_X (x : Int32) : F_X_isStreet x = some (if stb x = true then 1 else 0) := by
  unfold stb
  rcases street_c x with ⟨h, -⟩ | ⟨r, -, -, h, -⟩ <;> rw [h] <;> rfl
theorem stb_M (x : Int32) : F_M_isStreet x = some (if stb x = true then 1 else 0) := by
  unfold stb
  rcases street_c x with ⟨h, h', -⟩ | ⟨r, -, -, h, h'⟩ <;> rw [h, h'] <;> rfl
theorem stb_t {x : Int32} (h : stb x = true) : ∃ s, s < 5 ∧ x = nI s := by
  unfold stb at h
  rcases street_c x with ⟨h', -⟩ | ⟨r, hr, e, -⟩
  · rw [h'] at h; exact absurd h (by decide)
  · exact ⟨r, hr, e⟩
def cob (x : Int32) : Bool := F_X_isCode x == some 1
theorem cob_X (x : Int32) : F_X_isCode x = some (if cob x = true then 1 else 0) := by
  unfold cob
  rcases code_c x with ⟨h, -⟩ | ⟨r, -, -, h, -⟩ <;> rw [h] <;> rfl
theorem cob_M (x : Int32) : F_M_isCode x = some (if cob x = true then 1 else 0) := by
  unfold cob
  rcases code_c x with ⟨h, h'⟩ | ⟨r, -, -, h, h'⟩ <;> rw [h, h'] <;> rfl
theorem cob_t {x : Int32} (h : cob x = true) : ∃ m, isC m = true ∧ x = nI m := by
  unfold cob at h
  rcases code_c x with ⟨h', -⟩ | ⟨m, e, hm, -⟩
  · rw [h'] at h; exact absurd h (by decide)
  · exact ⟨m, hm, e⟩
theorem map_getD (g : Nat → Nat) {n i : Nat} (h : i < n) : ((List.range n).map g).getD i 0 = g i := by
  rw [List.getD_eq_getElem?_getD, List.getElem?_map, List.getElem?_range h]
  rfl
theorem stX_loop {r n : Nat} (hr : r < 6) (hn : n ≤ 40) (σ : GS) (h8 : σ.1 8 r = nI n) : F_X_streetsRefusal_14 (nI r) (fun (v3_4 : Int32) (σL4 : GS) => some ((0 : Int32), σL4)) 50000 0 σ = if alp stb (σ.1 (2 + r)) n = true then some (0, σ) else some (-3, gX 3 σ) := by
  refine lpE (G := fun k i (t : GS) => F_X_streetsRefusal_14 (nI r) (fun (v3_4 : Int32) (σL4 : GS) => some ((0 : Int32), σL4)) k (nI i) t) (P := fun o => o = if alp stb (σ.1 (2 + r)) n = true then some (0, σ) else some (-3, gX 3 σ)) (Inv := fun i t => t = σ ∧ alp stb (σ.1 (2 + r)) i = true) (N := n) ?_ ?_ n 0 50000 σ (by omega) (by omega) ⟨rfl, rfl⟩
  · rintro k i t hi ⟨rfl, h⟩
    have e : F_X_streetsRefusal_14 (nI r) (fun (v3_4 : Int32) (σL4 : GS) => some ((0 : Int32), σL4)) (k + 1) (nI i) t = if (if stb (t.1 (2 + r) i) = true then (1 : Int32) else 0) = 0 then some (-3, gX 3 t) else F_X_streetsRefusal_14 (nI r) (fun (v3_4 : Int32) (σL4 : GS) => some ((0 : Int32), σL4)) k (nI (i + 1)) t := by
      rw [F_X_streetsRefusal_14.eq_2, gi hr (by decide), c31 (by omega), h8, if_neg (nI_ge hi (by omega)), gi hr (by decide), gi (by omega) (by decide), c31 (by omega), bp_s (stb_X _), bc_s (foX3 t), nI_1]
    by_cases q : stb (t.1 (2 + r) i) = true
    · refine Or.inr ⟨t, ?_, rfl, by rw [alp_s, h, q]; rfl⟩
      show F_X_streetsRefusal_14 (nI r) _ (k + 1) (nI i) t = _
      rw [e, if_pos q, if_neg (by decide)]
    · refine Or.inl ?_
      show F_X_streetsRefusal_14 (nI r) _ (k + 1) (nI i) t = _
      have : alp stb (t.1 (2 + r)) n = false := alp_f (i := i + 1) (by rw [alp_s, Bool.eq_false_iff.mpr q, Bool.and_false]) (by omega)
      rw [e, if_neg q, if_pos rfl, this, if_neg (by decide)]
  · rintro k t ⟨rfl, h⟩
    show F_X_streetsRefusal_14 (nI r) _ (k + 1) (nI n) t = _
    rw [F_X_streetsRefusal_14.eq_2, gi hr (by decide), c31 (by omega), h8, if_pos (nI_le (Nat.le_refl _) (by omega)), if_pos h]
theorem stM_loop {r n : Nat} (hr : r < 6) (hn : n ≤ 40) (σ : GS) (h64 : σ.1 64 r = nI n) (K : Int32 → Int32 → Option (Int32 × GS)) : F_M_noStreets_28 (nI r) σ K 50000 1 0 = K (if alp stb (fun i => σ.1 65 (40 * r + i)) n = true then 1 else 0) (nI n) := by
  refine lpE (G := fun k i (t : Int32) => F_M_noStreets_28 (nI r) σ K k t (nI i)) (P := fun o => o = K (if alp stb (fun i => σ.1 65 (40 * r + i)) n = true then 1 else 0) (nI n)) (Inv := fun i t => t = if alp stb (fun i => σ.1 65 (40 * r + i)) i = true then 1 else 0) (N := n) ?_ ?_ n 0 50000 1 (by omega) (by omega) rfl
  · intro k i t hi h
    refine Or.inr ⟨if alp stb (fun i => σ.1 65 (40 * r + i)) (i + 1) = true then 1 else 0, ?_, rfl⟩
    show F_M_noStreets_28 (nI r) σ K (k + 1) t (nI i) = F_M_noStreets_28 (nI r) σ K k _ (nI (i + 1))
    rw [F_M_noStreets_28.eq_2, gi hr (by decide), c31 (by omega), h64, if_neg (nI_ge hi (by omega)), nI_1, ix40, gi (by omega) (by decide), c31 (by omega), bp_s (stb_M _), h, alp_s]
    by_cases z : alp stb (fun i => σ.1 65 (40 * r + i)) i = true
    · rw [if_pos z, if_neg (by decide), z, Bool.true_and]
      by_cases y : stb (σ.1 65 (40 * r + i)) = true
      · rw [if_pos y, if_neg (by decide)]
      · rw [if_neg y, if_pos rfl]
    · rw [if_neg z, if_pos rfl, Bool.eq_false_iff.mpr z, Bool.false_and]
      rfl
  · intro k t h
    show F_M_noStreets_28 (nI r) σ K (k + 1) t (nI n) = _
    rw [F_M_noStreets_28.eq_2, gi hr (by decide), c31 (by omega), h64, if_pos (nI_le (Nat.le_refl _) (by omega)), h]
/-- streets asked for: refused by both alike, or there -/
theorem str_c {σ : GS} (hR : Rel σ) (a1 : Int32) : (∃ v σ1 σ2, F_X_streetsRefusal a1 σ = some (v, σ1) ∧ v ≠ 0 ∧ ¬ 0 ≤ v ∧ F_M_noStreets a1 σ1 = some (v, σ2) ∧ Rel σ2) ∨ ∃ r w, r < 6 ∧ a1 = nI r ∧ w.length ≤ 40 ∧ wv w ∧ σ.1 8 r = nI w.length ∧ σ.1 64 r = nI w.length ∧ arr (σ.1 (2 + r)) w ∧ F_X_streetsRefusal a1 σ = some (0, σ) ∧ ∀ s : GS, s.1 64 = σ.1 64 → s.1 65 = σ.1 65 → F_M_noStreets a1 s = some (0, s) := by
  unfold F_X_streetsRefusal
  rcases row_c a1 with ⟨h1, h2⟩ | ⟨r, hr, rfl, h1, h2⟩
  · exact Or.inl ⟨-1, σ, σ, by rw [bc_s (rowRef_bad h1 σ), if_neg (by decide)], by decide, by decide, by unfold F_M_noStreets; rw [bp_s h2, if_pos rfl], hR⟩
  · rcases rowsz hR.1.1 hr with ⟨h8, h64⟩ | ⟨n, hn, h8, h64⟩
    · refine Or.inl ⟨-3, gX 1 σ, gM 1 (gX 1 σ), by rw [bc_s (rowRef_no hr h1 h8), if_neg (by decide)], by decide, by decide, ?_, fR hR⟩
      unfold F_M_noStreets
      rw [bp_s h2, if_neg (by decide), gi hr (by decide), c31 (by omega), gX_c (by decide) (by decide), h64, if_neg (by decide), bc_s (foM1 _)]
    · have eX : ∀ b, alp stb (σ.1 (2 + r)) n = b → F_X_streetsRefusal (nI r) σ = if b = true then some (0, σ) else some (-3, gX 3 σ) := fun b hb => by
        unfold F_X_streetsRefusal
        rw [bc_s (rowRef_ok hr hn h1 h8), if_pos rfl, jn_s, stX_loop hr hn σ h8, hb]
      have eM : ∀ b, alp stb (σ.1 (2 + r)) n = b → ∀ s : GS, s.1 64 = σ.1 64 → s.1 65 = σ.1 65 → F_M_noStreets (nI r) s = if b = true then some (0, s) else some (-3, gM 3 s) := fun b hb s e1 e2 => by
        unfold F_M_noStreets
        rw [bp_s h2, if_neg (by decide), gi hr (by decide), c31 (by omega), e1, h64, if_pos (nI_pos' (by omega)), jn_s, stM_loop hr hn s (by rw [e1, h64]), e2, alp_congr (g := σ.1 (2 + r)) (fun i hi => (hR.1.1.2 r hr i (by omega)).symm), hb, bc_s (foM3 s)]
        cases b <;> rfl
      cases hb : alp stb (σ.1 (2 + r)) n with
      | false =>
        exact Or.inl ⟨-3, gX 3 σ, gM 3 (gX 3 σ), eX false hb, by decide, by decide, by rw [eM false hb _ (gX_c (by decide) (by decide)) (gX_c (by decide) (by decide)), if_neg (by decide)], fR hR⟩
      | true =>
        have hs := alp_t hb
        have hw : ∀ i, i < n → ((List.range n).map (fun i => (σ.1 (2 + r) i).toNatClampNeg)).getD i 0 < 5 ∧ σ.1 (2 + r) i = nI (((List.range n).map (fun i => (σ.1 (2 + r) i).toNatClampNeg)).getD i 0) := fun i hi => by
          obtain ⟨s, h5, e⟩ := stb_t (hs i hi)
          rw [map_getD _ hi, e, c31 (by omega)]
          exact ⟨h5, rfl⟩
        have hl : ((List.range n).map (fun i => (σ.1 (2 + r) i).toNatClampNeg)).length = n := by rw [List.length_map, List.length_range]
        refine Or.inr ⟨r, (List.range n).map (fun i => (σ.1 (2 + r) i).toNatClampNeg), hr, rfl, by rw [hl]; exact hn, fun x hx => ?_, by rw [hl]; exact h8, by rw [hl]; exact h64, fun i hi => (hw i (by rw [hl] at hi; exact hi)).2, eX true hb, fun s e1 e2 => by rw [eM true hb s e1 e2, if_pos rfl]⟩
        obtain ⟨i, hi, rfl⟩ := List.mem_map.mp hx
        obtain ⟨s, h5, e⟩ := stb_t (hs i (List.mem_range.mp hi))
        rw [e, c31 (by omega)]
        exact h5
theorem nf_snoc (u : List Nat) (s : Nat) : nf (u ++ [s]) = go (nf u) s := fo_snoc [] u s
theorem rd_snoc (u : List Nat) (s : Nat) : rd (u ++ [s]) = tm (rd u) s := by
  unfold rd
  rw [List.foldl_append]
  rfl
theorem len_rd_le {u : List Nat} (h : wv u) : (rd u).length ≤ u.length := by
  rw [len_rd h]
  exact len_nf_le u
theorem wv_take {w : List Nat} (h : wv w) (i : Nat) : wv (w.take i) := fun x hx => h x (List.mem_of_mem_take hx)
theorem wv_drop {w : List Nat} (h : wv w) (i : Nat) : wv (w.drop i) := fun x hx => h x (List.mem_of_mem_drop hx)
/-- one street further, by both -/
theorem goX_next {w : List Nat} {i : Nat} {σ : GS} {c : Nat} (hv : wv w) (hi : i < w.length) (hl : i < 64) (hR : Rep σ c (nf (w.take i))) : ∃ σ', F_Wd_go c (nI (w.getD i 0)) σ = some σ' ∧ Rep σ' c (nf (w.take (i + 1))) ∧ Fr [c, c + 1] σ σ' := by
  have h1 := len_nf_le (w.take i)
  rw [List.length_take] at h1
  obtain ⟨σ', e, r, f⟩ := go_spec hR (s := w.getD i 0) (by omega) (getD_lt hv hi)
  rw [take_snoc hi, nf_snoc]
  exact ⟨σ', e, r, f⟩
theorem tmM_next {w : List Nat} {i q : Nat} {σ : GS} (hv : wv w) (hi : i < w.length) (hl : i < 64) (ha : arr (σ.1 q) (rd (w.take i))) : ∃ σ', F_M_times q (nI (rd (w.take i)).length) (nI (w.getD i 0)) σ = some (nI (rd (w.take (i + 1))).length, σ') ∧ arr (σ'.1 q) (rd (w.take (i + 1))) ∧ Fr [q] σ σ' := by
  have h1 := len_rd_le (wv_take hv i)
  rw [List.length_take] at h1
  obtain ⟨σ', e, r, f⟩ := times_spec ha (wv_rd (wv_take hv i)) (s := w.getD i 0) (by omega) (getD_lt hv hi)
  rw [take_snoc hi, rd_snoc]
  exact ⟨σ', e, r, f⟩
theorem stp_walk : St_walk Rel := by
  intro σ hR a1
  unfold F_X_walk
  rcases str_c hR a1 with ⟨v, σ1, σ2, e1, hv, hv2, e2, h⟩ | ⟨r, w, hr, rfl, hl, hv, h8, h64, ha, eX, eM⟩
  · exact ⟨v, σ1, σ2, by rw [bc_s e1, if_neg hv], by unfold F_M_walk; rw [bc_s e2, if_neg hv2], h⟩
  have hlen := len_nf_le w
  -- the class's walk
  have hX : ∃ σ', Rep σ' 32 (nf w) ∧ Fr [32, 33] σ σ' ∧ ∀ K : Int32 → GS → Option (Int32 × GS), F_X_walk_21 (nI r) K 50000 0 (s1 σ 32 1 0) = K (nI w.length) σ' := by
    have := lpE (G := fun k i (t : GS) => fun (K : Int32 → GS → Option (Int32 × GS)) => F_X_walk_21 (nI r) K k (nI i) t) (P := fun o => ∃ σ', Rep σ' 32 (nf w) ∧ Fr [32, 33] σ σ' ∧ ∀ K, o K = K (nI w.length) σ') (Inv := fun i t => Rep t 32 (nf (w.take i)) ∧ Fr [32, 33] σ t) (N := w.length) ?_ ?_ w.length 0 50000 (s1 σ 32 1 0) (by omega) (by omega) ⟨(clear_spec (w := 32) (σ := σ)).2, Fr.s1 (by simp)⟩
    · exact this
    · intro k i t hi h
      obtain ⟨t', e, r', f'⟩ := goX_next hv hi (by omega) h.1
      refine Or.inr ⟨t', ?_, r', h.2.trans f'⟩
      funext K
      show F_X_walk_21 (nI r) K (k + 1) (nI i) t = F_X_walk_21 (nI r) K k (nI (i + 1)) t'
      rw [F_X_walk_21.eq_2, gi hr (by decide), c31 (by omega), h.2.1 8 (by simp), h8, if_neg (nI_ge hi (by omega)), gi hr (by decide), gi (by omega) (by decide), c31 (by omega), h.2.1 (2 + r) (by simp; omega), ha i hi, bv_s e, nI_1]
    · intro k t h
      rw [List.take_length] at h
      refine ⟨t, h.1, h.2, fun K => ?_⟩
      show F_X_walk_21 (nI r) K (k + 1) (nI w.length) t = _
      rw [F_X_walk_21.eq_2, gi hr (by decide), c31 (by omega), h.2.1 8 (by simp), h8, if_pos (nI_le (Nat.le_refl _) (by omega))]
  obtain ⟨σ1, r1, f1, eW⟩ := hX
  have hM : ∀ s : GS, s.1 64 = σ.1 64 → s.1 65 = σ.1 65 → ∃ σ', arr (σ'.1 75) (rd w) ∧ Fr [75] s σ' ∧ ∀ K : Int32 → Int32 → GS → Option (Int32 × GS), F_M_walk_17 (nI r) K 50000 0 0 s = K (nI (rd w).length) (nI w.length) σ' := fun s e1 e2 => by
    have := lpE (G := fun k i (t : Int32 × GS) => fun (K : Int32 → Int32 → GS → Option (Int32 × GS)) => F_M_walk_17 (nI r) K k t.1 (nI i) t.2) (P := fun o => ∃ σ', arr (σ'.1 75) (rd w) ∧ Fr [75] s σ' ∧ ∀ K, o K = K (nI (rd w).length) (nI w.length) σ') (Inv := fun i t => t.1 = nI (rd (w.take i)).length ∧ arr (t.2.1 75) (rd (w.take i)) ∧ Fr [75] s t.2) (N := w.length) ?_ ?_ w.length 0 50000 (0, s) (by omega) (by omega) ⟨rfl, arr_nil _, Fr.refl _ _⟩
    · exact this
    · rintro k i ⟨t1, t⟩ hi ⟨h1, h2, h3⟩
      obtain ⟨t', e, r', f'⟩ := tmM_next hv hi (by omega) h2
      refine Or.inr ⟨(nI (rd (w.take (i + 1))).length, t'), ?_, rfl, r', h3.trans f'⟩
      funext K
      show F_M_walk_17 (nI r) K (k + 1) t1 (nI i) t = F_M_walk_17 (nI r) K k (nI (rd (w.take (i + 1))).length) (nI (i + 1)) t'
      have h1 : t1 = nI (rd (w.take i)).length := h1
      rw [F_M_walk_17.eq_2, gi hr (by decide), c31 (by omega), h3.1 64 (by simp), e1, h64, if_neg (nI_ge hi (by omega)), ix40, gi (by omega) (by decide), c31 (by omega), h3.1 65 (by simp), e2, ← hR.1.1.2 r hr i (by omega), ha i hi, h1, bc_s e, nI_1]
    · rintro k ⟨t1, t⟩ ⟨h1, h2, h3⟩
      rw [List.take_length] at h1 h2
      refine ⟨t, h2, h3, fun K => ?_⟩
      show F_M_walk_17 (nI r) K (k + 1) t1 (nI w.length) t = _
      have h1 : t1 = nI (rd w).length := h1
      rw [F_M_walk_17.eq_2, gi hr (by decide), c31 (by omega), h3.1 64 (by simp), e1, h64, if_pos (nI_le (Nat.le_refl _) (by omega)), h1]
  rw [bc_s eX, if_pos rfl, bv_s (clear_spec (w := 32) (σ := σ)).1, jn_s, eW, r1.1]
  by_cases h9 : (nf w).length ≤ 9
  · rw [if_pos (show nI _ ≤ (9 : Int32) from nI_le (b := 9) h9 (by decide)), gi hr (by decide), c31 (by omega), f1.1 8 (by simp), h8, pk_sub hlen, jn_s]
    have r1' : Rep (s1 σ1 0 16 (nI (w.length - (nf w).length))) 32 (nf w) := r1.fr (S := [0]) (Fr.s1 (by simp)) (by simp) (by simp)
    rw [bp_s (code_spec r1'), if_pos h9]
    obtain ⟨σ2, a2, f2, eW2⟩ := hM (s1 σ1 0 16 (nI (w.length - (nf w).length))) (by rw [s1_c (by decide), f1.1 64 (by simp)]) (by rw [s1_c (by decide), f1.1 65 (by simp)])
    obtain ⟨σ3, e3, f3⟩ := codeOf_spec (q1 := 75) (σ := s1 σ2 63 9 (nI (w.length - (nf w).length))) (u := nf w) (by decide) (good_nf _).1 (wv_nf hv) (eqv_rd _) (wv_rd hv) (by rw [len_rd hv]; omega) (by rw [s1_c (by decide)]; exact a2)
    refine ⟨_, _, σ3, rfl, ?_, hR.ask3 f1 f2 f3 rfl⟩
    unfold F_M_walk
    rw [bc_s (eM _ (by rw [s1_c (by decide), f1.1 64 (by simp)]) (by rw [s1_c (by decide), f1.1 65 (by simp)])), if_pos (by decide), jn_s, eW2, len_rd hv, if_pos (show nI _ ≤ (9 : Int32) from nI_le (b := 9) h9 (by decide)), gi hr (by decide), c31 (by omega), f2.1 64 (by simp), s1_c (by decide), f1.1 64 (by simp), h64, pk_sub hlen]
    have e4 : F_M_tell (nI (w.length - (nf w).length)) σ2 = some (1, s1 σ2 63 9 (nI (w.length - (nf w).length))) := rfl
    rw [len_rd hv] at e3
    rw [bc_s e4, bc_s e3]
  · rw [if_neg (show ¬ nI (nf w).length ≤ (9 : Int32) from nI_ge (a := 9) (by omega) (by omega))]
    obtain ⟨σ2, a2, f2, eW2⟩ := hM σ1 (by rw [f1.1 64 (by simp)]) (by rw [f1.1 65 (by simp)])
    refine ⟨-6, σ1, σ2, rfl, ?_, (hR.fr f1 rfl rfl).fr f2 rfl rfl⟩
    unfold F_M_walk
    rw [bc_s (eM _ (by rw [f1.1 64 (by simp)]) (by rw [f1.1 65 (by simp)])), if_pos (by decide), jn_s, eW2, len_rd hv, if_neg (show ¬ nI (nf w).length ≤ (9 : Int32) from nI_ge (a := 9) (by omega) (by omega))]
