/-! reaches, sees -/
def rea (w : List Nat) : Nat → Nat × Nat
  | 0 => (0, 0)
  | i + 1 => if (nf (w.take (i + 1))).length ≤ (rea w i).1 then rea w i else ((nf (w.take (i + 1))).length, i + 1)
theorem rea_s (w : List Nat) (i : Nat) : rea w (i + 1) = if (nf (w.take (i + 1))).length ≤ (rea w i).1 then rea w i else ((nf (w.take (i + 1))).length, i + 1) := rfl
theorem rea_le (w : List Nat) : ∀ i, (rea w i).1 ≤ i ∧ (rea w i).2 ≤ i
  | 0 => ⟨Nat.le_refl _, Nat.le_refl _⟩
  | i + 1 => by
    have ih := rea_le w i
    have h := len_nf_le (w.take (i + 1))
    rw [List.length_take] at h
    rw [rea_s]
    split
    · exact ⟨by omega, by omega⟩
    · exact ⟨by show (nf (w.take (i + 1))).length ≤ i + 1; omega, Nat.le_refl _⟩
theorem stp_reaches : St_reaches Rel := by
  intro σ hR a1
  unfold F_X_reaches
  rcases str_c hR a1 with ⟨v, σ1, σ2, e1, hv, hv2, e2, h⟩ | ⟨r, w, hr, rfl, hl, hv, h8, h64, ha, eX, eM⟩
  · exact ⟨v, σ1, σ2, by rw [bc_s e1, if_neg hv], by unfold F_M_reaches; rw [bc_s e2, if_neg hv2], h⟩
  have hbd : ∀ i, i ≤ 40 → (nf (w.take i)).length ≤ 40 := fun i hi => by
    have h := len_nf_le (w.take i)
    rw [List.length_take] at h
    omega
  have hX : ∃ σ', Fr [32, 33] σ σ' ∧ ∀ K : Int32 → Int32 → Int32 → GS → Option (Int32 × GS), F_X_reaches_27 (nI r) K 50000 0 0 0 (s1 σ 32 1 0) = K (nI (rea w w.length).1) (nI (rea w w.length).2) (nI w.length) σ' := by
    have := lpE (G := fun k i (t : Int32 × Int32 × GS) => fun (K : Int32 → Int32 → Int32 → GS → Option (Int32 × GS)) => F_X_reaches_27 (nI r) K k t.1 t.2.1 (nI i) t.2.2) (P := fun o => ∃ σ', Fr [32, 33] σ σ' ∧ ∀ K, o K = K (nI (rea w w.length).1) (nI (rea w w.length).2) (nI w.length) σ') (Inv := fun i t => t.1 = nI (rea w i).1 ∧ t.2.1 = nI (rea w i).2 ∧ Rep t.2.2 32 (nf (w.take i)) ∧ Fr [32, 33] σ t.2.2) (N := w.length) ?_ ?_ w.length 0 50000 (0, 0, s1 σ 32 1 0) (by omega) (by omega) ⟨rfl, rfl, (clear_spec (w := 32) (σ := σ)).2, Fr.s1 (by simp)⟩
    · exact this
    · rintro k i ⟨t1, t2, t⟩ hi ⟨h1, h2, h3, h4⟩
      have h1 : t1 = nI (rea w i).1 := h1
      have h2 : t2 = nI (rea w i).2 := h2
      have h4 : Fr [32, 33] σ t := h4
      obtain ⟨t', e, r', f'⟩ := goX_next hv hi (by omega) h3
      refine Or.inr ⟨(nI (rea w (i + 1)).1, nI (rea w (i + 1)).2, t'), ?_, rfl, rfl, r', h4.trans f'⟩
      funext K
      show F_X_reaches_27 (nI r) K (k + 1) t1 t2 (nI i) t = F_X_reaches_27 (nI r) K k (nI (rea w (i + 1)).1) (nI (rea w (i + 1)).2) (nI (i + 1)) t'
      have hb1 := (rea_le w i).1
      have hb2 := hbd (i + 1) (by omega)
      rw [F_X_reaches_27.eq_2, gi hr (by decide), c31 (by omega), h4.1 8 (by simp), h8, if_neg (nI_ge hi (by omega)), gi hr (by decide), gi (by omega) (by decide), c31 (by omega), h4.1 (2 + r) (by simp; omega), ha i hi, bv_s e, r'.1, nI_1, rea_s, h1, h2]
      by_cases q : (nf (w.take (i + 1))).length ≤ (rea w i).1
      · rw [if_pos (nI_le q (by omega)), if_pos q]
      · rw [if_neg (nI_ge (by omega) (by omega)), if_neg q]
    · rintro k ⟨t1, t2, t⟩ ⟨h1, h2, h3, h4⟩
      have h1 : t1 = nI (rea w w.length).1 := h1
      have h2 : t2 = nI (rea w w.length).2 := h2
      have h4 : Fr [32, 33] σ t := h4
      refine ⟨t, h4, fun K => ?_⟩
      show F_X_reaches_27 (nI r) K (k + 1) t1 t2 (nI w.length) t = _
      rw [F_X_reaches_27.eq_2, gi hr (by decide), c31 (by omega), h4.1 8 (by simp), h8, if_pos (nI_le (Nat.le_refl _) (by omega)), h1, h2]
  obtain ⟨σ1, f1, eW⟩ := hX
  have hM : ∀ s : GS, s.1 64 = σ.1 64 → s.1 65 = σ.1 65 → ∃ σ' n', Fr [75] s σ' ∧ ∀ K : Int32 → Int32 → Int32 → Int32 → GS → Option (Int32 × GS), F_M_reaches_23 (nI r) K 50000 0 0 0 0 s = K n' (nI (rea w w.length).1) (nI (rea w w.length).2) (nI w.length) σ' := fun s e1 e2 => by
    have := lpE (G := fun k i (t : Int32 × Int32 × Int32 × GS) => fun (K : Int32 → Int32 → Int32 → Int32 → GS → Option (Int32 × GS)) => F_M_reaches_23 (nI r) K k t.1 t.2.1 t.2.2.1 (nI i) t.2.2.2) (P := fun o => ∃ σ' n', Fr [75] s σ' ∧ ∀ K, o K = K n' (nI (rea w w.length).1) (nI (rea w w.length).2) (nI w.length) σ') (Inv := fun i t => t.1 = nI (rd (w.take i)).length ∧ t.2.1 = nI (rea w i).1 ∧ t.2.2.1 = nI (rea w i).2 ∧ arr (t.2.2.2.1 75) (rd (w.take i)) ∧ Fr [75] s t.2.2.2) (N := w.length) ?_ ?_ w.length 0 50000 (0, 0, 0, s) (by omega) (by omega) ⟨rfl, rfl, rfl, arr_nil _, Fr.refl _ _⟩
    · exact this
    · rintro k i ⟨t0, t1, t2, t⟩ hi ⟨h0, h1, h2, h3, h4⟩
      have h0 : t0 = nI (rd (w.take i)).length := h0
      have h1 : t1 = nI (rea w i).1 := h1
      have h2 : t2 = nI (rea w i).2 := h2
      have h4 : Fr [75] s t := h4
      obtain ⟨t', e, r', f'⟩ := tmM_next hv hi (by omega) h3
      refine Or.inr ⟨(nI (rd (w.take (i + 1))).length, nI (rea w (i + 1)).1, nI (rea w (i + 1)).2, t'), ?_, rfl, rfl, rfl, r', h4.trans f'⟩
      funext K
      show F_M_reaches_23 (nI r) K (k + 1) t0 t1 t2 (nI i) t = F_M_reaches_23 (nI r) K k (nI (rd (w.take (i + 1))).length) (nI (rea w (i + 1)).1) (nI (rea w (i + 1)).2) (nI (i + 1)) t'
      have hb1 := (rea_le w i).1
      have hb2 := hbd (i + 1) (by omega)
      rw [len_rd (wv_take hv (i + 1))] at e ⊢
      rw [F_M_reaches_23.eq_2, gi hr (by decide), c31 (by omega), h4.1 64 (by simp), e1, h64, if_neg (nI_ge hi (by omega)), ix40, gi (by omega) (by decide), c31 (by omega), h4.1 65 (by simp), e2, ← hR.1.1.2 r hr i (by omega), ha i hi, h0, bc_s e, nI_1, rea_s, h1, h2]
      by_cases q : (nf (w.take (i + 1))).length ≤ (rea w i).1
      · rw [if_pos (nI_le q (by omega)), if_pos q]
      · rw [if_neg (nI_ge (by omega) (by omega)), if_neg q]
    · rintro k ⟨t0, t1, t2, t⟩ ⟨h0, h1, h2, h3, h4⟩
      have h1 : t1 = nI (rea w w.length).1 := h1
      have h2 : t2 = nI (rea w w.length).2 := h2
      have h4 : Fr [75] s t := h4
      refine ⟨t, t0, h4, fun K => ?_⟩
      show F_M_reaches_23 (nI r) K (k + 1) t0 t1 t2 (nI w.length) t = _
      rw [F_M_reaches_23.eq_2, gi hr (by decide), c31 (by omega), h4.1 64 (by simp), e1, h64, if_pos (nI_le (Nat.le_refl _) (by omega)), h1, h2]
  have k64 : (s1 σ1 0 16 (nI (rea w w.length).2)).1 64 = σ.1 64 := by rw [s1_c (by decide), f1.1 64 (by simp)]
  have k65 : (s1 σ1 0 16 (nI (rea w w.length).2)).1 65 = σ.1 65 := by rw [s1_c (by decide), f1.1 65 (by simp)]
  obtain ⟨σ2, n', f2, eW2⟩ := hM _ k64 k65
  refine ⟨nI (rea w w.length).1, s1 σ1 0 16 (nI (rea w w.length).2), s1 σ2 63 9 (nI (rea w w.length).2), ?_, ?_, hR.ask3 f1 f2 (Fr.refl [] _) rfl⟩
  · rw [bc_s eX, if_pos rfl, bv_s (clear_spec (w := 32) (σ := σ)).1, jn_s, eW, jn_s]
  · unfold F_M_reaches
    have e4 : F_M_tell (nI (rea w w.length).2) σ2 = some (1, s1 σ2 63 9 (nI (rea w w.length).2)) := rfl
    rw [bc_s (eM _ k64 k65), if_pos (by decide), jn_s, eW2, bc_s e4]
-- how many are seen: last ones as many as first ones
def lasts : List (List Nat) → Nat
  | [] => 0
  | x :: l => (if x ∈ l then 0 else 1) + lasts l
theorem lasts_c (x : List Nat) (l : List (List Nat)) : lasts (x :: l) = (if x ∈ l then 0 else 1) + lasts l := rfl
theorem lasts_snoc (x : List Nat) : ∀ l, lasts (l ++ [x]) = lasts l + if x ∈ l then 0 else 1
  | [] => rfl
  | y :: l => by
    rw [List.cons_append, lasts_c, lasts_snoc x l, lasts_c]
    by_cases hyx : y = x
    · subst hyx
      rw [if_pos (show y ∈ l ++ [y] by simp), if_pos (show y ∈ y :: l by simp)]
      by_cases h : y ∈ l
      · rw [if_pos h]; omega
      · rw [if_neg h]; omega
    · have e1 : (y ∈ l ++ [x]) ↔ y ∈ l := by simp [hyx]
      have e2 : (x ∈ y :: l) ↔ x ∈ l := by simp [Ne.symm hyx]
      simp only [e1, e2]
      omega
theorem lasts_rev : ∀ l, lasts l.reverse = lasts l
  | [] => rfl
  | x :: l => by
    rw [List.reverse_cons, lasts_snoc, lasts_rev l, lasts_c]
    simp only [List.mem_reverse]
    omega
theorem nf_same {u v : List Nat} : nf (u ++ v) = nf u ↔ nf v = [] := by
  constructor
  · intro h
    have h1 : nf (u.reverse ++ (u ++ v)) = nf v := by
      have : fo (nf u.reverse) u = [] := by rw [← nf_app]; exact fo_rev2 good_nil u
      rw [← List.append_assoc, nf_app, nf_app, this]
      rfl
    rw [← h1, nf_app2, h, ← nf_app2]
    exact fo_rev2 good_nil u
  · intro h
    rw [nf_app, ← fo_nf (good_nf u) v, h, fo_nil]
theorem nf_nil_rev {u : List Nat} (hu : wv u) : nf u.reverse = [] ↔ nf u = [] := by
  rw [← List.length_eq_zero_iff, ← List.length_eq_zero_iff, len_nf_rev hu]
def trk (w : List Nat) : List (List Nat) := (List.range (w.length + 1)).map (fun j => nf (w.take j))
theorem trk_len (w : List Nat) : (trk w).length = w.length + 1 := by unfold trk; rw [List.length_map, List.length_range]
theorem trk_get {w : List Nat} {i : Nat} (h : i < (trk w).length) : (trk w)[i] = nf (w.take i) := by
  simp [trk]
theorem mem_after {w : List Nat} {i : Nat} (hi : i ≤ w.length) : nf (w.take i) ∈ (trk w).drop (i + 1) ↔ ∃ e, 0 < e ∧ i + e ≤ w.length ∧ nf ((w.drop i).take e) = [] := by
  have hs : ∀ e, nf (w.take (i + e)) = nf (w.take i) ↔ nf ((w.drop i).take e) = [] := fun e => by rw [List.take_add, nf_same]
  rw [List.mem_iff_getElem]
  constructor
  · rintro ⟨k, hk, e⟩
    rw [List.length_drop, trk_len] at hk
    rw [List.getElem_drop, trk_get] at e
    refine ⟨1 + k, by omega, by omega, (hs (1 + k)).mp ?_⟩
    rw [← Nat.add_assoc]
    exact e
  · rintro ⟨e, h0, he, hn⟩
    refine ⟨e - 1, by rw [List.length_drop, trk_len]; omega, ?_⟩
    rw [List.getElem_drop, trk_get, show i + 1 + (e - 1) = i + e by omega]
    exact (hs e).mpr hn
theorem mem_before {w : List Nat} (hv : wv w) {i : Nat} (hi : i ≤ w.length) : nf (w.take i) ∈ (trk w).take i ↔ ∃ e, 0 < e ∧ e ≤ i ∧ (rd ((w.take i).reverse.take e)).length = 0 := by
  have hs : ∀ e, e ≤ i → (nf (w.take (i - e)) = nf (w.take i) ↔ (rd ((w.take i).reverse.take e)).length = 0) := fun e he => by
    have h1 : w.take i = w.take (i - e) ++ (w.take i).drop (i - e) := by
      conv => lhs; rw [← List.take_append_drop (i - e) (w.take i), List.take_take, Nat.min_eq_left (by omega)]
    have h2 : (w.take i).reverse.take e = ((w.take i).drop (i - e)).reverse := by
      rw [List.take_reverse, List.length_take, Nat.min_eq_left hi]
    have hv2 : wv ((w.take i).drop (i - e)) := wv_drop (wv_take hv i) _
    rw [h2, len_rd (wv_rev hv2), List.length_eq_zero_iff, nf_nil_rev hv2]
    conv => lhs; rw [eq_comm]; lhs; rw [h1]
    exact nf_same
  rw [List.mem_iff_getElem]
  constructor
  · rintro ⟨k, hk, e⟩
    rw [List.length_take, trk_len] at hk
    rw [List.getElem_take, trk_get] at e
    refine ⟨i - k, by omega, by omega, (hs (i - k) (by omega)).mp ?_⟩
    rw [show i - (i - k) = k by omega]
    exact e
  · rintro ⟨e, h0, he, hn⟩
    refine ⟨i - e, by rw [List.length_take, trk_len]; omega, ?_⟩
    rw [List.getElem_take, trk_get]
    exact (hs e he).mpr hn
theorem lasts_le (l : List (List Nat)) : lasts l ≤ l.length := by
  induction l with
  | nil => exact Nat.le_refl _
  | cons x l ih =>
    rw [lasts_c, List.length_cons]
    split <;> omega
theorem comesX {r i : Nat} {w : List Nat} (hr : r < 6) (hl : w.length ≤ 40) (hv : wv w) (hi : i ≤ w.length) (σ : GS) (h8 : σ.1 8 r = nI w.length) (ha : arr (σ.1 (2 + r)) w) : ∃ σ', F_X_comesAgain (nI r) (nI i) σ = some (if nf (w.take i) ∈ (trk w).drop (i + 1) then 1 else 0, σ') ∧ Fr [32, 33] σ σ' := by
  unfold F_X_comesAgain
  rw [bv_s (clear_spec (w := 32) (σ := σ)).1, jn_s]
  have hdl : (w.drop i).length = w.length - i := List.length_drop
  have hg : ∀ d, (w.drop i).getD d 0 = w.getD (i + d) 0 := fun d => by rw [List.getD_eq_getElem?_getD, List.getD_eq_getElem?_getD, List.getElem?_drop]
  refine lpE (G := fun k d (t : GS) => F_X_comesAgain_9 (nI r) (fun (v3_3 : Int32) (σL3 : GS) => some ((0 : Int32), σL3)) k (nI (i + d)) t) (P := fun o => ∃ σ', o = some (if nf (w.take i) ∈ (trk w).drop (i + 1) then 1 else 0, σ') ∧ Fr [32, 33] σ σ') (Inv := fun d t => Rep t 32 (nf ((w.drop i).take d)) ∧ Fr [32, 33] σ t ∧ ∀ e, 0 < e → e ≤ d → nf ((w.drop i).take e) ≠ []) (N := w.length - i) ?_ ?_ (w.length - i) 0 50000 (s1 σ 32 1 0) (by omega) (by omega) ⟨(clear_spec (w := 32) (σ := σ)).2, Fr.s1 (by simp), fun e h0 h1 => by omega⟩
  · intro k d t hd h
    obtain ⟨t', e, r', f'⟩ := goX_next (wv_drop hv i) (by omega) (by omega) h.1
    have hlen := r'.len
    have ec : F_X_comesAgain_9 (nI r) (fun (v3_3 : Int32) (σL3 : GS) => some ((0 : Int32), σL3)) (k + 1) (nI (i + d)) t = if nI (nf ((w.drop i).take (d + 1))).length = 0 then some (1, t') else F_X_comesAgain_9 (nI r) (fun (v3_3 : Int32) (σL3 : GS) => some ((0 : Int32), σL3)) k (nI (i + (d + 1))) t' := by
      rw [hg] at e
      rw [F_X_comesAgain_9.eq_2, gi hr (by decide), c31 (by omega), h.2.1.1 8 (by simp), h8, if_neg (nI_ge (by omega) (by omega)), gi hr (by decide), gi (by omega) (by decide), c31 (by omega), h.2.1.1 (2 + r) (by simp; omega), ha (i + d) (by omega), bv_s e, r'.1, nI_1]
      rfl
    by_cases q : (nf ((w.drop i).take (d + 1))).length = 0
    · refine Or.inl ⟨t', ?_, h.2.1.trans f'⟩
      show F_X_comesAgain_9 (nI r) _ (k + 1) (nI (i + d)) t = _
      rw [ec, q, if_pos (by decide), if_pos ((mem_after hi).mpr ⟨d + 1, by omega, by omega, List.length_eq_zero_iff.mp q⟩)]
    · refine Or.inr ⟨t', ?_, r', h.2.1.trans f', fun e h0 h1 => ?_⟩
      · show F_X_comesAgain_9 (nI r) _ (k + 1) (nI (i + d)) t = _
        rw [ec, if_neg (nI_ne0 (by omega) (by omega))]
      · by_cases e2 : e = d + 1
        · rw [e2]; exact fun z => q (by rw [z]; rfl)
        · exact h.2.2 e h0 (by omega)
  · intro k t h
    refine ⟨t, ?_, h.2.1⟩
    show F_X_comesAgain_9 (nI r) _ (k + 1) (nI (i + (w.length - i))) t = _
    rw [F_X_comesAgain_9.eq_2, gi hr (by decide), c31 (by omega), h.2.1.1 8 (by simp), h8, if_pos (nI_le (by omega) (by omega)), if_neg (fun z => by
      obtain ⟨e, h0, he, hn⟩ := (mem_after hi).mp z
      exact h.2.2 e h0 (by omega) hn)]
theorem seesM_in {r i : Nat} {w : List Nat} {x y : Int32} (hr : r < 6) (hl : w.length ≤ 40) (hv : wv w) (hi : i ≤ w.length) (σ : GS) (h65 : ∀ j, j < w.length → σ.1 65 (40 * r + j) = nI (w.getD j 0)) : ∃ σ' z, Fr [75] σ σ' ∧ ∀ K : Int32 → Int32 → Int32 → GS → Option (Int32 × GS), F_M_sees_40 (nI r) x y K 50000 1 0 (nI i - 1) σ = K (if nf (w.take i) ∈ (trk w).take i then 0 else 1) z (-1) σ' := by
  have hrl : (w.take i).reverse.length = i := by rw [List.length_reverse, List.length_take]; omega
  have hvr : wv (w.take i).reverse := wv_rev (wv_take hv i)
  have hg : ∀ d, d < i → (w.take i).reverse.getD d 0 = w.getD (i - 1 - d) 0 := fun d hd => by
    rw [List.getD_eq_getElem?_getD, List.getD_eq_getElem?_getD, List.getElem?_reverse (by rw [List.length_take]; omega), List.length_take, Nat.min_eq_left hi, List.getElem?_take_of_lt (by omega)]
  have := lpE (G := fun k d (t : Int32 × Int32 × GS) => fun (K : Int32 → Int32 → Int32 → GS → Option (Int32 × GS)) => F_M_sees_40 (nI r) x y K k t.1 t.2.1 (nI (i - d) - 1) t.2.2) (P := fun o => ∃ σ' z, Fr [75] σ σ' ∧ ∀ K, o K = K (if nf (w.take i) ∈ (trk w).take i then 0 else 1) z (-1) σ') (Inv := fun d t => t.2.1 = nI (rd ((w.take i).reverse.take d)).length ∧ arr (t.2.2.1 75) (rd ((w.take i).reverse.take d)) ∧ Fr [75] σ t.2.2 ∧ ((t.1 = 1 ∧ ∀ e, 0 < e → e ≤ d → (rd ((w.take i).reverse.take e)).length ≠ 0) ∨ (t.1 = 0 ∧ ∃ e, 0 < e ∧ e ≤ d ∧ (rd ((w.take i).reverse.take e)).length = 0))) (N := i) ?_ ?_ i 0 50000 (1, 0, σ) (by omega) (by omega) ⟨rfl, arr_nil _, Fr.refl _ _, Or.inl ⟨rfl, fun e h0 h1 => by omega⟩⟩
  · exact this
  · rintro k d ⟨t1, t2, t⟩ hd ⟨h2, h3, h4, h5⟩
    have h2 : t2 = nI (rd ((w.take i).reverse.take d)).length := h2
    have h4 : Fr [75] σ t := h4
    obtain ⟨t', e, r', f'⟩ := tmM_next hvr (by omega) (by omega) h3
    have hlen := len_rd_le (wv_take hvr (d + 1))
    rw [List.length_take] at hlen
    have ec : ∀ K : Int32 → Int32 → Int32 → GS → Option (Int32 × GS), F_M_sees_40 (nI r) x y K (k + 1) t1 t2 (nI (i - d) - 1) t = if t1 = 0 then F_M_sees_40 (nI r) x y K k 0 (nI (rd ((w.take i).reverse.take (d + 1))).length) (nI (i - (d + 1)) - 1) t' else if nI (rd ((w.take i).reverse.take (d + 1))).length ≤ 0 then F_M_sees_40 (nI r) x y K k 0 (nI (rd ((w.take i).reverse.take (d + 1))).length) (nI (i - (d + 1)) - 1) t' else F_M_sees_40 (nI r) x y K k 1 (nI (rd ((w.take i).reverse.take (d + 1))).length) (nI (i - (d + 1)) - 1) t' := fun K => by
      rw [hg d hd] at e
      rw [sub1 (m := i - d) (by omega), F_M_sees_40.eq_2, if_neg (nI_pos (by omega)), ix40, gi (by omega) (by decide), c31 (by omega), h4.1 65 (by simp), h65 _ (by omega), show i - d - 1 = i - 1 - d by omega, h2, bc_s e, show i - (d + 1) = i - 1 - d by omega, Int32.sub_eq_add_neg]
    by_cases q : (rd ((w.take i).reverse.take (d + 1))).length = 0
    · refine Or.inr ⟨(0, nI (rd ((w.take i).reverse.take (d + 1))).length, t'), ?_, rfl, r', h4.trans f', Or.inr ⟨rfl, d + 1, by omega, by omega, q⟩⟩
      funext K
      show F_M_sees_40 (nI r) x y K (k + 1) t1 t2 (nI (i - d) - 1) t = _
      rw [ec, q, if_pos (show nI 0 ≤ 0 by decide), ite_self]
    · have hq : ¬ nI (rd ((w.take i).reverse.take (d + 1))).length ≤ 0 := nI_nle (by omega) (by omega)
      rcases h5 with ⟨h5, h6⟩ | ⟨h5, e0, g1, g2, g3⟩
      · have h5 : t1 = 1 := h5
        refine Or.inr ⟨(1, nI (rd ((w.take i).reverse.take (d + 1))).length, t'), ?_, rfl, r', h4.trans f', Or.inl ⟨rfl, fun e h0 h1 => ?_⟩⟩
        · funext K
          show F_M_sees_40 (nI r) x y K (k + 1) t1 t2 (nI (i - d) - 1) t = _
          rw [ec, h5, if_neg (by decide), if_neg hq]
        · by_cases e2 : e = d + 1
          · rw [e2]; exact q
          · exact h6 e h0 (by omega)
      · have h5 : t1 = 0 := h5
        refine Or.inr ⟨(0, nI (rd ((w.take i).reverse.take (d + 1))).length, t'), ?_, rfl, r', h4.trans f', Or.inr ⟨rfl, e0, g1, by omega, g3⟩⟩
        funext K
        show F_M_sees_40 (nI r) x y K (k + 1) t1 t2 (nI (i - d) - 1) t = _
        rw [ec, h5, if_pos rfl]
  · rintro k ⟨t1, t2, t⟩ ⟨h2, h3, h4, h5⟩
    refine ⟨t, t2, h4, fun K => ?_⟩
    show F_M_sees_40 (nI r) x y K (k + 1) t1 t2 (nI (i - i) - 1) t = _
    rw [Nat.sub_self, F_M_sees_40.eq_2, if_pos (by decide)]
    rcases h5 with ⟨h5, h6⟩ | ⟨h5, e0, g1, g2, g3⟩
    · have h5 : t1 = 1 := h5
      rw [h5, if_neg (fun z => by
        obtain ⟨e, h0, he, hn⟩ := (mem_before hv hi).mp z
        exact h6 e h0 he hn)]
      rfl
    · have h5 : t1 = 0 := h5
      rw [h5, if_pos ((mem_before hv hi).mpr ⟨e0, g1, g2, g3⟩)]
      rfl
theorem stp_sees : St_sees Rel := by
  intro σ hR a1
  unfold F_X_sees
  rcases str_c hR a1 with ⟨v, σ1, σ2, e1, hv, hv2, e2, h⟩ | ⟨r, w, hr, rfl, hl, hv, h8, h64, ha, eX, eM⟩
  · exact ⟨v, σ1, σ2, by rw [bc_s e1, if_neg hv], by unfold F_M_sees; rw [bc_s e2, if_neg hv2], h⟩
  have hdrop : ∀ i, i ≤ w.length → lasts ((trk w).drop i) = (if nf (w.take i) ∈ (trk w).drop (i + 1) then 0 else 1) + lasts ((trk w).drop (i + 1)) := fun i hi => by
    have h1 : i < (trk w).length := by rw [trk_len]; omega
    rw [List.drop_eq_getElem_cons h1, trk_get, lasts_c]
  have htake : ∀ i, i ≤ w.length → lasts ((trk w).take (i + 1)).reverse = (if nf (w.take i) ∈ (trk w).take i then 0 else 1) + lasts ((trk w).take i).reverse := fun i hi => by
    have h1 : i < (trk w).length := by rw [trk_len]; omega
    have e : (trk w).take (i + 1) = (trk w).take i ++ [nf (w.take i)] := by
      rw [List.take_succ, List.getElem?_eq_getElem h1, trk_get]
      rfl
    rw [e, List.reverse_append, List.reverse_singleton, List.singleton_append, lasts_c]
    simp only [List.mem_reverse]
  have hle := lasts_le (trk w)
  rw [trk_len] at hle
  have hX : ∃ σ', Fr [32, 33] σ σ' ∧ F_X_sees_17 (nI r) (fun (v3_4 : Int32) (v4_4 : Int32) (σL4 : GS) => some (v3_4, σL4)) 50000 0 0 σ = some (nI (lasts (trk w)), σ') := by
    have := lpE (G := fun k i (t : Int32 × GS) => F_X_sees_17 (nI r) (fun (v3_4 : Int32) (v4_4 : Int32) (σL4 : GS) => some (v3_4, σL4)) k t.1 (nI i) t.2) (P := fun o => ∃ σ', Fr [32, 33] σ σ' ∧ o = some (nI (lasts (trk w)), σ')) (Inv := fun i t => Fr [32, 33] σ t.2 ∧ ∃ c, t.1 = nI c ∧ c + lasts ((trk w).drop i) = lasts (trk w)) (N := w.length + 1) ?_ ?_ (w.length + 1) 0 50000 (0, σ) (by omega) (by omega) ⟨Fr.refl _ _, 0, rfl, by simp⟩
    · exact this
    · rintro k i ⟨t1, t⟩ hi ⟨h1, c, h2, h3⟩
      have h1 : Fr [32, 33] σ t := h1
      have h2 : t1 = nI c := h2
      obtain ⟨t', e, f'⟩ := comesX (r := r) (i := i) hr hl hv (by omega) t (by rw [h1.1 8 (by simp), h8]) (by rw [h1.1 (2 + r) (by simp; omega)]; exact ha)
      have hd := hdrop i (by omega)
      refine Or.inr ⟨(nI (c + if nf (w.take i) ∈ (trk w).drop (i + 1) then 0 else 1), t'), ?_, h1.trans f', _, rfl, by rw [← h3, hd]; omega⟩
      show F_X_sees_17 (nI r) _ (k + 1) t1 (nI i) t = F_X_sees_17 (nI r) _ k _ (nI (i + 1)) t'
      rw [F_X_sees_17.eq_2, gi hr (by decide), c31 (by omega), h1.1 8 (by simp), h8, if_neg (nI_nlt (by omega) (by omega)), bc_s e, nI_1, h2, nI_1]
      by_cases q : nf (w.take i) ∈ (trk w).drop (i + 1)
      · rw [if_pos q, if_pos q, if_neg (by decide)]
        rfl
      · rw [if_neg q, if_neg q, if_pos rfl]
    · rintro k ⟨t1, t⟩ ⟨h1, c, h2, h3⟩
      have h1 : Fr [32, 33] σ t := h1
      have h2 : t1 = nI c := h2
      refine ⟨t, h1, ?_⟩
      show F_X_sees_17 (nI r) _ (k + 1) t1 (nI (w.length + 1)) t = _
      rw [F_X_sees_17.eq_2, gi hr (by decide), c31 (by omega), h1.1 8 (by simp), h8, if_pos (nI_lt (by omega) (by omega)), h2]
      rw [List.drop_of_length_le (by rw [trk_len]; omega)] at h3
      rw [← h3]
      rfl
  obtain ⟨σ1, f1, e1⟩ := hX
  have k64 : σ1.1 64 = σ.1 64 := f1.1 64 (by simp)
  have k65 : σ1.1 65 = σ.1 65 := f1.1 65 (by simp)
  have hM : ∃ σ', Fr [75] σ1 σ' ∧ F_M_sees_17 (nI r) (fun (v3_4 : Int32) (v4_4 : Int32) (σL4 : GS) => some (v3_4, σL4)) 50000 0 0 σ1 = some (nI (lasts (trk w)), σ') := by
    have := lpE (G := fun k i (t : Int32 × GS) => F_M_sees_17 (nI r) (fun (v3_4 : Int32) (v4_4 : Int32) (σL4 : GS) => some (v3_4, σL4)) k t.1 (nI i) t.2) (P := fun o => ∃ σ', Fr [75] σ1 σ' ∧ o = some (nI (lasts (trk w)), σ')) (Inv := fun i t => Fr [75] σ1 t.2 ∧ t.1 = nI (lasts ((trk w).take i).reverse)) (N := w.length + 1) ?_ ?_ (w.length + 1) 0 50000 (0, σ1) (by omega) (by omega) ⟨Fr.refl _ _, rfl⟩
    · exact this
    · rintro k i ⟨t1, t⟩ hi ⟨h1, h2⟩
      have h1 : Fr [75] σ1 t := h1
      have h2 : t1 = nI (lasts ((trk w).take i).reverse) := h2
      obtain ⟨t', z, f', e⟩ := seesM_in (r := r) (i := i) (x := t1) (y := nI i) hr hl hv (by omega) t (fun j hj => by rw [h1.1 65 (by simp), k65, ← hR.1.1.2 r hr j (by omega)]; exact ha j hj)
      refine Or.inr ⟨(nI (lasts ((trk w).take (i + 1)).reverse), t'), ?_, h1.trans f', rfl⟩
      show F_M_sees_17 (nI r) _ (k + 1) t1 (nI i) t = F_M_sees_17 (nI r) _ k _ (nI (i + 1)) t'
      rw [F_M_sees_17.eq_2, gi hr (by decide), c31 (by omega), h1.1 64 (by simp), k64, h64, if_neg (nI_nlt (by omega) (by omega)), jn_s, e, nI_1, htake i (by omega), h2]
      by_cases q : nf (w.take i) ∈ (trk w).take i
      · rw [if_pos q, if_pos q, if_pos rfl, Nat.zero_add, show (0 : Int32) = nI 0 from rfl, nI_add, Nat.add_zero]
      · rw [if_neg q, if_neg q, if_neg (by decide), nI_1, Nat.add_comm]
    · rintro k ⟨t1, t⟩ ⟨h1, h2⟩
      have h1 : Fr [75] σ1 t := h1
      have h2 : t1 = nI (lasts ((trk w).take (w.length + 1)).reverse) := h2
      refine ⟨t, h1, ?_⟩
      show F_M_sees_17 (nI r) _ (k + 1) t1 (nI (w.length + 1)) t = _
      rw [F_M_sees_17.eq_2, gi hr (by decide), c31 (by omega), h1.1 64 (by simp), k64, h64, if_pos (nI_lt (by omega) (by omega)), h2, List.take_of_length_le (by rw [trk_len]; omega), lasts_rev]
  obtain ⟨σ2, f2, e2⟩ := hM
  refine ⟨nI (lasts (trk w)), σ1, σ2, ?_, ?_, (hR.fr f1 rfl rfl).fr f2 rfl rfl⟩
  · rw [bc_s eX, if_pos rfl, jn_s]
    exact e1
  · unfold F_M_sees
    rw [bc_s (eM σ1 k64 k65), if_pos (by decide), jn_s]
    exact e2
