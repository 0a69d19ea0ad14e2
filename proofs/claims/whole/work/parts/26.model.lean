/-! the model's words -/
theorem times_loop {q s : Nat} {σ : GS} {l : List Nat} {x1 : Int32} {K : Int32 → Option (Int32 × GS)} (hs : s < 5) (ha : arr (σ.1 q) l) (hv : wv l) (hl : l.length ≤ 64) : ∀ (p n : Nat), p ≤ l.length → p < n → F_M_times_4 q x1 (nI s) σ K n (nI p - 1) = K (nI (sc l s p) - 1) := by
  intro p
  induction p with
  | zero =>
    intro n _ hn
    obtain ⟨n, rfl⟩ : ∃ k, n = k + 1 := ⟨n - 1, by omega⟩
    rw [F_M_times_4.eq_2, if_pos (by decide)]
    rfl
  | succ p ih =>
    intro n hp hn
    obtain ⟨n, rfl⟩ : ∃ k, n = k + 1 := ⟨n - 1, by omega⟩
    have e2 : nI p + -1 = nI p - 1 := by rw [Int32.sub_eq_add_neg]
    rw [nI_pred, F_M_times_4.eq_2, if_neg (nI_pos (by omega)), gi (by omega) (by decide), c31 (by omega), ha p (by omega), bp_s (nbM _ (getD_lt hv (by omega)) s hs), sc_succ]
    have ihn := ih n (by omega) (by omega)
    show (if (if nb (l.getD p 0) s = true then (1 : Int32) else 0) = 0 then K (nI p) else F_M_times_4 q x1 (nI s) σ K n (nI p + -1)) = _
    by_cases h : nb (l.getD p 0) s = true
    · rw [if_pos h, if_neg (by decide), if_pos h, e2]
      exact ihn
    · rw [if_neg h, if_pos rfl, if_neg h, nI_pred]
theorem times_cut {q p : Nat} {l : List Nat} (hp : p < l.length) (hl : l.length ≤ 64) {K : Int32 → GS → Option (Int32 × GS)} : ∀ (d i n : Nat) (σ : GS), i + 1 + d = l.length → p ≤ i → (∀ j, j < l.length → σ.1 q j = nI (if p ≤ j ∧ j < i then l.getD (j + 1) 0 else l.getD j 0)) → d < n →
    ∃ σ', F_M_times_46 q (nI l.length) K n (nI i) σ = K (nI (l.length - 1)) σ' ∧ (∀ j, j < l.length → σ'.1 q j = nI (if p ≤ j ∧ j < l.length - 1 then l.getD (j + 1) 0 else l.getD j 0)) ∧ Fr [q] σ σ' := by
  intro d
  induction d with
  | zero =>
    intro i n σ hi hpi h2 hn
    obtain ⟨m, rfl⟩ : ∃ m, n = m + 1 := ⟨n - 1, by omega⟩
    refine ⟨σ, ?_, ?_, Fr.refl _ _⟩
    · rw [F_M_times_46.eq_2, sub1 (by omega), if_pos (nI_le (by omega) (by omega)), show l.length - 1 = i by omega]
    · rw [show l.length - 1 = i by omega]
      exact h2
  | succ d ih =>
    intro i n σ hi hpi h2 hn
    obtain ⟨m, rfl⟩ : ∃ m, n = m + 1 := ⟨n - 1, by omega⟩
    obtain ⟨σ', e, a2, a3⟩ := ih (i + 1) m (s1 σ q i (nI (l.getD (i + 1) 0))) (by omega) (by omega) (fun j hj => by
      by_cases e : j = i
      · subst e
        rw [s1_at, if_pos ⟨hpi, by omega⟩]
      · rw [s1_i e, h2 j hj]
        by_cases q : p ≤ j ∧ j < i
        · rw [if_pos q, if_pos ⟨q.1, by omega⟩]
        · rw [if_neg q, if_neg (fun z => q ⟨z.1, by omega⟩)]) (by omega)
    refine ⟨σ', ?_, a2, Fr.trans (Fr.s1 (by simp)) a3⟩
    rw [F_M_times_46.eq_2, sub1 (by omega), nI_1, if_neg (by rw [nI_leI (by omega) (by omega)]; omega), gi (by omega) (by decide), gi (by omega) (by decide), c31 (by omega), c31 (by omega), h2 (i + 1) (by omega), if_neg (fun z => by omega), jn_e]
    exact e
theorem tm_cut {w : List Nat} {s : Nat} (hl : lastb w s = true) : tm w s = (tlA s w).dropLast ++ tlB s w := by unfold tm; rw [if_pos hl]
theorem tm_put {w : List Nat} {s : Nat} (hl : ¬ lastb w s = true) : tm w s = w ++ [s] := by unfold tm; rw [if_neg hl]
theorem times_spec {q s : Nat} {l : List Nat} {σ : GS} (ha : arr (σ.1 q) l) (hv : wv l) (hl : l.length < 64) (hs : s < 5) : ∃ σ', F_M_times q (nI l.length) (nI s) σ = some (nI (tm l s).length, σ') ∧ arr (σ'.1 q) (tm l s) ∧ Fr [q] σ σ' := by
  have e := tl_app s l
  have el := congrArg List.length e
  rw [List.length_append] at el
  have hput : ¬ lastb l s = true → ∃ σ', gd (iB (nI l.length) 64) (jn (s1 σ q (nI l.length).toNatClampNeg (nI s)) (fun (σ4 : GS) => some (nI l.length + (1 : Int32), σ4))) = some (nI (tm l s).length, σ') ∧ arr (σ'.1 q) (tm l s) ∧ Fr [q] σ σ' := by
    intro hn
    refine ⟨s1 σ q l.length (nI s), ?_, ?_, Fr.s1 (by simp)⟩
    · rw [gi hl (by decide), c31 (by omega), jn_e, nI_1, tm_put hn, List.length_append]
      rfl
    · rw [tm_put hn]
      intro i hi
      rw [List.length_append, List.length_singleton] at hi
      by_cases q : i = l.length
      · subst q
        rw [s1_at]
        have := getD_r (u := l) (v := [s]) (i := 0)
        rw [Nat.add_zero] at this
        rw [this]
        rfl
      · rw [s1_i q, ha i (by omega), getD_l (by omega)]
  unfold F_M_times
  rw [jn_s, times_loop hs ha hv (by omega) l.length 50000 (Nat.le_refl _) (by omega), sc_len]
  simp only [jn_s]
  by_cases h0 : (tlA s l).length = 0
  · have hn : ¬ lastb l s = true := fun q => by
      have h1 := beq_iff_eq.mp q
      rw [List.length_eq_zero_iff.mp h0] at h1
      cases h1
    rw [if_pos (by rw [h0]; decide)]
    have := hput hn
    simp only [jn_s] at this
    exact this
  · obtain ⟨p, hp⟩ : ∃ p, (tlA s l).length = p + 1 := ⟨(tlA s l).length - 1, by omega⟩
    obtain ⟨t, ht⟩ : ∃ t, (tlA s l).getLast? = some t := by
      cases q : (tlA s l).getLast? with
      | none => rw [List.getLast?_eq_none_iff.mp q] at h0; exact absurd rfl h0
      | some t => exact ⟨t, rfl⟩
    have hdl : (tlA s l).dropLast.length = p := by rw [List.length_dropLast, hp]; rfl
    have eA := snoc_of ht
    have el2 : l = (tlA s l).dropLast ++ t :: tlB s l := by
      conv => lhs; rw [← e, eA, List.append_assoc]
      rfl
    have hgt : l.getD p 0 = t := by
      rw [el2, ← hdl]
      have := getD_r (u := (tlA s l).dropLast) (v := t :: tlB s l) (i := 0)
      rw [Nat.add_zero] at this
      rw [this]
      rfl
    have ht5 : t < 5 := by
      rw [← hgt]
      exact getD_lt hv (by omega)
    rw [hp, nI_pred, if_neg (nI_pos (by omega)), gi (by omega) (by decide), c31 (by omega), ha p (by omega), hgt]
    by_cases hts : t = s
    · rw [if_pos (by rw [hts])]
      obtain ⟨σ', h2, h3, h4⟩ := times_cut (q := q) (p := p) (l := l) (by omega) (by omega) (K := fun (v4_6 : Int32) (σL6 : GS) => some (nI l.length - (1 : Int32), σL6)) (l.length - 1 - p) p 50000 σ (by omega) (Nat.le_refl _) (fun j hj => by rw [ha j hj, if_neg (by omega)]) (by omega)
      have hlast : lastb l s = true := by
        unfold lastb
        rw [ht, hts]
        exact beq_self_eq_true _
      have eg : tm l s = l.eraseIdx p := by
        rw [tm_cut hlast]
        conv => rhs; rw [el2, ← hdl]
        rw [List.eraseIdx_append_of_length_le (Nat.le_refl _), Nat.sub_self]
        rfl
      refine ⟨σ', ?_, ?_, h4⟩
      · rw [h2, eg, List.length_eraseIdx_of_lt (by omega), sub1 (by omega)]
      · rw [eg]
        intro i hi
        rw [List.length_eraseIdx_of_lt (by omega)] at hi
        rw [h3 i (by omega), eraseIdx_getD]
        by_cases q : p ≤ i
        · rw [if_pos ⟨q, hi⟩, if_neg (by omega)]
        · rw [if_neg (fun z => q z.1), if_pos (by omega)]
    · rw [if_neg (by rw [nI_eq (by omega) (by omega)]; exact hts)]
      have hn : ¬ lastb l s = true := fun q => by
        have h1 := beq_iff_eq.mp q
        rw [ht] at h1
        exact hts (Option.some.inj h1)
      have := hput hn
      simp only [jn_s] at this
      exact this
-- following codes
def fm (X u : List Nat) : List Nat := u.foldl tm X
theorem fm_cons (X : List Nat) (s : Nat) (u : List Nat) : fm X (s :: u) = fm (tm X s) u := rfl
theorem fm_app (X u v : List Nat) : fm X (u ++ v) = fm (fm X u) v := List.foldl_append ..
theorem len_tm_le (w : List Nat) (s : Nat) : (tm w s).length ≤ w.length + 1 := by
  unfold tm
  have e := congrArg List.length (tl_app s w)
  rw [List.length_append] at e
  split
  · rw [List.length_append, List.length_dropLast]
    omega
  · rw [List.length_append]
    exact Nat.le_refl _
theorem mback_loop {q : Nat} {K : Int32 → Int32 → GS → Option (Int32 × GS)} : ∀ (f m n : Nat) (l : List Nat) (σ : GS), cF f m = true → m < 2 ^ 31 → f < n → l.length + f < 64 → arr (σ.1 q) l → wv l → ∃ σ', F_M_followBack_5 q K n (nI l.length) (nI m) σ = K (nI (fm l (dgF f m)).length) (nI 0) σ' ∧ arr (σ'.1 q) (fm l (dgF f m)) ∧ wv (fm l (dgF f m)) ∧ Fr [q] σ σ' := by
  intro f
  induction f with
  | zero =>
    intro m n l σ hc hm hn hl ha hv
    obtain ⟨n, rfl⟩ : ∃ k, n = k + 1 := ⟨n - 1, by omega⟩
    have e : m = 0 := of_decide_eq_true hc
    subst e
    exact ⟨σ, by rw [F_M_followBack_5.eq_2, if_pos (by decide)]; rfl, ha, hv, Fr.refl _ _⟩
  | succ f ih =>
    intro m n l σ hc hm hn hl ha hv
    obtain ⟨n, rfl⟩ : ∃ k, n = k + 1 := ⟨n - 1, by omega⟩
    by_cases h0 : m = 0
    · subst h0
      exact ⟨σ, by rw [F_M_followBack_5.eq_2, if_pos (by decide)]; rfl, ha, hv, Fr.refl _ _⟩
    · obtain ⟨h1, h2, h3⟩ := cF_s h0 hc
      obtain ⟨σ1, e1, r1, f1⟩ := times_spec (s := m % 10 - 1) ha hv (by omega) (by omega)
      have hlen := len_tm_le l (m % 10 - 1)
      obtain ⟨σ2, e2, r2, v2, f2⟩ := ih (m / 10) n (tm l (m % 10 - 1)) σ1 h3 (by omega) (by omega) (by omega) r1 (wv_tm hv (by omega))
      refine ⟨σ2, ?_, by rw [dgF_s h0]; exact r2, by rw [dgF_s h0]; exact v2, f1.trans f2⟩
      rw [F_M_followBack_5.eq_2, if_neg (nI_nle (by omega) hm), rem10 hm, sub1 h1, bc_s e1, div10 hm, dgF_s h0]
      exact e2
theorem followBack_spec {q m : Nat} {l : List Nat} {σ : GS} (ha : arr (σ.1 q) l) (hv : wv l) (hc : isC m = true) (hl : l.length ≤ 40) : ∃ σ', F_M_followBack q (nI l.length) (nI m) σ = some (nI (fm l (dg m)).length, σ') ∧ arr (σ'.1 q) (fm l (dg m)) ∧ wv (fm l (dg m)) ∧ Fr [q] σ σ' := by
  have hc2 := Bool.and_eq_true_iff.mp hc
  have hm := of_decide_eq_true hc2.1
  unfold F_M_followBack
  rw [jn_s]
  exact mback_loop (q := q) (K := fun (v3_1 : Int32) (v4_1 : Int32) (σL1 : GS) => some (v3_1, σL1)) 10 m 50000 l σ hc2.2 (by omega) (by omega) (by omega) ha hv
theorem fig_loop {K : Int32 → Int32 → Option Int32} : ∀ (f m n k : Nat), cF f m = true → m < 2 ^ 31 → f < n → F_M_figures_4 K n (nI k) (nI m) = K (nI (k + (dgF f m).length)) (nI 0) := by
  intro f
  induction f with
  | zero =>
    intro m n k hc hm hn
    obtain ⟨n, rfl⟩ : ∃ k, n = k + 1 := ⟨n - 1, by omega⟩
    have e : m = 0 := of_decide_eq_true hc
    subst e
    rw [F_M_figures_4.eq_2, if_pos (by decide)]
    rfl
  | succ f ih =>
    intro m n k hc hm hn
    obtain ⟨n, rfl⟩ : ∃ k, n = k + 1 := ⟨n - 1, by omega⟩
    by_cases h0 : m = 0
    · subst h0
      rw [F_M_figures_4.eq_2, if_pos (by decide)]
      rfl
    · obtain ⟨h1, h2, h3⟩ := cF_s h0 hc
      rw [F_M_figures_4.eq_2, if_neg (nI_nle (by omega) hm), div10 hm, nI_1, ih (m / 10) n (k + 1) h3 (by omega) (by omega), dgF_s h0, List.length_cons, Nat.add_assoc, Nat.add_comm 1]
theorem figures_spec {m : Nat} (hc : isC m = true) : F_M_figures (nI m) = some (nI (dg m).length) := by
  have hc2 := Bool.and_eq_true_iff.mp hc
  have hm := of_decide_eq_true hc2.1
  unfold F_M_figures
  rw [jn_s]
  have := fig_loop (K := fun (v1_1 : Int32) (v2_1 : Int32) => some v1_1) 10 m 50000 0 hc2.2 (by omega) (by omega)
  rw [Nat.zero_add] at this
  exact this
