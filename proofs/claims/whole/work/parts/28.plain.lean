theorem lay_loop {q1 q3 : Nat} {u : List Nat} (hq : q3 ≠ 78) (hu : u.length ≤ 64) {K : Int32 → GS → Option GS} {n0 : Nat} (hn0 : 100 ≤ n0) : ∀ (d i n : Nat) (R : List Nat) (σ : GS), i + d = u.length → R.length = d → Plain (u.drop i) → eqv (u.drop i) R → wv R → arr (σ.1 78) R → (∀ j, j < i → σ.1 q3 j = nI (u.getD j 0)) → d < n →
    ∃ σ', F_M_layPlain_29 q1 q3 (nI u.length) K n (nI i) σ = K (nI u.length) σ' ∧ arr (σ'.1 q3) u ∧ Fr [78, q3] σ σ' := by
  intro d
  induction d with
  | zero =>
    intro i n R σ hi hR hp he hv ha ht hn
    obtain ⟨n, rfl⟩ : ∃ k, n = k + 1 := ⟨n - 1, by omega⟩
    have e : i = u.length := by omega
    subst e
    exact ⟨σ, by rw [F_M_layPlain_29.eq_2, if_pos (nI_le (Nat.le_refl _) (by omega))], ht, Fr.refl _ _⟩
  | succ d ih =>
    intro i n R σ hi hR hp he hv ha ht hn
    obtain ⟨n, rfl⟩ : ∃ k, n = k + 1 := ⟨n - 1, by omega⟩
    have hdrop : u.drop i = u.getD i 0 :: u.drop (i + 1) := by
      rw [List.drop_eq_getElem_cons (by omega), List.getD_eq_getElem?_getD, List.getElem?_eq_getElem (by omega)]
      rfl
    rw [hdrop] at hp he
    have hf : fstB R (u.getD i 0) := fst_eqv he (fst_head _ _)
    obtain ⟨j0, hj0, hfj0, ej0⟩ := fst_fpl hf
    obtain ⟨best', e1, hB⟩ := best_loop (q1 := q1) (q3 := q3) (N := u.length) (i := i) (σ := σ) (K := fun (v5_3 : Int32) (v6_3 : Int32) => gd (iB v5_3 64) (gd (iB (nI i) 64) (jn (s1 σ q3 (nI i).toNatClampNeg (σ.1 78 v5_3.toNatClampNeg)) (fun (σ6 : GS) => jn (fun (v6_7 : Int32) (σL7 : GS) => F_M_layPlain_29 q1 q3 (nI u.length) K n (nI i + 1) σL7) (fun KL7_147 => F_M_layPlain_114 q1 q3 (nI u.length) (nI i) KL7_147 50000 v5_3 σ6))))) ha hv (by omega) (by omega) hu R.length 0 50000 (-1) (by omega) (by omega) (Or.inl ⟨rfl, fun j hj => absurd hj (Nat.not_lt_zero _)⟩)
    rcases hB with ⟨-, hno⟩ | ⟨b, rfl, hbk, hbf, hbm⟩
    · rw [hno j0 hj0] at hfj0
      cases hfj0
    · have eb : R.getD b 0 = u.getD i 0 := by
        have h1 := hbm j0 hj0 hfj0
        have h2 := hp.1 _ (fst_eqv he.symm (fpl_fst hbk hbf))
        omega
      have hne : q3 ≠ 78 := hq
      have hsp := split_at hbk
      have her : R.eraseIdx b = R.take b ++ R.drop (b + 1) := List.eraseIdx_eq_take_drop_succ ..
      have he2 : eqv (u.drop (i + 1)) (R.eraseIdx b) := by
        rw [her]
        refine eqv_tail (a := u.getD i 0) ?_ fun z hz => ?_
        · rw [← eb, ← hsp, eb]
          exact he
        · rw [← eb]
          exact List.all_eq_true.mp hbf z hz
      obtain ⟨σ2, e2, a2, f2⟩ := shift_loop (q1 := q1) (q3 := q3) (N := u.length) (i := i) hbk (by omega) hu (K := fun (v6_7 : Int32) (σL7 : GS) => F_M_layPlain_29 q1 q3 (nI u.length) K n (nI i + 1) σL7) (R.length - 1 - b) b 50000 (s1 σ q3 i (nI (u.getD i 0))) (by omega) (Nat.le_refl _) (fun j hj => by rw [s1_c (Ne.symm hne), ha j hj, if_neg (by omega)]) (by omega)
      have hv2 : wv (R.eraseIdx b) := fun x hx => hv x (List.mem_of_mem_eraseIdx hx)
      obtain ⟨σ3, e3, a3, f3⟩ := ih (i + 1) n (R.eraseIdx b) σ2 (by omega) (by rw [List.length_eraseIdx_of_lt hbk]; omega) hp.2 he2 hv2 a2 (fun j hj => by
        rw [f2.1 q3 (by simp [hne])]
        by_cases e : j = i
        · subst e; rw [s1_at]
        · rw [s1_i e, ht j (by omega)]) (by omega)
      refine ⟨σ3, ?_, a3, Fr.trans (Fr.s1 (by simp)) (Fr.trans (f2.mono (by simp)) f3)⟩
      rw [F_M_layPlain_29.eq_2, if_neg (by rw [nI_leI (by omega) (by omega)]; omega), jn_s]
      have e1 : F_M_layPlain_41 q1 q3 (nI u.length) (nI i) σ _ 50000 (-1) 0 = _ := e1
      rw [e1, gi (by omega) (by decide), gi (by omega) (by decide), c31 (by omega), c31 (by omega), ha b hbk, eb, jn_s, jn_s, e2, nI_1]
      exact e3
theorem lcopy_loop {q1 q3 : Nat} {l : List Nat} (hq : q1 ≠ 78) (hl : l.length ≤ 64) {K : Int32 → GS → Option GS} : ∀ (d i n : Nat) (σ : GS), i + d = l.length → arr (σ.1 q1) l → (∀ j, j < i → σ.1 78 j = nI (l.getD j 0)) → d < n → ∃ σ', F_M_layPlain_3 q1 q3 (nI l.length) K n (nI i) σ = K (nI l.length) σ' ∧ arr (σ'.1 78) l ∧ Fr [78] σ σ' := by
  intro d
  induction d with
  | zero =>
    intro i n σ hi ha h2 hn
    obtain ⟨n, rfl⟩ : ∃ k, n = k + 1 := ⟨n - 1, by omega⟩
    have e : i = l.length := by omega
    subst e
    exact ⟨σ, by rw [F_M_layPlain_3.eq_2, if_pos (nI_le (Nat.le_refl _) (by omega))], h2, Fr.refl _ _⟩
  | succ d ih =>
    intro i n σ hi ha h2 hn
    obtain ⟨n, rfl⟩ : ∃ k, n = k + 1 := ⟨n - 1, by omega⟩
    obtain ⟨σ', e, a, f⟩ := ih (i + 1) n (s1 σ 78 i (nI (l.getD i 0))) (by omega) (by rw [s1_c hq]; exact ha) (fun j hj => by
      by_cases e : j = i
      · subst e; rw [s1_at]
      · rw [s1_i e, h2 j (by omega)]) (by omega)
    refine ⟨σ', ?_, a, Fr.trans (Fr.s1 (by simp)) f⟩
    rw [F_M_layPlain_3.eq_2, if_neg (by rw [nI_leI (by omega) (by omega)]; omega), gi (by omega) (by decide), gi (by omega) (by decide), c31 (by omega), ha i (by omega), jn_e, nI_1]
    exact e
/-- laying plain: of a word of the plain one's kind comes the plain one -/
theorem layPlain_spec {q1 q3 : Nat} {u l : List Nat} {σ : GS} (hq1 : q1 ≠ 78) (hq3 : q3 ≠ 78) (hu : Plain u) (hvu : wv u) (he : eqv u l) (hv : wv l) (hl : l.length ≤ 64) (ha : arr (σ.1 q1) l) : ∃ σ', F_M_layPlain q1 q3 (nI l.length) σ = some σ' ∧ arr (σ'.1 q3) u ∧ Fr [78, q3] σ σ' := by
  have elen := len_eqv hvu hv he
  obtain ⟨σ1, e1, a1, f1⟩ := lcopy_loop (q1 := q1) (q3 := q3) hq1 hl (K := fun (v4_1 : Int32) (σL1 : GS) => F_M_layPlain_29 q1 q3 (nI l.length) (fun (v4_2 : Int32) (σL2 : GS) => some σL2) 50000 0 σL1) l.length 0 50000 σ (by omega) ha (fun j hj => absurd hj (Nat.not_lt_zero _)) (by omega)
  obtain ⟨σ2, e2, a2, f2⟩ := lay_loop (q1 := q1) (q3 := q3) (u := u) hq3 (by omega) (K := fun (v4_2 : Int32) (σL2 : GS) => some σL2) (n0 := 100) (by omega) u.length 0 50000 l σ1 (by omega) elen.symm hu he hv a1 (fun j hj => absurd hj (Nat.not_lt_zero _)) (by omega)
  refine ⟨σ2, ?_, a2, (f1.mono (by simp)).trans f2⟩
  unfold F_M_layPlain
  simp only [jn_s]
  have e1 : F_M_layPlain_3 q1 q3 (nI l.length) _ 50000 0 σ = _ := e1
  rw [e1, ← elen]
  exact e2
theorem mcode_loop {q1 : Nat} {u : List Nat} {σ : GS} {K : Int32 → Int32 → Option (Int32 × GS)} (ha : arr (σ.1 79) u) (hl : u.length ≤ 64) : ∀ (d i n : Nat), i + d = u.length → d < n → F_M_codeOf_15 q1 (nI u.length) σ K n (nI (cdv (u.take i))) (nI i) = K (nI (cdv u)) (nI u.length) := by
  intro d
  induction d with
  | zero =>
    intro i n hi hn
    obtain ⟨n, rfl⟩ : ∃ k, n = k + 1 := ⟨n - 1, by omega⟩
    have e : i = u.length := by omega
    subst e
    rw [F_M_codeOf_15.eq_2, if_pos (nI_le (Nat.le_refl _) (by omega)), List.take_length]
  | succ d ih =>
    intro i n hi hn
    obtain ⟨n, rfl⟩ : ∃ k, n = k + 1 := ⟨n - 1, by omega⟩
    rw [F_M_codeOf_15.eq_2, if_neg (by rw [nI_leI (by omega) (by omega)]; omega), gi (by omega) (by decide), c31 (by omega), ha i (by omega), show (10 : Int32) = nI 10 from rfl, pk_mul, Nat.mul_comm 10, nI_add, nI_1, nI_1, ← cdv_snoc, ← take_snoc (by omega)]
    exact ih (i + 1) n (by omega) (by omega)
theorem codeOf_spec {q1 : Nat} {u l : List Nat} {σ : GS} (hq1 : q1 ≠ 78) (hu : Plain u) (hvu : wv u) (he : eqv u l) (hv : wv l) (hl : l.length ≤ 64) (ha : arr (σ.1 q1) l) : ∃ σ', F_M_codeOf q1 (nI l.length) σ = some (nI (cdv u), σ') ∧ Fr [78, 79] σ σ' := by
  have elen := len_eqv hvu hv he
  obtain ⟨σ1, e1, a1, f1⟩ := layPlain_spec (q1 := q1) (q3 := 79) hq1 (by decide) hu hvu he hv hl ha
  refine ⟨σ1, ?_, f1⟩
  unfold F_M_codeOf
  rw [bv_s e1, jn_s, ← elen]
  exact mcode_loop (q1 := q1) (K := fun (v3_3 : Int32) (v4_3 : Int32) => some (v3_3, σ1)) a1 (by omega) u.length 0 50000 (by omega) (by omega)
/-- the plain code of a code, told by both alike -/
theorem plainOfM_spec {m : Nat} {σ : GS} (hc : isC m = true) : ∃ σ', F_M_plainOf (nI m) σ = some (nI (cdv (nf (wd m))), σ') ∧ Fr [75, 78, 79] σ σ' := by
  obtain ⟨σ1, e1, a1, v1, f1⟩ := follow0 (q := 75) (σ := σ) hc
  have hv := wd_wv hc
  have h9 := wd_le hc
  have hl := len_rd hv
  have hl2 := len_nf_le (wd m)
  obtain ⟨σ2, e2, f2⟩ := codeOf_spec (q1 := 75) (u := nf (wd m)) (by decide) (good_nf _).1 (wv_nf hv) (eqv_rd _) v1 (by omega) a1
  refine ⟨σ2, ?_, (f1.mono (by simp)).trans (f2.mono (by simp))⟩
  unfold F_M_plainOf
  rw [bc_s e1, bc_s e2]
theorem plainOfX_spec {m : Nat} {σ : GS} (hc : isC m = true) : ∃ σ', F_X_plainOf (nI m) σ = some (nI (cdv (nf (wd m))), σ') ∧ Rep σ' 32 (nf (wd m)) ∧ Fr [32, 33] σ σ' := by
  obtain ⟨σ1, e1, r1, f1⟩ := becomes_spec (w := 32) (σ := σ) hc
  have h9 := wd_le hc
  have hl2 := len_nf_le (wd m)
  refine ⟨σ1, ?_, r1, f1⟩
  unfold F_X_plainOf
  rw [bv_s e1, bp_s (code_spec r1), if_pos (by omega)]
theorem gapX_spec {a b : Nat} {σ : GS} (ha : isC a = true) (hb : isC b = true) : ∃ σ', F_X_gap (nI a) (nI b) σ = some (nI (nf (dg a ++ wd b)).length, σ') ∧ Rep σ' 32 (nf (dg a ++ wd b)) ∧ Fr [32, 33] σ σ' := by
  obtain ⟨σ1, e1, r1, f1⟩ := way_spec (w := 32) (σ := σ) ha hb
  refine ⟨σ1, ?_, r1, f1⟩
  unfold F_X_gap
  rw [bv_s e1, r1.1]
