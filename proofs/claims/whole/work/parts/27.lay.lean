theorem munit_loop {q m : Nat} {x1 : Int32} {σ : GS} {K : Int32 → Int32 → Option (Int32 × GS)} (hc : isC m = true) (h0 : m ≠ 0) : ∀ (d j n : Nat), j + 1 + d = (dg m).length → d < n → F_M_follow_5 q x1 (nI m) σ K n (nI (10 ^ j)) (nI (j + 1)) = K (nI (10 ^ ((dg m).length - 1))) (nI (dg m).length) := by
  have h9 := dg_le hc
  intro d
  induction d with
  | zero =>
    intro j n hj hn
    obtain ⟨n, rfl⟩ : ∃ k, n = k + 1 := ⟨n - 1, by omega⟩
    have ej : (dg m).length - 1 = j := by omega
    have ej2 : (dg m).length = j + 1 := by omega
    rw [F_M_follow_5.eq_2, bp_s (figures_spec hc), if_pos (nI_le (by omega) (by omega)), ej, ej2]
  | succ d ih =>
    intro j n hj hn
    obtain ⟨n, rfl⟩ : ∃ k, n = k + 1 := ⟨n - 1, by omega⟩
    rw [F_M_follow_5.eq_2, bp_s (figures_spec hc), if_neg (by rw [nI_leI (by omega) (by omega)]; omega), nI_1, show nI (10 ^ j) * 10 = nI (10 ^ (j + 1)) by rw [show (10 : Int32) = nI 10 from rfl, pk_mul, Nat.pow_succ]]
    exact ih (j + 1) n (by omega) (by omega)
theorem dig_ge {m : Nat} (hc : isC m = true) : ∀ j, j < (dg m).length → 1 ≤ m / 10 ^ j % 10 := by
  have : ∀ (f n j : Nat), cF f n = true → j < (dgF f n).length → 1 ≤ n / 10 ^ j % 10 := by
    intro f
    induction f with
    | zero => intro n j _ h; exact absurd h (Nat.not_lt_zero _)
    | succ f ih =>
      intro n j hcf hj
      by_cases hn : n = 0
      · rw [hn, dgF_0] at hj; exact absurd hj (Nat.not_lt_zero _)
      · obtain ⟨a, b, c⟩ := cF_s hn hcf
        cases j with
        | zero => simpa using a
        | succ j =>
          rw [dgF_s hn, List.length_cons] at hj
          have := ih (n / 10) j c (by omega)
          rw [Nat.div_div_eq_div_mul] at this
          rw [Nat.pow_succ, Nat.mul_comm]
          exact this
  exact fun j hj => this 10 m j (Bool.and_eq_true_iff.mp hc).2 hj
theorem malong_loop {q m : Nat} {K : Int32 → Int32 → GS → Option (Int32 × GS)} (hc : isC m = true) (h0 : m ≠ 0) : ∀ (j n : Nat) (l : List Nat) (σ : GS), j < (dg m).length → j + 1 < n → l.length + j + 1 < 64 → arr (σ.1 q) l → wv l → ∃ σ', F_M_follow_31 q (nI m) K n (nI (10 ^ j)) (nI l.length) σ = K (nI 0) (nI (fm l ((dg m).take (j + 1)).reverse).length) σ' ∧ arr (σ'.1 q) (fm l ((dg m).take (j + 1)).reverse) ∧ wv (fm l ((dg m).take (j + 1)).reverse) ∧ Fr [q] σ σ' := by
  have hm := isC_le hc
  have h9 := dg_le hc
  have hv0 := dg_wv hc
  have hdig := dig_ge hc
  intro j
  induction j with
  | zero =>
    intro n l σ hj hn hl ha hv
    obtain ⟨n, rfl⟩ : ∃ k, n = k + 2 := ⟨n - 2, by omega⟩
    have hx : (dg m).getD 0 0 = m / 10 ^ 0 % 10 - 1 := dgF_get 0 hj
    have hd := hdig 0 hj
    have h5 : m / 10 ^ 0 % 10 - 1 < 5 := by rw [← hx]; exact getD_lt hv0 hj
    obtain ⟨σ1, e1, r1, f1⟩ := times_spec (s := m / 10 ^ 0 % 10 - 1) ha hv (by omega) h5
    have ht : (dg m).take 1 = [m / 10 ^ 0 % 10 - 1] := by
      rw [← hx]
      cases hq : dg m with
      | nil => rw [hq] at hj; exact absurd hj (Nat.not_lt_zero _)
      | cons a b => rfl
    refine ⟨σ1, ?_, by rw [ht]; exact r1, by rw [ht]; exact wv_tm hv h5, f1⟩
    rw [F_M_follow_31.eq_2, if_neg (nI_nle (by omega) (by omega)), if_neg (nI_nle (by decide) (by decide)), gz (by decide) (by decide), pk_div (a := m) (d := 10 ^ 0) (by omega) (by decide) (by decide), rem10 (by simp; omega), sub1 hd, bc_s e1, F_M_follow_31.eq_2, if_neg (nI_nle (by omega) (by omega)), if_pos (by decide), ht]
    rfl
  | succ j ih =>
    intro n l σ hj hn hl ha hv
    obtain ⟨n, rfl⟩ : ∃ k, n = k + 1 := ⟨n - 1, by omega⟩
    have hx : (dg m).getD (j + 1) 0 = m / 10 ^ (j + 1) % 10 - 1 := dgF_get (j + 1) hj
    have hd := hdig (j + 1) hj
    have hp := pow9 (j := j + 1) (by omega)
    have hp0 : 0 < 10 ^ (j + 1) := Nat.pow_pos (by decide)
    have hdl : m / 10 ^ (j + 1) ≤ m := Nat.div_le_self _ _
    have h5 : m / 10 ^ (j + 1) % 10 - 1 < 5 := by rw [← hx]; exact getD_lt hv0 hj
    obtain ⟨σ1, e1, r1, f1⟩ := times_spec (s := m / 10 ^ (j + 1) % 10 - 1) ha hv (by omega) h5
    have hlen := len_tm_le l (m / 10 ^ (j + 1) % 10 - 1)
    obtain ⟨σ2, e2, r2, v2, f2⟩ := ih n (tm l (m / 10 ^ (j + 1) % 10 - 1)) σ1 (by omega) (by omega) (by omega) r1 (wv_tm hv h5)
    have ht : (dg m).take (j + 1 + 1) = (dg m).take (j + 1) ++ [m / 10 ^ (j + 1) % 10 - 1] := by
      rw [take_snoc hj, hx]
    refine ⟨σ2, ?_, by rw [ht, List.reverse_append]; exact r2, by rw [ht, List.reverse_append]; exact v2, f1.trans f2⟩
    rw [F_M_follow_31.eq_2, if_neg (nI_nle (by omega) (by omega)), if_neg (nI_nle hp0 (by omega)), gz hp0 (by omega), pk_div (a := m) (d := 10 ^ (j + 1)) (by omega) hp0 (by omega), rem10 (by omega), sub1 hd, bc_s e1, div10 (by omega), show 10 ^ (j + 1) / 10 = 10 ^ j by rw [Nat.pow_succ, Nat.mul_div_cancel _ (by decide)], ht, List.reverse_append]
    exact e2
theorem follow_n {q m : Nat} {l : List Nat} {σ : GS} (ha : arr (σ.1 q) l) (hv : wv l) (hc : isC m = true) (hl : l.length ≤ 40) {n : Nat} (hn : 20 ≤ n) : ∃ σ', F_M_follow_5 q (nI l.length) (nI m) σ (fun (v3_1 : Int32) (v4_1 : Int32) => F_M_follow_31 q (nI m) (fun (v3_2 : Int32) (v4_2 : Int32) (σL2 : GS) => some (v4_2, σL2)) n v3_1 (nI l.length) σ) n 1 1 = some (nI (fm l (wd m)).length, σ') ∧ arr (σ'.1 q) (fm l (wd m)) ∧ wv (fm l (wd m)) ∧ Fr [q] σ σ' := by
  by_cases h0 : m = 0
  · subst h0
    refine ⟨σ, ?_, ha, hv, Fr.refl _ _⟩
    obtain ⟨k, rfl⟩ : ∃ k, n = k + 1 := ⟨n - 1, by omega⟩
    rw [F_M_follow_5.eq_2, bp_s (figures_spec hc), if_pos (by decide), F_M_follow_31.eq_2, if_pos (by decide)]
    rfl
  · have h9 := dg_le hc
    have ha0 : (dg m).length ≠ 0 := (dgF_len (Bool.and_eq_true_iff.mp hc).2 h0).1
    obtain ⟨σ', e, r, v, f⟩ := malong_loop (q := q) (K := fun (v3_2 : Int32) (v4_2 : Int32) (σL2 : GS) => some (v4_2, σL2)) hc h0 ((dg m).length - 1) n l σ (by omega) (by omega) (by omega) ha hv
    rw [show (dg m).length - 1 + 1 = (dg m).length by omega, List.take_length] at e r v
    refine ⟨σ', ?_, r, v, f⟩
    have h1 := munit_loop (q := q) (x1 := nI l.length) (σ := σ) (K := fun (v3_1 : Int32) (v4_1 : Int32) => F_M_follow_31 q (nI m) (fun (v3_2 : Int32) (v4_2 : Int32) (σL2 : GS) => some (v4_2, σL2)) n v3_1 (nI l.length) σ) hc h0 ((dg m).length - 1) 0 n (by omega) (by omega)
    exact h1.trans e
theorem follow_spec {q m : Nat} {l : List Nat} {σ : GS} (ha : arr (σ.1 q) l) (hv : wv l) (hc : isC m = true) (hl : l.length ≤ 40) : ∃ σ', F_M_follow q (nI l.length) (nI m) σ = some (nI (fm l (wd m)).length, σ') ∧ arr (σ'.1 q) (fm l (wd m)) ∧ wv (fm l (wd m)) ∧ Fr [q] σ σ' := by
  unfold F_M_follow
  simp only [jn_s]
  exact follow_n ha hv hc hl (by omega)
theorem len_fm_le (X u : List Nat) : (fm X u).length ≤ X.length + u.length := by
  induction u generalizing X with
  | nil => exact Nat.le_refl _
  | cons s u ih =>
    have := ih (tm X s)
    have := len_tm_le X s
    rw [fm_cons, List.length_cons]
    omega
theorem arr_nil (f : Nat → Int32) : arr f [] := fun i h => absurd h (Nat.not_lt_zero _)
theorem follow0 {q m : Nat} {σ : GS} (hc : isC m = true) : ∃ σ', F_M_follow q 0 (nI m) σ = some (nI (rd (wd m)).length, σ') ∧ arr (σ'.1 q) (rd (wd m)) ∧ wv (rd (wd m)) ∧ Fr [q] σ σ' :=
  follow_spec (q := q) (l := []) (arr_nil _) wv_nil hc (Nat.zero_le _)
theorem wordFrom_spec {q a b : Nat} {σ : GS} (ha : isC a = true) (hb : isC b = true) : ∃ σ', F_M_wordFrom q (nI a) (nI b) σ = some (nI (rd (dg a ++ wd b)).length, σ') ∧ arr (σ'.1 q) (rd (dg a ++ wd b)) ∧ wv (rd (dg a ++ wd b)) ∧ Fr [q] σ σ' := by
  obtain ⟨σ1, e1, r1, v1, f1⟩ := followBack_spec (q := q) (l := []) (σ := σ) (arr_nil _) wv_nil ha (Nat.zero_le _)
  have h1 := len_fm_le [] (dg a)
  have h2 := dg_le ha
  rw [List.length_nil] at h1
  obtain ⟨σ2, e2, r2, v2, f2⟩ := follow_spec (q := q) r1 v1 hb (by omega)
  have e : fm (fm [] (dg a)) (wd b) = rd (dg a ++ wd b) := (fm_app [] (dg a) (wd b)).symm
  rw [e] at e2 r2 v2
  refine ⟨σ2, ?_, r2, v2, f1.trans f2⟩
  unfold F_M_wordFrom
  have e1 : F_M_followBack q 0 (nI a) σ = some (nI (fm [] (dg a)).length, σ1) := e1
  rw [bc_s e1, bc_s e2]
theorem farOf_spec {a b : Nat} {σ : GS} (ha : isC a = true) (hb : isC b = true) : ∃ σ', F_M_farOf (nI a) (nI b) σ = some (nI (rd (dg a ++ wd b)).length, σ') ∧ arr (σ'.1 75) (rd (dg a ++ wd b)) ∧ wv (rd (dg a ++ wd b)) ∧ Fr [75] σ σ' := by
  obtain ⟨σ', e, r⟩ := wordFrom_spec (q := 75) (σ := σ) ha hb
  refine ⟨σ', ?_, r⟩
  unfold F_M_farOf
  rw [bc_s e]
theorem lengthOf_spec {m : Nat} {σ : GS} (hc : isC m = true) : ∃ σ', F_M_lengthOf (nI m) σ = some (nI (rd (wd m)).length, σ') ∧ Fr [75] σ σ' := by
  obtain ⟨σ', e, -, -, f⟩ := follow0 (q := 75) (σ := σ) hc
  refine ⟨σ', ?_, f⟩
  unfold F_M_lengthOf
  rw [bc_s e]
-- the first places
def fpl (l : List Nat) (k : Nat) : Bool := (l.take k).all (fun x => nb x (l.getD k 0))
theorem first_loop {q k : Nat} {σ : GS} {l : List Nat} {K : Int32 → Int32 → Option Int32} (ha : arr (σ.1 q) l) (hv : wv l) (hl : l.length ≤ 64) (hk : k < l.length) : ∀ (d i n : Nat), i + d = k → d < n → F_M_isFirst_4 q (nI k) σ K n (if (l.take i).all (fun x => nb x (l.getD k 0)) = true then 1 else 0) (nI i) = K (if fpl l k = true then 1 else 0) (nI k) := by
  intro d
  induction d with
  | zero =>
    intro i n hi hn
    obtain ⟨n, rfl⟩ : ∃ k, n = k + 1 := ⟨n - 1, by omega⟩
    have e : i = k := by omega
    subst e
    rw [F_M_isFirst_4.eq_2, if_pos (nI_le (Nat.le_refl _) (by omega))]
    rfl
  | succ d ih =>
    intro i n hi hn
    obtain ⟨n, rfl⟩ : ∃ k, n = k + 1 := ⟨n - 1, by omega⟩
    have ihn := ih (i + 1) n (by omega) (by omega)
    rw [take_snoc (by omega), List.all_append] at ihn
    rw [F_M_isFirst_4.eq_2, if_neg (by rw [nI_leI (by omega) (by omega)]; omega), nI_1]
    by_cases h : (l.take i).all (fun x => nb x (l.getD k 0)) = true
    · rw [h, Bool.true_and, List.all_cons, List.all_nil, Bool.and_true] at ihn
      rw [if_pos h, if_neg (by decide), gi (by omega) (by decide), gi (by omega) (by decide), c31 (by omega), c31 (by omega), ha i (by omega), ha k hk, bp_s (nbM _ (getD_lt hv (by omega)) _ (getD_lt hv hk))]
      by_cases z : nb (l.getD i 0) (l.getD k 0) = true
      · rw [if_pos z] at ihn
        rw [if_pos z, if_neg (by decide)]
        exact ihn
      · rw [if_neg z] at ihn
        rw [if_neg z, if_pos rfl]
        exact ihn
    · rw [Bool.eq_false_iff.mpr h, Bool.false_and, if_neg (by decide)] at ihn
      rw [if_neg h, if_pos rfl]
      exact ihn
theorem isFirst_spec {q k : Nat} {σ : GS} {l : List Nat} (ha : arr (σ.1 q) l) (hv : wv l) (hl : l.length ≤ 64) (hk : k < l.length) : F_M_isFirst q (nI k) σ = some (if fpl l k = true then 1 else 0) := by
  unfold F_M_isFirst
  rw [jn_s]
  have h := first_loop (q := q) (K := fun (v2_1 : Int32) (v3_1 : Int32) => gd (bB v2_1) (some v2_1)) ha hv hl hk k 0 50000 (by omega) (by omega)
  have h : F_M_isFirst_4 q (nI k) σ (fun (v2_1 : Int32) (v3_1 : Int32) => gd (bB v2_1) (some v2_1)) 50000 1 0 = gd (bB (if fpl l k = true then 1 else 0)) (some (if fpl l k = true then 1 else 0)) := h
  rw [h]
  by_cases z : fpl l k = true
  · rw [if_pos z]; rfl
  · rw [if_neg z]; rfl
/-- what the search of the first least street has found by place k -/
def Best (R : List Nat) (k : Nat) (best : Int32) : Prop := (best = -1 ∧ ∀ j, j < k → fpl R j = false) ∨ ∃ b, best = nI b ∧ b < k ∧ fpl R b = true ∧ ∀ j, j < k → fpl R j = true → R.getD b 0 ≤ R.getD j 0
theorem best_loop {q1 q3 N i : Nat} {σ : GS} {R : List Nat} {K : Int32 → Int32 → Option GS} (ha : arr (σ.1 78) R) (hv : wv R) (hl : R.length ≤ 64) (hN : N = R.length + i) (hN2 : N ≤ 64) : ∀ (d k n : Nat) (best : Int32), k + d = R.length → d < n → Best R k best → ∃ best', F_M_layPlain_41 q1 q3 (nI N) (nI i) σ K n best (nI k) = K best' (nI R.length) ∧ Best R R.length best' := by
  intro d
  have esub : nI N - nI i = nI R.length := by rw [pk_sub (by omega), show N - i = R.length by omega]
  induction d with
  | zero =>
    intro k n best hk hn hB
    obtain ⟨n, rfl⟩ : ∃ k, n = k + 1 := ⟨n - 1, by omega⟩
    have e : k = R.length := by omega
    subst e
    exact ⟨best, by rw [F_M_layPlain_41.eq_2, esub, if_pos (nI_le (Nat.le_refl _) (by omega))], hB⟩
  | succ d ih =>
    intro k n best hk hn hB
    obtain ⟨n, rfl⟩ : ∃ k, n = k + 1 := ⟨n - 1, by omega⟩
    rw [F_M_layPlain_41.eq_2, esub, if_neg (by rw [nI_leI (by omega) (by omega)]; omega), bp_s (isFirst_spec ha hv hl (by omega)), nI_1]
    by_cases z : fpl R k = true
    · rw [if_pos z, if_neg (by decide), jn_s]
      -- the new one is taken, or the old one stays
      have take : (∀ j, j < k → fpl R j = true → R.getD k 0 ≤ R.getD j 0) → ∃ best', F_M_layPlain_41 q1 q3 (nI N) (nI i) σ K n (nI k) (nI (k + 1)) = K best' (nI R.length) ∧ Best R R.length best' := fun h =>
        ih (k + 1) n (nI k) (by omega) (by omega) (Or.inr ⟨k, rfl, by omega, z, fun j hj hf => by
          by_cases e : j = k
          · subst e; exact Nat.le_refl _
          · exact h j (by omega) hf⟩)
      rcases hB with ⟨rfl, hno⟩ | ⟨b, rfl, hbk, hbf, hbm⟩
      · rw [if_pos (by decide)]
        exact take fun j hj hf => by rw [hno j hj] at hf; cases hf
      · rw [if_neg (nI_pos (by omega)), gi (by omega) (by decide), gi (by omega) (by decide), c31 (by omega), c31 (by omega), ha b (by omega), ha k (by omega)]
        have hb5 := getD_lt hv (i := b) (by omega)
        have hk5 := getD_lt hv (i := k) (by omega)
        by_cases c : R.getD b 0 ≤ R.getD k 0
        · rw [if_pos (nI_le c (by omega))]
          exact ih (k + 1) n (nI b) (by omega) (by omega) (Or.inr ⟨b, rfl, by omega, hbf, fun j hj hf => by
            by_cases e : j = k
            · subst e; exact c
            · exact hbm j (by omega) hf⟩)
        · rw [if_neg (by rw [nI_leI (by omega) (by omega)]; exact c)]
          exact take fun j hj hf => by
            have := hbm j hj hf
            omega
    · rw [if_neg z, if_pos rfl]
      refine ih (k + 1) n best (by omega) (by omega) ?_
      rcases hB with ⟨e, hno⟩ | ⟨b, e, hbk, hbf, hbm⟩
      · exact Or.inl ⟨e, fun j hj => by
          by_cases q : j = k
          · subst q; exact Bool.eq_false_iff.mpr z
          · exact hno j (by omega)⟩
      · exact Or.inr ⟨b, e, by omega, hbf, fun j hj hf => by
          by_cases q : j = k
          · subst q; exact absurd hf z
          · exact hbm j (by omega) hf⟩
theorem fst_fpl {R : List Nat} {s : Nat} (h : fstB R s) : ∃ j, j < R.length ∧ fpl R j = true ∧ R.getD j 0 = s := by
  obtain ⟨a, b, rfl, ha⟩ := h
  have hg : (a ++ s :: b).getD a.length 0 = s := by
    have := getD_r (u := a) (v := s :: b) (i := 0)
    rw [Nat.add_zero] at this
    rw [this]; rfl
  refine ⟨a.length, by simp, ?_, hg⟩
  unfold fpl
  rw [hg, List.take_left' rfl]
  exact List.all_eq_true.mpr ha
theorem split_at {R : List Nat} {j : Nat} (h : j < R.length) : R = R.take j ++ R.getD j 0 :: R.drop (j + 1) := by
  rw [List.getD_eq_getElem?_getD, List.getElem?_eq_getElem h]
  show R = R.take j ++ R[j] :: R.drop (j + 1)
  rw [← List.drop_eq_getElem_cons h, List.take_append_drop]
theorem fpl_fst {R : List Nat} {j : Nat} (h : j < R.length) (hf : fpl R j = true) : fstB R (R.getD j 0) := ⟨R.take j, R.drop (j + 1), split_at h, fun x hx => List.all_eq_true.mp hf x hx⟩
theorem eqv_tail {a : Nat} {u x y : List Nat} (h : eqv (a :: u) (x ++ a :: y)) (hx : ∀ z ∈ x, nb z a = true) : eqv u (x ++ y) := fun s t hst => by
  have h1 := h s t hst
  rw [show a :: u = [a] ++ u from rfl, show x ++ a :: y = x ++ ([a] ++ y) from rfl, pr_app, pr_app, pr_app] at h1
  rw [pr_app]
  by_cases hs : a = s
  · subst hs
    rw [pr_nb hst hx, List.nil_append, pr_one_s] at h1
    rw [pr_nb hst hx, List.nil_append]
    exact List.append_cancel_left h1
  · by_cases ht : a = t
    · subst ht
      have hst2 : nb a s = false := by rw [nb_comm]; exact hst
      rw [pr_comm s a x, pr_nb hst2 hx, List.nil_append, pr_comm s a [a], pr_one_s] at h1
      rw [pr_comm s a x, pr_nb hst2 hx, List.nil_append]
      exact List.append_cancel_left h1
    · rw [pr_one_o hs ht, List.nil_append, List.nil_append] at h1
      exact h1
theorem shift_loop {q1 q3 N i p : Nat} {R : List Nat} (hp : p < R.length) (hN : N = R.length + i) (hN2 : N ≤ 64) {K : Int32 → GS → Option GS} : ∀ (d k n : Nat) (σ : GS), k + 1 + d = R.length → p ≤ k → (∀ j, j < R.length → σ.1 78 j = nI (if p ≤ j ∧ j < k then R.getD (j + 1) 0 else R.getD j 0)) → d < n →
    ∃ σ', F_M_layPlain_114 q1 q3 (nI N) (nI i) K n (nI k) σ = K (nI (R.length - 1)) σ' ∧ arr (σ'.1 78) (R.eraseIdx p) ∧ Fr [78] σ σ' := by
  intro d
  have esub : nI N - nI i - 1 = nI (R.length - 1) := by rw [pk_sub (by omega), show N - i = R.length by omega, sub1 (by omega)]
  induction d with
  | zero =>
    intro k n σ hi hpi h2 hn
    obtain ⟨m, rfl⟩ : ∃ m, n = m + 1 := ⟨n - 1, by omega⟩
    refine ⟨σ, ?_, ?_, Fr.refl _ _⟩
    · rw [F_M_layPlain_114.eq_2, esub, if_pos (nI_le (by omega) (by omega)), show R.length - 1 = k by omega]
    · intro j hj
      rw [List.length_eraseIdx_of_lt hp] at hj
      rw [h2 j (by omega), eraseIdx_getD]
      by_cases q : p ≤ j
      · rw [if_pos ⟨q, by omega⟩, if_neg (by omega)]
      · rw [if_neg (fun z => q z.1), if_pos (by omega)]
  | succ d ih =>
    intro k n σ hi hpi h2 hn
    obtain ⟨m, rfl⟩ : ∃ m, n = m + 1 := ⟨n - 1, by omega⟩
    obtain ⟨σ', e, a2, a3⟩ := ih (k + 1) m (s1 σ 78 k (nI (R.getD (k + 1) 0))) (by omega) (by omega) (fun j hj => by
      by_cases e : j = k
      · subst e
        rw [s1_at, if_pos ⟨hpi, by omega⟩]
      · rw [s1_i e, h2 j hj]
        by_cases q : p ≤ j ∧ j < k
        · rw [if_pos q, if_pos ⟨q.1, by omega⟩]
        · rw [if_neg q, if_neg (fun z => q ⟨z.1, by omega⟩)]) (by omega)
    refine ⟨σ', ?_, a2, Fr.trans (Fr.s1 (by simp)) a3⟩
    rw [F_M_layPlain_114.eq_2, esub, nI_1, if_neg (by rw [nI_leI (by omega) (by omega)]; omega), gi (by omega) (by decide), gi (by omega) (by decide), c31 (by omega), c31 (by omega), h2 (k + 1) (by omega), if_neg (fun z => by omega), jn_e]
    exact e
