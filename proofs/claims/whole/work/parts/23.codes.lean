/-! codes: figures of a number, words of a code -/
def dgF : Nat → Nat → List Nat
  | 0, _ => []
  | f + 1, n => if n = 0 then [] else (n % 10 - 1) :: dgF f (n / 10)
def dg (n : Nat) : List Nat := dgF 10 n
def cF : Nat → Nat → Bool
  | 0, n => decide (n = 0)
  | f + 1, n => decide (n = 0) || (decide (1 ≤ n % 10 ∧ n % 10 ≤ 5) && cF f (n / 10))
def isC (n : Nat) : Bool := decide (n ≤ 555555555) && cF 10 n
theorem cF_s {f n : Nat} (h0 : n ≠ 0) (h : cF (f + 1) n = true) : 1 ≤ n % 10 ∧ n % 10 ≤ 5 ∧ cF f (n / 10) = true := by
  unfold cF at h
  simp only [h0, decide_false, Bool.false_or, Bool.and_eq_true, decide_eq_true_eq] at h
  exact ⟨h.1.1, h.1.2, h.2⟩
theorem dgF_s {f n : Nat} (h0 : n ≠ 0) : dgF (f + 1) n = (n % 10 - 1) :: dgF f (n / 10) := by
  show (if n = 0 then [] else (n % 10 - 1) :: dgF f (n / 10)) = _
  rw [if_neg h0]
theorem dgF_0 (f : Nat) : dgF f 0 = [] := by cases f <;> rfl
theorem dgF_wv : ∀ {f n : Nat}, cF f n = true → wv (dgF f n)
  | 0, _, _ => wv_nil
  | f + 1, n, h => by
    by_cases h0 : n = 0
    · rw [h0, dgF_0]; exact wv_nil
    · obtain ⟨h1, h2, h3⟩ := cF_s h0 h
      rw [dgF_s h0]
      intro x hx
      rcases List.mem_cons.mp hx with q | q
      · omega
      · exact dgF_wv h3 x q
/-- not a rfl row: under binders the kernel must not compare by unfolding the fuel -/
theorem jn_s {α β : Type} (k : α) (f : α → β) : jn k f = f k := Eq.trans (jn_e k f) (Eq.refl (f k))
theorem gz {α : Type} {n : Nat} {x : Option α} (h0 : 0 < n) (h : n < 2 ^ 31) : gd (zB (nI n)) x = x := gd_t (decide_eq_true (nI_ne0 h0 h))
theorem rem10 {m : Nat} (h : m < 2 ^ 31) : nI m - nI m / 10 * 10 = nI (m % 10) := pk_rem (d := 10) h (by decide) (by decide)
theorem div10 {m : Nat} (h : m < 2 ^ 31) : nI m / 10 = nI (m / 10) := pk_div (d := 10) h (by decide) (by decide)
theorem sub1 {m : Nat} (h : 1 ≤ m) : nI m - 1 = nI (m - 1) := pk_sub (a := m) (b := 1) h
theorem Rep.len {σ : GS} {k : Nat} {w : List Nat} (h : Rep σ k w) : w.length ≤ 64 := h.2.2.1
theorem Fr.keep {S : List Nat} {a b : GS} (h : Fr S a b) {k : Nat} (hk : k ∉ S) : b.1 k = a.1 k := h.1 k hk
/-- back along a code -/
theorem back_loop {w : Nat} {K : Int32 → GS → Option GS} : ∀ (f m n : Nat) (l : List Nat) (σ : GS), cF f m = true → m < 2 ^ 31 → f < n → l.length + f < 64 → Rep σ w l → ∃ σ', F_Wd_goBackAlong_2 w K n (nI m) σ = K (nI 0) σ' ∧ Rep σ' w (fo l (dgF f m)) ∧ Fr [w, w + 1] σ σ' := by
  intro f
  induction f with
  | zero =>
    intro m n l σ hc hm hn hl hR
    obtain ⟨n, rfl⟩ : ∃ k, n = k + 1 := ⟨n - 1, by omega⟩
    have e : m = 0 := of_decide_eq_true hc
    subst e
    exact ⟨σ, by rw [F_Wd_goBackAlong_2.eq_2, if_pos (by decide)], hR, Fr.refl _ _⟩
  | succ f ih =>
    intro m n l σ hc hm hn hl hR
    obtain ⟨n, rfl⟩ : ∃ k, n = k + 1 := ⟨n - 1, by omega⟩
    by_cases h0 : m = 0
    · subst h0
      exact ⟨σ, by rw [F_Wd_goBackAlong_2.eq_2, if_pos (by decide)], hR, Fr.refl _ _⟩
    · obtain ⟨h1, h2, h3⟩ := cF_s h0 hc
      obtain ⟨σ1, e1, r1, f1⟩ := go_spec hR (s := m % 10 - 1) (by omega) (by omega)
      have hlen := len_go_le l (m % 10 - 1)
      obtain ⟨σ2, e2, r2, f2⟩ := ih (m / 10) n (go l (m % 10 - 1)) σ1 h3 (by omega) (by omega) (by omega) r1
      refine ⟨σ2, ?_, by rw [dgF_s h0]; exact r2, f1.trans f2⟩
      rw [F_Wd_goBackAlong_2.eq_2, if_neg (nI_nle (by omega) hm), rem10 hm, sub1 h1, bv_s e1, div10 hm]
      exact e2
theorem goBack_spec {w m : Nat} {l : List Nat} {σ : GS} (hR : Rep σ w l) (hc : isC m = true) (hl : l.length ≤ 30) : ∃ σ', F_Wd_goBackAlong w (nI m) σ = some σ' ∧ Rep σ' w (fo l (dg m)) ∧ Fr [w, w + 1] σ σ' := by
  have hc2 := Bool.and_eq_true_iff.mp hc
  have hm := of_decide_eq_true hc2.1
  unfold F_Wd_goBackAlong
  rw [jn_e]
  obtain ⟨σ', e, r, f⟩ := back_loop (w := w) (K := fun (v2_1 : Int32) (σL1 : GS) => some σL1) 10 m 50000 l σ hc2.2 (by omega) (by omega) (by omega) hR
  exact ⟨σ', e, r, f⟩
-- along a code: the first figure first
theorem dgF_get : ∀ {f n : Nat} (j : Nat), j < (dgF f n).length → (dgF f n).getD j 0 = n / 10 ^ j % 10 - 1
  | 0, n, j, h => absurd h (Nat.not_lt_zero _)
  | f + 1, n, j, h => by
    by_cases h0 : n = 0
    · rw [h0, dgF_0] at h
      exact absurd h (Nat.not_lt_zero _)
    · rw [dgF_s h0] at h ⊢
      cases j with
      | zero => simp
      | succ j =>
        rw [List.length_cons] at h
        rw [List.getD_cons_succ, dgF_get j (by omega), Nat.div_div_eq_div_mul, Nat.pow_succ, Nat.mul_comm 10]
theorem dgF_len : ∀ {f n : Nat}, cF f n = true → n ≠ 0 → (dgF f n).length ≠ 0 ∧ 10 ^ ((dgF f n).length - 1) ≤ n ∧ n < 10 ^ (dgF f n).length
  | 0, n, h, h0 => absurd (of_decide_eq_true h) h0
  | f + 1, n, h, h0 => by
    obtain ⟨h1, h2, h3⟩ := cF_s h0 h
    rw [dgF_s h0, List.length_cons, Nat.add_sub_cancel]
    by_cases hq : n / 10 = 0
    · rw [hq, dgF_0]
      refine ⟨by simp, ?_, ?_⟩
      · simp; omega
      · simp; omega
    · obtain ⟨a, b, c⟩ := dgF_len h3 hq
      obtain ⟨k, hk⟩ : ∃ k, (dgF f (n / 10)).length = k + 1 := ⟨(dgF f (n / 10)).length - 1, by omega⟩
      rw [hk] at b c ⊢
      rw [Nat.add_sub_cancel] at b
      refine ⟨by omega, ?_, ?_⟩
      · rw [Nat.pow_succ]; omega
      · rw [Nat.pow_succ]; omega
theorem dgF_le : ∀ (f n : Nat), (dgF f n).length ≤ f
  | 0, _ => Nat.le_refl _
  | f + 1, n => by
    by_cases h0 : n = 0
    · rw [h0, dgF_0]; exact Nat.zero_le _
    · rw [dgF_s h0, List.length_cons]
      have := dgF_le f (n / 10)
      omega
theorem isC_le {m : Nat} (h : isC m = true) : m ≤ 555555555 := of_decide_eq_true (Bool.and_eq_true_iff.mp h).1
theorem dg_le {m : Nat} (h : isC m = true) : (dg m).length ≤ 9 := by
  by_cases h0 : m = 0
  · rw [h0]; decide
  · obtain ⟨a, b, c⟩ := dgF_len (Bool.and_eq_true_iff.mp h).2 h0
    have hm := isC_le h
    have : (dgF 10 m).length < 10 := by
      refine Nat.lt_of_not_le fun q => ?_
      have h2 : 10 ^ 9 ≤ 10 ^ ((dgF 10 m).length - 1) := Nat.pow_le_pow_right (by decide) (by omega)
      omega
    unfold dg
    omega
theorem dg_wv {m : Nat} (h : isC m = true) : wv (dg m) := dgF_wv (Bool.and_eq_true_iff.mp h).2
def wd (m : Nat) : List Nat := (dg m).reverse
theorem wd_wv {m : Nat} (h : isC m = true) : wv (wd m) := wv_rev (dg_wv h)
theorem wd_le {m : Nat} (h : isC m = true) : (wd m).length ≤ 9 := by unfold wd; rw [List.length_reverse]; exact dg_le h
theorem go_no {w : Nat} {σ : GS} : F_Wd_go w (nI 0 - 1) σ = some σ := by
  unfold F_Wd_go
  rw [bp_s (show F_X_isStreet (nI 0 - 1) = some 0 by decide)]
  rfl
theorem pow9 {j : Nat} (h : j ≤ 9) : 10 ^ j ≤ 1000000000 := Nat.pow_le_pow_right (n := 10) (by decide) h
theorem along_loop {w m : Nat} {K : Int32 → GS → Option GS} (hc : isC m = true) (h0 : m ≠ 0) : ∀ (j n : Nat) (l : List Nat) (σ : GS), j < (dg m).length → j + 1 < n → l.length + j + 1 < 64 → Rep σ w l → ∃ σ', F_Wd_goAlong_29 w (nI m) K n (nI (10 ^ j)) σ = K (nI 0) σ' ∧ Rep σ' w (fo l ((dg m).take (j + 1)).reverse) ∧ Fr [w, w + 1] σ σ' := by
  have hm := isC_le hc
  have h9 := dg_le hc
  have hv := dg_wv hc
  have hc2 := (Bool.and_eq_true_iff.mp hc).2
  have hdig : ∀ j, j < (dg m).length → 1 ≤ m / 10 ^ j % 10 := by
    have : ∀ (f n j : Nat), cF f n = true → j < (dgF f n).length → 1 ≤ n / 10 ^ j % 10 := by
      intro f
      induction f with
      | zero => intro n j _ h; exact absurd h (Nat.not_lt_zero _)
      | succ f ih =>
        intro n j hcf hj
        by_cases hn : n = 0
        · rw [hn, dgF_0] at hj; exact absurd hj (Nat.not_lt_zero _)
        · obtain ⟨a, b, c⟩ := cF_s hn hcf
          cases j with
          | zero => simpa using a
          | succ j =>
            rw [dgF_s hn, List.length_cons] at hj
            have := ih (n / 10) j c (by omega)
            rw [Nat.div_div_eq_div_mul] at this
            rw [Nat.pow_succ, Nat.mul_comm]
            exact this
    exact fun j hj => this 10 m j hc2 hj
  intro j
  induction j with
  | zero =>
    intro n l σ hj hn hl hR
    obtain ⟨n, rfl⟩ : ∃ k, n = k + 2 := ⟨n - 2, by omega⟩
    have hx : (dg m).getD 0 0 = m / 10 ^ 0 % 10 - 1 := dgF_get 0 hj
    have hd := hdig 0 hj
    obtain ⟨σ1, e1, r1, f1⟩ := go_spec hR (s := m / 10 ^ 0 % 10 - 1) (by omega) (by rw [← hx]; exact getD_lt hv hj)
    refine ⟨σ1, ?_, ?_, f1⟩
    · rw [F_Wd_goAlong_29.eq_2, if_neg (nI_nle (by decide) (by decide)), gd_t (by decide), pk_div (a := m) (d := 10 ^ 0) (by omega) (by decide) (by decide), rem10 (by simp; omega), sub1 hd, bv_s e1]
      show F_Wd_goAlong_29 w (nI m) K (n + 1) (nI (10 ^ 0) / 10) σ1 = _
      rw [F_Wd_goAlong_29.eq_2, if_pos (by decide)]
      rfl
    · have : (dg m).take 1 = [m / 10 ^ 0 % 10 - 1] := by
        rw [← hx]
        cases hq : dg m with
        | nil => rw [hq] at hj; exact absurd hj (Nat.not_lt_zero _)
        | cons a b => rfl
      rw [this]
      exact r1
  | succ j ih =>
    intro n l σ hj hn hl hR
    obtain ⟨n, rfl⟩ : ∃ k, n = k + 1 := ⟨n - 1, by omega⟩
    have hx : (dg m).getD (j + 1) 0 = m / 10 ^ (j + 1) % 10 - 1 := dgF_get (j + 1) hj
    have hd := hdig (j + 1) hj
    have hp := pow9 (j := j + 1) (by omega)
    have hp0 : 0 < 10 ^ (j + 1) := Nat.pow_pos (by decide)
    have hdl : m / 10 ^ (j + 1) ≤ m := Nat.div_le_self _ _
    obtain ⟨σ1, e1, r1, f1⟩ := go_spec hR (s := m / 10 ^ (j + 1) % 10 - 1) (by omega) (by rw [← hx]; exact getD_lt hv hj)
    have hlen := len_go_le l (m / 10 ^ (j + 1) % 10 - 1)
    obtain ⟨σ2, e2, r2, f2⟩ := ih n (go l (m / 10 ^ (j + 1) % 10 - 1)) σ1 (by omega) (by omega) (by omega) r1
    refine ⟨σ2, ?_, ?_, f1.trans f2⟩
    · rw [F_Wd_goAlong_29.eq_2, if_neg (nI_nle hp0 (by omega)), gz hp0 (by omega), pk_div (a := m) (d := 10 ^ (j + 1)) (by omega) hp0 (by omega), rem10 (by omega), sub1 hd, bv_s e1, div10 (by omega), show 10 ^ (j + 1) / 10 = 10 ^ j by rw [Nat.pow_succ, Nat.mul_div_cancel _ (by decide)]]
      exact e2
    · have : (dg m).take (j + 1 + 1) = (dg m).take (j + 1) ++ [m / 10 ^ (j + 1) % 10 - 1] := by
        rw [List.take_succ (i := j + 1), List.getElem?_eq_getElem hj, ← hx, List.getD_eq_getElem?_getD, List.getElem?_eq_getElem hj]
        rfl
      rw [this, List.reverse_append]
      exact r2
theorem unit_loop {w m : Nat} {σ : GS} {K : Int32 → Int32 → Option GS} (hc : isC m = true) (h0 : m ≠ 0) : ∀ (d j n : Nat), j + 1 + d = (dg m).length → d < n → F_Wd_goAlong_4 w (nI m) σ K n (nI (10 ^ j)) (nI (j + 1)) = K (nI (10 ^ ((dg m).length - 1))) (nI (dg m).length) := by
  have hm := isC_le hc
  have h9 := dg_le hc
  obtain ⟨a, b, c⟩ := dgF_len (Bool.and_eq_true_iff.mp hc).2 h0
  have b : 10 ^ ((dg m).length - 1) ≤ m := b
  have c : m < 10 ^ (dg m).length := c
  intro d
  induction d with
  | zero =>
    intro j n hj hn
    obtain ⟨n, rfl⟩ : ∃ k, n = k + 1 := ⟨n - 1, by omega⟩
    have hp := pow9 (j := j) (by omega)
    have hp0 : 0 < 10 ^ j := Nat.pow_pos (by decide)
    have ej : (dg m).length - 1 = j := by omega
    have ej2 : (dg m).length = j + 1 := by omega
    rw [F_Wd_goAlong_4.eq_2, ej, ej2]
    by_cases h9' : 9 ≤ j + 1
    · rw [if_pos (show (9 : Int32) ≤ nI (j + 1) from nI_le (a := 9) h9' (by omega))]
    · rw [if_neg (show ¬ (9 : Int32) ≤ nI (j + 1) by rw [show (9 : Int32) = nI 9 from rfl, nI_leI (by decide) (by omega)]; exact h9'), gz hp0 (by omega), pk_div (by omega) hp0 (by omega), if_pos]
      have : m / 10 ^ j < 10 := by
        rw [Nat.div_lt_iff_lt_mul hp0, Nat.mul_comm, ← Nat.pow_succ]
        rw [ej2] at c
        exact c
      exact nI_lt (b := 10) this (by decide)
  | succ d ih =>
    intro j n hj hn
    obtain ⟨n, rfl⟩ : ∃ k, n = k + 1 := ⟨n - 1, by omega⟩
    have hp := pow9 (j := j) (by omega)
    have hp0 : 0 < 10 ^ j := Nat.pow_pos (by decide)
    have hge : 10 ≤ m / 10 ^ j := by
      rw [Nat.le_div_iff_mul_le hp0, Nat.mul_comm, ← Nat.pow_succ]
      exact Nat.le_trans (Nat.pow_le_pow_right (by decide) (by omega)) b
    have hdl : m / 10 ^ j ≤ m := Nat.div_le_self _ _
    rw [F_Wd_goAlong_4.eq_2, if_neg (show ¬ (9 : Int32) ≤ nI (j + 1) by rw [show (9 : Int32) = nI 9 from rfl, nI_leI (by decide) (by omega)]; omega), gz hp0 (by omega), pk_div (by omega) hp0 (by omega), if_neg (show ¬ nI (m / 10 ^ j) < 10 from nI_nlt (b := 10) hge (by omega)), nI_1, show nI (10 ^ j) * 10 = nI (10 ^ (j + 1)) by rw [show (10 : Int32) = nI 10 from rfl, pk_mul, Nat.pow_succ]]
    exact ih (j + 1) n (by omega) (by omega)
theorem along0 {w : Nat} {σ : GS} {K : Int32 → GS → Option GS} (n : Nat) : F_Wd_goAlong_29 w (nI 0) K (n + 1 + 1) 1 σ = K 0 σ := by
  rw [F_Wd_goAlong_29.eq_2, if_neg (by decide), gd_t (by decide), show nI 0 / 1 - nI 0 / 1 / 10 * 10 - 1 = nI 0 - 1 from by decide, bv_s go_no, F_Wd_goAlong_29.eq_2, if_pos (by decide)]
  rfl
theorem unit0 {w : Nat} {σ : GS} {K : Int32 → Int32 → Option GS} (n : Nat) : F_Wd_goAlong_4 w (nI 0) σ K (n + 1) 1 1 = K 1 1 := by
  rw [F_Wd_goAlong_4.eq_2, if_neg (by decide), gd_t (by decide), if_pos (by decide)]
theorem unit_from {w m : Nat} {σ : GS} {K : Int32 → Int32 → Option GS} (hc : isC m = true) (h0 : m ≠ 0) {n : Nat} (hn : 20 ≤ n) : F_Wd_goAlong_4 w (nI m) σ K n 1 1 = K (nI (10 ^ ((dg m).length - 1))) (nI (dg m).length) := by
  have h9 := dg_le hc
  have ha : (dg m).length ≠ 0 := (dgF_len (Bool.and_eq_true_iff.mp hc).2 h0).1
  exact unit_loop (w := w) (σ := σ) (K := K) hc h0 ((dg m).length - 1) 0 n (by omega) (by omega)
theorem goAlong_n {w m : Nat} {l : List Nat} {σ : GS} (hR : Rep σ w l) (hc : isC m = true) (hl : l.length ≤ 30) {n : Nat} (hn : 20 ≤ n) : ∃ σ', F_Wd_goAlong_4 w (nI m) σ (fun (v2_1 : Int32) (v3_1 : Int32) => F_Wd_goAlong_29 w (nI m) (fun (v2_2 : Int32) (σL2 : GS) => some σL2) n v2_1 σ) n 1 1 = some σ' ∧ Rep σ' w (fo l (wd m)) ∧ Fr [w, w + 1] σ σ' := by
  by_cases h0 : m = 0
  · subst h0
    refine ⟨σ, ?_, hR, Fr.refl _ _⟩
    obtain ⟨k, rfl⟩ : ∃ k, n = k + 1 + 1 := ⟨n - 2, by omega⟩
    rw [unit0, along0]
  · have h9 := dg_le hc
    have ha : (dg m).length ≠ 0 := (dgF_len (Bool.and_eq_true_iff.mp hc).2 h0).1
    obtain ⟨σ', e, r, f⟩ := along_loop (w := w) (K := fun (v2_2 : Int32) (σL2 : GS) => some σL2) hc h0 ((dg m).length - 1) n l σ (by omega) (by omega) (by omega) hR
    refine ⟨σ', ?_, ?_, f⟩
    · rw [unit_from hc h0 hn]
      exact e
    · rw [show (dg m).length - 1 + 1 = (dg m).length by omega, List.take_length] at r
      exact r
theorem goAlong_spec {w m : Nat} {l : List Nat} {σ : GS} (hR : Rep σ w l) (hc : isC m = true) (hl : l.length ≤ 30) : ∃ σ', F_Wd_goAlong w (nI m) σ = some σ' ∧ Rep σ' w (fo l (wd m)) ∧ Fr [w, w + 1] σ σ' := by
  unfold F_Wd_goAlong
  simp only [jn_s]
  exact goAlong_n hR hc hl (by omega)
