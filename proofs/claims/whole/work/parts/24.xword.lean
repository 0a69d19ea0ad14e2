theorem clear_spec {w : Nat} {σ : GS} : F_Wd_clear w σ = some (s1 σ w 1 0) ∧ Rep (s1 σ w 1 0) w [] := ⟨rfl, s1_at σ w 1 0, fun i h => absurd h (Nat.not_lt_zero _), Nat.zero_le _, wv_nil⟩
theorem becomes_spec {w m : Nat} {σ : GS} (hc : isC m = true) : ∃ σ', F_Wd_becomes w (nI m) σ = some σ' ∧ Rep σ' w (nf (wd m)) ∧ Fr [w, w + 1] σ σ' := by
  obtain ⟨σ', e, r, f⟩ := goAlong_spec (w := w) (clear_spec (w := w) (σ := σ)).2 hc (Nat.zero_le _)
  refine ⟨σ', ?_, r, Fr.trans (Fr.s1 (by simp)) f⟩
  unfold F_Wd_becomes
  rw [jn_e, bv_s e]
theorem way_spec {w a b : Nat} {σ : GS} (ha : isC a = true) (hb : isC b = true) : ∃ σ', F_Wd_becomesWay w (nI a) (nI b) σ = some σ' ∧ Rep σ' w (nf (dg a ++ wd b)) ∧ Fr [w, w + 1] σ σ' := by
  obtain ⟨σ1, e1, r1, f1⟩ := goBack_spec (w := w) (clear_spec (w := w) (σ := σ)).2 ha (Nat.zero_le _)
  have h1 : (fo [] (dg a)).length ≤ 30 := by
    have := len_fo_le [] (dg a)
    have := dg_le ha
    simp at *
    omega
  obtain ⟨σ2, e2, r2, f2⟩ := goAlong_spec (w := w) r1 hb h1
  refine ⟨σ2, ?_, ?_, Fr.trans (Fr.s1 (by simp)) (f1.trans f2)⟩
  · unfold F_Wd_becomesWay
    rw [jn_e, bv_s e1, bv_s e2]
  · unfold nf
    rw [fo_app]
    exact r2
def cdv (l : List Nat) : Nat := l.foldl (fun a s => a * 10 + s + 1) 0
theorem cdv_snoc (l : List Nat) (s : Nat) : cdv (l ++ [s]) = cdv l * 10 + s + 1 := by unfold cdv; rw [List.foldl_append]; rfl
theorem take_snoc {l : List Nat} {i : Nat} (h : i < l.length) : l.take (i + 1) = l.take i ++ [l.getD i 0] := by
  rw [List.take_succ, List.getElem?_eq_getElem h, List.getD_eq_getElem?_getD, List.getElem?_eq_getElem h]
  rfl
theorem code_loop {w : Nat} {σ : GS} {l : List Nat} {K : Int32 → Int32 → Option Int32} (hR : Rep σ w l) : ∀ (d i n : Nat), i + d = l.length → d < n → F_Wd_code_16 w σ K n (nI (cdv (l.take i))) (nI i) = K (nI (cdv l)) (nI l.length) := by
  intro d
  have hl := hR.len
  induction d with
  | zero =>
    intro i n hi hn
    obtain ⟨n, rfl⟩ : ∃ k, n = k + 1 := ⟨n - 1, by omega⟩
    have e : i = l.length := by omega
    subst e
    rw [F_Wd_code_16.eq_2, hR.1, if_pos (nI_le (Nat.le_refl _) (by omega)), List.take_length]
  | succ d ih =>
    intro i n hi hn
    obtain ⟨n, rfl⟩ : ∃ k, n = k + 1 := ⟨n - 1, by omega⟩
    rw [F_Wd_code_16.eq_2, hR.1, if_neg (by rw [nI_leI (by omega) (by omega)]; omega), gi (by omega) (by decide), c31 (by omega), hR.2.1 i (by omega), show (10 : Int32) = nI 10 from rfl, pk_mul, nI_add, nI_1, nI_1, ← cdv_snoc, ← take_snoc (by omega)]
    exact ih (i + 1) n (by omega) (by omega)
theorem code_spec {w : Nat} {σ : GS} {l : List Nat} (hR : Rep σ w l) : F_Wd_code w σ = some (if l.length ≤ 9 then nI (cdv l) else -6) := by
  have hl := hR.len
  unfold F_Wd_code
  rw [hR.1]
  by_cases h : l.length ≤ 9
  · rw [if_pos h, if_pos (show nI l.length ≤ 9 from nI_le (b := 9) h (by decide)), jn_s]
    exact code_loop (w := w) (K := fun (v1_1 : Int32) (v2_1 : Int32) => some v1_1) hR l.length 0 50000 (by omega) (by omega)
  · rw [if_neg h, if_neg (show ¬ nI l.length ≤ 9 by rw [show (9 : Int32) = nI 9 from rfl, nI_leI (by omega) (by decide)]; exact h)]
-- codes of words: there and back
theorem cdv_dg : ∀ l : List Nat, wv l → l.length ≤ 9 → isC (cdv l) = true ∧ dg (cdv l) = l.reverse := by
  have key : ∀ l : List Nat, wv l → ∀ f, l.length ≤ f → cF f (cdv l) = true ∧ dgF f (cdv l) = l.reverse ∧ 9 * cdv l ≤ 5 * (10 ^ l.length - 1) := by
    refine snocRec (fun _ f _ => ⟨by cases f <;> rfl, by cases f <;> rfl, by decide⟩) fun l s ih hv f hf => ?_
    rw [List.length_append, List.length_singleton] at hf
    obtain ⟨f, rfl⟩ : ∃ g, f = g + 1 := ⟨f - 1, by omega⟩
    have hs : s < 5 := hv s (by simp)
    obtain ⟨h1, h2, h3⟩ := ih (wv_l hv) f (by omega)
    have e1 : (cdv l * 10 + s + 1) % 10 = s + 1 := by omega
    have e2 : (cdv l * 10 + s + 1) / 10 = cdv l := by omega
    rw [cdv_snoc]
    refine ⟨?_, ?_, ?_⟩
    · unfold cF
      rw [e1, e2, h1]
      simp
      omega
    · rw [dgF_s (by omega), e1, e2, h2, List.reverse_append]
      rfl
    · rw [List.length_append, List.length_singleton, Nat.pow_succ]
      have : 0 < 10 ^ l.length := Nat.pow_pos (by decide)
      omega
  intro l hv hl
  obtain ⟨h1, h2, h3⟩ := key l hv 10 (by omega)
  have h4 : 10 ^ l.length ≤ 10 ^ 9 := Nat.pow_le_pow_right (by decide) hl
  refine ⟨?_, h2⟩
  unfold isC
  rw [h1, Bool.and_true]
  refine decide_eq_true ?_
  omega
theorem cdv_isC {l : List Nat} (hv : wv l) (hl : l.length ≤ 9) : isC (cdv l) = true := (cdv_dg l hv hl).1
theorem wd_cdv {l : List Nat} (hv : wv l) (hl : l.length ≤ 9) : wd (cdv l) = l := by
  unfold wd
  rw [(cdv_dg l hv hl).2, List.reverse_reverse]
-- last streets, told by bits
theorem last_iff {w : List Nat} {s : Nat} : lastb w s = true ↔ ∃ a b, w = a ++ s :: b ∧ ∀ x ∈ b, nb x s = true := by
  constructor
  · intro h
    refine ⟨(tlA s w).dropLast, tlB s w, ?_, tlB_nb s w⟩
    conv => lhs; rw [← tl_app s w, snoc_of (beq_iff_eq.mp h), List.append_assoc]
    rfl
  · rintro ⟨a, b, rfl, hb⟩
    refine last_of_pr fun t ht => ?_
    rw [show a ++ s :: b = (a ++ [s]) ++ b by simp, pr_app, pr_nb ht hb, List.append_nil, pr_app, pr_one_s]
    simp
/-- whether place p is last: all behind it are its neighbours -/
def lpl (l : List Nat) (p : Nat) : Bool := (l.drop (p + 1)).all (fun x => nb x (l.getD p 0))
def lsF (l : List Nat) : Nat → Nat
  | 0 => 0
  | p + 1 => if lpl l p = true then lsF l p ||| 2 ^ (l.getD p 0) else lsF l p
theorem lsF_bit (l : List Nat) (s : Nat) : ∀ p, (lsF l p).testBit s = true ↔ ∃ j, j < p ∧ lpl l j = true ∧ l.getD j 0 = s
  | 0 => by simp [lsF]
  | p + 1 => by
    have ih := lsF_bit l s p
    unfold lsF
    by_cases h : lpl l p = true
    · rw [if_pos h, Nat.testBit_or, Bool.or_eq_true, ih, Nat.testBit_two_pow]
      constructor
      · rintro (⟨j, h1, h2⟩ | h1)
        · exact ⟨j, by omega, h2⟩
        · exact ⟨p, by omega, h, of_decide_eq_true h1⟩
      · rintro ⟨j, h1, h2, h3⟩
        by_cases e : j = p
        · subst e; exact Or.inr (decide_eq_true h3)
        · exact Or.inl ⟨j, by omega, h2, h3⟩
    · rw [if_neg h, ih]
      constructor
      · rintro ⟨j, h1, h2⟩
        exact ⟨j, by omega, h2⟩
      · rintro ⟨j, h1, h2, h3⟩
        by_cases e : j = p
        · subst e; exact absurd h2 h
        · exact ⟨j, by omega, h2, h3⟩
theorem last_lpl (l : List Nat) (s : Nat) : lastb l s = true ↔ ∃ j, j < l.length ∧ lpl l j = true ∧ l.getD j 0 = s := by
  rw [last_iff]
  constructor
  · rintro ⟨a, b, rfl, hb⟩
    have hg : (a ++ s :: b).getD a.length 0 = s := by
      have := getD_r (u := a) (v := s :: b) (i := 0)
      rw [Nat.add_zero] at this
      rw [this]; rfl
    refine ⟨a.length, by simp, ?_, hg⟩
    unfold lpl
    rw [hg, List.drop_append, List.drop_of_length_le (by omega), List.nil_append, show a.length + 1 - a.length = 1 by omega]
    exact List.all_eq_true.mpr hb
  · rintro ⟨j, h1, h2, h3⟩
    refine ⟨l.take j, l.drop (j + 1), ?_, fun x hx => ?_⟩
    · rw [← h3, List.getD_eq_getElem?_getD, List.getElem?_eq_getElem h1]
      show l = l.take j ++ l[j] :: l.drop (j + 1)
      rw [← List.drop_eq_getElem_cons h1, List.take_append_drop]
    · rw [← h3]
      exact List.all_eq_true.mp h2 x hx
/-- the set of last streets as a number -/
def lset (l : List Nat) : Nat := lsF l l.length
theorem lset_bit (l : List Nat) (s : Nat) : (lset l).testBit s = lastb l s := by
  rw [Bool.eq_iff_iff]
  unfold lset
  rw [lsF_bit, last_lpl]
theorem lset_eqv {u v : List Nat} (h : eqv u v) : lset u = lset v := Nat.eq_of_testBit_eq fun s => by rw [lset_bit, lset_bit, last_eqv h s]
theorem last_lt {l : List Nat} (hv : wv l) {s : Nat} (h : lastb l s = true) : s < 5 := by
  obtain ⟨a, b, rfl, -⟩ := last_iff.mp h
  exact hv s (by simp)
theorem lset_lt {l : List Nat} (hv : wv l) : lset l < 32 := by
  refine Nat.lt_pow_two_of_testBit (n := 5) _ fun i hi => ?_
  rw [lset_bit]
  cases h : lastb l i with
  | false => rfl
  | true =>
    have := last_lt hv h
    omega
