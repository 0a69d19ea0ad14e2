theorem or_nI (a b : Nat) : nI a ||| nI b = nI (a ||| b) := by
  apply Int32.toBitVec_inj.1
  show BitVec.ofNat 32 a ||| BitVec.ofNat 32 b = BitVec.ofNat 32 (a ||| b)
  apply BitVec.eq_of_getLsbD_eq
  intro i hi
  simp [hi]
theorem shl5 : ∀ s, s < 5 → (1 : Int32) <<< (nI s &&& 31) = nI (2 ^ s) := by decide +kernel
theorem m1_bit (x : Int32) : ((-1 : Int32) >>> (x &&& 31)) &&& 1 = 1 := by
  have h : ∀ j : Nat, j < 32 → ((-1 : Int32) >>> nI j) &&& 1 = 1 := by decide +kernel
  obtain ⟨j, hj, e⟩ := pk_andE x (m := 31) 5 (by decide)
  rw [e]
  exact h j hj
/-- canBeLast: by a set of places told by f -/
def cbl (l : List Nat) (p : Nat) (f : Nat → Bool) (i : Nat) : Nat → Bool
  | 0 => true
  | d + 1 => (!f i || nb (l.getD p 0) (l.getD i 0)) && cbl l p f (i + 1) d
theorem cbl_loop {w p : Nat} {σ : GS} {l : List Nat} {M : Int32} {f : Nat → Bool} (hR : Rep σ w l) (hp : p < l.length) (hf : ∀ i, i < l.length → (((M >>> (nI i &&& 31)) &&& 1 = 1) ↔ f i = true)) : ∀ (d i n : Nat), i + d = l.length → d < n → F_Wd_canBeLast_4 w (nI p) M σ (fun _ => some 1) n (nI i) = some (if cbl l p f i d = true then 1 else 0) := by
  intro d
  have hl := hR.len
  induction d with
  | zero =>
    intro i n hi hn
    obtain ⟨n, rfl⟩ : ∃ k, n = k + 1 := ⟨n - 1, by omega⟩
    rw [F_Wd_canBeLast_4.eq_2, hR.1, if_pos (nI_le (by omega) (by omega))]
    rfl
  | succ d ih =>
    intro i n hi hn
    obtain ⟨n, rfl⟩ : ∃ k, n = k + 1 := ⟨n - 1, by omega⟩
    have ihn := ih (i + 1) n (by omega) (by omega)
    rw [F_Wd_canBeLast_4.eq_2, hR.1, if_neg (by rw [nI_leI (by omega) (by omega)]; omega), nI_1, ihn]
    show _ = some (if ((!f i || nb (l.getD p 0) (l.getD i 0)) && cbl l p f (i + 1) d) = true then 1 else 0)
    by_cases h : f i = true
    · rw [if_pos ((hf i (by omega)).mpr h), gi (by omega) (by decide), gi (by omega) (by decide), c31 (by omega), c31 (by omega), hR.2.1 p hp, hR.2.1 i (by omega), bp_s (nbX _ (getD_lt hR.2.2.2 hp) _ (getD_lt hR.2.2.2 (by omega))), h]
      by_cases q : nb (l.getD p 0) (l.getD i 0) = true
      · rw [if_pos q, if_neg (by decide), q]
        simp
      · rw [if_neg q, if_pos rfl, Bool.eq_false_iff.mpr q]
        simp
    · rw [if_neg (fun z => h ((hf i (by omega)).mp z)), Bool.eq_false_iff.mpr h]
      simp
theorem cbl_spec {w p : Nat} {σ : GS} {l : List Nat} {M : Int32} {f : Nat → Bool} (hR : Rep σ w l) (hp : p < l.length) (hf : ∀ i, i < l.length → (((M >>> (nI i &&& 31)) &&& 1 = 1) ↔ f i = true)) : F_Wd_canBeLast w (nI p) M σ = some (if cbl l p f (p + 1) (l.length - (p + 1)) = true then 1 else 0) := by
  unfold F_Wd_canBeLast
  rw [jn_s, nI_1]
  exact cbl_loop hR hp hf (l.length - (p + 1)) (p + 1) 50000 (by omega) (by have := hR.len; omega)
theorem cbl_all (l : List Nat) (p : Nat) : ∀ (d i : Nat), i + d = l.length → cbl l p (fun _ => true) i d = (l.drop i).all (fun x => nb x (l.getD p 0))
  | 0, i, h => by
    rw [List.drop_of_length_le (by omega)]
    rfl
  | d + 1, i, h => by
    rw [List.drop_eq_getElem_cons (by omega : i < l.length), List.all_cons, ← cbl_all l p d (i + 1) (by omega)]
    show ((!true || nb (l.getD p 0) (l.getD i 0)) && _) = _
    rw [Bool.not_true, Bool.false_or, nb_comm]
    congr 2
    rw [List.getD_eq_getElem?_getD, List.getElem?_eq_getElem (by omega)]
    rfl
theorem last_loop {w : Nat} {σ : GS} {l : List Nat} {K : Int32 → Int32 → Option Int32} (hR : Rep σ w l) : ∀ (d i n : Nat), i + d = l.length → d < n → F_Wd_lastStreets_4 w σ K n (nI (lsF l i)) (nI i) = K (nI (lset l)) (nI l.length) := by
  intro d
  have hl := hR.len
  induction d with
  | zero =>
    intro i n hi hn
    obtain ⟨n, rfl⟩ : ∃ k, n = k + 1 := ⟨n - 1, by omega⟩
    have e : i = l.length := by omega
    subst e
    rw [F_Wd_lastStreets_4.eq_2, hR.1, if_pos (nI_le (Nat.le_refl _) (by omega))]
    rfl
  | succ d ih =>
    intro i n hi hn
    obtain ⟨n, rfl⟩ : ∃ k, n = k + 1 := ⟨n - 1, by omega⟩
    have h1 := cbl_spec (w := w) (p := i) (M := -1) (f := fun _ => true) hR (by omega) (fun j _ => ⟨fun _ => rfl, fun _ => m1_bit _⟩)
    rw [cbl_all l i (l.length - (i + 1)) (i + 1) (by omega)] at h1
    have e2 : lsF l (i + 1) = if lpl l i = true then lsF l i ||| 2 ^ (l.getD i 0) else lsF l i := rfl
    rw [F_Wd_lastStreets_4.eq_2, hR.1, if_neg (by rw [nI_leI (by omega) (by omega)]; omega), bp_s h1, ← ih (i + 1) n (by omega) (by omega), e2]
    show (if (if lpl l i = true then (1 : Int32) else 0) = 0 then _ else _) = _
    by_cases h : lpl l i = true
    · rw [if_pos h, if_pos h, if_neg (by decide), gi (by omega) (by decide), c31 (by omega), hR.2.1 i (by omega), shl5 _ (getD_lt hR.2.2.2 (by omega)), or_nI, nI_1]
    · rw [if_neg h, if_neg h, if_pos rfl, nI_1]
theorem lastStreets_spec {w : Nat} {σ : GS} {l : List Nat} (hR : Rep σ w l) : F_Wd_lastStreets w σ = some (nI (lset l)) := by
  unfold F_Wd_lastStreets
  rw [jn_s]
  exact last_loop (w := w) (K := fun (v1_1 : Int32) (v2_1 : Int32) => some v1_1) hR l.length 0 50000 (by omega) (by have := hR.len; omega)
theorem goNear_spec {w s : Nat} {l : List Nat} {σ : GS} (hR : Rep σ w l) (hg : good l) (hl : l.length ≤ 9) (hs : s < 5) : ∃ σ', F_Wd_goNear w (nI s) σ = some (if (go l s).length ≤ 9 then 1 else 0, σ') ∧ Rep σ' w (if (go l s).length ≤ 9 then go l s else l) ∧ Fr [w, w + 1] σ σ' := by
  obtain ⟨σ1, e1, r1, f1⟩ := go_spec hR (by omega) hs
  have h1 := r1.len
  unfold F_Wd_goNear
  rw [bv_s e1, r1.1]
  by_cases h : (go l s).length ≤ 9
  · refine ⟨σ1, ?_, by rw [if_pos h]; exact r1, f1⟩
    rw [if_neg (show ¬ (9 : Int32) < nI (go l s).length from nI_nlt (a := 9) h (by decide)), if_pos h]
  · have h2 := len_go_le l s
    obtain ⟨σ2, e2, r2, f2⟩ := go_spec r1 (s := s) (by omega) hs
    refine ⟨σ2, ?_, ?_, f1.trans f2⟩
    · rw [if_pos (show (9 : Int32) < nI (go l s).length from nI_lt (a := 9) (by omega) (by omega)), bv_s e2, if_neg h]
    · rw [if_neg h]
      rw [go_go hg.1 hg.2 s] at r2
      exact r2
theorem streetAt_spec {w i : Nat} {σ : GS} {l : List Nat} (hR : Rep σ w l) (hi : i < l.length) : F_Wd_streetAt w (nI i) σ = some (nI (l.getD i 0)) := by
  have := hR.len
  unfold F_Wd_streetAt
  rw [if_neg (nI_pos (by omega)), hR.1, if_neg (by rw [nI_leI (by omega) (by omega)]; omega), gi (by omega) (by decide), c31 (by omega), hR.2.1 i hi]
-- what is a code
theorem stN {m : Nat} (h : m ≤ 9) : F_X_isStreet (nI m - 1) = some (if 1 ≤ m ∧ m ≤ 5 then 1 else 0) := by
  have : ∀ m, m ≤ 9 → F_X_isStreet (nI m - 1) = some (if 1 ≤ m ∧ m ≤ 5 then 1 else 0) := by decide +kernel
  exact this m h
theorem cF_succ (f n : Nat) : cF (f + 1) n = (decide (n = 0) || (decide (1 ≤ n % 10 ∧ n % 10 ≤ 5) && cF f (n / 10))) := rfl
theorem isCX_loop : ∀ (f m n : Nat), m < 10 ^ f → m < 2 ^ 31 → f < n → F_X_isCode_15 (fun _ => some 1) n (nI m) = some (if cF f m = true then 1 else 0) := by
  intro f
  induction f with
  | zero =>
    intro m n hm _ hn
    obtain ⟨n, rfl⟩ : ∃ k, n = k + 1 := ⟨n - 1, by omega⟩
    have e : m = 0 := by simpa using hm
    subst e
    rw [F_X_isCode_15.eq_2, if_pos (by decide)]
    rfl
  | succ f ih =>
    intro m n hm hm2 hn
    obtain ⟨n, rfl⟩ : ∃ k, n = k + 1 := ⟨n - 1, by omega⟩
    by_cases h0 : m = 0
    · subst h0
      rw [F_X_isCode_15.eq_2, if_pos (by decide)]
      rfl
    · rw [F_X_isCode_15.eq_2, if_neg (nI_nle (by omega) hm2), rem10 hm2, bp_s (stN (by omega)), div10 hm2, ih (m / 10) n (by rw [Nat.pow_succ] at hm; omega) (by omega) (by omega)]
      rw [cF_succ, decide_eq_false h0, Bool.false_or]
      by_cases q : 1 ≤ m % 10 ∧ m % 10 ≤ 5
      · rw [if_pos q, if_neg (by decide), decide_eq_true q, Bool.true_and]
      · rw [if_neg q, if_pos rfl, decide_eq_false q, Bool.false_and]
        rfl
theorem isCX {m : Nat} (hm : m < 2 ^ 31) : F_X_isCode (nI m) = some (if isC m = true then 1 else 0) := by
  unfold F_X_isCode isC
  rw [if_neg (nI_pos hm)]
  by_cases h : m ≤ 555555555
  · rw [if_pos (show nI m ≤ 555555555 from nI_le (b := 555555555) h (by decide)), jn_s, decide_eq_true h, Bool.true_and]
    exact isCX_loop 10 m 50000 (by omega) hm (by omega)
  · rw [if_neg (show ¬ nI m ≤ 555555555 by rw [show (555555555 : Int32) = nI 555555555 from rfl, nI_leI hm (by decide)]; exact h), decide_eq_false h]
    rfl
theorem isCX_neg {x : Int32} (h : x < 0) : F_X_isCode x = some 0 := by
  unfold F_X_isCode
  rw [if_pos h]
/-- of any int: it is a code (then as a number), or not -/
theorem code_cases (x : Int32) : (F_X_isCode x = some 0 ∧ ∀ m, m < 2 ^ 31 → x = nI m → isC m = false) ∨ ∃ m, x = nI m ∧ isC m = true ∧ F_X_isCode x = some 1 := by
  by_cases h : x < 0
  · exact Or.inl ⟨isCX_neg h, fun m hm e => by subst e; exact absurd h (nI_pos hm)⟩
  · obtain ⟨m, hm, rfl⟩ := nI_of h
    cases hc : isC m with
    | true => exact Or.inr ⟨m, rfl, hc, by rw [isCX hm, hc]; rfl⟩
    | false => exact Or.inl ⟨by rw [isCX hm, hc]; rfl, fun m' hm' e => by rw [(nI_eq hm hm').mp e] at hc; exact hc⟩
