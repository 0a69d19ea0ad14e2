/-! the pure functions of the class's words, tied to lists -/
theorem s1_get (σ : GS) (k i : Nat) (v : Int32) (k' i' : Nat) : (s1 σ k i v).1 k' i' = if k' = k ∧ i' = i then v else σ.1 k' i' := by
  unfold s1 va_up upd
  by_cases h : k' = k
  · subst h
    by_cases h2 : i' = i
    · simp [h2]
    · simp [h2]
  · simp [h]
theorem s1_at (σ : GS) (k i : Nat) (v : Int32) : (s1 σ k i v).1 k i = v := by rw [s1_get, if_pos ⟨rfl, rfl⟩]
theorem s1_i {σ : GS} {k i : Nat} {v : Int32} {i' : Nat} (h : i' ≠ i) : (s1 σ k i v).1 k i' = σ.1 k i' := by rw [s1_get, if_neg (fun q => h q.2)]
theorem s1_c {σ : GS} {k i : Nat} {v : Int32} {k' : Nat} (h : k' ≠ k) : (s1 σ k i v).1 k' = σ.1 k' := by
  funext j
  rw [s1_get, if_neg (fun q => h q.1)]
theorem s1_l (σ : GS) (k i : Nat) (v : Int32) : (s1 σ k i v).2 = σ.2 := rfl
/-- nothing but the ints of the cells S has changed -/
def Fr (S : List Nat) (σ σ' : GS) : Prop := (∀ c, c ∉ S → σ'.1 c = σ.1 c) ∧ σ'.2 = σ.2
theorem Fr.refl (S : List Nat) (σ : GS) : Fr S σ σ := ⟨fun _ _ => rfl, rfl⟩
theorem Fr.trans {S : List Nat} {a b c : GS} (h : Fr S a b) (h2 : Fr S b c) : Fr S a c := ⟨fun k hk => (h2.1 k hk).trans (h.1 k hk), h2.2.trans h.2⟩
theorem Fr.mono {S T : List Nat} {a b : GS} (h : Fr S a b) (hs : ∀ x ∈ S, x ∈ T) : Fr T a b := ⟨fun k hk => h.1 k (fun q => hk (hs k q)), h.2⟩
theorem Fr.s1 {S : List Nat} {σ : GS} {k i : Nat} {v : Int32} (h : k ∈ S) : Fr S σ (s1 σ k i v) := ⟨fun c hc => s1_c (fun e => hc (by rw [e]; exact h)), rfl⟩
theorem gd_t {α : Type} {b : Bool} {x : Option α} (h : b = true) : gd b x = x := by rw [h]; rfl
theorem iB_nI {j n : Nat} (h : j < n) (hn : n < 2 ^ 31) : iB (nI j) n = true := decide_eq_true (vp_in_nI h hn)
theorem gi {α : Type} {j n : Nat} {x : Option α} (h : j < n) (hn : n < 2 ^ 31) : gd (iB (nI j) n) x = x := gd_t (iB_nI h hn)
theorem bp_s {α β : Type} {x : Option α} {f : α → Option β} {r : α} (h : x = some r) : bp x f = f r := by rw [h]; rfl
theorem bv_s {β : Type} {x : Option GS} {f : GS → Option β} {r : GS} (h : x = some r) : bv x f = f r := by rw [h]; rfl
theorem bc_s {α β : Type} {x : Option (α × GS)} {f : α → GS → Option β} {r : α} {σ : GS} (h : x = some (r, σ)) : bc x f = f r σ := by rw [h]; rfl
theorem jn_e {α β : Type} (k : α) (f : α → β) : jn k f = f k := rfl
theorem c31 {n : Nat} (h : n < 2 ^ 31) : (nI n).toNatClampNeg = n := nI_clamp h
/-- the first places of a cell are the word -/
def arr (f : Nat → Int32) (w : List Nat) : Prop := ∀ i, i < w.length → f i = nI (w.getD i 0)
def Rep (σ : GS) (k : Nat) (w : List Nat) : Prop := σ.1 k 1 = nI w.length ∧ arr (σ.1 (k + 1)) w ∧ w.length ≤ 64 ∧ wv w
theorem getD_lt {w : List Nat} (h : wv w) {i : Nat} (hi : i < w.length) : w.getD i 0 < 5 := by
  rw [List.getD_eq_getElem?_getD, List.getElem?_eq_getElem hi]
  exact h _ (List.getElem_mem hi)
theorem nbX : ∀ x, x < 5 → ∀ y, y < 5 → F_Wd_areNeighbours (nI x) (nI y) = some (if nb x y = true then 1 else 0) := by decide +kernel
theorem nbM : ∀ x, x < 5 → ∀ y, y < 5 → F_M_areNeighbours (nI x) (nI y) = some (if nb x y = true then 1 else 0) := by decide +kernel
theorem stX : ∀ x, x < 5 → F_X_isStreet (nI x) = some 1 := by decide +kernel
/-- the scan past neighbours from the end -/
def sc (l : List Nat) (s : Nat) : Nat → Nat
  | 0 => 0
  | p + 1 => if nb (l.getD p 0) s = true then sc l s p else p + 1
theorem sc_succ (l : List Nat) (s p : Nat) : sc l s (p + 1) = if nb (l.getD p 0) s = true then sc l s p else p + 1 := rfl
theorem sc_le (l : List Nat) (s : Nat) : ∀ p, sc l s p ≤ p
  | 0 => Nat.le_refl _
  | p + 1 => by
    unfold sc
    have := sc_le l s p
    split <;> omega
theorem getD_l {u v : List Nat} {i : Nat} (h : i < u.length) : (u ++ v).getD i 0 = u.getD i 0 := by
  rw [List.getD_eq_getElem?_getD, List.getD_eq_getElem?_getD, List.getElem?_append_left h]
theorem getD_r {u v : List Nat} {i : Nat} : (u ++ v).getD (u.length + i) 0 = v.getD i 0 := by
  rw [List.getD_eq_getElem?_getD, List.getD_eq_getElem?_getD, List.getElem?_append_right (by omega), Nat.add_sub_cancel_left]
theorem sc_app (s : Nat) (u v : List Nat) : ∀ p, p ≤ u.length → sc (u ++ v) s p = sc u s p
  | 0, _ => rfl
  | p + 1, h => by
    unfold sc
    rw [getD_l (by omega), sc_app s u v p (by omega)]
theorem tlA_snoc (s : Nat) (l : List Nat) (x : Nat) : tlA s (l ++ [x]) = if nb x s = true then tlA s l else l ++ [x] := by
  unfold tlA
  rw [List.reverse_append, List.reverse_singleton, List.singleton_append, List.dropWhile_cons]
  by_cases h : nb x s = true
  · rw [if_pos h, if_pos h]
  · rw [if_neg h, if_neg h, List.reverse_cons, List.reverse_reverse]
theorem sc_len (s : Nat) : ∀ l : List Nat, sc l s l.length = (tlA s l).length := by
  refine snocRec rfl fun l x ih => ?_
  rw [List.length_append, List.length_singleton, tlA_snoc]
  unfold sc
  rw [show (l ++ [x]).getD l.length 0 = x by
    have := getD_r (u := l) (v := [x]) (i := 0)
    rw [Nat.add_zero] at this
    rw [this]; rfl]
  by_cases h : nb x s = true
  · rw [if_pos h, if_pos h, sc_app s l [x] l.length (Nat.le_refl _)]
    exact ih
  · rw [if_neg h, if_neg h, List.length_append, List.length_singleton]
theorem loop13 {w s : Nat} {σ : GS} {l : List Nat} {K : Int32 → Option GS} (hs : s < 5) (hR : Rep σ w l) : ∀ (p n : Nat), p ≤ l.length → p < n → F_Wd_go_13 w (nI s) σ K n (nI p) = K (nI (sc l s p)) := by
  intro p
  induction p with
  | zero =>
    intro n _ hn
    obtain ⟨m, rfl⟩ : ∃ m, n = m + 1 := ⟨n - 1, by omega⟩
    rw [F_Wd_go_13.eq_2, if_pos (by decide)]
    rfl
  | succ p ih =>
    intro n hp hn
    obtain ⟨m, rfl⟩ : ∃ m, n = m + 1 := ⟨n - 1, by omega⟩
    have hl := hR.2.2.1
    rw [F_Wd_go_13.eq_2, if_neg (nI_nle (by omega) (by omega)), nI_pred, gi (by omega) (by decide), c31 (by omega), hR.2.1 p (by omega), bp_s (nbX _ (getD_lt hR.2.2.2 (by omega)) s hs)]
    show (if (if nb (l.getD p 0) s = true then (1 : Int32) else 0) = 0 then K (nI (p + 1)) else F_Wd_go_13 w (nI s) σ K m (nI (p + 1) + -1)) = K (nI (sc l s (p + 1)))
    rw [pk_m1, ih m (by omega) (by omega), sc_succ]
    by_cases h : nb (l.getD p 0) s = true
    · rw [if_pos h, if_pos h, if_neg (by decide)]
    · rw [if_neg h, if_neg h, if_pos rfl]
/-- how many of l from place p on are less than s, in succession -/
theorem loop62 {w s : Nat} {σ : GS} {a b : List Nat} {K : Int32 → Option GS} (hs : s < 5) (hR : Rep σ w (a ++ b)) : ∀ (d i n : Nat), i + d = b.length → (∀ x ∈ b.take i, x < s) → d < n → F_Wd_go_62 w (nI s) σ K n (nI (a.length + i)) = K (nI (a.length + (b.takeWhile (fun x => decide (x < s))).length)) := by
  intro d
  have hl := hR.2.2.1
  rw [List.length_append] at hl
  have tw : ∀ {b : List Nat} {i : Nat}, (∀ x ∈ b.take i, x < s) → (i = b.length ∨ (i < b.length ∧ ¬ b.getD i 0 < s)) → (b.takeWhile (fun x => decide (x < s))).length = i := by
    intro b
    induction b with
    | nil => intro i _ h2; simp at h2; simp [h2]
    | cons c b ih =>
      intro i h1 h2
      cases i with
      | zero =>
        rcases h2 with h2 | ⟨-, h2⟩
        · simp at h2
        · have : ¬ c < s := h2
          simp [List.takeWhile_cons, this]
      | succ i =>
        have hc : c < s := h1 c (by simp)
        rw [List.takeWhile_cons, if_pos (by simp [hc]), List.length_cons, ih (i := i) (fun x hx => h1 x (by simp [hx])) (by
          rcases h2 with h2 | ⟨h2, h3⟩
          · left; simpa using h2
          · right; exact ⟨by simpa using h2, h3⟩)]
  induction d with
  | zero =>
    intro i n hi hlt hn
    obtain ⟨m, rfl⟩ : ∃ m, n = m + 1 := ⟨n - 1, by omega⟩
    rw [F_Wd_go_62.eq_2, hR.1, List.length_append, if_pos (nI_le (by omega) (by omega)), tw hlt (Or.inl (by omega))]
  | succ d ih =>
    intro i n hi hlt hn
    obtain ⟨m, rfl⟩ : ∃ m, n = m + 1 := ⟨n - 1, by omega⟩
    have hx : (a ++ b).getD (a.length + i) 0 = b.getD i 0 := getD_r
    have hv := getD_lt hR.2.2.2 (i := a.length + i) (by rw [List.length_append]; omega)
    rw [hx] at hv
    rw [F_Wd_go_62.eq_2, hR.1, List.length_append, if_neg (by rw [nI_leI (by omega) (by omega)]; omega), gi (by omega) (by decide), c31 (by omega), hR.2.1 _ (by rw [List.length_append]; omega), hx]
    by_cases h : s ≤ b.getD i 0
    · rw [if_pos (nI_le h (by omega)), tw hlt (Or.inr ⟨by omega, by omega⟩)]
    · rw [if_neg (by rw [nI_leI (by omega) (by omega)]; exact h), nI_1, Nat.add_assoc]
      refine ih (i + 1) m (by omega) (fun x hx => ?_) (by omega)
      rw [List.take_succ, List.mem_append] at hx
      rcases hx with q | q
      · exact hlt x q
      · rw [List.getElem?_eq_getElem (by omega)] at q
        have e : x = b.getD i 0 := by
          rw [List.getD_eq_getElem?_getD, List.getElem?_eq_getElem (by omega)]
          simpa using q
        omega
-- taking out, putting in
theorem eraseIdx_getD (l : List Nat) (p i : Nat) : (l.eraseIdx p).getD i 0 = if i < p then l.getD i 0 else l.getD (i + 1) 0 := by
  rw [List.getD_eq_getElem?_getD, List.getD_eq_getElem?_getD, List.getD_eq_getElem?_getD, List.getElem?_eraseIdx]
  split <;> rfl
theorem loopTake {w p : Nat} {l : List Nat} (hp : p < l.length) (hv : wv l) (hl : l.length ≤ 64) {K : Int32 → GS → Option GS} : ∀ (d i n : Nat) (σ : GS), i + 1 + d = l.length → p ≤ i → σ.1 w 1 = nI l.length → (∀ j, j < l.length → σ.1 (w + 1) j = nI (if p ≤ j ∧ j < i then l.getD (j + 1) 0 else l.getD j 0)) → d < n →
    ∃ σ', F_Wd_takeOut_2 w K n (nI i) σ = K (nI (l.length - 1)) σ' ∧ σ'.1 w 1 = nI l.length ∧ (∀ j, j < l.length → σ'.1 (w + 1) j = nI (if p ≤ j ∧ j < l.length - 1 then l.getD (j + 1) 0 else l.getD j 0)) ∧ Fr [w, w + 1] σ σ' := by
  intro d
  induction d with
  | zero =>
    intro i n σ hi hpi h1 h2 hn
    obtain ⟨m, rfl⟩ : ∃ m, n = m + 1 := ⟨n - 1, by omega⟩
    refine ⟨σ, ?_, h1, ?_, Fr.refl _ _⟩
    · rw [F_Wd_takeOut_2.eq_2, h1, nI_1, if_pos (nI_le (by omega) (by omega)), show l.length - 1 = i by omega]
    · rw [show l.length - 1 = i by omega]
      exact h2
  | succ d ih =>
    intro i n σ hi hpi h1 h2 hn
    obtain ⟨m, rfl⟩ : ∃ m, n = m + 1 := ⟨n - 1, by omega⟩
    have hne : w + 1 ≠ w := by omega
    obtain ⟨σ', e, a1, a2, a3⟩ := ih (i + 1) m (s1 σ (w + 1) i (nI (l.getD (i + 1) 0))) (by omega) (by omega) (by rw [s1_c (Ne.symm hne)]; exact h1) (fun j hj => by
      by_cases e : j = i
      · subst e
        rw [s1_at, if_pos ⟨hpi, by omega⟩]
      · rw [s1_i e, h2 j hj]
        by_cases q : p ≤ j ∧ j < i
        · rw [if_pos q, if_pos ⟨q.1, by omega⟩]
        · rw [if_neg q, if_neg (fun z => q ⟨z.1, by omega⟩)]) (by omega)
    refine ⟨σ', ?_, a1, a2, Fr.trans (Fr.s1 (by simp)) a3⟩
    rw [F_Wd_takeOut_2.eq_2, h1, nI_1, if_neg (by rw [nI_leI (by omega) (by omega)]; omega), gi (by omega) (by decide), gi (by omega) (by decide), c31 (by omega), c31 (by omega), h2 (i + 1) (by omega), if_neg (fun z => by omega), jn_e]
    exact e
theorem takeOut_spec {w p : Nat} {l : List Nat} {σ : GS} (hR : Rep σ w l) (hp : p < l.length) : ∃ σ', F_Wd_takeOut w (nI p) σ = some σ' ∧ Rep σ' w (l.eraseIdx p) ∧ Fr [w, w + 1] σ σ' := by
  obtain ⟨h1, h2, h3, h4⟩ := hR
  obtain ⟨σ', e, a1, a2, a3⟩ := loopTake (w := w) hp h4 h3 (K := fun (v2_1 : Int32) (σL1 : GS) => jn (s1 σL1 w 1 ((σL1.1 w 1) - (1 : Int32))) (fun (σ2 : GS) => some σ2)) (l.length - 1 - p) p 50000 σ (by omega) (Nat.le_refl _) h1 (fun j hj => by rw [h2 j hj, if_neg (by omega)]) (by omega)
  have hne : w + 1 ≠ w := by omega
  refine ⟨s1 σ' w 1 (nI (l.length - 1)), ?_, ⟨?_, ?_, ?_, ?_⟩, Fr.trans a3 (Fr.s1 (by simp))⟩
  · unfold F_Wd_takeOut
    rw [jn_e, e, jn_e, a1, show nI l.length - 1 = nI (l.length - 1) from pk_sub (a := l.length) (b := 1) (by omega)]
  · rw [s1_at, List.length_eraseIdx_of_lt hp]
  · intro i hi
    rw [List.length_eraseIdx_of_lt hp] at hi
    rw [s1_c hne, a2 i (by omega), eraseIdx_getD]
    by_cases q : p ≤ i
    · rw [if_pos ⟨q, hi⟩, if_neg (by omega)]
    · rw [if_neg (fun z => q z.1), if_pos (by omega)]
  · rw [List.length_eraseIdx_of_lt hp]
    omega
  · exact fun x hx => h4 x (List.mem_of_mem_eraseIdx hx)
theorem insertIdx_getD (l : List Nat) (p s i : Nat) (hp : p ≤ l.length) : (l.insertIdx p s).getD i 0 = if i < p then l.getD i 0 else if i = p then s else l.getD (i - 1) 0 := by
  rw [List.getD_eq_getElem?_getD, List.getD_eq_getElem?_getD, List.getD_eq_getElem?_getD, List.getElem?_insertIdx]
  by_cases h : i < p
  · rw [if_pos h, if_pos h]
  · rw [if_neg h, if_neg h]
    by_cases h2 : i = p
    · subst h2
      rw [if_pos rfl, if_pos rfl, if_pos hp]
      rfl
    · rw [if_neg h2, if_neg h2]
theorem ins_at (s : Nat) : ∀ (a b : List Nat), (a ++ b).insertIdx a.length s = a ++ s :: b
  | [], b => List.insertIdx_zero
  | c :: a, b => by
    rw [List.cons_append, List.length_cons, List.insertIdx_succ_cons, ins_at s a b]
    rfl
theorem loopPut {w p s : Nat} {l : List Nat} (hp : p ≤ l.length) (hl : l.length < 64) {K : Int32 → GS → Option GS} : ∀ (d n : Nat) (σ : GS), p + d ≤ l.length → σ.1 w 1 = nI l.length → (∀ j, j ≤ l.length → j ≠ p + d → σ.1 (w + 1) j = nI (if j ≤ p + d then l.getD j 0 else l.getD (j - 1) 0)) → d < n →
    ∃ σ', F_Wd_putIn_15 w (nI p) (nI s) K n (nI (p + d)) σ = K (nI p) σ' ∧ σ'.1 w 1 = nI l.length ∧ (∀ j, j ≤ l.length → j ≠ p → σ'.1 (w + 1) j = nI (if j ≤ p then l.getD j 0 else l.getD (j - 1) 0)) ∧ Fr [w, w + 1] σ σ' := by
  intro d
  induction d with
  | zero =>
    intro n σ hd h1 h2 hn
    obtain ⟨m, rfl⟩ : ∃ m, n = m + 1 := ⟨n - 1, by omega⟩
    exact ⟨σ, by rw [F_Wd_putIn_15.eq_2, if_pos (nI_le (by omega) (by omega))]; rfl, h1, h2, Fr.refl _ _⟩
  | succ d ih =>
    intro n σ hd h1 h2 hn
    obtain ⟨m, rfl⟩ : ∃ m, n = m + 1 := ⟨n - 1, by omega⟩
    have hne : w + 1 ≠ w := by omega
    obtain ⟨σ', e, a1, a2, a3⟩ := ih m (s1 σ (w + 1) (p + d + 1) (nI (l.getD (p + d) 0))) (by omega) (by rw [s1_c (Ne.symm hne)]; exact h1) (fun j hj hjn => by
      by_cases e : j = p + d + 1
      · subst e
        rw [s1_at, if_neg (by omega), Nat.add_sub_cancel]
      · rw [s1_i e, h2 j hj (by omega)]
        by_cases q : j ≤ p + d
        · rw [if_pos q, if_pos (by omega)]
        · rw [if_neg q, if_neg (by omega)]) (by omega)
    refine ⟨σ', ?_, a1, a2, Fr.trans (Fr.s1 (by simp)) a3⟩
    rw [F_Wd_putIn_15.eq_2, show p + (d + 1) = p + d + 1 from rfl, if_neg (by rw [nI_leI (by omega) (by omega)]; omega), nI_pred, gi (by omega) (by decide), gi (by omega) (by decide), c31 (by omega), c31 (by omega), h2 (p + d) (by omega) (by omega), if_pos (by omega), jn_e, pk_m1]
    exact e
theorem putIn_spec {w p s : Nat} {l : List Nat} {σ : GS} (hR : Rep σ w l) (hp : p ≤ l.length) (hl : l.length < 64) (hs : s < 5) : ∃ σ', F_Wd_putIn w (nI p) (nI s) σ = some σ' ∧ Rep σ' w (l.insertIdx p s) ∧ Fr [w, w + 1] σ σ' := by
  obtain ⟨h1, h2, h3, h4⟩ := hR
  obtain ⟨σ', e, a1, a2, a3⟩ := loopPut (w := w) (s := s) hp hl (K := fun (v3_1 : Int32) (σL1 : GS) => gd (iB (nI p) 64) (jn (s1 σL1 (w + 1) (nI p).toNatClampNeg (nI s)) (fun (σ3 : GS) => jn (s1 σ3 w 1 ((σ3.1 w 1) + (1 : Int32))) (fun (σ4 : GS) => some σ4)))) (l.length - p) 50000 σ (by omega) h1 (fun j hj hjn => by rw [h2 j (by omega), if_pos (by omega)]) (by omega)
  have hne : w + 1 ≠ w := by omega
  have hlen : (l.insertIdx p s).length = l.length + 1 := by rw [List.length_insertIdx, if_pos hp]
  refine ⟨s1 (s1 σ' (w + 1) p (nI s)) w 1 (nI (l.length + 1)), ?_, ⟨?_, ?_, ?_, ?_⟩, Fr.trans a3 (Fr.trans (Fr.s1 (by simp)) (Fr.s1 (by simp)))⟩
  · unfold F_Wd_putIn
    rw [h1, if_pos (show nI l.length < 64 from nI_lt (a := l.length) (b := 64) hl (by decide)), jn_e]
    rw [show p + (l.length - p) = l.length by omega] at e
    rw [e, gi (by omega) (by decide), c31 (by omega), jn_e, jn_e, s1_c (Ne.symm hne), a1, nI_1]
  · rw [s1_at, hlen]
  · intro i hi
    rw [hlen] at hi
    rw [s1_c hne, insertIdx_getD l p s i hp]
    by_cases q : i = p
    · subst q
      rw [s1_at, if_neg (by omega), if_pos rfl]
    · rw [s1_i q, a2 i (by omega) q]
      by_cases z : i < p
      · rw [if_pos (by omega), if_pos z]
      · rw [if_neg (by omega), if_neg z, if_neg q]
  · rw [hlen]
    omega
  · intro x hx
    rcases (List.mem_insertIdx hp).mp hx with q | q
    · rw [q]; exact hs
    · exact h4 x q
theorem go_spec {w s : Nat} {l : List Nat} {σ : GS} (hR : Rep σ w l) (hl : l.length < 64) (hs : s < 5) : ∃ σ', F_Wd_go w (nI s) σ = some σ' ∧ Rep σ' w (go l s) ∧ Fr [w, w + 1] σ σ' := by
  have e := tl_app s l
  have el := congrArg List.length e
  rw [List.length_append] at el
  have hlp : (tlA s l).length ≤ l.length := by omega
  -- what is put in
  have hput : ¬ lastb l s = true → ∃ σ', F_Wd_go_62 w (nI s) σ (fun v2_5 => bv (F_Wd_putIn w v2_5 (nI s) σ) (fun (σ7 : GS) => some σ7)) 50000 (nI (tlA s l).length) = some σ' ∧ Rep σ' w (go l s) ∧ Fr [w, w + 1] σ σ' := by
    intro hn
    have hR2 : Rep σ w (tlA s l ++ tlB s l) := by rw [e]; exact hR
    have h1 := loop62 (K := fun v2_5 => bv (F_Wd_putIn w v2_5 (nI s) σ) (fun (σ7 : GS) => some σ7)) hs hR2 (tlB s l).length 0 50000 (by omega) (fun x hx => by simp at hx) (by omega)
    rw [Nat.add_zero] at h1
    have htw : ((tlB s l).takeWhile (fun x => decide (x < s))).length ≤ (tlB s l).length := (List.takeWhile_sublist _).length_le
    obtain ⟨σ', h2, h3, h4⟩ := putIn_spec hR (p := (tlA s l).length + ((tlB s l).takeWhile (fun x => decide (x < s))).length) (by omega) hl hs
    refine ⟨σ', by rw [h1, bv_s h2], ?_, h4⟩
    have eg : go l s = l.insertIdx ((tlA s l).length + ((tlB s l).takeWhile (fun x => decide (x < s))).length) s := by
      rw [go_put hn]
      unfold ins
      have e3 : tlA s l ++ (tlB s l).takeWhile (fun x => decide (x < s)) ++ (tlB s l).dropWhile (fun x => decide (x < s)) = l := by rw [List.append_assoc, List.takeWhile_append_dropWhile, e]
      have h5 := ins_at s (tlA s l ++ (tlB s l).takeWhile (fun x => decide (x < s))) ((tlB s l).dropWhile (fun x => decide (x < s)))
      rw [e3, List.length_append, List.append_assoc] at h5
      exact h5.symm
    rw [eg]
    exact h3
  unfold F_Wd_go
  rw [bp_s (stX s hs)]
  simp only [jn_e]
  rw [if_neg (by decide), hR.1, loop13 hs hR l.length 50000 (Nat.le_refl _) (by omega), sc_len]
  have hl64 := hR.2.2.1
  by_cases h0 : (tlA s l).length = 0
  · have hn : ¬ lastb l s = true := fun q => by
      have h1 := beq_iff_eq.mp q
      rw [List.length_eq_zero_iff.mp h0] at h1
      cases h1
    rw [if_pos (by rw [h0]; decide)]
    exact hput hn
  · obtain ⟨p, hp⟩ : ∃ p, (tlA s l).length = p + 1 := ⟨(tlA s l).length - 1, by omega⟩
    obtain ⟨t, ht⟩ : ∃ t, (tlA s l).getLast? = some t := by
      cases q : (tlA s l).getLast? with
      | none => rw [List.getLast?_eq_none_iff.mp q] at h0; exact absurd rfl h0
      | some t => exact ⟨t, rfl⟩
    have hdl : (tlA s l).dropLast.length = p := by rw [List.length_dropLast, hp]; rfl
    have eA := snoc_of ht
    have el2 : l = (tlA s l).dropLast ++ t :: tlB s l := by
      conv => lhs; rw [← e, eA, List.append_assoc]
      rfl
    have hgt : l.getD p 0 = t := by
      rw [el2, ← hdl]
      have := getD_r (u := (tlA s l).dropLast) (v := t :: tlB s l) (i := 0)
      rw [Nat.add_zero] at this
      rw [this]
      rfl
    have ht5 : t < 5 := by
      rw [← hgt]
      exact getD_lt hR.2.2.2 (by omega)
    rw [hp, if_neg (nI_nle (by omega) (by omega)), nI_pred, gi (by omega) (by decide), c31 (by omega), hR.2.1 p (by omega), hgt]
    by_cases hts : t = s
    · rw [if_pos (by rw [hts])]
      obtain ⟨σ', h2, h3, h4⟩ := takeOut_spec hR (p := p) (by omega)
      refine ⟨σ', by rw [bv_s h2], ?_, h4⟩
      have hlast : lastb l s = true := by
        unfold lastb
        rw [ht, hts]
        exact beq_self_eq_true _
      have eg : go l s = l.eraseIdx p := by
        rw [go_cut hlast]
        conv => rhs; rw [el2, ← hdl]
        rw [List.eraseIdx_append_of_length_le (Nat.le_refl _), Nat.sub_self]
        rfl
      rw [eg]
      exact h3
    · rw [if_neg (by rw [nI_eq (by omega) (by omega)]; exact hts)]
      have hn : ¬ lastb l s = true := fun q => by
        have h1 := beq_iff_eq.mp q
        rw [ht] at h1
        exact hts (Option.some.inj h1)
      have := hput hn
      rw [hp] at this
      exact this
