/-! the group of words: folding go; inverse, congruence; lengths -/
theorem snocRec {α : Type} {P : List α → Prop} (h0 : P []) (hs : ∀ l x, P l → P (l ++ [x])) : ∀ l, P l := by
  intro l
  have : ∀ n (l : List α), l.length = n → P l := by
    intro n
    induction n with
    | zero => intro l hl; rw [List.length_eq_zero_iff.mp hl]; exact h0
    | succ n ih =>
      intro l hl
      cases e : l.getLast? with
      | none => rw [List.getLast?_eq_none_iff.mp e]; exact h0
      | some x =>
        rw [snoc_of e]
        refine hs _ _ (ih _ ?_)
        rw [List.length_dropLast, hl]
        rfl
  exact this l.length l rfl
def good (w : List Nat) : Prop := Plain w ∧ Red w
theorem good_nil : good [] := ⟨trivial, red_nil⟩
theorem good_go {w : List Nat} (h : good w) (s : Nat) : good (go w s) := ⟨plain_go h.1 s, red_go h.2 s⟩
def fo (X u : List Nat) : List Nat := u.foldl go X
def nf (u : List Nat) : List Nat := fo [] u
def rd (u : List Nat) : List Nat := u.foldl tm []
theorem fo_nil (X : List Nat) : fo X [] = X := rfl
theorem fo_cons (X : List Nat) (s : Nat) (u : List Nat) : fo X (s :: u) = fo (go X s) u := rfl
theorem fo_app (X u v : List Nat) : fo X (u ++ v) = fo (fo X u) v := List.foldl_append ..
theorem fo_snoc (X u : List Nat) (s : Nat) : fo X (u ++ [s]) = go (fo X u) s := by rw [fo_app]; rfl
theorem good_fo {X : List Nat} (h : good X) : ∀ u, good (fo X u)
  | [] => h
  | s :: u => good_fo (good_go h s) u
theorem good_nf (u : List Nat) : good (nf u) := good_fo good_nil u
theorem fo_rev {X : List Nat} (h : good X) : ∀ u : List Nat, fo X (u ++ u.reverse) = X
  | [] => rfl
  | s :: u => by
    rw [List.reverse_cons, ← List.append_assoc, fo_snoc, List.cons_append, fo_cons, fo_rev (good_go h s) u]
    exact go_go h.1 h.2 s
theorem fo_rev2 {X : List Nat} (h : good X) (u : List Nat) : fo X (u.reverse ++ u) = X := by
  have := fo_rev h u.reverse
  rw [List.reverse_reverse] at this
  exact this
theorem fo_move {s : Nat} : ∀ {X B : List Nat}, good X → (∀ z ∈ B, nb z s = true) → fo X (s :: B) = go (fo X B) s
  | _, [], _, _ => rfl
  | X, c :: B, h, hB => by
    have hc : nb s c = true := by rw [nb_comm]; exact hB c List.mem_cons_self
    rw [fo_cons, fo_cons, go_comm h.1 hc, fo_cons]
    exact fo_move (good_go h c) (fun z hz => hB z (List.mem_cons_of_mem _ hz))
theorem go_cut {w : List Nat} {s : Nat} (hl : lastb w s = true) : go w s = (tlA s w).dropLast ++ tlB s w := by unfold go; rw [if_pos hl]
theorem go_put {w : List Nat} {s : Nat} (hl : ¬ lastb w s = true) : go w s = tlA s w ++ ins s (tlB s w) := by unfold go; rw [if_neg hl]
theorem fo_go {X : List Nat} (h : good X) (w : List Nat) (s : Nat) : fo X (go w s) = go (fo X w) s := by
  have e := tl_app s w
  by_cases hl : lastb w s = true
  · rw [go_cut hl, fo_app]
    have e2 := snoc_of (beq_iff_eq.mp hl)
    conv => rhs; rw [← e, e2, List.append_assoc, fo_app]
    have hg := good_fo h (tlA s w).dropLast
    rw [show [s] ++ tlB s w = s :: tlB s w from rfl, fo_move hg (tlB_nb s w)]
    have hg2 := good_fo hg (tlB s w)
    exact (go_go hg2.1 hg2.2 s).symm
  · rw [go_put hl, fo_app]
    unfold ins
    have hg := good_fo h (tlA s w)
    rw [fo_app, fo_move (good_fo hg _) (fun z hz => tlB_nb s w z (ins_mem (Or.inr hz))), ← fo_app, List.takeWhile_append_dropWhile, ← fo_app, e]
/-- where a word leads depends on its crossing alone -/
theorem fo_nf {X : List Nat} (h : good X) (u : List Nat) : fo X (nf u) = fo X u := by
  have key : ∀ (v Y : List Nat), fo X (fo Y v) = fo (fo X Y) v := by
    intro v
    induction v with
    | nil => intro Y; rfl
    | cons s v ih =>
      intro Y
      rw [fo_cons, ih, fo_go h, ← fo_cons]
  exact key u []
theorem nf_nf (u : List Nat) : nf (nf u) = nf u := fo_nf good_nil u
theorem nf_app (u v : List Nat) : nf (u ++ v) = fo (nf u) v := fo_app [] u v
theorem nf_app2 (u v : List Nat) : nf (u ++ v) = nf (nf u ++ nf v) := by
  rw [nf_app, nf_app, nf_nf, fo_nf (good_nf u)]
theorem nf_rev (u : List Nat) : nf (nf u).reverse = nf u.reverse := by
  have h1 : nf (u.reverse ++ (nf u ++ (nf u).reverse)) = nf u.reverse := by
    rw [nf_app, fo_rev (good_nf _)]
  have h2 : fo (nf u.reverse) (nf u) = [] := by
    rw [fo_nf (good_nf _), ← nf_app]
    exact fo_rev2 good_nil u
  rw [nf_app, fo_app, h2] at h1
  exact h1
/-- a reduced word is only put together by the steps -/
theorem eqv_red : ∀ v : List Nat, Red v → eqv (nf v) v := by
  refine snocRec (fun _ => eqv.refl _) fun v s ih hr => ?_
  have h1 := ih (red_pre hr)
  have hl : lastb v s = false := hr v s [] rfl
  intro a b hab
  unfold nf
  rw [fo_snoc, pr_go hab]
  have e1 : lastb (fo [] v) s = false := by rw [last_eqv (u := fo [] v) h1 s]; exact hl
  rw [e1, show fo [] v = nf v from rfl, h1 a b hab, pr_app]
  simp only [Bool.false_eq_true, if_false]
  by_cases ha : a = s
  · subst ha
    rw [if_pos (Or.inl rfl), pr_one_s]
  · by_cases hb : b = s
    · subst hb
      rw [if_pos (Or.inr rfl), pr_comm a b [b], pr_one_s]
    · rw [if_neg (fun q => q.elim ha hb), pr_one_o (Ne.symm ha) (Ne.symm hb), List.append_nil]
theorem nf_of_good {w : List Nat} (h : good w) : nf w = w := by
  exact plain_uniq (good_nf w).1 h.1 (eqv_red w h.2)
theorem eqv_rd : ∀ u : List Nat, eqv (nf u) (rd u) := by
  refine snocRec (eqv.refl _) fun u s ih => ?_
  unfold nf rd
  rw [fo_snoc, List.foldl_append]
  exact eqv_step ih s
-- valid words, lengths
def wv (w : List Nat) : Prop := ∀ x ∈ w, x < 5
theorem wv_nil : wv [] := fun _ h => by cases h
theorem wv_app {u v : List Nat} (hu : wv u) (hv : wv v) : wv (u ++ v) := fun x hx => (List.mem_append.mp hx).elim (hu x) (hv x)
theorem wv_l {u v : List Nat} (h : wv (u ++ v)) : wv u := fun x hx => h x (List.mem_append_left _ hx)
theorem wv_r {u v : List Nat} (h : wv (u ++ v)) : wv v := fun x hx => h x (List.mem_append_right _ hx)
theorem wv_rev {u : List Nat} (h : wv u) : wv u.reverse := fun x hx => h x (List.mem_reverse.mp hx)
theorem wv_cut {w : List Nat} (h : wv w) (s : Nat) : wv ((tlA s w).dropLast ++ tlB s w) := by
  have h1 : wv (tlA s w ++ tlB s w) := by rw [tl_app]; exact h
  exact wv_app (fun x hx => wv_l h1 x (List.dropLast_subset _ hx)) (wv_r h1)
theorem wv_go {w : List Nat} (h : wv w) {s : Nat} (hs : s < 5) : wv (go w s) := by
  unfold go
  have h1 : wv (tlA s w ++ tlB s w) := by rw [tl_app]; exact h
  by_cases hl : lastb w s = true
  · rw [if_pos hl]
    exact wv_cut h s
  · rw [if_neg hl]
    refine wv_app (wv_l h1) fun x hx => ?_
    unfold ins at hx
    rcases List.mem_append.mp hx with q | q
    · exact wv_r h1 x (ins_mem (Or.inl q))
    · rcases List.mem_cons.mp q with q | q
      · rw [q]; exact hs
      · exact wv_r h1 x (ins_mem (Or.inr q))
theorem wv_tm {w : List Nat} (h : wv w) {s : Nat} (hs : s < 5) : wv (tm w s) := by
  unfold tm
  by_cases hl : lastb w s = true
  · rw [if_pos hl]
    exact wv_cut h s
  · rw [if_neg hl]
    exact wv_app h fun x hx => by rw [List.mem_singleton.mp hx]; exact hs
theorem wv_fo {X u : List Nat} (hX : wv X) (hu : wv u) : wv (fo X u) := by
  induction u generalizing X with
  | nil => exact hX
  | cons s u ih => exact ih (wv_go hX (hu s List.mem_cons_self)) (fun x hx => hu x (List.mem_cons_of_mem _ hx))
theorem wv_nf {u : List Nat} (hu : wv u) : wv (nf u) := wv_fo wv_nil hu
theorem wv_rd {u : List Nat} (hu : wv u) : wv (rd u) := by
  have : ∀ (u X : List Nat), wv X → wv u → wv (u.foldl tm X) := by
    intro u
    induction u with
    | nil => intro X hX _; exact hX
    | cons s u ih => intro X hX hu; exact ih _ (wv_tm hX (hu s List.mem_cons_self)) (fun x hx => hu x (List.mem_cons_of_mem _ hx))
  exact this u [] wv_nil hu
theorem len_pr : ∀ {w : List Nat}, wv w → w.length = (pr 0 0 w).length + (pr 1 1 w).length + (pr 2 2 w).length + (pr 3 3 w).length + (pr 4 4 w).length
  | [], _ => rfl
  | a :: w, h => by
    have ih := len_pr (w := w) (fun x hx => h x (List.mem_cons_of_mem _ hx))
    have ha : a < 5 := h a List.mem_cons_self
    unfold pr at ih ⊢
    simp only [List.filter_cons, List.length_cons]
    match a, ha with
    | 0, _ => simp at ih ⊢; omega
    | 1, _ => simp at ih ⊢; omega
    | 2, _ => simp at ih ⊢; omega
    | 3, _ => simp at ih ⊢; omega
    | 4, _ => simp at ih ⊢; omega
theorem len_eqv {u v : List Nat} (hu : wv u) (hv : wv v) (h : eqv u v) : u.length = v.length := by
  rw [len_pr hu, len_pr hv, h 0 0 (nb_self 0), h 1 1 (nb_self 1), h 2 2 (nb_self 2), h 3 3 (nb_self 3), h 4 4 (nb_self 4)]
theorem len_rd {u : List Nat} (hu : wv u) : (rd u).length = (nf u).length := (len_eqv (wv_nf hu) (wv_rd hu) (eqv_rd u)).symm
theorem len_go (w : List Nat) (s : Nat) : (go w s).length = if lastb w s = true then w.length - 1 else w.length + 1 := by
  have e := congrArg List.length (tl_app s w)
  rw [List.length_append] at e
  unfold go
  by_cases hl : lastb w s = true
  · rw [if_pos hl, if_pos hl, List.length_append, List.length_dropLast]
    have : (tlA s w).length ≠ 0 := fun q => by
      have h1 := beq_iff_eq.mp hl
      rw [List.length_eq_zero_iff.mp q] at h1
      cases h1
    omega
  · rw [if_neg hl, if_neg hl, List.length_append]
    unfold ins
    rw [List.length_append, List.length_cons]
    have e2 := congrArg List.length (List.takeWhile_append_dropWhile (p := fun x => decide (x < s)) (l := tlB s w))
    rw [List.length_append] at e2
    omega
theorem len_go_le (w : List Nat) (s : Nat) : (go w s).length ≤ w.length + 1 := by
  rw [len_go]
  split <;> omega
theorem len_fo_le (X u : List Nat) : (fo X u).length ≤ X.length + u.length := by
  induction u generalizing X with
  | nil => exact Nat.le_refl _
  | cons s u ih =>
    have := ih (go X s)
    have := len_go_le X s
    rw [fo_cons, List.length_cons]
    omega
theorem len_nf_le (u : List Nat) : (nf u).length ≤ u.length := by
  have := len_fo_le [] u
  rw [List.length_nil, Nat.zero_add] at this
  exact this
theorem len_nf_rev {u : List Nat} (hu : wv u) : (nf u.reverse).length = (nf u).length := by
  have h1 : ∀ {u : List Nat}, (nf u.reverse).length ≤ (nf u).length := fun {u} => by
    rw [← nf_rev]
    have := len_nf_le (nf u).reverse
    rw [List.length_reverse] at this
    exact this
  have h2 := h1 (u := u)
  have h3 := h1 (u := u.reverse)
  rw [List.reverse_reverse] at h3
  omega
