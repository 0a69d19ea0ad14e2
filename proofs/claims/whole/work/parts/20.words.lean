/-! words of streets: commutation classes by projections, the plain word, the reduced word -/
def nb (x y : Nat) : Bool := decide ((x + 1) % 5 = y ∨ (y + 1) % 5 = x)
theorem nb_comm (x y : Nat) : nb x y = nb y x := by
  unfold nb
  exact decide_eq_decide.mpr ⟨fun h => h.symm, fun h => h.symm⟩
theorem nb_self (x : Nat) : nb x x = false := by
  unfold nb
  refine decide_eq_false fun h => ?_
  omega
theorem nb_ne {x y : Nat} (h : nb x y = true) : x ≠ y := fun e => by
  subst e
  rw [nb_self] at h
  cases h
def pr (s t : Nat) (w : List Nat) : List Nat := w.filter (fun x => x == s || x == t)
theorem pr_app (s t : Nat) (u v : List Nat) : pr s t (u ++ v) = pr s t u ++ pr s t v := List.filter_append ..
theorem pr_comm (s t : Nat) (w : List Nat) : pr s t w = pr t s w := by
  unfold pr
  congr 1
  funext x
  rw [Bool.or_comm]
theorem pr_nil (s t : Nat) : pr s t [] = [] := rfl
theorem pr_none {s t : Nat} {w : List Nat} (h : ∀ x ∈ w, x ≠ s ∧ x ≠ t) : pr s t w = [] := by
  unfold pr
  rw [List.filter_eq_nil_iff]
  intro x hx
  have := h x hx
  simp [this.1, this.2]
theorem pr_nb {s t : Nat} {w : List Nat} (ht : nb s t = false) (h : ∀ x ∈ w, nb x s = true) : pr s t w = [] :=
  pr_none fun x hx => ⟨nb_ne (h x hx), fun e => by
    have := h x hx
    rw [e, nb_comm, ht] at this
    cases this⟩
theorem pr_one_s (s t : Nat) : pr s t [s] = [s] := by simp [pr]
theorem pr_one_o {s t x : Nat} (h1 : x ≠ s) (h2 : x ≠ t) : pr s t [x] = [] := pr_none fun y hy => by
  rw [List.mem_singleton.mp hy]
  exact ⟨h1, h2⟩
def eqv (u v : List Nat) : Prop := ∀ s t, nb s t = false → pr s t u = pr s t v
theorem eqv.refl (u : List Nat) : eqv u u := fun _ _ _ => rfl
theorem eqv.symm {u v : List Nat} (h : eqv u v) : eqv v u := fun s t q => (h s t q).symm
theorem eqv.trans {u v w : List Nat} (h : eqv u v) (h2 : eqv v w) : eqv u w := fun s t q => (h s t q).trans (h2 s t q)
-- the tail of neighbours
def tlB (s : Nat) (w : List Nat) : List Nat := (w.reverse.takeWhile (fun x => nb x s)).reverse
def tlA (s : Nat) (w : List Nat) : List Nat := (w.reverse.dropWhile (fun x => nb x s)).reverse
theorem tl_app (s : Nat) (w : List Nat) : tlA s w ++ tlB s w = w := by
  unfold tlA tlB
  rw [← List.reverse_append, List.takeWhile_append_dropWhile, List.reverse_reverse]
theorem tlB_nb (s : Nat) (w : List Nat) : ∀ x ∈ tlB s w, nb x s = true := by
  intro x hx
  unfold tlB at hx
  rw [List.mem_reverse] at hx
  exact List.all_eq_true.mp List.all_takeWhile x hx
theorem tlA_last (s : Nat) (w : List Nat) (t : Nat) (h : (tlA s w).getLast? = some t) : nb t s = false := by
  unfold tlA at h
  rw [List.getLast?_reverse] at h
  have := List.head?_dropWhile_not (fun x => nb x s) w.reverse
  rw [h] at this
  simpa using this
/-- s can be left out at the end -/
def lastb (w : List Nat) (s : Nat) : Bool := (tlA s w).getLast? == some s
theorem pr_tl {s t : Nat} (ht : nb s t = false) (w : List Nat) : pr s t w = pr s t (tlA s w) := by
  have e := congrArg (pr s t) (tl_app s w)
  rw [pr_app, pr_nb ht (tlB_nb s w), List.append_nil] at e
  exact e.symm
theorem snoc_of {α : Type} {l : List α} {x : α} (h : l.getLast? = some x) : l = l.dropLast ++ [x] := by
  obtain ⟨ys, rfl⟩ := List.getLast?_eq_some_iff.mp h
  rw [List.dropLast_concat]
theorem last_pr {w : List Nat} {s : Nat} (h : lastb w s = true) : ∀ t, nb s t = false → (pr s t w).getLast? = some s := by
  intro t ht
  rw [pr_tl ht, snoc_of (beq_iff_eq.mp h), pr_app, pr_one_s]
  simp
theorem last_of_pr {w : List Nat} {s : Nat} (h : ∀ t, nb s t = false → (pr s t w).getLast? = some s) : lastb w s = true := by
  cases e : (tlA s w).getLast? with
  | none =>
    have h1 := h s (nb_self s)
    rw [pr_tl (nb_self s), List.getLast?_eq_none_iff.mp e] at h1
    cases h1
  | some t =>
    have ht := tlA_last s w t e
    have h1 := h t (by rw [nb_comm]; exact ht)
    have h2 : pr s t [t] = [t] := by simp [pr]
    rw [pr_tl (by rw [nb_comm]; exact ht), snoc_of e, pr_app, h2, List.getLast?_append] at h1
    simp at h1
    unfold lastb
    rw [e, h1]
    exact beq_self_eq_true _
theorem last_eqv {u v : List Nat} (h : eqv u v) (s : Nat) : lastb u s = lastb v s := by
  cases hu : lastb u s with
  | true =>
    exact (last_of_pr fun t ht => by rw [← h s t ht]; exact last_pr hu t ht).symm
  | false =>
    cases hv : lastb v s with
    | false => rfl
    | true =>
      have := last_of_pr (w := u) (s := s) fun t ht => by rw [h s t ht]; exact last_pr hv t ht
      rw [hu] at this
      cases this
def ins (s : Nat) (b : List Nat) : List Nat := b.takeWhile (fun x => decide (x < s)) ++ s :: b.dropWhile (fun x => decide (x < s))
/-- the class's step (kept plain), the model's step (kept as it comes) -/
def go (w : List Nat) (s : Nat) : List Nat := if lastb w s = true then (tlA s w).dropLast ++ tlB s w else tlA s w ++ ins s (tlB s w)
def tm (w : List Nat) (s : Nat) : List Nat := if lastb w s = true then (tlA s w).dropLast ++ tlB s w else w ++ [s]
theorem pr_cut {w : List Nat} {s : Nat} (h : lastb w s = true) {u v : Nat} (huv : nb u v = false) :
    pr u v ((tlA s w).dropLast ++ tlB s w) = if u = s ∨ v = s then (pr u v w).dropLast else pr u v w := by
  have hs := snoc_of (beq_iff_eq.mp h)
  by_cases hu : u = s
  · subst hu
    rw [if_pos (Or.inl rfl), pr_tl huv w, pr_app, pr_nb huv (tlB_nb u w), List.append_nil]
    conv => rhs; rw [hs, pr_app, pr_one_s]
    simp
  · by_cases hv : v = s
    · subst hv
      have hvu : nb v u = false := by rw [nb_comm]; exact huv
      rw [if_pos (Or.inr rfl), pr_comm u v, pr_comm u v, pr_tl hvu w, pr_app, pr_nb hvu (tlB_nb v w), List.append_nil]
      conv => rhs; rw [hs, pr_app, pr_one_s]
      simp
    · rw [if_neg (fun q => q.elim hu hv)]
      conv => rhs; rw [← tl_app s w, hs]
      rw [pr_app, pr_app, pr_app, pr_one_o (Ne.symm hu) (Ne.symm hv), List.append_nil]
theorem pr_ins (u v s : Nat) (b : List Nat) : pr u v (ins s b) = pr u v (b.takeWhile (fun x => decide (x < s))) ++ (pr u v [s] ++ pr u v (b.dropWhile (fun x => decide (x < s)))) := by
  unfold ins
  rw [pr_app, show s :: b.dropWhile (fun x => decide (x < s)) = [s] ++ b.dropWhile (fun x => decide (x < s)) from rfl, pr_app]
theorem ins_mem {s : Nat} {b : List Nat} {x : Nat} (h : x ∈ b.takeWhile (fun x => decide (x < s)) ∨ x ∈ b.dropWhile (fun x => decide (x < s))) : x ∈ b := by
  rw [← List.takeWhile_append_dropWhile (p := fun x => decide (x < s)) (l := b), List.mem_append]
  exact h
theorem pr_put {w : List Nat} {s : Nat} {u v : Nat} (huv : nb u v = false) :
    pr u v (tlA s w ++ ins s (tlB s w)) = if u = s ∨ v = s then pr u v w ++ [s] else pr u v w := by
  by_cases hu : u = s
  · subst hu
    rw [if_pos (Or.inl rfl), pr_tl huv w, pr_app, pr_ins, pr_nb huv (fun x hx => tlB_nb u w x (ins_mem (Or.inl hx))), pr_nb huv (fun x hx => tlB_nb u w x (ins_mem (Or.inr hx))), pr_one_s]
    rfl
  · by_cases hv : v = s
    · subst hv
      have hvu : nb v u = false := by rw [nb_comm]; exact huv
      rw [if_pos (Or.inr rfl), pr_comm u v, pr_comm u v w, pr_tl hvu w, pr_app, pr_ins, pr_nb hvu (fun x hx => tlB_nb v w x (ins_mem (Or.inl hx))), pr_nb hvu (fun x hx => tlB_nb v w x (ins_mem (Or.inr hx))), pr_one_s]
      rfl
    · rw [if_neg (fun q => q.elim hu hv), pr_app, pr_ins, pr_one_o (Ne.symm hu) (Ne.symm hv), List.nil_append, ← pr_app, List.takeWhile_append_dropWhile, ← pr_app, tl_app]
theorem pr_go {w : List Nat} {s u v : Nat} (huv : nb u v = false) : pr u v (go w s) = if u = s ∨ v = s then (if lastb w s = true then (pr u v w).dropLast else pr u v w ++ [s]) else pr u v w := by
  unfold go
  by_cases h : lastb w s = true
  · rw [if_pos h, pr_cut h huv, if_pos h]
  · rw [if_neg h, pr_put huv, if_neg h]
theorem pr_tm {w : List Nat} {s u v : Nat} (huv : nb u v = false) : pr u v (tm w s) = if u = s ∨ v = s then (if lastb w s = true then (pr u v w).dropLast else pr u v w ++ [s]) else pr u v w := by
  unfold tm
  by_cases h : lastb w s = true
  · rw [if_pos h, pr_cut h huv, if_pos h]
  · rw [if_neg h, pr_app, if_neg h]
    by_cases hu : u = s
    · subst hu
      rw [if_pos (Or.inl rfl), pr_one_s]
    · by_cases hv : v = s
      · subst hv
        rw [if_pos (Or.inr rfl), pr_comm u v [v], pr_one_s]
      · rw [if_neg (fun q => q.elim hu hv), pr_one_o (Ne.symm hu) (Ne.symm hv), List.append_nil]
/-- the class's word and the model's stay of one kind -/
theorem eqv_step {u v : List Nat} (h : eqv u v) (s : Nat) : eqv (go u s) (tm v s) := fun a b hab => by
  rw [pr_go hab, pr_tm hab, h a b hab, last_eqv h s]
theorem eqv_go {u v : List Nat} (h : eqv u v) (s : Nat) : eqv (go u s) (go v s) := fun a b hab => by
  rw [pr_go hab, pr_go hab, h a b hab, last_eqv h s]
-- first streets, the plain word
def fstB (w : List Nat) (s : Nat) : Prop := ∃ a b, w = a ++ s :: b ∧ ∀ x ∈ a, nb x s = true
theorem fst_pr {w : List Nat} {s : Nat} (h : fstB w s) : ∀ t, nb s t = false → (pr s t w).head? = some s := by
  obtain ⟨a, b, rfl, ha⟩ := h
  intro t ht
  rw [pr_app, pr_nb ht ha, List.nil_append]
  simp [pr]
theorem fst_of_pr {w : List Nat} {s : Nat} (h : ∀ t, nb s t = false → (pr s t w).head? = some s) : fstB w s := by
  have e : w.takeWhile (fun x => nb x s) ++ w.dropWhile (fun x => nb x s) = w := List.takeWhile_append_dropWhile
  have hn : ∀ x ∈ w.takeWhile (fun x => nb x s), nb x s = true := fun x hx => List.all_eq_true.mp List.all_takeWhile x hx
  cases hd : w.dropWhile (fun x => nb x s) with
  | nil =>
    have h1 := h s (nb_self s)
    rw [hd, List.append_nil] at e
    rw [← e, pr_nb (nb_self s) hn] at h1
    cases h1
  | cons t b =>
    have ht : nb t s = false := by
      have := List.head?_dropWhile_not (fun x => nb x s) w
      rw [hd] at this
      simpa using this
    have h1 := h t (by rw [nb_comm]; exact ht)
    rw [hd] at e
    rw [← e, pr_app, pr_nb (by rw [nb_comm]; exact ht) hn, List.nil_append] at h1
    have h2 : pr s t (t :: b) = t :: pr s t b := by simp [pr]
    rw [h2] at h1
    have h3 : t = s := Option.some.inj h1
    subst h3
    exact ⟨_, b, e.symm, hn⟩
theorem fst_eqv {u v : List Nat} (h : eqv u v) {s : Nat} (hs : fstB u s) : fstB v s := fst_of_pr fun t ht => by rw [← h s t ht]; exact fst_pr hs t ht
def Plain : List Nat → Prop
  | [] => True
  | a :: u => (∀ s, fstB (a :: u) s → a ≤ s) ∧ Plain u
theorem fst_head (a : Nat) (u : List Nat) : fstB (a :: u) a := ⟨[], u, rfl, fun _ h => by cases h⟩
theorem plain_uniq : ∀ {u v : List Nat}, Plain u → Plain v → eqv u v → u = v
  | [], [], _, _, _ => rfl
  | [], b :: v, _, _, h => by
    have := h b b (nb_self b)
    simp [pr] at this
  | a :: u, [], _, _, h => by
    have := h a a (nb_self a)
    simp [pr] at this
  | a :: u, b :: v, hu, hv, h => by
    have h1 := hv.1 a (fst_eqv h (fst_head a u))
    have h2 := hu.1 b (fst_eqv h.symm (fst_head b v))
    have e : a = b := by omega
    subst e
    have ht : eqv u v := fun s t hst => by
      have := h s t hst
      unfold pr at this ⊢
      rw [List.filter_cons, List.filter_cons] at this
      by_cases hc : (a == s || a == t) = true
      · rw [if_pos hc, if_pos hc] at this
        exact (List.cons.inj this).2
      · rw [if_neg hc, if_neg hc] at this
        exact this
    rw [plain_uniq hu.2 hv.2 ht]

-- leaving out, putting in
theorem fst_del {x y : List Nat} {s r : Nat} (h : fstB (x ++ s :: y) r) (hr : r ≠ s) : fstB (x ++ y) r := by
  obtain ⟨a, b, e, ha⟩ := h
  rcases List.append_eq_append_iff.mp e with ⟨c, hc1, hc2⟩ | ⟨c, hc1, hc2⟩
  · -- a = x ++ c, s :: y = c ++ r :: b
    cases c with
    | nil =>
      rw [List.nil_append] at hc2
      exact absurd (List.cons.inj hc2).1.symm hr
    | cons d c =>
      obtain ⟨e1, e2⟩ := List.cons.inj hc2
      have e2 : y = c ++ r :: b := e2
      exact ⟨x ++ c, b, by rw [e2, List.append_assoc], fun z hz => ha z (by rw [hc1]; rcases List.mem_append.mp hz with q | q <;> simp [q])⟩
  · -- x = a ++ c, r :: b = c ++ s :: y
    cases c with
    | nil =>
      rw [List.nil_append] at hc2
      exact absurd (List.cons.inj hc2).1 hr
    | cons d c =>
      obtain ⟨e1, e2⟩ := List.cons.inj hc2
      subst e1
      exact ⟨a, c ++ y, by rw [hc1, List.append_assoc]; rfl, ha⟩
theorem fst_add {x y : List Nat} {s r : Nat} (hy : ∀ z ∈ y, nb z s = true) (h : fstB (x ++ y) r) : fstB (x ++ s :: y) r := by
  obtain ⟨a, b, e, ha⟩ := h
  rcases List.append_eq_append_iff.mp e with ⟨c, hc1, hc2⟩ | ⟨c, hc1, hc2⟩
  · -- a = x ++ c, y = c ++ r :: b
    refine ⟨x ++ s :: c, b, by rw [hc2, List.append_assoc]; rfl, fun z hz => ?_⟩
    have hr : nb r s = true := hy r (by rw [hc2]; simp)
    rcases List.mem_append.mp hz with q | q
    · exact ha z (by rw [hc1]; simp [q])
    · rcases List.mem_cons.mp q with q | q
      · rw [q, nb_comm]; exact hr
      · exact ha z (by rw [hc1]; simp [q])
  · -- x = a ++ c, r :: b = c ++ y
    cases c with
    | nil =>
      rw [List.nil_append] at hc2
      rw [List.append_nil] at hc1
      subst hc1
      have hr : nb r s = true := hy r (by rw [← hc2]; simp)
      refine ⟨x ++ [s], b, by rw [← hc2, List.append_assoc]; rfl, fun z hz => ?_⟩
      rcases List.mem_append.mp hz with q | q
      · exact ha z q
      · rw [List.mem_singleton.mp q, nb_comm]; exact hr
    | cons d c =>
      obtain ⟨e1, e2⟩ := List.cons.inj hc2
      subst e1
      exact ⟨a, c ++ s :: y, by rw [hc1, List.append_assoc]; rfl, ha⟩
theorem plain_tail : ∀ {x y : List Nat}, Plain (x ++ y) → Plain y
  | [], _, h => h
  | _ :: x, _, h => plain_tail (x := x) h.2
theorem plain_del {s : Nat} {b : List Nat} (hb : ∀ z ∈ b, nb z s = true) : ∀ {a : List Nat}, Plain (a ++ s :: b) → Plain (a ++ b)
  | [], h => h.2
  | c :: a, h => ⟨fun r hr => h.1 r (fst_add (x := c :: a) hb hr), plain_del hb h.2⟩
theorem ins_cons_lt {s c : Nat} {b : List Nat} (h : c < s) : ins s (c :: b) = c :: ins s b := by
  unfold ins
  rw [List.takeWhile_cons, List.dropWhile_cons]
  simp [h]
theorem ins_cons_ge {s c : Nat} {b : List Nat} (h : ¬ c < s) : ins s (c :: b) = s :: c :: b := by
  unfold ins
  rw [List.takeWhile_cons, List.dropWhile_cons]
  simp [h]
theorem plain_ins {s : Nat} : ∀ {b : List Nat}, (∀ z ∈ b, nb z s = true) → Plain b → Plain (ins s b)
  | [], _, _ => ⟨fun r hr => by
      obtain ⟨a, b, e, -⟩ := hr
      cases a with
      | nil => exact Nat.le_of_eq (List.cons.inj e).1
      | cons d a =>
        have := (List.cons.inj e).2
        simp at this, trivial⟩
  | c :: b, hb, h => by
    by_cases hc : c < s
    · rw [ins_cons_lt hc]
      refine ⟨fun r hr => ?_, plain_ins (fun z hz => hb z (List.mem_cons_of_mem _ hz)) h.2⟩
      by_cases e : r = s
      · omega
      · unfold ins at hr
        have := fst_del (x := c :: b.takeWhile (fun x => decide (x < s))) hr e
        rw [List.cons_append, List.takeWhile_append_dropWhile] at this
        exact h.1 r this
    · rw [ins_cons_ge hc]
      refine ⟨fun r hr => ?_, h⟩
      by_cases e : r = s
      · omega
      · have := h.1 r (fst_del (x := []) hr e)
        omega
theorem plain_put {s : Nat} {b : List Nat} (hb : ∀ z ∈ b, nb z s = true) : ∀ {a : List Nat}, (∀ t, a.getLast? = some t → nb t s = false) → Plain (a ++ b) → Plain (a ++ ins s b)
  | [], _, h => plain_ins hb h
  | c :: a, ha, h => by
    refine ⟨fun r hr => ?_, plain_put hb (fun t ht => ha t (by rw [List.getLast?_cons, ht]; rfl)) h.2⟩
    by_cases e : r = s
    · subst e
      obtain ⟨x, y, e, hx⟩ := hr
      rcases List.append_eq_append_iff.mp (show (c :: a) ++ ins r b = x ++ r :: y from e) with ⟨d, hd1, hd2⟩ | ⟨d, hd1, hd2⟩
      · -- x = (c :: a) ++ d: the last of c :: a is among x
        exfalso
        cases hl : (c :: a).getLast? with
        | none => simp at hl
        | some t =>
          have h1 := ha t hl
          have h2 : t ∈ x := by
            rw [hd1, List.mem_append]
            exact Or.inl (List.mem_of_getLast? hl)
          rw [hx t h2] at h1
          cases h1
      · cases d with
        | nil =>
          rw [List.append_nil] at hd1
          exfalso
          cases hl : (c :: a).getLast? with
          | none => simp at hl
          | some t =>
            have h1 := ha t hl
            have h2 : t ∈ x := by
              rw [← hd1]
              exact List.mem_of_getLast? hl
            rw [hx t h2] at h1
            cases h1
        | cons f d =>
          obtain ⟨e1, e2⟩ := List.cons.inj hd2
          subst e1
          refine h.1 r ⟨x, d ++ b, ?_, hx⟩
          show (c :: a) ++ b = _
          rw [hd1, List.append_assoc]
          rfl
    · unfold ins at hr
      have hr : fstB (((c :: a) ++ b.takeWhile (fun x => decide (x < s))) ++ s :: b.dropWhile (fun x => decide (x < s))) r := by rw [List.append_assoc]; exact hr
      have := fst_del hr e
      rw [List.append_assoc, List.takeWhile_append_dropWhile] at this
      exact h.1 r this
theorem plain_go {w : List Nat} (h : Plain w) (s : Nat) : Plain (go w s) := by
  unfold go
  have h1 : Plain (tlA s w ++ tlB s w) := by rw [tl_app]; exact h
  by_cases hl : lastb w s = true
  · rw [if_pos hl]
    refine plain_del (s := s) (tlB_nb s w) ?_
    have e := snoc_of (beq_iff_eq.mp hl)
    rw [e, List.append_assoc] at h1
    exact h1
  · rw [if_neg hl]
    exact plain_put (tlB_nb s w) (fun t ht => tlA_last s w t ht) h1
-- reduced words
def Red (w : List Nat) : Prop := ∀ x s z, w = x ++ s :: z → lastb x s = false
theorem red_nil : Red [] := fun x s z e => by
  cases x <;> cases e
theorem last_pr_eq {u v : List Nat} {s : Nat} (h : ∀ t, nb s t = false → pr s t u = pr s t v) : lastb u s = lastb v s := by
  cases hu : lastb u s with
  | true =>
    exact (last_of_pr fun t ht => by rw [← h t ht]; exact last_pr hu t ht).symm
  | false =>
    cases hv : lastb v s with
    | false => rfl
    | true =>
      have := last_of_pr (w := u) (s := s) fun t ht => by rw [h t ht]; exact last_pr hv t ht
      rw [hu] at this
      cases this
theorem last_skip {x y : List Nat} {r s : Nat} (h : nb r s = true) : lastb (x ++ s :: y) r = lastb (x ++ y) r := last_pr_eq fun t ht => by
  rw [pr_app, pr_app, show s :: y = [s] ++ y from rfl, pr_app, pr_one_o (Ne.symm (nb_ne h)) (fun e => by rw [e] at h; rw [h] at ht; cases ht), List.nil_append]
theorem last_tail {x y : List Nat} {s : Nat} (h : ∀ z ∈ y, nb z s = true) : lastb (x ++ y) s = lastb x s := last_pr_eq fun t ht => by
  rw [pr_app, pr_nb ht h, List.append_nil]
theorem red_pre {x y : List Nat} (h : Red (x ++ y)) : Red x := fun a s z e => h a s (z ++ y) (by rw [e, List.append_assoc]; rfl)
theorem red_del {a b : List Nat} {s : Nat} (hb : ∀ z ∈ b, nb z s = true) (h : Red (a ++ s :: b)) : Red (a ++ b) ∧ lastb (a ++ b) s = false := by
  refine ⟨fun x r z e => ?_, by rw [last_tail hb]; exact h a s b rfl⟩
  rcases List.append_eq_append_iff.mp e with ⟨c, hc1, hc2⟩ | ⟨c, hc1, hc2⟩
  · -- x = a ++ c, b = c ++ r :: z
    have h1 := h (a ++ s :: c) r z (by rw [hc2, List.append_assoc]; rfl)
    have hr : nb r s = true := hb r (by rw [hc2]; simp)
    rw [last_skip hr] at h1
    rw [hc1]
    exact h1
  · -- a = x ++ c, r :: z = c ++ b
    cases c with
    | nil =>
      rw [List.nil_append] at hc2
      rw [List.append_nil] at hc1
      subst hc1
      have hr : nb r s = true := hb r (by rw [← hc2]; simp)
      have h1 := h (a ++ [s]) r z (by rw [← hc2, List.append_assoc]; rfl)
      rw [last_skip hr, List.append_nil] at h1
      exact h1
    | cons d c =>
      obtain ⟨e1, e2⟩ := List.cons.inj hc2
      subst e1
      exact h x r (c ++ s :: b) (by rw [hc1, List.append_assoc]; rfl)
theorem red_put {a b1 b2 : List Nat} {s : Nat} (hb1 : ∀ z ∈ b1, nb z s = true) (hb2 : ∀ z ∈ b2, nb z s = true) (h : Red (a ++ (b1 ++ b2))) (hl : lastb a s = false) : Red (a ++ (b1 ++ s :: b2)) := by
  intro x r z e
  rw [← List.append_assoc] at e
  rcases List.append_eq_append_iff.mp e with ⟨c, hc1, hc2⟩ | ⟨c, hc1, hc2⟩
  · -- x = (a ++ b1) ++ c, s :: b2 = c ++ r :: z
    cases c with
    | nil =>
      rw [List.nil_append] at hc2
      obtain ⟨e1, -⟩ := List.cons.inj hc2
      subst e1
      rw [hc1, List.append_nil, last_tail hb1]
      exact hl
    | cons d c =>
      obtain ⟨e1, e2⟩ := List.cons.inj hc2
      subst e1
      have hr : nb r s = true := hb2 r (by rw [e2]; simp)
      rw [hc1, last_skip hr]
      have e2 : b2 = c ++ r :: z := e2
      exact h _ r z (by rw [e2]; simp)
  · -- a ++ b1 = x ++ c, r :: z = c ++ s :: b2
    cases c with
    | nil =>
      rw [List.nil_append] at hc2
      obtain ⟨e1, -⟩ := List.cons.inj hc2
      subst e1
      rw [List.append_nil] at hc1
      rw [← hc1, last_tail hb1]
      exact hl
    | cons d c =>
      obtain ⟨e1, e2⟩ := List.cons.inj hc2
      subst e1
      exact h x r (c ++ b2) (by rw [← List.append_assoc, hc1, List.append_assoc]; rfl)
theorem last_tlA (s : Nat) (w : List Nat) : lastb (tlA s w) s = lastb w s := by
  conv => rhs; rw [← tl_app s w]
  exact (last_tail (tlB_nb s w)).symm
theorem red_go {w : List Nat} (h : Red w) (s : Nat) : Red (go w s) := by
  unfold go
  have h1 : Red (tlA s w ++ tlB s w) := by rw [tl_app]; exact h
  by_cases hl : lastb w s = true
  · rw [if_pos hl]
    refine (red_del (s := s) (tlB_nb s w) ?_).1
    have e := snoc_of (beq_iff_eq.mp hl)
    rw [e, List.append_assoc] at h1
    exact h1
  · rw [if_neg hl]
    unfold ins
    refine red_put (fun z hz => tlB_nb s w z (ins_mem (Or.inl hz))) (fun z hz => tlB_nb s w z (ins_mem (Or.inr hz))) ?_ (by rw [last_tlA]; exact Bool.eq_false_iff.mpr hl)
    rw [List.takeWhile_append_dropWhile]
    exact h1
/-- going a street twice leads back -/
theorem go_go {w : List Nat} (hp : Plain w) (hr : Red w) (s : Nat) : go (go w s) s = w := by
  refine plain_uniq (plain_go (plain_go hp s) s) hp fun u v huv => ?_
  rw [pr_go huv]
  by_cases hus : u = s ∨ v = s
  · rw [if_pos hus]
    have hlast : ∀ {q : List Nat}, lastb q s = true → (pr u v q).getLast? = some s := fun {q} hq => by
      rcases hus with e | e
      · subst e; exact last_pr hq v huv
      · subst e; rw [pr_comm]; exact last_pr hq u (by rw [nb_comm]; exact huv)
    by_cases hl : lastb w s = true
    · have h2 : lastb (go w s) s = false := by
        unfold go
        rw [if_pos hl]
        refine (red_del (s := s) (tlB_nb s w) ?_).2
        have e := snoc_of (beq_iff_eq.mp hl)
        have h1 : Red (tlA s w ++ tlB s w) := by rw [tl_app]; exact hr
        rw [e, List.append_assoc] at h1
        exact h1
      rw [if_neg (by rw [h2]; decide), pr_go huv, if_pos hus, if_pos hl]
      exact (snoc_of (hlast hl)).symm
    · have h2 : lastb (go w s) s = true := last_of_pr fun t ht => by
        rw [pr_go ht, if_pos (Or.inl rfl), if_neg hl]
        simp
      rw [if_pos h2, pr_go huv, if_pos hus, if_neg hl, List.dropLast_concat]
  · rw [if_neg hus, pr_go huv, if_neg hus]
/-- of neighbours it is one which goes first -/
theorem go_comm {w : List Nat} (hp : Plain w) {s t : Nat} (h : nb s t = true) : go (go w s) t = go (go w t) s := by
  have ne := nb_ne h
  have h2 : nb t s = true := by rw [nb_comm]; exact h
  have ls : lastb (go w t) s = lastb w s := last_pr_eq fun r hr => by
    rw [pr_go hr, if_neg]
    intro q
    rcases q with q | q
    · exact ne q
    · rw [q] at hr; rw [h] at hr; cases hr
  have lt : lastb (go w s) t = lastb w t := last_pr_eq fun r hr => by
    rw [pr_go hr, if_neg]
    intro q
    rcases q with q | q
    · exact ne q.symm
    · rw [q] at hr; rw [h2] at hr; cases hr
  refine plain_uniq (plain_go (plain_go hp s) t) (plain_go (plain_go hp t) s) fun u v huv => ?_
  rw [pr_go huv, pr_go huv, pr_go huv, pr_go huv, ls, lt]
  by_cases h1 : u = s ∨ v = s
  · have hn : ¬ (u = t ∨ v = t) := by
      intro q
      rcases h1 with e | e <;> rcases q with f | f
      · exact ne (e.symm.trans f)
      · rw [e, f, h] at huv; cases huv
      · rw [e, f, h2] at huv; cases huv
      · exact ne (e.symm.trans f)
    simp only [if_pos h1, if_neg hn]
  · simp only [if_neg h1]
