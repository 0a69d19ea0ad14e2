/-! the small language of towns: one reading for both -/
abbrev PW : Type := Nat × Nat × List Nat
abbrev PS : Type := List PW × Nat
def kdc (c : Int32) : Nat := if c = 119 then 0 else if c = 115 then 1 else if c = 99 then 2 else if c = 104 then 3 else if c = 114 then 4 else if c = 111 then 5 else 6
theorem kdc_s (c : Int32) : F_Rd_kindOf c = some (if kdc c < 6 then nI (kdc c) else -9) ∧ F_M_kindOf c = some (if kdc c < 6 then nI (kdc c) else -1) ∧ (kdc c < 6 → stb (c - 48) = false ∧ c ≠ 32) := by
  by_cases h1 : c = 119
  · subst h1; exact ⟨by decide +kernel, by decide +kernel, by decide +kernel⟩
  by_cases h2 : c = 115
  · subst h2; exact ⟨by decide +kernel, by decide +kernel, by decide +kernel⟩
  by_cases h3 : c = 99
  · subst h3; exact ⟨by decide +kernel, by decide +kernel, by decide +kernel⟩
  by_cases h4 : c = 104
  · subst h4; exact ⟨by decide +kernel, by decide +kernel, by decide +kernel⟩
  by_cases h5 : c = 114
  · subst h5; exact ⟨by decide +kernel, by decide +kernel, by decide +kernel⟩
  by_cases h6 : c = 111
  · subst h6; exact ⟨by decide +kernel, by decide +kernel, by decide +kernel⟩
  have e : kdc c = 6 := by
    unfold kdc
    rw [if_neg h1, if_neg h2, if_neg h3, if_neg h4, if_neg h5, if_neg h6]
  rw [e]
  refine ⟨?_, ?_, fun h => absurd h (by decide)⟩
  · unfold F_Rd_kindOf
    rw [if_neg h3, if_neg h4, if_neg h6, if_neg h5, if_neg h2, if_neg h1]
    rfl
  · unfold F_M_kindOf
    rw [if_neg h1, if_neg h2, if_neg h3, if_neg h4, if_neg h5, if_neg h6]
    rfl
def tk (c : Int32) (st : PS) : Option PS :=
  if c = 32 then (if st.2 = 1 then none else some (st.1, 0))
  else if stb (c - 48) = true then (match st.1 with
    | [] => none
    | (k, h, u) :: R => if st.2 = 0 ∨ 5 < st.2 then none else if st.2 = 1 then some ((k, (c - 48).toNatClampNeg, u) :: R, 2) else some ((k, h, u ++ [(c - 48).toNatClampNeg]) :: R, st.2 + 1))
  else if kdc c < 6 ∧ st.2 ≠ 1 ∧ st.1.length < 5 then some ((kdc c, 0, []) :: st.1, 1) else none
def rnF (b : Nat → Int32) : Nat → Nat → PS → Option Nat × PS
  | 0, i, st => (if st.2 = 1 then some i else none, st)
  | d + 1, i, st => match tk (b i) st with
    | none => (some i, st)
    | some st' => rnF b d (i + 1) st'
def rn (b : Nat → Int32) (n i : Nat) (st : PS) : Option Nat × PS := rnF b (n - i) i st
theorem rn_end (b : Nat → Int32) (n : Nat) (st : PS) : rn b n n st = (if st.2 = 1 then some n else none, st) := by
  unfold rn
  rw [Nat.sub_self]
  rfl
theorem rn_none {b : Nat → Int32} {n i : Nat} {st : PS} (hi : i < n) (h : tk (b i) st = none) : rn b n i st = (some i, st) := by
  unfold rn
  obtain ⟨d, e⟩ : ∃ d, n - i = d + 1 := ⟨n - i - 1, by omega⟩
  rw [e]
  show (match tk (b i) st with | none => (some i, st) | some st' => rnF b d (i + 1) st') = _
  rw [h]
theorem rn_some {b : Nat → Int32} {n i : Nat} {st st' : PS} (hi : i < n) (h : tk (b i) st = some st') : rn b n i st = rn b n (i + 1) st' := by
  unfold rn
  obtain ⟨d, e⟩ : ∃ d, n - i = d + 1 := ⟨n - i - 1, by omega⟩
  rw [e, show n - (i + 1) = d by omega]
  show (match tk (b i) st with | none => (some i, st) | some st' => rnF b d (i + 1) st') = _
  rw [h]
def PWv (W : List PW) : Prop := ∀ w ∈ W, w.1 ≤ 5 ∧ w.2.1 < 5 ∧ wv w.2.2 ∧ w.2.2.length ≤ 4
def hv (st : PS) : Prop := (st.2 = 0 ∨ ∃ k h u R, st.1 = (k, h, u) :: R ∧ ((st.2 = 1 ∧ u = []) ∨ (2 ≤ st.2 ∧ u.length + 2 = st.2))) ∧ st.2 ≤ 6 ∧ st.1.length ≤ 5 ∧ PWv st.1
theorem tk_blank {st : PS} (h : st.2 ≠ 1) : tk 32 st = some (st.1, 0) := by
  unfold tk
  rw [if_pos rfl, if_neg h]
theorem tk_blank1 {st : PS} (h : st.2 = 1) : tk 32 st = none := by
  unfold tk
  rw [if_pos rfl, if_pos h]
theorem st_ne32 {c : Int32} (h : stb (c - 48) = true) : c ≠ 32 := fun e => by
  subst e
  exact absurd h (by decide +kernel)
theorem tk_fig0 {c : Int32} {st : PS} (h : stb (c - 48) = true) (hf : st.2 = 0 ∨ 5 < st.2) : tk c st = none := by
  unfold tk
  rw [if_neg (st_ne32 h), if_pos h]
  obtain ⟨W, f⟩ := st
  cases W with
  | nil => rfl
  | cons w R => exact if_pos hf
theorem tk_fig1 {c : Int32} {k h0 : Nat} {u : List Nat} {R : List PW} (h : stb (c - 48) = true) : tk c ((k, h0, u) :: R, 1) = some ((k, (c - 48).toNatClampNeg, u) :: R, 2) := by
  unfold tk
  rw [if_neg (st_ne32 h), if_pos h]
  rfl
theorem tk_fig2 {c : Int32} {k h0 f : Nat} {u : List Nat} {R : List PW} (h : stb (c - 48) = true) (h2 : 2 ≤ f) (h5 : f ≤ 5) : tk c ((k, h0, u) :: R, f) = some ((k, h0, u ++ [(c - 48).toNatClampNeg]) :: R, f + 1) := by
  unfold tk
  rw [if_neg (st_ne32 h), if_pos h]
  show (if f = 0 ∨ 5 < f then none else if f = 1 then _ else some ((k, h0, u ++ [(c - 48).toNatClampNeg]) :: R, f + 1)) = _
  rw [if_neg (by omega), if_neg (by omega)]
theorem tk_let {c : Int32} {st : PS} (h : kdc c < 6) (hf : st.2 ≠ 1) (hl : st.1.length < 5) : tk c st = some ((kdc c, 0, []) :: st.1, 1) := by
  obtain ⟨q1, q2⟩ := (kdc_s c).2.2 h
  unfold tk
  rw [if_neg q2, if_neg (by rw [q1]; decide), if_pos ⟨h, hf, hl⟩]
theorem tk_let0 {c : Int32} {st : PS} (h32 : c ≠ 32) (hs : stb (c - 48) = false) (h : ¬ (kdc c < 6 ∧ st.2 ≠ 1 ∧ st.1.length < 5)) : tk c st = none := by
  unfold tk
  rw [if_neg h32, if_neg (by rw [hs]; decide), if_neg h]
theorem stb_n {c : Int32} (h : stb c = true) : c.toNatClampNeg < 5 ∧ c = nI c.toNatClampNeg := by
  obtain ⟨s, h5, e⟩ := stb_t h
  rw [e, c31 (by omega)]
  exact ⟨h5, rfl⟩
theorem tk_hv {c : Int32} {st st' : PS} (hV : hv st) (h : tk c st = some st') : hv st' := by
  obtain ⟨W, f⟩ := st
  obtain ⟨h1, h2, h3, h4⟩ := hV
  have h2 : f ≤ 6 := h2
  have h3 : W.length ≤ 5 := h3
  have h4 : PWv W := h4
  by_cases c32 : c = 32
  · subst c32
    by_cases q : f = 1
    · rw [tk_blank1 q] at h
      cases h
    · rw [tk_blank q] at h
      cases h
      exact ⟨Or.inl rfl, by omega, h3, h4⟩
  by_cases hs : stb (c - 48) = true
  · by_cases q : f = 0 ∨ 5 < f
    · rw [tk_fig0 hs q] at h
      cases h
    · rcases h1 with h1 | ⟨k, h0, u, R, e, hu⟩
      · exact absurd (Or.inl h1) q
      · have e : W = (k, h0, u) :: R := e
        have hu : (f = 1 ∧ u = []) ∨ (2 ≤ f ∧ u.length + 2 = f) := hu
        subst e
        obtain ⟨w1, w2, w3, w4⟩ := h4 (k, h0, u) (List.mem_cons_self ..)
        have s5 := (stb_n hs).1
        rcases hu with ⟨f1, hu1⟩ | ⟨f2, hu1⟩
        · subst f1
          rw [tk_fig1 hs] at h
          cases h
          refine ⟨Or.inr ⟨k, _, u, R, rfl, Or.inr ⟨Nat.le_refl 2, by rw [hu1]; rfl⟩⟩, (by decide : 2 ≤ 6), h3, fun w hw => ?_⟩
          rcases List.mem_cons.mp hw with e | hw
          · subst e
            exact ⟨w1, s5, w3, w4⟩
          · exact h4 w (List.mem_cons_of_mem _ hw)
        · rw [tk_fig2 hs f2 (by omega)] at h
          cases h
          have hl : (u ++ [(c - 48).toNatClampNeg]).length = u.length + 1 := by rw [List.length_append]; rfl
          refine ⟨Or.inr ⟨k, h0, _, R, rfl, Or.inr ⟨by show 2 ≤ f + 1; omega, by show (u ++ [(c - 48).toNatClampNeg]).length + 2 = f + 1; omega⟩⟩, by show f + 1 ≤ 6; omega, h3, fun w hw => ?_⟩
          rcases List.mem_cons.mp hw with e | hw
          · subst e
            refine ⟨w1, w2, wv_app w3 (fun x hx => ?_), by show (u ++ [(c - 48).toNatClampNeg]).length ≤ 4; omega⟩
            rw [List.mem_singleton.mp hx]
            exact s5
          · exact h4 w (List.mem_cons_of_mem _ hw)
  · have hs : stb (c - 48) = false := Bool.eq_false_iff.mpr hs
    by_cases q : kdc c < 6 ∧ f ≠ 1 ∧ W.length < 5
    · rw [tk_let q.1 q.2.1 q.2.2] at h
      cases h
      refine ⟨Or.inr ⟨_, _, _, _, rfl, Or.inl ⟨rfl, rfl⟩⟩, by show 1 ≤ 6; decide, by show W.length + 1 ≤ 5; omega, fun w hw => ?_⟩
      rcases List.mem_cons.mp hw with e | hw
      · subst e
        exact ⟨by have := q.1; show kdc c ≤ 5; omega, by show 0 < 5; decide, wv_nil, by show 0 ≤ 4; decide⟩
      · exact h4 w hw
    · rw [tk_let0 c32 hs q] at h
      cases h
-- the class's reader
def WRX (σ : GS) : List PW → Prop
  | [] => True
  | w :: R => σ.1 16 R.length = nI w.1 ∧ σ.1 17 R.length = nI w.2.1 ∧ σ.1 18 R.length = nI (cdv w.2.2) ∧ WRX σ R
theorem WRX.cg {σ σ' : GS} : ∀ {W : List PW}, (∀ j, j < W.length → σ'.1 16 j = σ.1 16 j ∧ σ'.1 17 j = σ.1 17 j ∧ σ'.1 18 j = σ.1 18 j) → WRX σ W → WRX σ' W
  | [], _, _ => trivial
  | w :: R, h, ⟨a, b, c, d⟩ => by
    obtain ⟨e1, e2, e3⟩ := h R.length (Nat.lt_succ_self _)
    exact ⟨e1.trans a, e2.trans b, e3.trans c, WRX.cg (fun j hj => h j (Nat.lt_succ_of_lt hj)) d⟩
def RX (σ : GS) (st : PS) : Prop := σ.1 15 3 = nI st.1.length ∧ σ.1 15 4 = nI st.2 - 1 ∧ WRX σ st.1
theorem fg0 : ∀ f, f ≤ 6 → ((nI f - 1 = (0 : Int32)) ↔ f = 1) := by decide +kernel
theorem fgm : ∀ f, f ≤ 6 → ((nI f - 1 = (-1 : Int32)) ↔ f = 0) := by decide +kernel
theorem fg4 : ∀ f, f ≤ 6 → (((4 : Int32) < nI f - 1) ↔ 5 < f) := by decide +kernel
def TX (σ : GS) (o : Option PS) (r : Option (Int32 × GS)) : Prop := match o with
  | none => ∃ σ', r = some (0, σ') ∧ Fr [15, 16, 17, 18] σ σ'
  | some st => ∃ σ', r = some (1, σ') ∧ RX σ' st ∧ Fr [15, 16, 17, 18] σ σ'
theorem takeX {c : Int32} {σ : GS} {st : PS} (hV : hv st) (hR : RX σ st) : TX σ (tk c st) (F_Rd_take c σ) := by
  obtain ⟨W, f⟩ := st
  obtain ⟨h1, h2, h3, h4⟩ := hV
  obtain ⟨r1, r2, r3⟩ := hR
  have h2 : f ≤ 6 := h2
  have h3 : W.length ≤ 5 := h3
  have r1 : σ.1 15 3 = nI W.length := r1
  have r2 : σ.1 15 4 = nI f - 1 := r2
  have r3 : WRX σ W := r3
  unfold F_Rd_take
  by_cases c32 : c = 32
  · subst c32
    unfold F_Rd_takeBlank
    rw [if_pos rfl, r2]
    by_cases q : f = 1
    · rw [tk_blank1 q, if_pos ((fg0 f h2).mpr q)]
      exact ⟨σ, rfl, Fr.refl _ _⟩
    · rw [tk_blank q, if_neg (fun z => q ((fg0 f h2).mp z))]
      refine ⟨s1 σ 15 4 (-1), rfl, ⟨?_, ?_, ?_⟩, Fr.s1 (by simp)⟩
      · rw [s1_i (by decide)]; exact r1
      · rw [s1_at]; rfl
      · refine r3.cg fun j hj => ⟨by rw [s1_c (by decide)], by rw [s1_c (by decide)], by rw [s1_c (by decide)]⟩
  rw [if_neg c32, bp_s (stb_X (c - 48))]
  by_cases hs : stb (c - 48) = true
  · obtain ⟨s5, se⟩ := stb_n hs
    rw [if_pos hs, if_neg (by decide)]
    unfold F_Rd_takeFigure
    rw [r2, r1]
    by_cases q0 : f = 0
    · rw [tk_fig0 hs (Or.inl q0), if_pos ((fgm f h2).mpr q0)]
      exact ⟨σ, rfl, Fr.refl _ _⟩
    rw [if_neg (fun z => q0 ((fgm f h2).mp z))]
    by_cases q5 : 5 < f
    · rw [tk_fig0 hs (Or.inr q5), if_pos ((fg4 f h2).mpr q5)]
      exact ⟨σ, rfl, Fr.refl _ _⟩
    rw [if_neg (fun z => q5 ((fg4 f h2).mp z))]
    rcases h1 with h1 | ⟨k, h0, u, R, e, hu⟩
    · exact absurd h1 q0
    have e : W = (k, h0, u) :: R := e
    have hu : (f = 1 ∧ u = []) ∨ (2 ≤ f ∧ u.length + 2 = f) := hu
    subst e
    have hl : ((k, h0, u) :: R).length = R.length + 1 := rfl
    rw [hl] at h3 r1 ⊢
    obtain ⟨a1, a2, a3, a4⟩ := r3
    rw [if_pos (show (1 : Int32) ≤ nI (R.length + 1) from nI_le (a := 1) (by omega) (by omega)), nI_pred, jn_s]
    rcases hu with ⟨f1, hu⟩ | ⟨f2, hu⟩
    · subst f1
      rw [tk_fig1 hs, if_pos (by decide), gi (by omega) (by decide), c31 (by omega)]
      simp only [jn_s]
      rw [s1_c (k' := 15) (by decide), r2]
      refine ⟨_, rfl, ⟨?_, ?_, ?_, ?_, ?_, ?_⟩, Fr.trans (Fr.s1 (by simp)) (Fr.s1 (by simp))⟩
      · rw [s1_i (by decide), s1_c (by decide)]; exact r1
      · rw [s1_at]; show nI 1 - 1 + 1 = nI 2 - 1; decide
      · rw [s1_c (by decide), s1_c (by decide)]; exact a1
      · rw [s1_c (by decide), s1_at]; exact se
      · rw [s1_c (by decide), s1_c (by decide)]; exact a3
      · exact a4.cg fun j hj => ⟨by rw [s1_c (by decide), s1_c (by decide)], by rw [s1_c (by decide), s1_i (by omega)], by rw [s1_c (by decide), s1_c (by decide)]⟩
    · rw [tk_fig2 hs f2 (by omega), if_neg (fun z => absurd ((fg0 f h2).mp z) (by omega)), gi (by omega) (by decide), gi (by omega) (by decide), c31 (by omega)]
      simp only [jn_s]
      rw [s1_c (k' := 15) (by decide), r2]
      refine ⟨_, rfl, ⟨?_, ?_, ?_, ?_, ?_, ?_⟩, Fr.trans (Fr.s1 (by simp)) (Fr.s1 (by simp))⟩
      · rw [s1_i (by decide), s1_c (by decide)]; exact r1
      · rw [s1_at, sub1 (by omega), nI_1, sub1 (by show 1 ≤ f + 1; omega)]
        show nI (f - 1 + 1) = nI (f + 1 - 1)
        rw [show f - 1 + 1 = f + 1 - 1 by omega]
      · rw [s1_c (by decide), s1_c (by decide)]; exact a1
      · rw [s1_c (by decide), s1_c (by decide)]; exact a2
      · rw [s1_c (by decide), s1_at]
        have a3 : σ.1 18 R.length = nI (cdv u) := a3
        show _ = nI (cdv (u ++ [(c - 48).toNatClampNeg]))
        rw [a3, cdv_snoc, show nI (cdv u) * (10 : Int32) = nI (cdv u * 10) from pk_mul _ 10]
        rw [show c - 48 = nI (c - 48).toNatClampNeg from se, c31 (by omega), nI_add, nI_1]
      · exact a4.cg fun j hj => ⟨by rw [s1_c (by decide), s1_c (by decide)], by rw [s1_c (by decide), s1_c (by decide)], by rw [s1_c (by decide), s1_i (by omega)]⟩
  · rw [if_neg hs, if_pos rfl]
    have hs : stb (c - 48) = false := Bool.eq_false_iff.mpr hs
    unfold F_Rd_takeLetter
    rw [bp_s (kdc_s c).1]
    by_cases q6 : kdc c < 6
    · rw [if_pos q6, if_neg (fun z => by
        have := congrArg Int32.toInt z
        rw [nI_toInt (by omega)] at this
        exact absurd this (by show ¬ ((kdc c : Int) = -9); omega)), r2]
      by_cases q1 : f = 1
      · rw [tk_let0 c32 hs (fun z => z.2.1 q1), if_pos ((fg0 f h2).mpr q1)]
        exact ⟨σ, rfl, Fr.refl _ _⟩
      rw [if_neg (fun z => q1 ((fg0 f h2).mp z)), r1]
      by_cases ql : W.length < 5
      · rw [tk_let q6 q1 ql, if_pos (show nI W.length < (5 : Int32) from nI_lt (b := 5) ql (by decide)), gi ql (by decide), c31 (by omega), jn_s, s1_c (k' := 15) (by decide), r1, gi ql (by decide), c31 (by omega), jn_s, s1_c (k' := 15) (by decide), s1_c (k' := 15) (by decide), r1, gi ql (by decide), c31 (by omega), jn_s, s1_c (k' := 15) (by decide), s1_c (k' := 15) (by decide), s1_c (k' := 15) (by decide), r1, jn_s, jn_s]
        refine ⟨_, rfl, ⟨?_, ?_, ?_, ?_, ?_, ?_⟩, Fr.trans (Fr.trans (Fr.trans (Fr.trans (Fr.s1 (by simp)) (Fr.s1 (by simp))) (Fr.s1 (by simp))) (Fr.s1 (by simp))) (Fr.s1 (by simp))⟩
        · rw [s1_i (by decide), s1_at, nI_1]; rfl
        · rw [s1_at]; show (0 : Int32) = nI 1 - 1; decide
        · rw [s1_c (by decide), s1_c (by decide), s1_c (by decide), s1_c (by decide), s1_at]
        · rw [s1_c (by decide), s1_c (by decide), s1_c (by decide), s1_at]; rfl
        · rw [s1_c (by decide), s1_c (by decide), s1_at]; rfl
        · refine r3.cg fun j hj => ⟨?_, ?_, ?_⟩
          all_goals have hj : j < W.length := hj
          · rw [s1_c (by decide), s1_c (by decide), s1_c (by decide), s1_c (by decide), s1_i (by omega)]
          · rw [s1_c (by decide), s1_c (by decide), s1_c (by decide), s1_i (by omega), s1_c (by decide)]
          · rw [s1_c (by decide), s1_c (by decide), s1_i (by omega), s1_c (by decide), s1_c (by decide)]
      · rw [tk_let0 c32 hs (fun z => ql z.2.2), if_neg (show ¬ nI W.length < (5 : Int32) from nI_nlt (b := 5) (by omega) (by omega))]
        exact ⟨σ, rfl, Fr.refl _ _⟩
    · rw [if_neg q6, if_pos rfl, tk_let0 c32 hs (fun z => q6 z.1)]
      exact ⟨σ, rfl, Fr.refl _ _⟩
def rvl (o : Option Nat) : Int32 := match o with
  | none => -9
  | some j => nI j
theorem readX {q n : Nat} {b : Nat → Int32} {σ : GS} (hq : q ≠ 15 ∧ q ≠ 16 ∧ q ≠ 17 ∧ q ≠ 18) (hn : n ≤ 80) (hb : ∀ j, j < n → σ.1 q j = b j) : ∃ σ', F_Rd_read q (nI n) σ = some (rvl (rn b n 0 ([], 0)).1, σ') ∧ Fr [15, 16, 17, 18] σ σ' ∧ ((rn b n 0 ([], 0)).1 = none → hv (rn b n 0 ([], 0)).2 ∧ RX σ' (rn b n 0 ([], 0)).2) := by
  unfold F_Rd_read
  rw [jn_s, jn_s, jn_s]
  have h0 : Fr [15, 16, 17, 18] σ (s1 (s1 σ 15 3 0) 15 4 (-1)) := Fr.trans (Fr.s1 (by simp)) (Fr.s1 (by simp))
  refine lpE (G := fun k i (t : PS × GS) => F_Rd_read_12 q (nI n) (fun (v3_3 : Int32) (σL3 : GS) => if (σL3.1 15 4) = (0 : Int32) then some (nI n, σL3) else some ((-9 : Int32), σL3)) k (nI i) t.2) (P := fun o => ∃ σ', o = some (rvl (rn b n 0 ([], 0)).1, σ') ∧ Fr [15, 16, 17, 18] σ σ' ∧ ((rn b n 0 ([], 0)).1 = none → hv (rn b n 0 ([], 0)).2 ∧ RX σ' (rn b n 0 ([], 0)).2)) (Inv := fun i t => rn b n 0 ([], 0) = rn b n i t.1 ∧ hv t.1 ∧ RX t.2 t.1 ∧ Fr [15, 16, 17, 18] σ t.2) (N := n) ?_ ?_ n 0 50000 (([], 0), s1 (s1 σ 15 3 0) 15 4 (-1)) (by omega) (by omega) ⟨rfl, ⟨Or.inl rfl, by show 0 ≤ 6; decide, by show 0 ≤ 5; decide, fun w hw => by cases hw⟩, ⟨by rw [s1_i (by decide), s1_at]; rfl, by rw [s1_at]; rfl, trivial⟩, h0⟩
  · rintro k i ⟨st, t⟩ hi ⟨e, hV, hR, hF⟩
    have hV : hv st := hV
    have hR : RX t st := hR
    have hF : Fr [15, 16, 17, 18] σ t := hF
    have e : rn b n 0 ([], 0) = rn b n i st := e
    have eq : F_Rd_read_12 q (nI n) (fun (v3_3 : Int32) (σL3 : GS) => if (σL3.1 15 4) = (0 : Int32) then some (nI n, σL3) else some ((-9 : Int32), σL3)) (k + 1) (nI i) t = bc (F_Rd_take (b i) t) (fun (r7 : Int32) (σ8 : GS) => if r7 = (0 : Int32) then some (nI i, σ8) else F_Rd_read_12 q (nI n) (fun (v3_3 : Int32) (σL3 : GS) => if (σL3.1 15 4) = (0 : Int32) then some (nI n, σL3) else some ((-9 : Int32), σL3)) k (nI (i + 1)) σ8) := by
      rw [F_Rd_read_12.eq_2, if_neg (nI_ge hi (by omega)), if_neg (show ¬ (80 : Int32) ≤ nI i from nI_ge (b := 80) (by omega) (by decide)), gi (by omega) (by decide), c31 (by omega), hF.1 q (by simp; omega), hb i hi, nI_1]
    have hT := takeX (c := b i) hV hR
    cases ht : tk (b i) st with
    | none =>
      rw [ht] at hT
      obtain ⟨t', g, f⟩ := hT
      refine Or.inl ⟨t', ?_, hF.trans f, fun z => ?_⟩
      · show F_Rd_read_12 q (nI n) _ (k + 1) (nI i) t = _
        rw [eq, bc_s g, if_pos rfl, e, rn_none hi ht]
        rfl
      · rw [e, rn_none hi ht] at z
        cases z
    | some st' =>
      rw [ht] at hT
      obtain ⟨t', g, r, f⟩ := hT
      refine Or.inr ⟨(st', t'), ?_, by rw [e, rn_some hi ht], tk_hv hV ht, r, hF.trans f⟩
      show F_Rd_read_12 q (nI n) _ (k + 1) (nI i) t = F_Rd_read_12 q (nI n) _ k (nI (i + 1)) t'
      rw [eq, bc_s g, if_neg (by decide)]
  · rintro k ⟨st, t⟩ ⟨e, hV, hR, hF⟩
    have hV : hv st := hV
    have hR : RX t st := hR
    have hF : Fr [15, 16, 17, 18] σ t := hF
    have e : rn b n 0 ([], 0) = rn b n n st := e
    rw [e, rn_end]
    refine ⟨t, ?_, hF, fun _ => ⟨hV, hR⟩⟩
    show F_Rd_read_12 q (nI n) _ (k + 1) (nI n) t = _
    rw [F_Rd_read_12.eq_2, if_pos (nI_le (Nat.le_refl _) (by omega)), hR.2.1]
    by_cases q : st.2 = 1
    · rw [if_pos ((fg0 _ hV.2.1).mpr q)]
      show _ = some (rvl (if st.2 = 1 then some n else none), t)
      rw [if_pos q]
      rfl
    · rw [if_neg (fun z => q ((fg0 _ hV.2.1).mp z))]
      show _ = some (rvl (if st.2 = 1 then some n else none), t)
      rw [if_neg q]
      rfl
