/-! what stays alike between class and model; cases of arguments; loops -/
theorem le64 (x y : Int32) : x.toInt64 ≤ y.toInt64 ↔ x ≤ y := by
  rw [Int64.le_iff_toInt_le, Int32.toInt_toInt64, Int32.toInt_toInt64, Int32.le_iff_toInt_le]
theorem lt64 (x y : Int32) : x.toInt64 < y.toInt64 ↔ x < y := by
  rw [Int64.lt_iff_toInt_lt, Int32.toInt_toInt64, Int32.toInt_toInt64, Int32.lt_iff_toInt_lt]
theorem inI (x y z : Int32) : F_M_in x.toInt64 y.toInt64 z.toInt64 = some (if y ≤ x ∧ x ≤ z then 1 else 0) := by
  unfold F_M_in
  simp only [lg_cmp_lt, lg_cmp_gt, lt64]
  by_cases h1 : x < y
  · rw [if_pos h1, if_neg (fun q => absurd q.1 (Int32.not_le.mpr h1))]
  · rw [if_neg h1]
    by_cases h2 : z < x
    · rw [if_pos h2, if_neg (fun q => absurd q.2 (Int32.not_le.mpr h2))]
    · rw [if_neg h2, if_pos ⟨Int32.not_lt.mp h1, Int32.not_lt.mp h2⟩]
theorem nIm1 {n : Nat} (hn : n < 2 ^ 30) : (nI n - 1).toInt = (n : Int) - 1 := pk_sub_toInt (b := 1) hn (by decide)
theorem rng_c (x : Int32) {n : Nat} (hn : n < 2 ^ 30) : (F_M_in x.toInt64 (0 : Int64) (nI n - 1).toInt64 = some 0 ∧ (x < 0 ∨ (¬ x < 0 ∧ nI n ≤ x))) ∨ ∃ j, j < n ∧ x = nI j ∧ F_M_in x.toInt64 (0 : Int64) (nI n - 1).toInt64 = some 1 := by
  have e0 : (0 : Int64) = (0 : Int32).toInt64 := by decide
  have e1 := nIm1 hn
  rw [e0, inI]
  by_cases h0 : x < 0
  · refine Or.inl ⟨?_, Or.inl h0⟩
    rw [if_neg (fun q => absurd q.1 (Int32.not_le.mpr h0))]
  · obtain ⟨j, hj, rfl⟩ := nI_of h0
    have e2 := nI_toInt hj
    have e3 := nI_toInt (n := n) (by omega)
    by_cases h : j < n
    · refine Or.inr ⟨j, h, rfl, ?_⟩
      rw [if_pos ⟨Int32.not_lt.mp h0, by rw [Int32.le_iff_toInt_le]; omega⟩]
    · refine Or.inl ⟨?_, Or.inr ⟨h0, nI_le (by omega) hj⟩⟩
      rw [if_neg (fun q => by have := q.2; rw [Int32.le_iff_toInt_le] at this; omega)]
/-- an argument between lo and hi -/
theorem btw_c (x : Int32) {lo hi : Nat} (hh : hi < 2 ^ 30) : (F_M_in x.toInt64 (nI lo).toInt64 (nI hi).toInt64 = some 0 ∧ (x < nI lo ∨ (¬ x < nI lo ∧ nI hi < x))) ∨ ∃ j, lo ≤ j ∧ j ≤ hi ∧ x = nI j ∧ F_M_in x.toInt64 (nI lo).toInt64 (nI hi).toInt64 = some 1 ∨ lo ≥ 2 ^ 30 := by
  by_cases hl : lo < 2 ^ 30
  · rw [inI]
    by_cases h0 : x < nI lo
    · exact Or.inl ⟨by rw [if_neg (fun q => absurd q.1 (Int32.not_le.mpr h0))], Or.inl h0⟩
    · by_cases h1 : nI hi < x
      · exact Or.inl ⟨by rw [if_neg (fun q => absurd q.2 (Int32.not_le.mpr h1))], Or.inr ⟨h0, h1⟩⟩
      · have hx : ¬ x < 0 := fun q => h0 (by
          have := nI_toInt (n := lo) (by omega)
          rw [Int32.lt_iff_toInt_lt] at q ⊢
          have z : (0 : Int32).toInt = 0 := by decide
          omega)
        obtain ⟨j, hj, rfl⟩ := nI_of hx
        rw [nI_ltI hj (by omega)] at h0
        rw [nI_ltI (by omega) hj] at h1
        refine Or.inr ⟨j, Or.inl ⟨by omega, by omega, rfl, ?_⟩⟩
        rw [if_pos ⟨nI_le (by omega) hj, nI_le (by omega) (by omega)⟩]
  · exact Or.inr ⟨0, Or.inr (by omega)⟩
theorem row_c (x : Int32) : (F_X_isRow x = some 0 ∧ F_M_isRow x = some 0) ∨ ∃ r, r < 6 ∧ x = nI r ∧ F_X_isRow x = some 1 ∧ F_M_isRow x = some 1 := by
  rcases rng_c x (n := 6) (by decide) with ⟨h1, h2⟩ | ⟨j, hj, rfl, h1⟩
  · refine Or.inl ⟨?_, by unfold F_M_isRow; rw [show F_M_in x.toInt64 0 5 = some 0 from h1]; rfl⟩
    unfold F_X_isRow
    rcases h2 with h | ⟨h, h3⟩
    · rw [if_pos h]
    · rw [if_neg h, if_pos (show (6 : Int32) ≤ x from h3)]
  · refine Or.inr ⟨j, hj, rfl, ?_, by unfold F_M_isRow; rw [show F_M_in (nI j).toInt64 0 5 = some 1 from h1]; rfl⟩
    unfold F_X_isRow
    rw [if_neg (nI_pos (by omega)), if_neg (show ¬ (6 : Int32) ≤ nI j from nI_ge (b := 6) hj (by decide))]
theorem text_c (x : Int32) : (F_X_isText x = some 0 ∧ F_M_isText x = some 0) ∨ ∃ r, r < 4 ∧ x = nI r ∧ F_X_isText x = some 1 ∧ F_M_isText x = some 1 := by
  rcases rng_c x (n := 4) (by decide) with ⟨h1, h2⟩ | ⟨j, hj, rfl, h1⟩
  · refine Or.inl ⟨?_, by unfold F_M_isText; rw [show F_M_in x.toInt64 0 3 = some 0 from h1]; rfl⟩
    unfold F_X_isText
    rcases h2 with h | ⟨h, h3⟩
    · rw [if_pos h]
    · rw [if_neg h, if_pos (show (4 : Int32) ≤ x from h3)]
  · refine Or.inr ⟨j, hj, rfl, ?_, by unfold F_M_isText; rw [show F_M_in (nI j).toInt64 0 3 = some 1 from h1]; rfl⟩
    unfold F_X_isText
    rw [if_neg (nI_pos (by omega)), if_neg (show ¬ (4 : Int32) ≤ nI j from nI_ge (b := 4) hj (by decide))]
theorem keep_c (x : Int32) : (F_X_isKeepingPlace x = some 0 ∧ F_M_in x.toInt64 0 2 = some 0) ∨ ∃ r, r < 3 ∧ x = nI r ∧ F_X_isKeepingPlace x = some 1 ∧ F_M_in x.toInt64 0 2 = some 1 := by
  rcases rng_c x (n := 3) (by decide) with ⟨h1, h2⟩ | ⟨j, hj, rfl, h1⟩
  · refine Or.inl ⟨?_, h1⟩
    unfold F_X_isKeepingPlace
    rcases h2 with h | ⟨h, h3⟩
    · rw [if_pos h]
    · rw [if_neg h, if_pos (show (3 : Int32) ≤ x from h3)]
  · refine Or.inr ⟨j, hj, rfl, ?_, h1⟩
    unfold F_X_isKeepingPlace
    rw [if_neg (nI_pos (by omega)), if_neg (show ¬ (3 : Int32) ≤ nI j from nI_ge (b := 3) hj (by decide))]
theorem street_c (x : Int32) : (F_X_isStreet x = some 0 ∧ F_M_isStreet x = some 0 ∧ ∀ s, s < 5 → x ≠ nI s) ∨ ∃ r, r < 5 ∧ x = nI r ∧ F_X_isStreet x = some 1 ∧ F_M_isStreet x = some 1 := by
  rcases rng_c x (n := 5) (by decide) with ⟨h1, h2⟩ | ⟨j, hj, rfl, h1⟩
  · refine Or.inl ⟨?_, by unfold F_M_isStreet; rw [show F_M_in x.toInt64 0 4 = some 0 from h1]; rfl, fun s hs e => ?_⟩
    · unfold F_X_isStreet
      rcases h2 with h | ⟨h, h3⟩
      · rw [if_pos h]
      · rw [if_neg h, if_pos (show (5 : Int32) ≤ x from h3)]
    · subst e
      rcases h2 with h | ⟨h, h3⟩
      · exact nI_pos (by omega) h
      · exact nI_ge hs (by decide) h3
  · refine Or.inr ⟨j, hj, rfl, stX j hj, by unfold F_M_isStreet; rw [show F_M_in (nI j).toInt64 0 4 = some 1 from h1]; rfl⟩
-- the model's codes
theorem inN {m lo hi : Nat} (hm : m < 2 ^ 31) (hl : lo < 2 ^ 31) (hh : hi < 2 ^ 31) : F_M_in (nI m).toInt64 (nI lo).toInt64 (nI hi).toInt64 = some (if lo ≤ m ∧ m ≤ hi then 1 else 0) := by
  rw [inI]
  simp only [nI_leI hl hm, nI_leI hm hh]
theorem isCM_loop {K : Int32 → Int32 → Option Int32} (hK : ∀ b, K (if b = true then 1 else 0) 0 = some (if b = true then 1 else 0)) : ∀ (f m n : Nat) (b : Bool), m < 10 ^ f → m < 2 ^ 31 → f < n → F_M_isCode_12 K n (if b = true then 1 else 0) (nI m) = some (if (b && cF f m) = true then 1 else 0) := by
  intro f
  induction f with
  | zero =>
    intro m n b hm _ hn
    obtain ⟨n, rfl⟩ : ∃ k, n = k + 1 := ⟨n - 1, by omega⟩
    have e : m = 0 := by simpa using hm
    subst e
    rw [F_M_isCode_12.eq_2, if_pos (by decide), show cF 0 0 = true from rfl, Bool.and_true]
    exact hK b
  | succ f ih =>
    intro m n b hm hm2 hn
    obtain ⟨n, rfl⟩ : ∃ k, n = k + 1 := ⟨n - 1, by omega⟩
    by_cases h0 : m = 0
    · subst h0
      rw [F_M_isCode_12.eq_2, if_pos (by decide), show cF (f + 1) 0 = true from rfl, Bool.and_true]
      exact hK b
    · have ih' := fun b => ih (m / 10) n b (by rw [Nat.pow_succ] at hm; omega) (by omega) (by omega)
      have i0 := ih' false
      have i1 := ih' true
      rw [Bool.false_and] at i0
      rw [Bool.true_and] at i1
      rw [F_M_isCode_12.eq_2, if_neg (nI_nle (by omega) hm2), jn_s, rem10 hm2, div10 hm2, jn_s, cF_succ, decide_eq_false h0, Bool.false_or]
      cases b with
      | false =>
        rw [if_pos (by decide), Bool.false_and]
        exact i0
      | true =>
        rw [if_neg (by decide), show (1 : Int64) = (nI 1).toInt64 from rfl, show (5 : Int64) = (nI 5).toInt64 from rfl, bp_s (inN (m := m % 10) (lo := 1) (hi := 5) (by omega) (by decide) (by decide)), Bool.true_and]
        by_cases q : 1 ≤ m % 10 ∧ m % 10 ≤ 5
        · rw [if_pos q, if_neg (by decide), decide_eq_true q, Bool.true_and]
          exact i1
        · rw [if_neg q, if_pos rfl, decide_eq_false q, Bool.false_and]
          exact i0
theorem isCM {m : Nat} (hm : m < 2 ^ 31) : F_M_isCode (nI m) = some (if isC m = true then 1 else 0) := by
  unfold F_M_isCode isC
  rw [show (0 : Int64) = (nI 0).toInt64 from rfl, show (555555555 : Int64) = (nI 555555555).toInt64 from by decide, bp_s (inN hm (by decide) (by decide)), jn_s]
  have := isCM_loop (K := fun (v1_3 : Int32) (v2_3 : Int32) => gd (bB v1_3) (some v1_3)) (fun b => by cases b <;> rfl) 10 m 50000 (decide (m ≤ 555555555)) (by omega) hm (by omega)
  rw [← this]
  congr 1
  by_cases h : m ≤ 555555555
  · rw [if_pos ⟨Nat.zero_le _, h⟩, decide_eq_true h]; rfl
  · rw [if_neg (fun q => h q.2), decide_eq_false h]; rfl
theorem isCM_neg {x : Int32} (h : x < 0) : F_M_isCode x = some 0 := by
  unfold F_M_isCode
  rw [show (0 : Int64) = (0 : Int32).toInt64 from by decide, show (555555555 : Int64) = (nI 555555555).toInt64 from by decide, inI, if_neg (fun q => absurd q.1 (Int32.not_le.mpr h)), bp_s rfl, jn_s]
  have : ∀ n, F_M_isCode_12 (fun (v1_3 : Int32) (v2_3 : Int32) => gd (bB v1_3) (some v1_3)) (n + 1) 0 x = some 0 := fun n => by
    rw [F_M_isCode_12.eq_2, if_pos (Int32.le_of_lt h)]
    rfl
  exact this 49999
theorem code_c (x : Int32) : (F_X_isCode x = some 0 ∧ F_M_isCode x = some 0) ∨ ∃ m, x = nI m ∧ isC m = true ∧ F_X_isCode x = some 1 ∧ F_M_isCode x = some 1 := by
  by_cases h : x < 0
  · exact Or.inl ⟨isCX_neg h, isCM_neg h⟩
  · obtain ⟨m, hm, rfl⟩ := nI_of h
    cases hc : isC m with
    | true => exact Or.inr ⟨m, rfl, hc, by rw [isCX hm, hc]; rfl, by rw [isCM hm, hc]; rfl⟩
    | false => exact Or.inl ⟨by rw [isCX hm, hc]; rfl, by rw [isCM hm, hc]; rfl⟩
theorem codes_c (x y : Int32) : (F_M_areCodes x y = some 0 ∧ (F_X_isCode x = some 0 ∨ (F_X_isCode x = some 1 ∧ F_X_isCode y = some 0))) ∨ ∃ a b, x = nI a ∧ y = nI b ∧ isC a = true ∧ isC b = true ∧ F_X_isCode x = some 1 ∧ F_X_isCode y = some 1 ∧ F_M_areCodes x y = some 1 := by
  unfold F_M_areCodes
  rcases code_c x with ⟨h1, h2⟩ | ⟨a, ea, ha, h1, h2⟩
  · exact Or.inl ⟨by rw [bp_s h2, if_pos rfl], Or.inl h1⟩
  · rw [bp_s h2, if_neg (by decide)]
    rcases code_c y with ⟨h3, h4⟩ | ⟨b, eb, hb, h3, h4⟩
    · exact Or.inl ⟨by rw [bp_s h4, if_pos rfl], Or.inr ⟨h1, h3⟩⟩
    · exact Or.inr ⟨a, b, ea, eb, ha, hb, h1, h3, by rw [bp_s h4, if_neg (by decide)]⟩
-- loops
theorem lpE {T β : Type} {G : Nat → Nat → T → β} {P : β → Prop} {Inv : Nat → T → Prop} {N : Nat} (hs : ∀ n i t, i < N → Inv i t → P (G (n + 1) i t) ∨ ∃ t', G (n + 1) i t = G n (i + 1) t' ∧ Inv (i + 1) t') (he : ∀ n t, Inv N t → P (G (n + 1) N t)) : ∀ d i n t, i + d = N → d < n → Inv i t → P (G n i t) := by
  intro d
  induction d with
  | zero =>
    intro i n t hi hn h
    obtain ⟨n, rfl⟩ : ∃ k, n = k + 1 := ⟨n - 1, by omega⟩
    have e : i = N := by omega
    subst e
    exact he n t h
  | succ d ih =>
    intro i n t hi hn h
    obtain ⟨n, rfl⟩ : ∃ k, n = k + 1 := ⟨n - 1, by omega⟩
    rcases hs n i t (by omega) h with q | ⟨t', e, h'⟩
    · exact q
    · rw [e]
      exact ih (i + 1) n t' (by omega) (by omega) h'
-- the relation
def RR (σ : GS) : Prop := (∀ r, r < 6 → σ.1 8 r = σ.1 64 r ∧ (σ.1 8 r = -1 ∨ ∃ n, n ≤ 40 ∧ σ.1 8 r = nI n)) ∧ ∀ r, r < 6 → ∀ i, i < 40 → σ.1 (2 + r) i = σ.1 65 (40 * r + i)
def RT (σ : GS) : Prop := (∀ r, r < 4 → σ.1 14 r = σ.1 66 r ∧ (σ.1 14 r = -1 ∨ ∃ n, n ≤ 80 ∧ σ.1 14 r = nI n)) ∧ ∀ r, r < 4 → ∀ i, i < 80 → σ.1 (10 + r) i = σ.1 67 (80 * r + i)
/-- a walker: kind, word of its place, heading, turned, how many streets it went -/
abbrev WS : Type := Nat × List Nat × Nat × Nat × Int32
def WV : WS → Prop := fun (kn, l, h, tu, _) => kn ≤ 5 ∧ wv l ∧ good l ∧ l.length ≤ 9 ∧ h < 5 ∧ tu ≤ 1 ∧ (kn = 0 ∨ kn = 3 ∨ kn = 5 → tu = 0)
def WX (σ : GS) (k : Nat) : WS → Prop := fun (kn, l, h, tu, w) => σ.1 k 0 = nI kn ∧ σ.1 k 1 = nI (cdv l) ∧ σ.1 k 2 = nI h ∧ σ.1 k 3 = nI tu ∧ σ.1 k 4 = w
def WM (f : Nat → Int32) (i : Nat) : WS → Prop := fun (kn, l, h, tu, w) => f (2 + i) = nI kn ∧ f (7 + i) = nI (cdv l) ∧ f (12 + i) = nI h ∧ f (17 + i) = nI tu ∧ f (22 + i) = w
def FX (f : Nat → Int32) (b : Nat) : WS → Prop := fun (_, l, h, tu, w) => f b = nI (cdv l) ∧ f (b + 1) = nI h ∧ f (b + 2) = nI tu ∧ f (b + 3) = w
/-- an hour's facts, class and model -/
def HS (n : Nat) (kd f : Nat → Int32) (b : Nat) (m : Nat → Int32) (S : Nat → WS) : Prop := m 0 = nI n ∧ ∀ i, i < n → WV (S i) ∧ kd i = nI (S i).1 ∧ FX f (b + 4 * i) (S i) ∧ WM m i (S i)
def HW (n : Nat) (kd f : Nat → Int32) (b : Nat) (m : Nat → Int32) : Prop := ∃ S, HS n kd f b m S
def TR (n h : Nat) (kd f m p : Nat → Int32) : Prop := n ≤ 5 ∧ h ≤ 60 ∧ m 1 = nI h ∧ HW n kd f (20 * h) m ∧ ∀ g, g < h → p (27 * g + 1) = nI g ∧ HW n kd f (20 * g) (fun e => p (27 * g + e))
def RN (σ : GS) : Prop := ∃ n h, σ.1 19 2 = nI n ∧ σ.1 19 3 = nI h ∧ TR n h (σ.1 20) (σ.1 21) (σ.1 68) (σ.1 69)
def RK (σ : GS) : Prop := ∀ k, k < 3 → (σ.1 72 k = 0 ∧ σ.1 (23 + 3 * k) 2 = 0) ∨ (σ.1 72 k = 1 ∧ ∃ n h, n ≠ 0 ∧ σ.1 (23 + 3 * k) 2 = nI n ∧ σ.1 (23 + 3 * k) 3 = nI h ∧ TR n h (σ.1 (23 + 3 * k + 1)) (σ.1 (23 + 3 * k + 2)) (fun e => σ.1 70 (27 * k + e)) (fun e => σ.1 71 (1620 * k + e)))
def RI (σ : GS) : Prop := ((σ.1 36 0 = nI 37 ∧ σ.1 36 1 = nI 38) ∨ (σ.1 36 0 = nI 38 ∧ σ.1 36 1 = nI 37)) ∧ ((σ.1 36 2 = nI 39 ∧ σ.1 36 3 = nI 40) ∨ (σ.1 36 2 = nI 40 ∧ σ.1 36 3 = nI 39))
def all5 : Nat → List (List Nat)
  | 0 => [[]]
  | n + 1 => [0, 1, 2, 3, 4].flatMap (fun s => (all5 n).map (fun w => s :: w))
/-- the crossings no farther than 4, in their order -/
def qL : List (List Nat) := ((List.range 5).flatMap all5).filter (fun w => nf w == w)
def qw (c : Nat) : List Nat := qL.getD c []
def qnum (w : List Nat) : Nat := w.foldl (fun a s => a * 5 + s + 1) 0
def QT (σ : GS) : Prop := σ.1 54 9 = nI 166 ∧ (∀ c, c < 166 → σ.1 55 c = nI (cdv (qw c)) ∧ σ.1 56 c = nI (qw c).length ∧ σ.1 58 (qnum (qw c)) = nI c) ∧ ∀ c, c < 166 → ∀ s, s < 5 → σ.1 57 (5 * c + s) = if (go (qw c) s).length ≤ 4 then nI (qL.idxOf (go (qw c) s)) else -1
def RQ (σ : GS) : Prop := σ.1 54 9 = 0 ∨ QT σ
def RB (σ : GS) : Prop := RR σ ∧ RT σ ∧ RN σ ∧ RK σ ∧ RI σ ∧ RQ σ
def RL (σ : GS) : Prop := σ.1 0 15 = σ.1 63 12 ∧ σ.1 0 16 = σ.1 63 9 ∧ σ.2 0 17 = σ.2 63 10 ∧ σ.2 0 18 = σ.2 63 11 ∧ ∀ f, f < 6 → σ.1 62 f = σ.1 73 f
def Rel (σ : GS) : Prop := RB σ ∧ RL σ
def kB (c : Nat) : Bool := decide ((2 ≤ c ∧ c ≤ 8) ∨ (10 ≤ c ∧ c ≤ 14) ∨ (19 ≤ c ∧ c ≤ 31) ∨ c = 36 ∨ (54 ≤ c ∧ c ≤ 58) ∨ (64 ≤ c ∧ c ≤ 72))
theorem RR.fr {σ σ' : GS} (h : ∀ c, (2 ≤ c ∧ c ≤ 8) ∨ c = 64 ∨ c = 65 → σ'.1 c = σ.1 c) (hR : RR σ) : RR σ' := by
  refine ⟨fun r hr => ?_, fun r hr i hi => ?_⟩
  · rw [h 8 (by omega), h 64 (by omega)]
    exact hR.1 r hr
  · rw [h (2 + r) (by omega), h 65 (by omega)]
    exact hR.2 r hr i hi
theorem RT.fr {σ σ' : GS} (h : ∀ c, (10 ≤ c ∧ c ≤ 14) ∨ c = 66 ∨ c = 67 → σ'.1 c = σ.1 c) (hR : RT σ) : RT σ' := by
  refine ⟨fun r hr => ?_, fun r hr i hi => ?_⟩
  · rw [h 14 (by omega), h 66 (by omega)]
    exact hR.1 r hr
  · rw [h (10 + r) (by omega), h 67 (by omega)]
    exact hR.2 r hr i hi
theorem RN.fr {σ σ' : GS} (h : ∀ c, (19 ≤ c ∧ c ≤ 21) ∨ c = 68 ∨ c = 69 → σ'.1 c = σ.1 c) (hR : RN σ) : RN σ' := by
  unfold RN
  rw [h 19 (by omega), h 20 (by omega), h 21 (by omega), h 68 (by omega), h 69 (by omega)]
  exact hR
theorem RK.fr {σ σ' : GS} (h : ∀ c, (23 ≤ c ∧ c ≤ 31) ∨ (70 ≤ c ∧ c ≤ 72) → σ'.1 c = σ.1 c) (hR : RK σ) : RK σ' := by
  intro k hk
  rw [h 72 (by omega), h (23 + 3 * k) (by omega), h (23 + 3 * k + 1) (by omega), h (23 + 3 * k + 2) (by omega), h 70 (by omega), h 71 (by omega)]
  exact hR k hk
theorem RQ.fr {σ σ' : GS} (h : ∀ c, 54 ≤ c ∧ c ≤ 58 → σ'.1 c = σ.1 c) (hR : RQ σ) : RQ σ' := by
  unfold RQ QT
  rw [h 54 (by omega), h 55 (by omega), h 56 (by omega), h 57 (by omega), h 58 (by omega)]
  exact hR
theorem RB.fr1 {σ σ' : GS} (h : ∀ c, kB c = true → σ'.1 c = σ.1 c) (hB : RB σ) : RB σ' := by
  have k : ∀ c, ((2 ≤ c ∧ c ≤ 8) ∨ (10 ≤ c ∧ c ≤ 14) ∨ (19 ≤ c ∧ c ≤ 31) ∨ c = 36 ∨ (54 ≤ c ∧ c ≤ 58) ∨ (64 ≤ c ∧ c ≤ 72)) → σ'.1 c = σ.1 c := fun c hc => h c (decide_eq_true hc)
  obtain ⟨h1, h2, h3, h4, h5, h6⟩ := hB
  refine ⟨h1.fr fun c hc => k c (by omega), h2.fr fun c hc => k c (by omega), h3.fr fun c hc => k c (by omega), h4.fr fun c hc => k c (by omega), ?_, h6.fr fun c hc => k c (by omega)⟩
  unfold RI
  rw [k 36 (by omega)]
  exact h5
theorem RB.fr {S : List Nat} {σ σ' : GS} (hB : RB σ) (h : Fr S σ σ') (hS : S.all (fun c => !kB c) = true) : RB σ' :=
  hB.fr1 fun c hc => h.1 c fun q => by
    have := List.all_eq_true.mp hS c q
    rw [hc] at this
    cases this
theorem RL.fr {S : List Nat} {σ σ' : GS} (hL : RL σ) (h : Fr S σ σ') (hS : S.all (fun c => !(c == 0 || c == 62 || c == 63 || c == 73)) = true) : RL σ' := by
  have k : ∀ c, (c == 0 || c == 62 || c == 63 || c == 73) = true → σ'.1 c = σ.1 c := fun c hc => h.1 c fun q => by
    have := List.all_eq_true.mp hS c q
    rw [hc] at this
    cases this
  unfold RL
  rw [k 0 rfl, k 62 rfl, k 63 rfl, k 73 rfl, h.2]
  exact hL
theorem Rel.fr {S : List Nat} {σ σ' : GS} (hR : Rel σ) (h : Fr S σ σ') (hS : S.all (fun c => !kB c) = true) (hS2 : S.all (fun c => !(c == 0 || c == 62 || c == 63 || c == 73)) = true) : Rel σ' := ⟨hR.1.fr h hS, hR.2.fr h hS2⟩
-- findings
theorem foundX {f : Nat} (h1 : 1 ≤ f) (h5 : f ≤ 5) (σ : GS) : F_X_found (nI f) σ = some (-3, s1 (s1 σ 0 15 (nI f)) 62 f (σ.1 62 f + 1)) := by
  unfold F_X_found
  rw [jn_s, if_neg (show ¬ nI f < 1 from nI_nlt (b := 1) h1 (by omega)), if_neg (show ¬ (5 : Int32) < nI f from nI_nlt (a := 5) h5 (by decide)), gi (by omega) (by decide), gi (by omega) (by decide), c31 (by omega), jn_s, s1_c (k' := 62) (by decide)]
theorem foundM {f : Nat} (h1 : 1 ≤ f) (h5 : f ≤ 5) (σ : GS) : F_M_found (nI f) σ = some (-3, s1 (s1 σ 63 12 (nI f)) 73 f (σ.1 73 f + 1)) := by
  unfold F_M_found
  rw [jn_s, gi (by omega) (by decide), gi (by omega) (by decide), c31 (by omega), jn_s, s1_c (k' := 73) (by decide)]
theorem found_fr {f : Nat} (σ : GS) : Fr [0, 62] σ (s1 (s1 σ 0 15 (nI f)) 62 f (σ.1 62 f + 1)) := Fr.trans (Fr.s1 (by simp)) (Fr.s1 (by simp))
/-- after both have told the finding f -/
theorem found_rel {f : Nat} (σ : GS) (hR : Rel σ) (S : List Nat) (hS : S.all (fun c => !kB c) = true) (hS2 : S.all (fun c => !(c == 0 || c == 62 || c == 63 || c == 73)) = true) {σ1 : GS} (hF : Fr S (s1 (s1 σ 0 15 (nI f)) 62 f (σ.1 62 f + 1)) σ1) : Rel (s1 (s1 σ1 63 12 (nI f)) 73 f (σ1.1 73 f + 1)) := by
  have k : ∀ c, (c == 0 || c == 62 || c == 63 || c == 73) = true → σ1.1 c = (s1 (s1 σ 0 15 (nI f)) 62 f (σ.1 62 f + 1)).1 c := fun c hc => hF.1 c fun q => by
    have := List.all_eq_true.mp hS2 c q
    rw [hc] at this
    cases this
  refine ⟨?_, ?_⟩
  · have h1 : RB (s1 (s1 σ 0 15 (nI f)) 62 f (σ.1 62 f + 1)) := hR.1.fr (found_fr σ) rfl
    have h2 : RB σ1 := h1.fr hF hS
    exact h2.fr (S := [63, 73]) (Fr.trans (Fr.s1 (by simp)) (Fr.s1 (by simp))) rfl
  · obtain ⟨a1, a2, a3, a4, a5⟩ := hR.2
    refine ⟨?_, ?_, ?_, ?_, fun g hg => ?_⟩
    · rw [s1_c (by decide), s1_c (k' := 0) (by decide), s1_c (k' := 63) (by decide), s1_at, k 0 rfl, s1_c (by decide), s1_at]
    · rw [s1_c (by decide), s1_c (k' := 0) (by decide), s1_c (k' := 63) (by decide), s1_i (by decide), k 0 rfl, k 63 rfl, s1_c (k' := 0) (by decide), s1_i (by decide), s1_c (k' := 63) (by decide), s1_c (by decide)]
      exact a2
    · show σ1.2 0 17 = σ1.2 63 10
      rw [hF.2]
      exact a3
    · show σ1.2 0 18 = σ1.2 63 11
      rw [hF.2]
      exact a4
    · have e73 : σ1.1 73 = σ.1 73 := by rw [k 73 rfl, s1_c (by decide), s1_c (by decide)]
      have e62 : ∀ g, σ1.1 62 g = if g = f then σ.1 62 f + 1 else σ.1 62 g := fun g => by
        rw [k 62 rfl, s1_get]
        by_cases e : g = f
        · rw [if_pos ⟨rfl, e⟩, if_pos e]
        · rw [if_neg (fun q => e q.2), if_neg e, s1_c (by decide)]
      rw [s1_c (k' := 62) (by decide), s1_c (k' := 62) (by decide), e62, s1_get, e73]
      by_cases e : g = f
      · rw [if_pos e, if_pos ⟨rfl, e⟩, ← e, a5 g hg]
      · rw [if_neg e, if_neg (fun q => e q.2), s1_c (by decide), e73]
        exact a5 g hg
