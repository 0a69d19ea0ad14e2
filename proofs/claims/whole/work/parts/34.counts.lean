/-! told numbers; counts by rings -/
theorem stp_asked : St_asked Rel := fun σ hR => ⟨σ.1 0 16, rfl, by unfold F_M_asked; rw [← hR.2.2.1], hR⟩
theorem stp_upper : St_upper Rel := fun σ hR => ⟨σ.2 0 17, rfl, by unfold F_M_upper; rw [← hR.2.2.2.1], hR⟩
theorem stp_lower : St_lower Rel := fun σ hR => ⟨σ.2 0 18, rfl, by unfold F_M_lower; rw [← hR.2.2.2.2.1], hR⟩
theorem stp_finding : St_finding Rel := fun σ hR => ⟨σ.1 0 15, rfl, by unfold F_M_finding; rw [← hR.2.1], hR⟩
/-- an argument between lo and hi -/
theorem bt_c (x : Int32) (lo hi : Nat) (hl : lo < 2 ^ 30) (hh : hi < 2 ^ 31) : (F_M_in x.toInt64 (nI lo).toInt64 (nI hi).toInt64 = some 0 ∧ (x < nI lo ∨ (¬ x < nI lo ∧ nI hi < x))) ∨ ∃ j, lo ≤ j ∧ j ≤ hi ∧ x = nI j ∧ F_M_in x.toInt64 (nI lo).toInt64 (nI hi).toInt64 = some 1 := by
  rw [inI]
  by_cases h0 : x < nI lo
  · exact Or.inl ⟨by rw [if_neg (fun q => absurd q.1 (Int32.not_le.mpr h0))], Or.inl h0⟩
  · by_cases h1 : nI hi < x
    · exact Or.inl ⟨by rw [if_neg (fun q => absurd q.2 (Int32.not_le.mpr h1))], Or.inr ⟨h0, h1⟩⟩
    · have hx : ¬ x < 0 := fun q => h0 (by
        have := nI_toInt (n := lo) (by omega)
        rw [Int32.lt_iff_toInt_lt] at q ⊢
        have z : (0 : Int32).toInt = 0 := by decide
        omega)
      obtain ⟨j, hj, rfl⟩ := nI_of hx
      rw [nI_ltI hj (by omega)] at h0
      rw [nI_ltI (by omega) hj] at h1
      refine Or.inr ⟨j, by omega, by omega, rfl, ?_⟩
      rw [if_pos ⟨nI_le (by omega) hj, nI_le (by omega) (by omega)⟩]
theorem stp_findings : St_findings Rel := by
  intro σ hR a1
  unfold F_X_findings
  rcases bt_c a1 1 5 (by decide) (by decide) with ⟨h1, h2⟩ | ⟨j, h1, h2, rfl, h3⟩
  · refine ⟨-1, ?_, by unfold F_M_findings; rw [show F_M_in a1.toInt64 1 5 = some 0 from h1]; rfl, hR⟩
    rcases h2 with h | ⟨h, h'⟩
    · rw [if_pos (show a1 < 1 from h)]
    · rw [if_neg (show ¬ a1 < 1 from h), if_neg (show ¬ a1 ≤ 5 from Int32.not_le.mpr h')]
  · refine ⟨σ.1 62 j, ?_, ?_, hR⟩
    · rw [if_neg (show ¬ nI j < 1 from nI_nlt (b := 1) h1 (by omega)), if_pos (show nI j ≤ 5 from nI_le (b := 5) h2 (by decide)), gi (by omega) (by decide), c31 (by omega)]
    · unfold F_M_findings
      rw [show F_M_in (nI j).toInt64 1 5 = some 1 from h3, bp_s rfl, if_neg (by decide), gi (by omega) (by decide), c31 (by omega), ← hR.2.2.2.2.2 j (by omega)]
def vA (n : Nat) : Int64 := (F_X_crossingsAt (nI n)).getD 0
def vU (n : Nat) : Int64 := (F_X_crossingsUpTo (nI n)).getD 0
def v1 (n : Nat) : Int64 := (F_X_crossingsNotBy1 (nI n)).getD 0
def v2 (n : Nat) : Int64 := (F_X_crossingsNotBy2 (nI n)).getD 0
theorem vA_s : ∀ n, n < 31 → F_X_crossingsAt (nI n) = some (vA n) ∧ F_M_without 0 (nI n) = some (vA n) := by decide +kernel
theorem vU_s : ∀ n, n < 31 → F_X_crossingsUpTo (nI n) = some (vU n) ∧ F_M_withinOf (nI n) = some (vU n) := by decide +kernel
theorem v1_s : ∀ n, n < 21 → F_X_crossingsNotBy1 (nI n) = some (v1 n) ∧ F_M_without 1 (nI n) = some (v1 n) := by decide +kernel
theorem v2_s : ∀ n, n < 21 → F_X_crossingsNotBy2 (nI n) = some (v2 n) ∧ ∀ k, k < 6 → 2 ≤ k → F_M_without (nI k) (nI n) = some (v2 n) := by decide +kernel
theorem bits_s : ∀ s, s < 32 → ∃ k, k < 6 ∧ F_J_bitCount (nI s) = some (nI k) ∧ F_M_bits (nI s) = some (nI k) := by decide +kernel
theorem s2_get (σ : GS) (k i : Nat) (v : Int64) (k' i' : Nat) : (s2 σ k i v).2 k' i' = if k' = k ∧ i' = i then v else σ.2 k' i' := by
  unfold s2 va_up vp_updL
  by_cases h : k' = k
  · subst h
    by_cases h2 : i' = i
    · simp [h2]
    · simp [h2]
  · simp [h]
theorem s2_i (σ : GS) (k i : Nat) (v : Int64) : (s2 σ k i v).1 = σ.1 := rfl
theorem s2_c {σ : GS} {k i : Nat} {v : Int64} {k' : Nat} (h : k' ≠ k) : (s2 σ k i v).2 k' = σ.2 k' := by
  funext j
  rw [s2_get, if_neg (fun q => h q.1)]
theorem Rel.told {S1 S2 S3 : List Nat} {σ a c e : GS} {u v : Int64} (hR : Rel σ) (f1 : Fr S1 σ a) (f2 : Fr S2 (s2 (s2 a 0 17 u) 0 18 v) c) (f3 : Fr S3 (s2 (s2 c 63 10 u) 63 11 v) e) (hS : (S1 ++ (S2 ++ S3)).all (fun c => !kB c && !(c == 0 || c == 62 || c == 63 || c == 73)) = true) : Rel e := by
  have hB : ∀ c, c ∈ S1 ++ (S2 ++ S3) → kB c = false ∧ (c == 0 || c == 62 || c == 63 || c == 73) = false := fun c hc => by
    have := List.all_eq_true.mp hS c hc
    rw [Bool.and_eq_true, Bool.not_eq_true', Bool.not_eq_true'] at this
    exact this
  have hk : ∀ z, kB z = true ∨ (z == 0 || z == 62 || z == 63 || z == 73) = true → z ∉ S1 ∧ z ∉ S2 ∧ z ∉ S3 := fun z hz => by
    refine ⟨fun q => ?_, fun q => ?_, fun q => ?_⟩
    all_goals
      have := hB z (by simp [q])
      rcases hz with h | h
      · rw [this.1] at h; cases h
      · rw [this.2] at h; cases h
  have k1 : ∀ z, kB z = true ∨ (z == 0 || z == 62 || z == 63 || z == 73) = true → e.1 z = σ.1 z := fun z hz => by
    obtain ⟨k1, k2, k3⟩ := hk z hz
    rw [f3.1 z k3, s2_i, s2_i, f2.1 z k2, s2_i, s2_i, f1.1 z k1]
  refine ⟨hR.1.fr1 fun z hz => k1 z (Or.inl hz), ?_⟩
  obtain ⟨a1, a2, a3, a4, a5⟩ := hR.2
  unfold RL
  rw [k1 0 (Or.inr rfl), k1 62 (Or.inr rfl), k1 63 (Or.inr rfl), k1 73 (Or.inr rfl)]
  refine ⟨a1, a2, ?_, ?_, a5⟩
  · rw [f3.2, s2_c (k' := 0) (by decide), s2_c (k' := 0) (by decide), f2.2]
    simp [s2_get]
  · rw [f3.2, s2_c (k' := 0) (by decide), s2_c (k' := 0) (by decide), f2.2]
    simp [s2_get]
theorem Rel.told0 {σ : GS} (hR : Rel σ) (u v : Int64) : Rel (s2 (s2 (s2 (s2 σ 0 17 u) 0 18 v) 63 10 u) 63 11 v) := hR.told (S1 := []) (S2 := []) (S3 := []) (Fr.refl _ _) (Fr.refl _ _) (Fr.refl _ _) rfl
def gN : Nat → Nat → Nat → Option Nat
  | 0, _, _ => none
  | f + 1, a, b => if b = 0 then some a else gN f b (a % b)
theorem gN_s (f a b : Nat) : gN (f + 1) a b = if b = 0 then some a else gN f b (a % b) := rfl
theorem l0 {a : Nat} (ha : a < 2 ^ 63) : lN a = 0 ↔ a = 0 := pk_lEQ (a := a) (b := 0) ha (by decide)
theorem zLl {α : Type} {n : Nat} {x : Option α} (h0 : n ≠ 0) (hn : n < 2 ^ 63) : gd (zL (lN n)) x = x := gd_t (decide_eq_true fun q => h0 ((l0 hn).mp q))
theorem gcdX {K : Int64 → Int64 → Int32 → Option Int64} {g : Nat} : ∀ (f a b n k : Nat), gN f a b = some g → a < 2 ^ 63 → b < 2 ^ 63 → f < n → k + f ≤ 200 → ∃ k', F_X_commonDivisor_9 K n (lN a) (lN b) (nI k) = K (lN g) 0 k' := by
  intro f
  induction f with
  | zero => intro a b n k h; cases h
  | succ f ih =>
    intro a b n k h ha hb hn hk
    obtain ⟨n, rfl⟩ : ∃ m, n = m + 1 := ⟨n - 1, by omega⟩
    rw [gN_s] at h
    rw [F_X_commonDivisor_9.eq_2, if_neg (show ¬ (200 : Int32) ≤ nI k from nI_ge (b := 200) (by omega) (by decide))]
    by_cases h0 : b = 0
    · subst h0
      rw [if_pos rfl] at h
      cases h
      exact ⟨_, by rw [if_pos (by decide)]; rfl⟩
    · rw [if_neg h0] at h
      have hm := Nat.mod_lt a (Nat.pos_of_ne_zero h0)
      rw [if_neg (by rw [lg_cmp_le, show (0 : Int64) = lN 0 from rfl, pk_lLE hb (by decide)]; omega), zLl h0 hb, pk_lRem ha (by omega) hb, nI_1]
      exact ih b (a % b) n (k + 1) h hb (by omega) (by omega) (by omega)
theorem gcdM {x1 x3 : Int64} {σ : GS} {K : Int64 → Int64 → Option (Int32 × GS)} {g : Nat} : ∀ (f a b n : Nat), gN f a b = some g → a < 2 ^ 63 → b < 2 ^ 63 → f < n → F_M_tells_6 x1 x3 σ K n (lN a) (lN b) = K (lN g) 0 := by
  intro f
  induction f with
  | zero => intro a b n h; cases h
  | succ f ih =>
    intro a b n h ha hb hn
    obtain ⟨n, rfl⟩ : ∃ m, n = m + 1 := ⟨n - 1, by omega⟩
    rw [gN_s] at h
    rw [F_M_tells_6.eq_2]
    by_cases h0 : b = 0
    · subst h0
      rw [if_pos rfl] at h
      cases h
      rw [if_pos (by decide)]
      rfl
    · rw [if_neg h0] at h
      have hm := Nat.mod_lt a (Nat.pos_of_ne_zero h0)
      rw [if_neg (by rw [lg_cmp_eq, l0 hb]; exact h0), zLl h0 hb, pk_lRem ha (by omega) hb]
      exact ih b (a % b) n h hb (by omega) (by omega)
theorem tellX {a b g : Nat} (h : gN 100 a b = some g) (ha : a < 2 ^ 63) (hb : b < 2 ^ 63) (hg : g < 2 ^ 63) (h0 : g ≠ 0) (σ : GS) : F_X_tell (lN a) (lN b) σ = some (1, s2 (s2 σ 0 17 (lN a / lN g)) 0 18 (lN b / lN g)) := by
  unfold F_X_tell
  have e : F_X_commonDivisor (lN a) (lN b) = some (lN g) := by
    unfold F_X_commonDivisor
    rw [jn_s]
    obtain ⟨k', e⟩ := gcdX (K := fun (v4_1 : Int64) (v6_1 : Int64) (v8_1 : Int32) => some v4_1) 100 a b 50000 0 h ha hb (by omega) (by omega)
    exact e
  rw [bp_s e, if_neg (by rw [lg_cmp_le, show (0 : Int64) = lN 0 from rfl, pk_lLE hg (by decide)]; omega), zLl h0 hg, jn_s, zLl h0 hg, jn_s]
theorem tellsM {a b g : Nat} (h : gN 100 a b = some g) (ha : a < 2 ^ 63) (hb : b < 2 ^ 63) (hg : g < 2 ^ 63) (h0 : g ≠ 0) (σ : GS) : F_M_tells (lN a) (lN b) σ = some (1, s2 (s2 σ 63 10 (lN a / lN g)) 63 11 (lN b / lN g)) := by
  unfold F_M_tells
  rw [jn_s, gcdM 100 a b 50000 h ha hb (by omega), zLl h0 hg, jn_s, zLl h0 hg, jn_s]
theorem d1 (x : Int64) : x - x / 1 * 1 = 0 := by rw [Int64.div_one, Int64.mul_one, Int64.sub_self]
theorem tellX1 (x : Int64) (σ : GS) : F_X_tell x 1 σ = some (1, s2 (s2 σ 0 17 x) 0 18 1) := by
  unfold F_X_tell
  have e : ∀ n, F_X_commonDivisor_9 (fun (v4_1 : Int64) (v6_1 : Int64) (v8_1 : Int32) => some v4_1) (n + 1 + 1) x 1 0 = some 1 := fun n => by
    rw [F_X_commonDivisor_9.eq_2, if_neg (by decide), if_neg (by decide), gd_t (by decide), F_X_commonDivisor_9.eq_2, if_neg (by decide), d1, if_pos (by decide)]
  have e2 : F_X_commonDivisor x 1 = some 1 := by
    unfold F_X_commonDivisor
    rw [jn_s]
    exact e 49998
  rw [bp_s e2, if_neg (by decide), gd_t (by decide), jn_s, gd_t (by decide), jn_s, Int64.div_one]
  rfl
theorem tellsM1 (x : Int64) (σ : GS) : F_M_tells x 1 σ = some (1, s2 (s2 σ 63 10 x) 63 11 1) := by
  unfold F_M_tells
  have e : ∀ n (K : Int64 → Int64 → Option (Int32 × GS)), F_M_tells_6 x 1 σ K (n + 1 + 1) x 1 = K 1 0 := fun n K => by
    rw [F_M_tells_6.eq_2, if_neg (by decide), gd_t (by decide), F_M_tells_6.eq_2, d1, if_pos (by decide)]
  rw [jn_s]
  have e2 := e 49998
  rw [e2, gd_t (by decide), jn_s, gd_t (by decide), jn_s, Int64.div_one]
  rfl
theorem lo_hi {a1 : Int32} {hi : Nat} (h2 : a1 < nI 0 ∨ (¬ a1 < nI 0 ∧ nI hi < a1)) {α : Type} (x y : α) : (if a1 < (0 : Int32) then x else if a1 ≤ nI hi then y else x) = x := by
  rcases h2 with h | ⟨h, h'⟩
  · exact if_pos h
  · rw [if_neg (show ¬ a1 < 0 from h), if_neg (Int32.not_le.mpr h')]
theorem lo_in {j hi : Nat} (h : j ≤ hi) (hh : hi < 2 ^ 31) {α : Type} (x y : α) : (if nI j < (0 : Int32) then x else if nI j ≤ nI hi then y else x) = y := by
  rw [if_neg (nI_pos (by omega)), if_pos (nI_le h hh)]
theorem stp_ring : St_ring Rel := by
  intro σ hR a1
  unfold F_X_ring
  rcases bt_c a1 0 30 (by decide) (by decide) with ⟨h1, h2⟩ | ⟨j, h1, h2, rfl, h3⟩
  · exact ⟨-1, σ, σ, lo_hi (hi := 30) h2 _ _, by unfold F_M_ring; rw [show F_M_in a1.toInt64 0 30 = some 0 from h1]; rfl, hR⟩
  · obtain ⟨e1, e2⟩ := vA_s j (by omega)
    refine ⟨1, s2 (s2 σ 0 17 (vA j)) 0 18 (1), s2 (s2 (s2 (s2 σ 0 17 (vA j)) 0 18 (1)) 63 10 (vA j)) 63 11 (1), (lo_in (hi := 30) h2 (by decide) _ _).trans ?_, ?_, hR.told0 _ _⟩
    · rw [bp_s e1, bc_s (tellX1 _ _)]
    · unfold F_M_ring
      rw [show F_M_in (nI j).toInt64 0 30 = some 1 from h3, bp_s rfl, if_neg (by decide), bp_s e2, bc_s (tellsM1 _ _)]
theorem stp_within : St_within Rel := by
  intro σ hR a1
  unfold F_X_within
  rcases bt_c a1 0 30 (by decide) (by decide) with ⟨h1, h2⟩ | ⟨j, h1, h2, rfl, h3⟩
  · exact ⟨-1, σ, σ, lo_hi (hi := 30) h2 _ _, by unfold F_M_within; rw [show F_M_in a1.toInt64 0 30 = some 0 from h1]; rfl, hR⟩
  · obtain ⟨e1, e2⟩ := vU_s j (by omega)
    refine ⟨1, s2 (s2 σ 0 17 (vU j)) 0 18 (1), s2 (s2 (s2 (s2 σ 0 17 (vU j)) 0 18 (1)) 63 10 (vU j)) 63 11 (1), (lo_in (hi := 30) h2 (by decide) _ _).trans ?_, ?_, hR.told0 _ _⟩
    · rw [bp_s e1, bc_s (tellX1 _ _)]
    · unfold F_M_within
      rw [show F_M_in (nI j).toInt64 0 30 = some 1 from h3, bp_s rfl, if_neg (by decide), bp_s e2, bc_s (tellsM1 _ _)]
theorem edge_s : ∀ n, n < 31 → ∃ a, a < 2 ^ 63 ∧ ∃ b, b < 2 ^ 63 ∧ ∃ g, g < 2 ^ 63 ∧ g ≠ 0 ∧ vA n = lN a ∧ vU n = lN b ∧ gN 100 a b = some g := by
  have h : ∀ n, n < 31 → (vA n).toNatClampNeg < 2 ^ 63 ∧ (vU n).toNatClampNeg < 2 ^ 63 ∧ (∃ g, gN 100 (vA n).toNatClampNeg (vU n).toNatClampNeg = some g ∧ g < 2 ^ 63 ∧ g ≠ 0) ∧ vA n = lN (vA n).toNatClampNeg ∧ vU n = lN (vU n).toNatClampNeg := by
    have k : ∀ n, n < 31 → (vA n).toNatClampNeg < 2 ^ 63 ∧ (vU n).toNatClampNeg < 2 ^ 63 ∧ ((gN 100 (vA n).toNatClampNeg (vU n).toNatClampNeg).any (fun g => decide (g < 2 ^ 63 ∧ g ≠ 0))) = true ∧ vA n = lN (vA n).toNatClampNeg ∧ vU n = lN (vU n).toNatClampNeg := by decide +kernel
    intro n hn
    obtain ⟨h1, h2, h3, h4, h5⟩ := k n hn
    refine ⟨h1, h2, ?_, h4, h5⟩
    cases e : gN 100 (vA n).toNatClampNeg (vU n).toNatClampNeg with
    | none => rw [e] at h3; cases h3
    | some g =>
      rw [e] at h3
      have := of_decide_eq_true h3
      exact ⟨g, rfl, this⟩
  intro n hn
  obtain ⟨h1, h2, ⟨g, h3, h4, h5⟩, h6, h7⟩ := h n hn
  exact ⟨_, h1, _, h2, g, h4, h5, h6, h7, h3⟩
theorem stp_edge : St_edge Rel := by
  intro σ hR a1
  unfold F_X_edge
  rcases bt_c a1 0 30 (by decide) (by decide) with ⟨h1, h2⟩ | ⟨j, h1, h2, rfl, h3⟩
  · exact ⟨-1, σ, σ, lo_hi (hi := 30) h2 _ _, by unfold F_M_edge; rw [show F_M_in a1.toInt64 0 30 = some 0 from h1]; rfl, hR⟩
  · obtain ⟨e1, e2⟩ := vA_s j (by omega)
    obtain ⟨e3, e4⟩ := vU_s j (by omega)
    obtain ⟨a, ha, b, hb, g, hg, h0, ea, eb, eg⟩ := edge_s j (by omega)
    refine ⟨1, s2 (s2 σ 0 17 (lN a / lN g)) 0 18 (lN b / lN g), s2 (s2 (s2 (s2 σ 0 17 (lN a / lN g)) 0 18 (lN b / lN g)) 63 10 (lN a / lN g)) 63 11 (lN b / lN g), (lo_in (hi := 30) h2 (by decide) _ _).trans ?_, ?_, hR.told0 _ _⟩
    · rw [bp_s e1, bp_s e3, ea, eb, bc_s (tellX eg ha hb hg h0 _)]
    · unfold F_M_edge
      rw [show F_M_in (nI j).toInt64 0 30 = some 1 from h3, bp_s rfl, if_neg (by decide), bp_s e2, bp_s e4, ea, eb, bc_s (tellsM eg ha hb hg h0 _)]
def hs5 : Nat → Int64
  | 0 => 0
  | n + 1 => hs5 n + 5 * v2 n
theorem stp_houses : St_houses Rel := by
  intro σ hR a1
  unfold F_X_houses
  rcases bt_c a1 0 20 (by decide) (by decide) with ⟨h1, h2⟩ | ⟨j, h1, h2, rfl, h3⟩
  · exact ⟨-1, σ, σ, lo_hi (hi := 20) h2 _ _, by unfold F_M_houses; rw [show F_M_in a1.toInt64 0 20 = some 0 from h1]; rfl, hR⟩
  · have eX : ∀ K : Int64 → Int32 → Option (Int32 × GS), F_X_houses_17 (nI j) σ K 50000 0 0 = K (hs5 (j + 1)) (nI (j + 1)) := fun K => by
      refine lpE (G := fun n i (t : Int64) => F_X_houses_17 (nI j) σ K n t (nI i)) (P := fun o => o = K (hs5 (j + 1)) (nI (j + 1))) (Inv := fun i t => t = hs5 i) (N := j + 1) ?_ ?_ (j + 1) 0 50000 0 (by omega) (by omega) rfl
      · intro n i t hi h
        refine Or.inr ⟨hs5 (i + 1), ?_, rfl⟩
        show F_X_houses_17 (nI j) σ K (n + 1) t (nI i) = F_X_houses_17 (nI j) σ K n _ (nI (i + 1))
        rw [F_X_houses_17.eq_2, if_neg (nI_nlt (by omega) (by omega)), bp_s (v2_s i (by omega)).1, nI_1, h]
        rfl
      · intro n t h
        show F_X_houses_17 (nI j) σ K (n + 1) t (nI (j + 1)) = _
        rw [F_X_houses_17.eq_2, if_pos (nI_lt (by omega) (by omega)), h]
    have eM : ∀ (s : GS) (K : Int64 → Int32 → Option (Int32 × GS)), F_M_houses_19 (nI j) s K 50000 0 0 = K (hs5 (j + 1)) (nI (j + 1)) := fun s K => by
      refine lpE (G := fun n i (t : Int64) => F_M_houses_19 (nI j) s K n t (nI i)) (P := fun o => o = K (hs5 (j + 1)) (nI (j + 1))) (Inv := fun i t => t = hs5 i) (N := j + 1) ?_ ?_ (j + 1) 0 50000 0 (by omega) (by omega) rfl
      · intro n i t hi h
        refine Or.inr ⟨hs5 (i + 1), ?_, rfl⟩
        show F_M_houses_19 (nI j) s K (n + 1) t (nI i) = F_M_houses_19 (nI j) s K n _ (nI (i + 1))
        have e2 : F_M_without 2 (nI i) = some (v2 i) := (v2_s i (by omega)).2 2 (by omega) (by omega)
        rw [F_M_houses_19.eq_2, if_neg (nI_nlt (by omega) (by omega)), bp_s e2, nI_1, h]
        rfl
      · intro n t h
        show F_M_houses_19 (nI j) s K (n + 1) t (nI (j + 1)) = _
        rw [F_M_houses_19.eq_2, if_pos (nI_lt (by omega) (by omega)), h]
    refine ⟨1, s2 (s2 σ 0 17 (hs5 (j + 1))) 0 18 (1), s2 (s2 (s2 (s2 σ 0 17 (hs5 (j + 1))) 0 18 (1)) 63 10 (hs5 (j + 1))) 63 11 (1), (lo_in (hi := 20) h2 (by decide) _ _).trans ?_, ?_, hR.told0 _ _⟩
    · rw [jn_s, eX, bc_s (tellX1 _ _)]
    · unfold F_M_houses
      rw [show F_M_in (nI j).toInt64 0 20 = some 1 from h3, bp_s rfl, if_neg (by decide), jn_s, eM, bc_s (tellsM1 _ _)]
