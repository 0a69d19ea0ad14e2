/-! count, digest -/
def cn (p : Nat → Bool) : Nat → Nat
  | 0 => 0
  | n + 1 => cn p n + if p n = true then 1 else 0
theorem cn_s (p : Nat → Bool) (n : Nat) : cn p (n + 1) = cn p n + if p n = true then 1 else 0 := rfl
theorem cn_congr {p q : Nat → Bool} : ∀ {n : Nat}, (∀ i, i < n → p i = q i) → cn p n = cn q n
  | 0, _ => rfl
  | n + 1, h => by rw [cn_s, cn_s, cn_congr (fun i hi => h i (by omega)), h n (by omega)]
theorem cn_false {p : Nat → Bool} : ∀ {n : Nat}, (∀ i, i < n → p i = false) → cn p n = 0
  | 0, _ => rfl
  | n + 1, h => by rw [cn_s, cn_false (fun i hi => h i (by omega)), h n (by omega)]; rfl
theorem cn_t {p : Nat → Bool} {n : Nat} (h : p n = true) : cn p (n + 1) = cn p n + 1 := by rw [cn_s, h]; rfl
theorem cn_f {p : Nat → Bool} {n : Nat} (h : p n = false) : cn p (n + 1) = cn p n := by rw [cn_s, h]; rfl
theorem nI_p0 (c : Nat) : nI c + (0 : Int32) = nI c := nI_add c 0
def kof (k b : Nat) : Bool := F_M_isOf (nI k) (nI b) == some 1
theorem kof_s {k b : Nat} (hk : k ≤ 5) (hb : b < 6) : F_M_isOf (nI k) (nI b) = some (if kof k b = true then 1 else 0) ∧ F_Wk_isOf (nI k) (nI b) = some (if kof k b = true then 1 else 0) := by
  obtain ⟨h1, h2⟩ := isOf_s k (by omega) b hb
  unfold kof
  rcases h2 with h | h <;> rw [h1, h] <;> exact ⟨rfl, rfl⟩
def pM (S : Nat → WS) (c i : Nat) : Bool := if c = 2 then kof (S i).1 1 else if c = 3 then kof (S i).1 2 else if c = 4 then decide (plc (S i) = 0) else false
theorem areX {σ : GS} {n b : Nat} {S : Nat → WS} (hn : n ≤ 5) (hb : b < 6) (e2 : σ.1 19 2 = nI n) (hk : ∀ i, i < n → σ.1 20 i = nI (S i).1) (hV : ∀ i, i < n → WV (S i)) : F_Tn_howManyAre (nI b) σ = some (nI (cn (fun i => kof (S i).1 b) n)) := by
  unfold F_Tn_howManyAre
  rw [jn_s]
  refine lpE (G := fun k i (t : Int32) => F_Tn_howManyAre_4 (nI b) σ (fun (v2_1 : Int32) (v3_1 : Int32) => some v2_1) k t (nI i)) (P := fun o => o = some (nI (cn (fun i => kof (S i).1 b) n))) (Inv := fun i t => t = nI (cn (fun i => kof (S i).1 b) i)) (N := n) ?_ ?_ n 0 50000 0 (by omega) (by omega) rfl
  · intro k i t hi hI
    refine Or.inr ⟨nI (cn (fun i => kof (S i).1 b) (i + 1)), ?_, rfl⟩
    show F_Tn_howManyAre_4 (nI b) σ _ (k + 1) t (nI i) = F_Tn_howManyAre_4 (nI b) σ _ k _ (nI (i + 1))
    rw [F_Tn_howManyAre_4.eq_2, e2, if_neg (nI_ge hi (by omega)), gi (by omega) (by decide), c31 (by omega), hk i hi, bp_s (kof_s (WV_k (hV i hi)) hb).2, nI_1, hI, nI_1]
    by_cases q : kof (S i).1 b = true
    · rw [if_pos q, if_neg (by decide), cn_t (p := fun i => kof (S i).1 b) q]
    · rw [if_neg q, if_pos rfl, cn_f (p := fun i => kof (S i).1 b) (Bool.eq_false_iff.mpr q)]
  · intro k t hI
    show F_Tn_howManyAre_4 (nI b) σ _ (k + 1) t (nI n) = _
    rw [F_Tn_howManyAre_4.eq_2, e2, if_pos (nI_le (Nat.le_refl _) (by omega)), hI]
theorem homeX {σ : GS} {n h : Nat} {S : Nat → WS} (hn : n ≤ 5) (hh : h ≤ 60) (e2 : σ.1 19 2 = nI n) (e3 : σ.1 19 3 = nI h) (hF : ∀ i, i < n → FX (σ.1 21) (20 * h + 4 * i) (S i)) : F_Tn_howManyAtHome σ = some (nI (cn (fun i => decide (plc (S i) = 0)) n)) := by
  unfold F_Tn_howManyAtHome
  rw [jn_s]
  refine lpE (G := fun k i (t : Int32) => F_Tn_howManyAtHome_4 σ (fun (v2_1 : Int32) (v3_1 : Int32) => some v2_1) k t (nI i)) (P := fun o => o = some (nI (cn (fun i => decide (plc (S i) = 0)) n))) (Inv := fun i t => t = nI (cn (fun i => decide (plc (S i) = 0)) i)) (N := n) ?_ ?_ n 0 50000 0 (by omega) (by omega) rfl
  · intro k i t hi hI
    refine Or.inr ⟨nI (cn (fun i => decide (plc (S i) = 0)) (i + 1)), ?_, rfl⟩
    show F_Tn_howManyAtHome_4 σ _ (k + 1) t (nI i) = F_Tn_howManyAtHome_4 σ _ k _ (nI (i + 1))
    have ep : σ.1 21 (20 * h + 4 * i) = plc (S i) := (hF i hi).1
    rw [F_Tn_howManyAtHome_4.eq_2, e2, if_neg (nI_ge hi (by omega)), bp_s (placeX (by omega) hh e3), ep, nI_1, hI, nI_1]
    by_cases q : plc (S i) = 0
    · rw [if_pos q, cn_t (p := fun i => decide (plc (S i) = 0)) (decide_eq_true q)]
    · rw [if_neg q, cn_f (p := fun i => decide (plc (S i) = 0)) (decide_eq_false q)]
  · intro k t hI
    show F_Tn_howManyAtHome_4 σ _ (k + 1) t (nI n) = _
    rw [F_Tn_howManyAtHome_4.eq_2, e2, if_pos (nI_le (Nat.le_refl _) (by omega)), hI]
theorem cntM4 {σ : GS} {n c : Nat} {S : Nat → WS} {K : Int32 → Int32 → Option Int32} (hn : n ≤ 5) (hc : c < 8) (m0 : σ.1 68 0 = nI n) (hM : ∀ i, i < n → WM (σ.1 68) i (S i)) (hV : ∀ i, i < n → WV (S i)) : F_M_counted_4 (nI c) σ K 50000 0 0 = K (nI (cn (pM S c) n)) (nI n) := by
  refine lpE (G := fun k i (t : Int32) => F_M_counted_4 (nI c) σ K k t (nI i)) (P := fun o => o = K (nI (cn (pM S c) n)) (nI n)) (Inv := fun i t => t = nI (cn (pM S c) i)) (N := n) ?_ ?_ n 0 50000 0 (by omega) (by omega) rfl
  · intro k i t hi hI
    refine Or.inr ⟨nI (cn (pM S c) (i + 1)), ?_, rfl⟩
    show F_M_counted_4 (nI c) σ K (k + 1) t (nI i) = F_M_counted_4 (nI c) σ K k _ (nI (i + 1))
    have ne : ∀ d, d < 8 → c ≠ d → ¬ nI c = nI d := fun d hd q z => q ((nI_eq (by omega) (by omega)).mp z)
    have fin : ∀ b : Bool, pM S c i = b → (if (if b = true then (1 : Int32) else 0) = (0 : Int32) then F_M_counted_4 (nI c) σ K k (nI (cn (pM S c) i)) (nI (i + 1)) else F_M_counted_4 (nI c) σ K k (nI (cn (pM S c) i + 1)) (nI (i + 1))) = F_M_counted_4 (nI c) σ K k (nI (cn (pM S c) (i + 1))) (nI (i + 1)) := fun b hb => by
      rw [cn_s, hb]
      cases b
      · rfl
      · rfl
    rw [F_M_counted_4.eq_2, m0, if_neg (nI_ge hi (by omega)), jn_s, hI, nI_p0, nI_1, nI_1]
    by_cases c2 : c = 2
    · subst c2
      rw [if_pos (by decide), ix2, gi (by omega) (by decide), c31 (by omega), WM_k (hM i hi), bp_s (show F_M_isOf (nI (S i).1) 1 = _ from (kof_s (b := 1) (WV_k (hV i hi)) (by decide)).1)]
      exact fin _ rfl
    rw [if_neg (show ¬ nI c = (2 : Int32) from ne 2 (by decide) c2)]
    by_cases c3 : c = 3
    · subst c3
      rw [if_pos (by decide), ix2, gi (by omega) (by decide), c31 (by omega), WM_k (hM i hi), bp_s (show F_M_isOf (nI (S i).1) 2 = _ from (kof_s (b := 2) (WV_k (hV i hi)) (by decide)).1)]
      exact fin _ rfl
    rw [if_neg (show ¬ nI c = (3 : Int32) from ne 3 (by decide) c3)]
    by_cases c4 : c = 4
    · subst c4
      rw [if_pos (by decide), ix7, gi (by omega) (by decide), c31 (by omega), WM_p (hM i hi)]
      by_cases q : plc (S i) = 0
      · rw [if_pos q]
        exact fin true (decide_eq_true q)
      · rw [if_neg q]
        exact fin false (decide_eq_false q)
    rw [if_neg (show ¬ nI c = (4 : Int32) from ne 4 (by decide) c4)]
    exact fin false (by unfold pM; rw [if_neg c2, if_neg c3, if_neg c4])
  · intro k t hI
    show F_M_counted_4 (nI c) σ K (k + 1) t (nI n) = _
    rw [F_M_counted_4.eq_2, m0, if_pos (nI_le (Nat.le_refl _) (by omega)), hI]
def pK (σ : GS) (k : Nat) : Bool := decide (σ.1 72 k ≠ 0)
def pR (σ : GS) (k : Nat) : Bool := decide (0 ≤ σ.1 8 k)
def pT (σ : GS) (k : Nat) : Bool := decide (0 ≤ σ.1 14 k)
theorem cntM99 {s σ : GS} {c v : Nat} {K : Int32 → Int32 → Option Int32} (hc : c < 8) (e : s.1 72 = σ.1 72) : ∃ z, F_M_counted_99 (nI c) s K 50000 (nI v) 0 = K (nI (if c = 5 then v + cn (pK σ) 3 else v)) z := by
  by_cases c5 : c = 5
  · subst c5
    refine ⟨nI 3, ?_⟩
    rw [if_pos rfl]
    refine lpE (G := fun k i (t : Int32) => F_M_counted_99 (nI 5) s K k t (nI i)) (P := fun o => o = K (nI (v + cn (pK σ) 3)) (nI 3)) (Inv := fun i t => t = nI (v + cn (pK σ) i)) (N := 3) ?_ ?_ 3 0 50000 (nI v) (by omega) (by omega) rfl
    · intro k i t hi hI
      refine Or.inr ⟨nI (v + cn (pK σ) (i + 1)), ?_, rfl⟩
      show F_M_counted_99 (nI 5) s K (k + 1) t (nI i) = F_M_counted_99 (nI 5) s K k _ (nI (i + 1))
      rw [F_M_counted_99.eq_2, if_neg (show ¬ (3 : Int32) ≤ nI i from nI_ge (b := 3) hi (by decide)), if_pos (by decide), gi hi (by decide), c31 (by omega), e, hI, nI_p0, nI_1, nI_1]
      by_cases q : σ.1 72 i = 0
      · rw [if_pos q, cn_f (p := pK σ) (decide_eq_false (fun z => z q))]
      · rw [if_neg q, cn_t (p := pK σ) (decide_eq_true q), Nat.add_assoc]
    · intro k t hI
      show F_M_counted_99 (nI 5) s K (k + 1) t (nI 3) = _
      rw [F_M_counted_99.eq_2, if_pos (by decide), hI]
  · rw [if_neg c5]
    have : ∀ k, F_M_counted_99 (nI c) s K (k + 1) (nI v) 0 = K (nI v) 0 := fun k => by
      rw [F_M_counted_99.eq_2, if_neg (by decide), if_neg (show ¬ nI c = (5 : Int32) from fun z => c5 ((nI_eq (a := c) (b := 5) (by omega) (by decide)).mp z))]
    exact ⟨0, this 49999⟩
theorem cntM134 {s σ : GS} {c v : Nat} {K : Int32 → Int32 → Option Int32} (hc : c < 8) (e : s.1 64 = σ.1 64) (hR : ∀ r, r < 6 → σ.1 8 r = σ.1 64 r) : ∃ z, F_M_counted_134 (nI c) s K 50000 (nI v) 0 = K (nI (if c = 6 then v + cn (pR σ) 6 else v)) z := by
  by_cases c5 : c = 6
  · subst c5
    refine ⟨nI 6, ?_⟩
    rw [if_pos rfl]
    refine lpE (G := fun k i (t : Int32) => F_M_counted_134 (nI 6) s K k t (nI i)) (P := fun o => o = K (nI (v + cn (pR σ) 6)) (nI 6)) (Inv := fun i t => t = nI (v + cn (pR σ) i)) (N := 6) ?_ ?_ 6 0 50000 (nI v) (by omega) (by omega) rfl
    · intro k i t hi hI
      refine Or.inr ⟨nI (v + cn (pR σ) (i + 1)), ?_, rfl⟩
      show F_M_counted_134 (nI 6) s K (k + 1) t (nI i) = F_M_counted_134 (nI 6) s K k _ (nI (i + 1))
      rw [F_M_counted_134.eq_2, if_neg (show ¬ (6 : Int32) ≤ nI i from nI_ge (b := 6) hi (by decide)), if_pos (by decide), gi hi (by decide), c31 (by omega), e, ← hR i hi, hI, nI_p0, nI_1, nI_1]
      by_cases q : 0 ≤ σ.1 8 i
      · rw [if_pos q, cn_t (p := pR σ) (decide_eq_true q), Nat.add_assoc]
      · rw [if_neg q, cn_f (p := pR σ) (decide_eq_false q)]
    · intro k t hI
      show F_M_counted_134 (nI 6) s K (k + 1) t (nI 6) = _
      rw [F_M_counted_134.eq_2, if_pos (by decide), hI]
  · rw [if_neg c5]
    have : ∀ k, F_M_counted_134 (nI c) s K (k + 1) (nI v) 0 = K (nI v) 0 := fun k => by
      rw [F_M_counted_134.eq_2, if_neg (by decide), if_neg (show ¬ nI c = (6 : Int32) from fun z => c5 ((nI_eq (a := c) (b := 6) (by omega) (by decide)).mp z))]
    exact ⟨0, this 49999⟩
theorem cntM171 {s σ : GS} {c v : Nat} {K : Int32 → Int32 → Option Int32} (hc : c < 8) (e : s.1 66 = σ.1 66) (hR : ∀ r, r < 4 → σ.1 14 r = σ.1 66 r) : ∃ z, F_M_counted_171 (nI c) s K 50000 (nI v) 0 = K (nI (if c = 7 then v + cn (pT σ) 4 else v)) z := by
  by_cases c5 : c = 7
  · subst c5
    refine ⟨nI 4, ?_⟩
    rw [if_pos rfl]
    refine lpE (G := fun k i (t : Int32) => F_M_counted_171 (nI 7) s K k t (nI i)) (P := fun o => o = K (nI (v + cn (pT σ) 4)) (nI 4)) (Inv := fun i t => t = nI (v + cn (pT σ) i)) (N := 4) ?_ ?_ 4 0 50000 (nI v) (by omega) (by omega) rfl
    · intro k i t hi hI
      refine Or.inr ⟨nI (v + cn (pT σ) (i + 1)), ?_, rfl⟩
      show F_M_counted_171 (nI 7) s K (k + 1) t (nI i) = F_M_counted_171 (nI 7) s K k _ (nI (i + 1))
      rw [F_M_counted_171.eq_2, if_neg (show ¬ (4 : Int32) ≤ nI i from nI_ge (b := 4) hi (by decide)), if_pos (by decide), gi hi (by decide), c31 (by omega), e, ← hR i hi, hI, nI_p0, nI_1, nI_1]
      by_cases q : 0 ≤ σ.1 14 i
      · rw [if_pos q, cn_t (p := pT σ) (decide_eq_true q), Nat.add_assoc]
      · rw [if_neg q, cn_f (p := pT σ) (decide_eq_false q)]
    · intro k t hI
      show F_M_counted_171 (nI 7) s K (k + 1) t (nI 4) = _
      rw [F_M_counted_171.eq_2, if_pos (by decide), hI]
  · rw [if_neg c5]
    have : ∀ k, F_M_counted_171 (nI c) s K (k + 1) (nI v) 0 = K (nI v) 0 := fun k => by
      rw [F_M_counted_171.eq_2, if_neg (by decide), if_neg (show ¬ nI c = (7 : Int32) from fun z => c5 ((nI_eq (a := c) (b := 7) (by omega) (by decide)).mp z))]
    exact ⟨0, this 49999⟩
theorem keptX {σ : GS} (hK : RK σ) : F_X_howManyKept σ = some (nI (cn (pK σ) 3)) := by
  unfold F_X_howManyKept
  rw [jn_s]
  refine lpE (G := fun k i (t : Int32) => F_X_howManyKept_4 σ (fun (v2_1 : Int32) (v3_1 : Int32) => some v2_1) k t (nI i)) (P := fun o => o = some (nI (cn (pK σ) 3))) (Inv := fun i t => t = nI (cn (pK σ) i)) (N := 3) ?_ ?_ 3 0 50000 0 (by omega) (by omega) rfl
  · intro k i t hi hI
    refine Or.inr ⟨nI (cn (pK σ) (i + 1)), ?_, rfl⟩
    show F_X_howManyKept_4 σ _ (k + 1) t (nI i) = F_X_howManyKept_4 σ _ k _ (nI (i + 1))
    rw [F_X_howManyKept_4.eq_2, if_neg (show ¬ (3 : Int32) ≤ nI i from nI_ge (b := 3) hi (by decide)), gi hi (by decide), c31 (by omega), nI_1, hI, nI_1]
    rcases hK i hi with ⟨z1, z2⟩ | ⟨z1, n, h, n0, z2, z3, hT⟩
    · rw [z2, if_pos (by decide), cn_f (p := pK σ) (decide_eq_false (fun z => z z1))]
    · have := hT.1
      rw [z2, if_neg (nI_nle (by omega) (by omega)), cn_t (p := pK σ) (decide_eq_true (by rw [z1]; decide))]
  · intro k t hI
    show F_X_howManyKept_4 σ _ (k + 1) t (nI 3) = _
    rw [F_X_howManyKept_4.eq_2, if_pos (by decide), hI]
theorem thereX {σ : GS} {q N : Nat} (hN : N < 40) : F_X_howManyThere q N σ = some (nI (cn (fun k => decide (0 ≤ σ.1 q k)) N)) := by
  unfold F_X_howManyThere
  rw [jn_s, jn_s]
  refine lpE (G := fun k i (t : Int32) => F_X_howManyThere_10 q N (nI N) σ (fun (v2_1 : Int32) (v3_1 : Int32) => some v2_1) k t (nI i)) (P := fun o => o = some (nI (cn (fun k => decide (0 ≤ σ.1 q k)) N))) (Inv := fun i t => t = nI (cn (fun k => decide (0 ≤ σ.1 q k)) i)) (N := N) ?_ ?_ N 0 50000 0 (by omega) (by omega) rfl
  · intro k i t hi hI
    refine Or.inr ⟨nI (cn (fun k => decide (0 ≤ σ.1 q k)) (i + 1)), ?_, rfl⟩
    show F_X_howManyThere_10 q N (nI N) σ _ (k + 1) t (nI i) = F_X_howManyThere_10 q N (nI N) σ _ k _ (nI (i + 1))
    rw [F_X_howManyThere_10.eq_2, if_neg (nI_ge hi (by omega)), gi hi (by omega), c31 (by omega), nI_1, hI, nI_1]
    by_cases z : 0 ≤ σ.1 q i
    · rw [if_neg (Int32.not_lt.mpr z), cn_t (p := fun k => decide (0 ≤ σ.1 q k)) (decide_eq_true z)]
    · rw [if_pos (Int32.not_le.mp z), cn_f (p := fun k => decide (0 ≤ σ.1 q k)) (decide_eq_false z)]
  · intro k t hI
    show F_X_howManyThere_10 q N (nI N) σ _ (k + 1) t (nI N) = _
    rw [F_X_howManyThere_10.eq_2, if_pos (nI_le (Nat.le_refl _) (by omega)), hI]
/-- what count tells -/
def ctv (σ : GS) (S : Nat → WS) (n h c : Nat) : Int32 := if c = 0 then nI n else if c = 1 then nI h else if c = 2 then nI (cn (fun i => kof (S i).1 1) n) else if c = 3 then nI (cn (fun i => kof (S i).1 2) n) else if c = 4 then nI (cn (fun i => decide (plc (S i) = 0)) n) else if c = 5 then nI (cn (pK σ) 3) else if c = 6 then nI (cn (pR σ) 6) else nI (cn (pT σ) 4)
theorem countX {σ : GS} {n h c : Nat} {S : Nat → WS} (hK : RK σ) (hn : n ≤ 5) (hh : h ≤ 60) (hc : c < 8) (e2 : σ.1 19 2 = nI n) (e3 : σ.1 19 3 = nI h) (hS : HS n (σ.1 20) (σ.1 21) (20 * h) (σ.1 68) S) : F_X_count (nI c) σ = some (ctv σ S n h c) := by
  have ne : ∀ d, d < 8 → c ≠ d → ¬ nI c = nI d := fun d hd q z => q ((nI_eq (by omega) (by omega)).mp z)
  unfold F_X_count ctv
  by_cases c0 : c = 0
  · rw [if_pos (by rw [c0]; rfl), if_pos c0, e2]
  rw [if_neg (show ¬ nI c = 0 from ne 0 (by decide) c0), if_neg c0]
  by_cases c1 : c = 1
  · rw [if_pos (by rw [c1]; rfl), if_pos c1, e3]
  rw [if_neg (show ¬ nI c = 1 from ne 1 (by decide) c1), if_neg c1]
  by_cases c2 : c = 2
  · rw [if_pos (by rw [c2]; rfl), if_pos c2, bp_s (show F_Tn_howManyAre 1 σ = _ from areX (b := 1) hn (by decide) e2 (fun i hi => (hS.2 i hi).2.1) (fun i hi => (hS.2 i hi).1))]
  rw [if_neg (show ¬ nI c = 2 from ne 2 (by decide) c2), if_neg c2]
  by_cases c3 : c = 3
  · rw [if_pos (by rw [c3]; rfl), if_pos c3, bp_s (show F_Tn_howManyAre 2 σ = _ from areX (b := 2) hn (by decide) e2 (fun i hi => (hS.2 i hi).2.1) (fun i hi => (hS.2 i hi).1))]
  rw [if_neg (show ¬ nI c = 3 from ne 3 (by decide) c3), if_neg c3]
  by_cases c4 : c = 4
  · rw [if_pos (by rw [c4]; rfl), if_pos c4, bp_s (homeX hn hh e2 e3 (fun i hi => (hS.2 i hi).2.2.1))]
  rw [if_neg (show ¬ nI c = 4 from ne 4 (by decide) c4), if_neg c4]
  by_cases c5 : c = 5
  · rw [if_pos (by rw [c5]; rfl), if_pos c5, bp_s (keptX hK)]
  rw [if_neg (show ¬ nI c = 5 from ne 5 (by decide) c5), if_neg c5]
  by_cases c6 : c = 6
  · rw [if_pos (by rw [c6]; rfl), if_pos c6, bp_s (thereX (q := 8) (N := 6) (by decide))]
    rfl
  rw [if_neg (show ¬ nI c = 6 from ne 6 (by decide) c6), if_neg c6, if_pos (by rw [show c = 7 by omega]; rfl), bp_s (thereX (q := 14) (N := 4) (by decide))]
  rfl
theorem countedM {s σ : GS} {n h c : Nat} {S : Nat → WS} (hB : RB σ) (hn : n ≤ 5) (hc : c < 8) (hS : HS n (σ.1 20) (σ.1 21) (20 * h) (σ.1 68) S) (m1 : σ.1 68 1 = nI h) (k68 : s.1 68 = σ.1 68) (k72 : s.1 72 = σ.1 72) (k64 : s.1 64 = σ.1 64) (k66 : s.1 66 = σ.1 66) : F_M_counted (nI c) s = some (ctv σ S n h c) := by
  unfold F_M_counted
  simp only [jn_s]
  rw [cntM4 (S := S) hn hc (by rw [k68]; exact hS.1) (fun i hi => by rw [k68]; exact (hS.2 i hi).2.2.2) (fun i hi => (hS.2 i hi).1)]
  obtain ⟨z1, e1⟩ := cntM99 (s := s) (σ := σ) (c := c) (v := cn (pM S c) n) (K := fun (v2_2 : Int32) (v3_2 : Int32) => F_M_counted_134 (nI c) s (fun (v2_3 : Int32) (v3_3 : Int32) => F_M_counted_171 (nI c) s (fun (v2_4 : Int32) (v3_4 : Int32) => if (2 : Int32) ≤ nI c then some v2_4 else gd (iB (nI c) 27) (some (s.1 68 (nI c).toNatClampNeg))) 50000 v2_3 (0 : Int32)) 50000 v2_2 (0 : Int32)) hc k72
  rw [e1]
  obtain ⟨z2, e2⟩ := cntM134 (s := s) (σ := σ) (c := c) (v := if c = 5 then cn (pM S c) n + cn (pK σ) 3 else cn (pM S c) n) (K := fun (v2_3 : Int32) (v3_3 : Int32) => F_M_counted_171 (nI c) s (fun (v2_4 : Int32) (v3_4 : Int32) => if (2 : Int32) ≤ nI c then some v2_4 else gd (iB (nI c) 27) (some (s.1 68 (nI c).toNatClampNeg))) 50000 v2_3 (0 : Int32)) hc k64 (fun r hr => (hB.1.1 r hr).1)
  rw [e2]
  obtain ⟨z3, e3⟩ := cntM171 (s := s) (σ := σ) (c := c) (v := if c = 6 then (if c = 5 then cn (pM S c) n + cn (pK σ) 3 else cn (pM S c) n) + cn (pR σ) 6 else (if c = 5 then cn (pM S c) n + cn (pK σ) 3 else cn (pM S c) n)) (K := fun (v2_4 : Int32) (v3_4 : Int32) => if (2 : Int32) ≤ nI c then some v2_4 else gd (iB (nI c) 27) (some (s.1 68 (nI c).toNatClampNeg))) hc k66 (fun r hr => (hB.2.1.1 r hr).1)
  rw [e3, gi (by omega) (by decide), c31 (by omega), k68]
  have p0 : c < 2 ∨ 4 < c → cn (pM S c) n = 0 := fun h => cn_false fun i hi => by
    unfold pM
    rw [if_neg (by omega), if_neg (by omega), if_neg (by omega)]
  unfold ctv
  by_cases c0 : c = 0
  · subst c0
    rw [if_neg (by decide), if_pos rfl, hS.1]
  by_cases c1 : c = 1
  · subst c1
    rw [if_neg (by decide), if_neg (by decide), if_pos rfl, m1]
  rw [if_pos (show (2 : Int32) ≤ nI c from nI_le (a := 2) (by omega) (by omega)), if_neg c0, if_neg c1]
  by_cases c2 : c = 2
  · subst c2; rfl
  rw [if_neg c2]
  by_cases c3 : c = 3
  · subst c3; rfl
  rw [if_neg c3]
  by_cases c4 : c = 4
  · subst c4; rfl
  rw [if_neg c4, p0 (by omega)]
  by_cases c5 : c = 5
  · subst c5
    rw [if_pos rfl, Nat.zero_add]; rfl
  rw [if_neg c5]
  by_cases c6 : c = 6
  · subst c6
    rw [if_pos rfl, Nat.zero_add]; rfl
  rw [if_neg c6, if_pos (by omega), if_neg c6, if_neg c5, Nat.zero_add]
theorem stp_count : St_count Rel := by
  intro σ hR a1
  obtain ⟨n, h, e2, e3, hn, hh, m1, ⟨S, hS⟩, hp⟩ := hR.1.2.2.1
  rcases bt_c a1 0 7 (by decide) (by decide) with ⟨q1, q2⟩ | ⟨c, q1, q2, rfl, q3⟩
  · have ne : ∀ j, j ≤ 7 → ¬ a1 = nI j := fun j hj z => by
      subst z
      rcases q2 with q | ⟨-, q⟩
      · exact nI_pos (by omega) q
      · rw [nI_ltI (by decide) (by omega)] at q
        omega
    refine ⟨-1, ?_, by unfold F_M_count; rw [show F_M_in a1.toInt64 0 7 = some 0 from q1]; rfl, hR⟩
    unfold F_X_count
    rw [if_neg (show ¬ a1 = 0 from ne 0 (by decide)), if_neg (show ¬ a1 = 1 from ne 1 (by decide)), if_neg (show ¬ a1 = 2 from ne 2 (by decide)), if_neg (show ¬ a1 = 3 from ne 3 (by decide)), if_neg (show ¬ a1 = 4 from ne 4 (by decide)), if_neg (show ¬ a1 = 5 from ne 5 (by decide)), if_neg (show ¬ a1 = 6 from ne 6 (by decide)), if_neg (show ¬ a1 = 7 from ne 7 (by decide))]
  · refine ⟨_, countX hR.1.2.2.2.1 hn hh (by omega) e2 e3 hS, ?_, hR⟩
    unfold F_M_count
    rw [show F_M_in (nI c).toInt64 0 7 = some 1 from q3, bp_s rfl, if_neg (by decide), bp_s (countedM hR.1 hn (by omega) hS m1 rfl rfl rfl rfl)]
