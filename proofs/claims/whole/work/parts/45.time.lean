/-! hours, undone, kept -/
theorem cA_fr (σ : GS) (k k' sp dp n : Nat) : Fr [k'] σ (cA σ k k' sp dp n) := ⟨fun c hc => by
    show va_up σ.1 k' _ c = σ.1 c
    unfold va_up
    rw [if_neg (fun e => hc (by simp [e]))], rfl⟩
theorem cA_at (σ : GS) (k k' sp dp n q : Nat) : (cA σ k k' sp dp n).1 k' q = if dp ≤ q ∧ q < dp + n then σ.1 k (sp + (q - dp)) else σ.1 k' q := by
  show va_up σ.1 k' _ k' q = _
  unfold va_up
  rw [if_pos rfl]
  rfl
theorem cp_ok {a b n N M : Nat} (ha : a + n ≤ N) (hb : b + n ≤ M) (hN : N < 2 ^ 31) (hM : M < 2 ^ 31) {α : Type} (x : Option α) : gd (cpB (nI a) (nI b) (nI n) N M) x = x := gd_t (decide_eq_true ⟨nI_pos (by omega), nI_pos (by omega), nI_pos (by omega), by rw [c31 (by omega), c31 (by omega)]; omega, by rw [c31 (by omega), c31 (by omega)]; omega⟩)
/-- an hour of the class's town -/
theorem hourX {n h : Nat} {S : Nat → WS} {σ : GS} (hn : n ≤ 5) (hh : h < 60) (e2 : σ.1 19 2 = nI n) (e3 : σ.1 19 3 = nI h) (hV : ∀ i, i < n → WV (S i)) (hk : ∀ i, i < n → σ.1 20 i = nI (S i).1) (hF : ∀ i, i < n → FX (σ.1 21) (20 * h + 4 * i) (S i)) : ∃ σ', F_Tn_passHour σ = some σ' ∧ (∀ i, i < n → FX (σ'.1 21) (20 * (h + 1) + 4 * i) (ph (S i))) ∧ (∀ j, j < 20 * (h + 1) → σ'.1 21 j = σ.1 21 j) ∧ σ'.1 19 2 = nI n ∧ σ'.1 19 3 = nI (h + 1) ∧ Fr [32, 33, 34, 19, 21] σ σ' := by
  unfold F_Tn_passHour
  have t1 : nI h * (20 : Int32) = nI (20 * h) := by rw [show (20 : Int32) = nI 20 from rfl, pk_mul, Nat.mul_comm]
  have t2 : nI (h + 1) * (20 : Int32) = nI (20 * (h + 1)) := by rw [show (20 : Int32) = nI 20 from rfl, pk_mul, Nat.mul_comm]
  rw [e3, if_pos (show nI h < 60 from nI_lt (b := 60) hh (by decide)), nI_1, t1, t2, show (20 : Int32) = nI 20 from rfl, cp_ok (by omega) (by omega) (by decide) (by decide), c31 (by omega), c31 (by omega), c31 (by omega), jn_s, jn_s]
  have k19 : (cA σ 21 21 (20 * h) (20 * (h + 1)) 20).1 19 = σ.1 19 := (cA_fr _ _ _ _ _ _).1 19 (by simp)
  rw [k19, e3, nI_1, jn_s]
  refine lpE (G := fun k i (t : GS) => F_Tn_passHour_51 (fun (v3_4 : Int32) (σL4 : GS) => some σL4) k (nI i) t) (P := fun o => ∃ σ', o = some σ' ∧ (∀ i, i < n → FX (σ'.1 21) (20 * (h + 1) + 4 * i) (ph (S i))) ∧ (∀ j, j < 20 * (h + 1) → σ'.1 21 j = σ.1 21 j) ∧ σ'.1 19 2 = nI n ∧ σ'.1 19 3 = nI (h + 1) ∧ Fr [32, 33, 34, 19, 21] σ σ') (Inv := fun i t => (∀ j, j < n → FX (t.1 21) (20 * (h + 1) + 4 * j) (if j < i then ph (S j) else S j)) ∧ (∀ j, j < 20 * (h + 1) → t.1 21 j = σ.1 21 j) ∧ t.1 19 2 = nI n ∧ t.1 19 3 = nI (h + 1) ∧ t.1 20 = σ.1 20 ∧ Fr [32, 33, 34, 19, 21] σ t) (N := n) ?_ ?_ n 0 50000 _ (by omega) (by omega) ⟨fun j hj => ?_, fun j hj => ?_, ?_, ?_, ?_, ?_⟩
  · intro k i t hi ⟨i1, i2, i3, i4, i5, i6⟩
    have q1 := i1 i hi
    rw [if_neg (Nat.lt_irrefl i)] at q1
    obtain ⟨t1, g1, x1, f1⟩ := load_spec (k := 34) (by decide) hi hn (by omega) i3 i4 (by rw [i5]; exact hk i hi) q1
    obtain ⟨t2, g2, x2, f2⟩ := passHourX (k := 34) (by decide) (hV i hi) x1
    have f12 : Fr [32, 33, 34] t t2 := (f1.mono (by simp)).trans f2
    obtain ⟨t3, g3, x3, j3, f3⟩ := store_spec (k := 34) (h := h + 1) (σ := t2) (by decide) hi hn (by omega) (by rw [f12.1 19 (by simp)]; exact i3) (by rw [f12.1 19 (by simp)]; exact i4) x2
    refine Or.inr ⟨t3, ?_, fun j hj => ?_, fun j hj => ?_, ?_, ?_, ?_, ?_⟩
    · show F_Tn_passHour_51 _ (k + 1) (nI i) t = F_Tn_passHour_51 _ k (nI (i + 1)) t3
      rw [F_Tn_passHour_51.eq_2, i3, if_neg (nI_ge hi (by omega)), bv_s g1, bv_s g2, bv_s g3, nI_1]
    · by_cases e : j = i
      · subst e
        rw [if_pos (by omega)]
        exact x3
      · have := i1 j hj
        have e' : (if j < i then ph (S j) else S j) = if j < i + 1 then ph (S j) else S j := by
          by_cases q : j < i
          · rw [if_pos q, if_pos (by omega)]
          · rw [if_neg q, if_neg (by omega)]
        rw [← e']
        exact this.cg fun z a b => by rw [j3 z (by omega), f12.1 21 (by simp)]
    · rw [j3 j (by omega), f12.1 21 (by simp), i2 j hj]
    · rw [f3.1 19 (by simp), f12.1 19 (by simp)]; exact i3
    · rw [f3.1 19 (by simp), f12.1 19 (by simp)]; exact i4
    · rw [f3.1 20 (by simp), f12.1 20 (by simp)]; exact i5
    · exact i6.trans ((f12.mono (by simp)).trans (f3.mono (by simp)))
  · intro k t ⟨i1, i2, i3, i4, i5, i6⟩
    refine ⟨t, ?_, fun i hi => ?_, i2, i3, i4, i6⟩
    · show F_Tn_passHour_51 _ (k + 1) (nI n) t = _
      rw [F_Tn_passHour_51.eq_2, i3, if_pos (nI_le (Nat.le_refl _) (by omega))]
    · have := i1 i hi
      rw [if_pos hi] at this
      exact this
  · rw [if_neg (Nat.not_lt_zero j), s1_c (by decide)]
    have hc : ∀ b s, FX (σ.1 21) b s → ∀ f' : Nat → Int32, ∀ b', f' b' = σ.1 21 b → f' (b' + 1) = σ.1 21 (b + 1) → f' (b' + 2) = σ.1 21 (b + 2) → f' (b' + 3) = σ.1 21 (b + 3) → FX f' b' s := fun b s hx f' b' a0 a1 a2 a3 => by
      obtain ⟨kn, l, hd, tu, w⟩ := s
      exact ⟨a0.trans hx.1, a1.trans hx.2.1, a2.trans hx.2.2.1, a3.trans hx.2.2.2⟩
    refine hc _ _ (hF j hj) _ _ ?_ ?_ ?_ ?_
    all_goals
      rw [cA_at, if_pos (by omega)]
      exact congrArg (σ.1 21) (by omega)
  · rw [s1_c (by decide), cA_at, if_neg (by omega)]
  · rw [s1_i (by decide), k19]; exact e2
  · rw [s1_at]
  · rw [s1_c (by decide), (cA_fr _ _ _ _ _ _).1 20 (by simp)]
  · exact Fr.trans ((cA_fr _ _ _ _ _ _).mono (by simp)) (Fr.s1 (by simp))
theorem copyM {q p : Nat} (hq : q ≠ p) (b : Nat) (σ : GS) (t : GS) (i : Nat) (h : (∀ j, t.1 q j = if b ≤ j ∧ j < b + i then σ.1 p (j - b) else σ.1 q j) ∧ Fr [q] σ t) : (∀ j, (s1 t q (b + i) (σ.1 p i)).1 q j = if b ≤ j ∧ j < b + (i + 1) then σ.1 p (j - b) else σ.1 q j) ∧ Fr [q] σ (s1 t q (b + i) (σ.1 p i)) := by
  refine ⟨fun j => ?_, Fr.trans h.2 (Fr.s1 (by simp))⟩
  rw [s1_get]
  by_cases e : j = b + i
  · rw [if_pos ⟨rfl, e⟩, if_pos (by omega), e, Nat.add_sub_cancel_left]
  · rw [if_neg (fun z => e z.2), h.1 j]
    by_cases z : b ≤ j ∧ j < b + i
    · rw [if_pos z, if_pos (by omega)]
    · rw [if_neg z, if_neg (by omega)]
/-- an hour of the model's -/
theorem hourM {n h : Nat} {S : Nat → WS} {σ : GS} {x y : Int32} (hn : n ≤ 5) (hh : h < 60) (m0 : σ.1 68 0 = nI n) (m1 : σ.1 68 1 = nI h) (hV : ∀ i, i < n → WV (S i)) (hM : ∀ i, i < n → WM (σ.1 68) i (S i)) : ∃ σ1 σ', (∀ K, F_M_hours_51 x y K 50000 0 σ = K (nI 27) σ1) ∧ (∀ K, F_M_hours_87 x y K 50000 0 σ1 = K (nI n) σ') ∧ (∀ i, i < n → WM (σ'.1 68) i (ph (S i))) ∧ σ'.1 68 0 = nI n ∧ σ'.1 68 1 = nI h ∧ (∀ j, σ'.1 69 j = if 27 * h ≤ j ∧ j < 27 * h + 27 then σ.1 68 (j - 27 * h) else σ.1 69 j) ∧ Fr [75, 78, 79, 68, 69] σ σ' := by
  have h1 : ∃ σ1, (∀ j, σ1.1 69 j = if 27 * h ≤ j ∧ j < 27 * h + 27 then σ.1 68 (j - 27 * h) else σ.1 69 j) ∧ Fr [69] σ σ1 ∧ ∀ K, F_M_hours_51 x y K 50000 0 σ = K (nI 27) σ1 := by
    have := lpE (G := fun k e (t : GS) => fun (K : Int32 → GS → Option (Int32 × GS)) => F_M_hours_51 x y K k (nI e) t) (P := fun o => ∃ σ1, (∀ j, σ1.1 69 j = if 27 * h ≤ j ∧ j < 27 * h + 27 then σ.1 68 (j - 27 * h) else σ.1 69 j) ∧ Fr [69] σ σ1 ∧ ∀ K, o K = K (nI 27) σ1) (Inv := fun e t => (∀ j, t.1 69 j = if 27 * h ≤ j ∧ j < 27 * h + e then σ.1 68 (j - 27 * h) else σ.1 69 j) ∧ Fr [69] σ t) (N := 27) ?_ ?_ 27 0 50000 σ (by omega) (by omega) ⟨fun j => by rw [if_neg (by omega)], Fr.refl _ _⟩
    · exact this
    · intro k e t he hI
      refine Or.inr ⟨s1 t 69 (27 * h + e) (σ.1 68 e), ?_, copyM (by decide) (27 * h) σ t e hI⟩
      funext K
      show F_M_hours_51 x y K (k + 1) (nI e) t = F_M_hours_51 x y K k (nI (e + 1)) _
      rw [F_M_hours_51.eq_2, if_neg (show ¬ (27 : Int32) ≤ nI e from nI_ge (b := 27) he (by decide)), gi he (by decide), hI.2.1 68 (by simp), m1, show (27 : Int32) * nI h + nI e = nI (27 * h + e) from ixm 27 h e, gi (by omega) (by decide), c31 (by omega), c31 (by omega), jn_s, nI_1]
    · intro k t hI
      refine ⟨t, hI.1, hI.2, fun K => ?_⟩
      show F_M_hours_51 x y K (k + 1) (nI 27) t = _
      rw [F_M_hours_51.eq_2, if_pos (by decide)]
  obtain ⟨σ1, g1, f1, eK⟩ := h1
  have k68 : σ1.1 68 = σ.1 68 := f1.1 68 (by simp)
  have h2 : ∃ σ', (∀ i, i < n → WM (σ'.1 68) i (ph (S i))) ∧ σ'.1 68 0 = nI n ∧ σ'.1 68 1 = nI h ∧ Fr [75, 78, 79, 68] σ1 σ' ∧ ∀ K, F_M_hours_87 x y K 50000 0 σ1 = K (nI n) σ' := by
    have := lpE (G := fun k i (t : GS) => fun (K : Int32 → GS → Option (Int32 × GS)) => F_M_hours_87 x y K k (nI i) t) (P := fun o => ∃ σ', (∀ i, i < n → WM (σ'.1 68) i (ph (S i))) ∧ σ'.1 68 0 = nI n ∧ σ'.1 68 1 = nI h ∧ Fr [75, 78, 79, 68] σ1 σ' ∧ ∀ K, o K = K (nI n) σ') (Inv := fun i t => (∀ j, j < n → WM (t.1 68) j (if j < i then ph (S j) else S j)) ∧ t.1 68 0 = nI n ∧ t.1 68 1 = nI h ∧ Fr [75, 78, 79, 68] σ1 t) (N := n) ?_ ?_ n 0 50000 σ1 (by omega) (by omega) ⟨fun j hj => by rw [if_neg (Nat.not_lt_zero j), k68]; exact hM j hj, by rw [k68]; exact m0, by rw [k68]; exact m1, Fr.refl _ _⟩
    · exact this
    · intro k i t hi ⟨i1, i2, i3, i4⟩
      have q1 := i1 i hi
      rw [if_neg (Nat.lt_irrefl i)] at q1
      obtain ⟨t1, g1, x1, j1, f1⟩ := hourOfM (q := 68) (i := i) (by decide) (by omega) (hV i hi) q1
      refine Or.inr ⟨t1, ?_, fun j hj => ?_, by rw [j1 0 (by omega) (by omega) (by omega) (by omega)]; exact i2, by rw [j1 1 (by omega) (by omega) (by omega) (by omega)]; exact i3, i4.trans f1⟩
      · funext K
        show F_M_hours_87 x y K (k + 1) (nI i) t = F_M_hours_87 x y K k (nI (i + 1)) t1
        rw [F_M_hours_87.eq_2, i2, if_neg (nI_ge hi (by omega)), bv_s g1, nI_1]
      · by_cases e : j = i
        · subst e
          rw [if_pos (by omega)]
          exact x1
        · have := i1 j hj
          have e' : (if j < i then ph (S j) else S j) = if j < i + 1 then ph (S j) else S j := by
            by_cases q : j < i
            · rw [if_pos q, if_pos (by omega)]
            · rw [if_neg q, if_neg (by omega)]
          rw [← e']
          exact this.cg (j1 _ (by omega) (by omega) (by omega) (by omega)) (j1 _ (by omega) (by omega) (by omega) (by omega)) (j1 _ (by omega) (by omega) (by omega) (by omega)) (j1 _ (by omega) (by omega) (by omega) (by omega)) (j1 _ (by omega) (by omega) (by omega) (by omega))
    · intro k t ⟨i1, i2, i3, i4⟩
      refine ⟨t, fun i hi => ?_, i2, i3, i4, fun K => ?_⟩
      · have := i1 i hi
        rw [if_pos hi] at this
        exact this
      · show F_M_hours_87 x y K (k + 1) (nI n) t = _
        rw [F_M_hours_87.eq_2, i2, if_pos (nI_le (Nat.le_refl _) (by omega))]
  obtain ⟨σ2, a1, a2, a3, a4, a5⟩ := h2
  refine ⟨σ1, σ2, eK, a5, a1, a2, a3, fun j => by rw [a4.1 69 (by simp), g1 j], (f1.mono (by simp)).trans (a4.mono (by simp))⟩
/-- hours passed: the class's loop, the model's -/
theorem hoursX_loop {n h d : Nat} {σ : GS} (hn : n ≤ 5) (hh : h + d ≤ 60) (e2 : σ.1 19 2 = nI n) (e3 : σ.1 19 3 = nI h) (S : Nat → WS) (hV : ∀ i, i < n → WV (S i)) (hk : ∀ i, i < n → σ.1 20 i = nI (S i).1) (hF : ∀ i, i < n → FX (σ.1 21) (20 * h + 4 * i) (S i)) : ∃ σ', F_X_hours_44 (nI d) (fun (v2_1 : Int32) (σL1 : GS) => some (σL1.1 19 3, σL1)) 50000 0 σ = some (nI (h + d), σ') ∧ (∀ e, e ≤ d → ∀ i, i < n → FX (σ'.1 21) (20 * (h + e) + 4 * i) (it (S i) e)) ∧ (∀ j, j < 20 * (h + 1) → σ'.1 21 j = σ.1 21 j) ∧ σ'.1 19 2 = nI n ∧ σ'.1 19 3 = nI (h + d) ∧ Fr [32, 33, 34, 19, 21] σ σ' := by
  refine lpE (G := fun k e (t : GS) => F_X_hours_44 (nI d) (fun (v2_1 : Int32) (σL1 : GS) => some (σL1.1 19 3, σL1)) k (nI e) t) (P := fun o => ∃ σ', o = some (nI (h + d), σ') ∧ (∀ e, e ≤ d → ∀ i, i < n → FX (σ'.1 21) (20 * (h + e) + 4 * i) (it (S i) e)) ∧ (∀ j, j < 20 * (h + 1) → σ'.1 21 j = σ.1 21 j) ∧ σ'.1 19 2 = nI n ∧ σ'.1 19 3 = nI (h + d) ∧ Fr [32, 33, 34, 19, 21] σ σ') (Inv := fun e t => (∀ e', e' ≤ e → ∀ i, i < n → FX (t.1 21) (20 * (h + e') + 4 * i) (it (S i) e')) ∧ (∀ j, j < 20 * (h + 1) → t.1 21 j = σ.1 21 j) ∧ t.1 19 2 = nI n ∧ t.1 19 3 = nI (h + e) ∧ Fr [32, 33, 34, 19, 21] σ t) (N := d) ?_ ?_ d 0 50000 σ (by omega) (by omega) ⟨fun e' he i hi => by rw [show e' = 0 by omega]; exact hF i hi, fun j hj => rfl, e2, e3, Fr.refl _ _⟩
  · intro k e t he ⟨i1, i2, i3, i4, i5⟩
    obtain ⟨t1, g1, x1, j1, y2, y3, f1⟩ := hourX (S := fun i => it (S i) e) (σ := t) hn (by omega) i3 i4 (fun i hi => it_ok (hV i hi) e) (fun i hi => by
      rw [i5.1 20 (by simp), hk i hi]
      congr 1
      have : ∀ e, (it (S i) e).1 = (S i).1 := fun e => by
        induction e with
        | zero => rfl
        | succ e ih => rw [it_s, ph_k, ih]
      exact (this e).symm) (fun i hi => i1 e (Nat.le_refl _) i hi)
    refine Or.inr ⟨t1, ?_, fun e' he' i hi => ?_, fun j hj => ?_, y2, y3, i5.trans f1⟩
    · show F_X_hours_44 (nI d) _ (k + 1) (nI e) t = F_X_hours_44 (nI d) _ k (nI (e + 1)) t1
      rw [F_X_hours_44.eq_2, if_neg (nI_ge he (by omega)), bv_s g1, nI_1]
    · by_cases q : e' = e + 1
      · rw [q]
        exact x1 i hi
      · exact (i1 e' (by omega) i hi).cg fun z a b => j1 z (by omega)
    · rw [j1 j (by omega), i2 j hj]
  · intro k t ⟨i1, i2, i3, i4, i5⟩
    refine ⟨t, ?_, i1, i2, i3, i4, i5⟩
    show F_X_hours_44 (nI d) _ (k + 1) (nI d) t = _
    rw [F_X_hours_44.eq_2, if_pos (nI_le (Nat.le_refl _) (by omega)), i4]
theorem hoursM_loop {n h d : Nat} {σ : GS} (hn : n ≤ 5) (hh : h + d ≤ 60) (m0 : σ.1 68 0 = nI n) (m1 : σ.1 68 1 = nI h) (S : Nat → WS) (hV : ∀ i, i < n → WV (S i)) (hM : ∀ i, i < n → WM (σ.1 68) i (S i)) : ∃ σ', F_M_hours_44 (nI d) (fun (v2_3 : Int32) (σL3 : GS) => some (σL3.1 68 1, σL3)) 50000 0 σ = some (nI (h + d), σ') ∧ (∀ i, i < n → WM (σ'.1 68) i (it (S i) d)) ∧ σ'.1 68 0 = nI n ∧ σ'.1 68 1 = nI (h + d) ∧ (∀ e, e < d → σ'.1 69 (27 * (h + e)) = nI n ∧ σ'.1 69 (27 * (h + e) + 1) = nI (h + e) ∧ ∀ i, i < n → WM (fun j => σ'.1 69 (27 * (h + e) + j)) i (it (S i) e)) ∧ (∀ j, j < 27 * h → σ'.1 69 j = σ.1 69 j) ∧ Fr [75, 78, 79, 68, 69] σ σ' := by
  refine lpE (G := fun k e (t : GS) => F_M_hours_44 (nI d) (fun (v2_3 : Int32) (σL3 : GS) => some (σL3.1 68 1, σL3)) k (nI e) t) (P := fun o => ∃ σ', o = some (nI (h + d), σ') ∧ (∀ i, i < n → WM (σ'.1 68) i (it (S i) d)) ∧ σ'.1 68 0 = nI n ∧ σ'.1 68 1 = nI (h + d) ∧ (∀ e, e < d → σ'.1 69 (27 * (h + e)) = nI n ∧ σ'.1 69 (27 * (h + e) + 1) = nI (h + e) ∧ ∀ i, i < n → WM (fun j => σ'.1 69 (27 * (h + e) + j)) i (it (S i) e)) ∧ (∀ j, j < 27 * h → σ'.1 69 j = σ.1 69 j) ∧ Fr [75, 78, 79, 68, 69] σ σ') (Inv := fun d t => (∀ i, i < n → WM (t.1 68) i (it (S i) d)) ∧ t.1 68 0 = nI n ∧ t.1 68 1 = nI (h + d) ∧ (∀ e, e < d → t.1 69 (27 * (h + e)) = nI n ∧ t.1 69 (27 * (h + e) + 1) = nI (h + e) ∧ ∀ i, i < n → WM (fun j => t.1 69 (27 * (h + e) + j)) i (it (S i) e)) ∧ (∀ j, j < 27 * h → t.1 69 j = σ.1 69 j) ∧ Fr [75, 78, 79, 68, 69] σ t) (N := d) ?_ ?_ d 0 50000 σ (by omega) (by omega) ⟨hM, m0, m1, fun e he => absurd he (Nat.not_lt_zero _), fun j hj => rfl, Fr.refl _ _⟩
  · intro k e t he ⟨i1, i2, i3, i4, i5, i6⟩
    obtain ⟨t1, t2, g1, g2, x1, y0, y1, y2, f1⟩ := hourM (x := nI d) (y := nI e) (S := fun i => it (S i) e) (σ := t) hn (by omega) i2 i3 (fun i hi => it_ok (hV i hi) e) i1
    refine Or.inr ⟨s1 t2 68 1 (nI (h + e + 1)), ?_, fun i hi => ?_, by rw [s1_i (by decide)]; exact y0, s1_at _ _ _ _, fun e' he' => ?_, fun j hj => ?_, i6.trans (f1.trans (Fr.s1 (by simp)))⟩
    · show F_M_hours_44 (nI d) _ (k + 1) (nI e) t = F_M_hours_44 (nI d) _ k (nI (e + 1)) _
      rw [F_M_hours_44.eq_2, if_neg (nI_ge he (by omega)), jn_s, g1, jn_s, g2, y1, jn_s, nI_1, nI_1]
    · exact (x1 i hi).cg (s1_i (by omega)) (s1_i (by omega)) (s1_i (by omega)) (s1_i (by omega)) (s1_i (by omega))
    · rw [s1_c (k' := 69) (by decide)]
      by_cases q : e' = e
      · subst q
        have hz : ∀ z, z < 27 → t2.1 69 (27 * (h + e') + z) = t.1 68 z := fun z hz => by rw [y2, if_pos (by omega), Nat.add_sub_cancel_left]
        have hz0 := hz 0 (by omega)
        rw [Nat.add_zero] at hz0
        refine ⟨by rw [hz0]; exact i2, by rw [hz 1 (by omega)]; exact i3, fun i hi => ?_⟩
        exact (i1 i hi).cg (hz _ (by omega)) (hz _ (by omega)) (hz _ (by omega)) (hz _ (by omega)) (hz _ (by omega))
      · obtain ⟨b0, b1, b2⟩ := i4 e' (by omega)
        have hz : ∀ z, z < 27 → t2.1 69 (27 * (h + e') + z) = t.1 69 (27 * (h + e') + z) := fun z hz => by rw [y2, if_neg (by omega)]
        have hz0 := hz 0 (by omega)
        rw [Nat.add_zero] at hz0
        refine ⟨by rw [hz0]; exact b0, by rw [hz 1 (by omega)]; exact b1, fun i hi => ?_⟩
        exact (b2 i hi).cg (hz _ (by omega)) (hz _ (by omega)) (hz _ (by omega)) (hz _ (by omega)) (hz _ (by omega))
    · rw [s1_c (k' := 69) (by decide), y2, if_neg (by omega), i5 j hj]
  · intro k t ⟨i1, i2, i3, i4, i5, i6⟩
    refine ⟨t, ?_, i1, i2, i3, i4, i5, i6⟩
    show F_M_hours_44 (nI d) _ (k + 1) (nI d) t = _
    rw [F_M_hours_44.eq_2, if_pos (nI_le (Nat.le_refl _) (by omega)), i3]
theorem it_k (s : WS) : ∀ e, (it s e).1 = s.1
  | 0 => rfl
  | e + 1 => by rw [it_s, ph_k, it_k s e]
theorem stp_hours : St_hours Rel := by
  intro σ hR a1
  obtain ⟨n, h, e2, e3, hT⟩ := hR.1.2.2.1
  obtain ⟨hn, hh, m1, ⟨S, m0, hS⟩, hp⟩ := id hT
  unfold F_X_hours
  rcases bt_c a1 0 20 (by decide) (by decide) with ⟨q1, q2⟩ | ⟨d, q1, q2, rfl, q3⟩
  · exact ⟨-1, σ, σ, lo_hi (hi := 20) q2 _ _, by unfold F_M_hours; rw [show F_M_in a1.toInt64 0 20 = some 0 from q1]; rfl, hR⟩
  have hM0 : ∀ s : GS, s.1 68 = σ.1 68 → F_M_hours (nI d) s = if nI n = 0 then some (-4, s) else if nI h + nI d ≤ (60 : Int32) then F_M_hours_44 (nI d) (fun (v2_3 : Int32) (σL3 : GS) => some (σL3.1 68 1, σL3)) 50000 0 s else some (-2, s) := fun s es => by
    unfold F_M_hours
    rw [show F_M_in (nI d).toInt64 0 20 = some 1 from q3, bp_s rfl, if_neg (by decide), es, m0, m1, jn_s]
  have hlo := lo_in (hi := 20) q2 (by decide) (some ((-1 : Int32), σ)) (if (σ.1 19 2) = (0 : Int32) then some ((-4 : Int32), σ) else if ((σ.1 19 3) + nI d) ≤ (60 : Int32) then jn (fun (v2_1 : Int32) (σL1 : GS) => some (σL1.1 19 3, σL1)) (fun KL1_70 => F_X_hours_44 (nI d) KL1_70 50000 (0 : Int32) σ) else some ((-2 : Int32), σ))
  rw [show (20 : Int32) = nI 20 from rfl, hlo, e2, e3]
  by_cases n0 : n = 0
  · subst n0
    exact ⟨-4, σ, σ, by rw [if_pos (by decide)], by rw [hM0 σ rfl, if_pos (by decide)], hR⟩
  rw [if_neg (nI_ne0 (by omega) (by omega)), nI_add]
  by_cases h60 : h + d ≤ 60
  · rw [if_pos (show nI (h + d) ≤ 60 from nI_le (b := 60) h60 (by decide)), jn_s]
    obtain ⟨σ1, g1, x1, j1, y2, y3, f1⟩ := hoursX_loop (d := d) hn h60 e2 e3 S (fun i hi => (hS i hi).1) (fun i hi => (hS i hi).2.1) (fun i hi => (hS i hi).2.2.1)
    have k68 : σ1.1 68 = σ.1 68 := f1.1 68 (by simp)
    obtain ⟨σ2, g2, x2, z0, z1, z2, z3, f2⟩ := hoursM_loop (d := d) (σ := σ1) hn h60 (by rw [k68]; exact m0) (by rw [k68]; exact m1) S (fun i hi => (hS i hi).1) (fun i hi => by rw [k68]; exact (hS i hi).2.2.2)
    have k19 : σ2.1 19 = σ1.1 19 := f2.1 19 (by simp)
    have k20 : σ2.1 20 = σ.1 20 := by rw [f2.1 20 (by simp), f1.1 20 (by simp)]
    have k21 : σ2.1 21 = σ1.1 21 := f2.1 21 (by simp)
    refine ⟨nI (h + d), σ1, σ2, g1, ?_, ?_, ?_⟩
    · rw [hM0 σ1 k68, if_neg (nI_ne0 (by omega) (by omega)), nI_add, if_pos (show nI (h + d) ≤ 60 from nI_le (b := 60) h60 (by decide))]
      exact g2
    · refine hR.1.now (fun c hc hnc => ?_) ⟨n, h + d, by rw [k19]; exact y2, by rw [k19]; exact y3, hn, h60, z1, ⟨fun i => it (S i) d, z0, fun i hi => ?_⟩, fun g hg => ?_⟩
      · have := of_decide_eq_true hc
        rw [f2.1 c (by simp; omega), f1.1 c (by simp; omega)]
      · exact ⟨it_ok (hS i hi).1 d, by rw [k20, (hS i hi).2.1]; exact congrArg nI (it_k _ _).symm, by rw [k21]; exact x1 d (Nat.le_refl _) i hi, x2 i hi⟩
      · by_cases q : g < h
        · obtain ⟨b1, b2⟩ := hp g q
          refine ⟨by rw [z3 _ (by omega), f1.1 69 (by simp)]; exact b1, ?_⟩
          rw [k20, k21]
          refine b2.cg hn (fun j a b => ?_) (fun j hj => ?_) (fun _ _ => rfl)
          · rw [j1 j (by omega)]
          · rw [z3 _ (by omega), f1.1 69 (by simp)]
        · obtain ⟨b0, b1, b2⟩ := z2 (g - h) (by omega)
          rw [show h + (g - h) = g by omega] at b0 b1 b2
          refine ⟨b1, ⟨fun i => it (S i) (g - h), by show σ2.1 69 (27 * g + 0) = nI n; exact b0, fun i hi => ⟨it_ok (hS i hi).1 _, by rw [k20, (hS i hi).2.1]; exact congrArg nI (it_k _ _).symm, ?_, b2 i hi⟩⟩⟩
          rw [k21]
          have := x1 (g - h) (by omega) i hi
          rw [show h + (g - h) = g by omega] at this
          exact this
    · refine hR.2.fr2 (fun c hc => ?_) ?_
      · rw [f2.1 c (by simp; omega), f1.1 c (by simp; omega)]
      · rw [f2.2, f1.2]
  · exact ⟨-2, σ, σ, by rw [if_neg (show ¬ nI (h + d) ≤ 60 from nI_ge (a := 60) (by omega) (by omega))], by rw [hM0 σ rfl, if_neg (nI_ne0 (by omega) (by omega)), nI_add, if_neg (show ¬ nI (h + d) ≤ 60 from nI_ge (a := 60) (by omega) (by omega))], hR⟩
