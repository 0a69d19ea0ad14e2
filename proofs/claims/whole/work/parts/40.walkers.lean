/-! walkers: one street, one hour, by both -/
def tn (kn h tu : Nat) : Nat × Nat := if kn = 1 ∨ kn = 4 then ((h + (if tu = 0 then 2 else 3)) % 5, 1 - tu) else if kn = 2 then ((h + (if tu = 0 then 1 else 4)) % 5, 1 - tu) else if kn = 5 then ((h + 1) % 5, tu) else (h, tu)
def lowN (x : Nat) : Nat := ((List.range 5).find? (fun s => x.testBit s)).getD 0
def ps : WS → WS := fun (kn, l, h, tu, w) => if kn = 3 then (if lset l = 0 then (kn, l, h, tu, w) else (kn, go l (lowN (lset l)), h, tu, w + 1)) else (kn, if (go l h).length ≤ 9 then go l h else l, (tn kn h tu).1, (tn kn h tu).2, if (go l h).length ≤ 9 then w + 1 else w)
theorem low_s : ∀ x, x < 32 → x ≠ 0 → lowN x < 5 ∧ x.testBit (lowN x) = true ∧ F_M_lowest (nI x) = some (nI (lowN x)) ∧ ∀ s, s < lowN x → x.testBit s = false := by decide +kernel
theorem bit_s : ∀ x, x < 32 → ∀ s, s < 5 → ((nI x >>> (nI s &&& 31)) &&& 1 = 1 ↔ x.testBit s = true) := by decide +kernel
theorem tn_ok (kn : Nat) (hk : kn < 6) (h : Nat) (hh : h < 5) (tu : Nat) (ht : tu < 2) (hz : kn = 0 ∨ kn = 3 ∨ kn = 5 → tu = 0) : (tn kn h tu).1 < 5 ∧ (tn kn h tu).2 ≤ 1 ∧ (kn = 0 ∨ kn = 3 ∨ kn = 5 → (tn kn h tu).2 = 0) := by
  unfold tn
  split
  · exact ⟨Nat.mod_lt _ (by decide), by show 1 - tu ≤ 1; omega, fun q => by exfalso; omega⟩
  · split
    · exact ⟨Nat.mod_lt _ (by decide), by show 1 - tu ≤ 1; omega, fun q => by exfalso; omega⟩
    · split
      · exact ⟨Nat.mod_lt _ (by decide), by show tu ≤ 1; omega, fun q => hz q⟩
      · exact ⟨hh, by show tu ≤ 1; omega, fun q => hz q⟩
theorem low_go {l : List Nat} (hv : wv l) (h0 : lset l ≠ 0) : lowN (lset l) < 5 ∧ (go l (lowN (lset l))).length = l.length - 1 := by
  obtain ⟨h1, h2, -⟩ := low_s _ (lset_lt hv) h0
  rw [lset_bit] at h2
  exact ⟨h1, by rw [len_go, if_pos h2]⟩
theorem ps_ok {s : WS} (h : WV s) : WV (ps s) := by
  obtain ⟨kn, l, hd, tu, w⟩ := s
  obtain ⟨h1, h2, h3, h4, h5, h6, h7⟩ := h
  show WV (if kn = 3 then _ else _)
  by_cases k3 : kn = 3
  · rw [if_pos k3]
    by_cases h0 : lset l = 0
    · rw [if_pos h0]
      exact ⟨h1, h2, h3, h4, h5, h6, h7⟩
    · rw [if_neg h0]
      obtain ⟨g1, g2⟩ := low_go h2 h0
      exact ⟨h1, wv_go h2 g1, good_go h3 _, by rw [g2]; omega, h5, h6, h7⟩
  · rw [if_neg k3]
    obtain ⟨g1, g2, g3⟩ := tn_ok kn (by omega) hd h5 tu (by omega) h7
    refine ⟨h1, ?_, ?_, ?_, g1, g2, g3⟩
    · split
      · exact wv_go h2 h5
      · exact h2
    · split
      · exact good_go h3 _
      · exact h3
    · split
      · rename_i q; exact q
      · exact h4
theorem rem5 (a b : Nat) (h : a + b < 2 ^ 31) : nI a + nI b - (nI a + nI b) / 5 * 5 = nI ((a + b) % 5) := by
  rw [nI_add]
  exact pk_rem (d := 5) h (by decide) (by decide)
theorem turnX {k kn h tu : Nat} {σ : GS} (hk : kn ≤ 5) (hh : h < 5) (ht : tu ≤ 1) (e0 : σ.1 k 0 = nI kn) (e2 : σ.1 k 2 = nI h) (e3 : σ.1 k 3 = nI tu) : ∃ σ', F_Wk_turn k σ = some σ' ∧ σ'.1 k 2 = nI (tn kn h tu).1 ∧ σ'.1 k 3 = nI (tn kn h tu).2 ∧ (∀ j, j ≠ 2 → j ≠ 3 → σ'.1 k j = σ.1 k j) ∧ Fr [k] σ σ' := by
  have hby : ∀ c, c ≤ 5 → F_Wk_turnByTurns k (nI c) σ = some (s1 (s1 σ k 2 (nI ((h + (if tu = 0 then c else 5 - c)) % 5))) k 3 (nI (1 - tu))) := fun c hc => by
    unfold F_Wk_turnByTurns
    simp only [jn_s]
    rw [e3, e2, s1_i (show 3 ≠ 2 by decide), e3]
    have e1 : (1 : Int32) - nI tu = nI (1 - tu) := pk_sub (a := 1) ht
    by_cases q : tu = 0
    · rw [if_pos (by rw [q]; decide), rem5 h c (by omega), e1, if_pos q]
    · rw [if_neg (nI_ne0 (by omega) (by omega)), show (5 : Int32) - nI c = nI (5 - c) from pk_sub (a := 5) hc, rem5 h (5 - c) (by omega), s1_i (show 3 ≠ 2 by decide), e3, e1, if_neg q]
  have fin : ∀ a b : Int32, ∀ σ', σ' = s1 (s1 σ k 2 a) k 3 b → σ'.1 k 2 = a ∧ σ'.1 k 3 = b ∧ (∀ j, j ≠ 2 → j ≠ 3 → σ'.1 k j = σ.1 k j) ∧ Fr [k] σ σ' := fun a b σ' e => by
    subst e
    exact ⟨by rw [s1_i (by decide), s1_at], s1_at _ _ _ _, fun j h2 h3 => by rw [s1_i h3, s1_i h2], Fr.trans (Fr.s1 (by simp)) (Fr.s1 (by simp))⟩
  unfold F_Wk_turn
  match kn, hk with
  | 0, _ =>
    have e : F_Wk_is k 1 σ = some 0 := by unfold F_Wk_is; rw [e0]; rfl
    exact ⟨σ, by rw [bp_s e, if_pos rfl, e0, if_neg (by decide), if_neg (by decide)], e2, e3, fun _ _ _ => rfl, Fr.refl _ _⟩
  | 1, _ =>
    have e : F_Wk_is k 1 σ = some 1 := by unfold F_Wk_is; rw [e0]; rfl
    refine ⟨_, by rw [bp_s e, if_neg (by decide), bv_s (show F_Wk_turnByTurns k 2 σ = _ from hby 2 (by decide))], ?_⟩
    exact fin _ _ _ rfl
  | 2, _ =>
    have e : F_Wk_is k 1 σ = some 0 := by unfold F_Wk_is; rw [e0]; rfl
    refine ⟨_, by rw [bp_s e, if_pos rfl, e0, if_pos (by decide), bv_s (show F_Wk_turnByTurns k 1 σ = _ from hby 1 (by decide))], ?_⟩
    exact fin _ _ _ rfl
  | 3, _ =>
    have e : F_Wk_is k 1 σ = some 0 := by unfold F_Wk_is; rw [e0]; rfl
    exact ⟨σ, by rw [bp_s e, if_pos rfl, e0, if_neg (by decide), if_neg (by decide)], e2, e3, fun _ _ _ => rfl, Fr.refl _ _⟩
  | 4, _ =>
    have e : F_Wk_is k 1 σ = some 1 := by unfold F_Wk_is; rw [e0]; rfl
    refine ⟨_, by rw [bp_s e, if_neg (by decide), bv_s (show F_Wk_turnByTurns k 2 σ = _ from hby 2 (by decide))], ?_⟩
    exact fin _ _ _ rfl
  | 5, _ =>
    have e : F_Wk_is k 1 σ = some 0 := by unfold F_Wk_is; rw [e0]; rfl
    refine ⟨s1 σ k 2 (nI ((h + 1) % 5)), ?_, s1_at _ _ _ _, by rw [s1_i (by decide)]; exact e3, fun j h2 _ => s1_i h2, Fr.s1 (by simp)⟩
    rw [bp_s e, if_pos rfl, e0, if_neg (by decide), if_pos (by decide), e2, jn_s, show (1 : Int32) = nI 1 from rfl, rem5 h 1 (by omega)]
theorem ix2 (i : Nat) : (2 : Int32) + nI i = nI (2 + i) := nI_add 2 i
theorem ix7 (i : Nat) : (7 : Int32) + nI i = nI (7 + i) := nI_add 7 i
theorem ix12 (i : Nat) : (12 : Int32) + nI i = nI (12 + i) := nI_add 12 i
theorem ix17 (i : Nat) : (17 : Int32) + nI i = nI (17 + i) := nI_add 17 i
theorem ix22 (i : Nat) : (22 : Int32) + nI i = nI (22 + i) := nI_add 22 i
theorem turnM {q i kn h tu : Nat} {σ : GS} (hi : i < 5) (hk : kn ≤ 5) (hh : h < 5) (ht : tu ≤ 1) (hz : kn = 0 ∨ kn = 3 ∨ kn = 5 → tu = 0) (e0 : σ.1 q (2 + i) = nI kn) (e2 : σ.1 q (12 + i) = nI h) (e3 : σ.1 q (17 + i) = nI tu) : F_M_turns q (nI i) σ = some (s1 (s1 σ q (12 + i) (nI (tn kn h tu).1)) q (17 + i) (nI (tn kn h tu).2)) := by
  have g2 : ∀ {α : Type} (x : Option α), gd (iB (nI (2 + i)) 27) x = x := fun x => gi (by omega) (by decide)
  have g12 : ∀ {α : Type} (x : Option α), gd (iB (nI (12 + i)) 27) x = x := fun x => gi (by omega) (by decide)
  have g17 : ∀ {α : Type} (x : Option α), gd (iB (nI (17 + i)) 27) x = x := fun x => gi (by omega) (by decide)
  have r17 : ∀ v, (s1 σ q (12 + i) v).1 q (17 + i) = nI tu := fun v => by rw [s1_i (by omega)]; exact e3
  unfold F_M_turns
  simp only [jn_s, ix2, ix12, ix17, g2, g12, g17, c31 (show 2 + i < 2 ^ 31 by omega), c31 (show 12 + i < 2 ^ 31 by omega), c31 (show 17 + i < 2 ^ 31 by omega), e0, e2, e3, r17]
  have t1 : (1 : Int32) - nI tu = nI (1 - tu) := pk_sub (a := 1) ht
  have hr := fun c => rem5 h c
  match kn, hk, tu, ht with
  | 0, _, 0, _ =>
    rw [if_neg (by decide), if_neg (by decide), if_neg (by decide), if_neg (by decide), if_neg (by decide), if_neg (by decide), if_pos True.intro, if_pos (by decide), show (0 : Int32) = nI 0 from rfl, hr 0 (by omega), Nat.add_zero, Nat.mod_eq_of_lt hh]
    rfl
  | 0, _, 1, _ => exact absurd (hz (Or.inl rfl)) (by decide)
  | 1, _, 0, _ =>
    rw [if_pos (by decide), if_neg (by decide), if_neg (by decide), if_pos True.intro, if_neg (by decide), if_neg (by decide), show (2 : Int32) = nI 2 from rfl, hr 2 (by omega), t1]
    rfl
  | 1, _, 1, _ =>
    rw [if_pos (by decide), if_neg (by decide), if_pos (by decide), if_neg (by decide), if_neg (by decide), if_neg (by decide), show (5 : Int32) - 2 = nI 3 from rfl, hr 3 (by omega), t1]
    rfl
  | 2, _, 0, _ =>
    rw [if_neg (by decide), if_neg (by decide), if_pos (by decide), if_neg (by decide), if_neg (by decide), if_pos True.intro, if_neg (by decide), if_neg (by decide)]
    rw [show nI h + 1 = nI h + nI 1 from rfl, hr 1 (by omega), t1]
    rfl
  | 2, _, 1, _ =>
    rw [if_neg (by decide), if_neg (by decide), if_pos (by decide), if_neg (by decide), if_pos (by decide), if_neg (by decide), if_neg (by decide), if_neg (by decide), show (5 : Int32) - 1 = nI 4 from rfl, hr 4 (by omega), t1]
    rfl
  | 3, _, 0, _ =>
    rw [if_neg (by decide), if_neg (by decide), if_neg (by decide), if_neg (by decide), if_neg (by decide), if_neg (by decide), if_pos True.intro, if_pos (by decide), show (0 : Int32) = nI 0 from rfl, hr 0 (by omega), Nat.add_zero, Nat.mod_eq_of_lt hh]
    rfl
  | 3, _, 1, _ => exact absurd (hz (Or.inr (Or.inl rfl))) (by decide)
  | 4, _, 0, _ =>
    rw [if_neg (by decide), if_pos (by decide), if_neg (by decide), if_neg (by decide), if_pos True.intro, if_neg (by decide), if_neg (by decide), show (2 : Int32) = nI 2 from rfl, hr 2 (by omega), t1]
    rfl
  | 4, _, 1, _ =>
    rw [if_neg (by decide), if_pos (by decide), if_neg (by decide), if_pos (by decide), if_neg (by decide), if_neg (by decide), if_neg (by decide), show (5 : Int32) - 2 = nI 3 from rfl, hr 3 (by omega), t1]
    rfl
  | 5, _, 0, _ =>
    rw [if_neg (by decide), if_neg (by decide), if_neg (by decide), if_pos (by decide), if_pos (by decide), if_pos True.intro, if_neg (by decide), if_pos (by decide)]
    rw [show nI h + 1 = nI h + nI 1 from rfl, hr 1 (by omega)]
    rfl
  | 5, _, 1, _ => exact absurd (hz (Or.inr (Or.inr rfl))) (by decide)
