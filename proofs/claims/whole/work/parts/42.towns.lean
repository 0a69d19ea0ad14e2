/-! towns: facts of walkers, by both -/
theorem FX.cg {f f' : Nat → Int32} {b : Nat} {s : WS} (h : FX f b s) (e : ∀ j, b ≤ j → j < b + 4 → f' j = f j) : FX f' b s := by
  obtain ⟨kn, l, hd, tu, w⟩ := s
  obtain ⟨h1, h2, h3, h4⟩ := h
  exact ⟨by rw [e _ (by omega) (by omega)]; exact h1, by rw [e _ (by omega) (by omega)]; exact h2, by rw [e _ (by omega) (by omega)]; exact h3, by rw [e _ (by omega) (by omega)]; exact h4⟩
theorem WM.cg {f f' : Nat → Int32} {i : Nat} {s : WS} (h : WM f i s) (e2 : f' (2 + i) = f (2 + i)) (e7 : f' (7 + i) = f (7 + i)) (e12 : f' (12 + i) = f (12 + i)) (e17 : f' (17 + i) = f (17 + i)) (e22 : f' (22 + i) = f (22 + i)) : WM f' i s := by
  obtain ⟨kn, l, hd, tu, w⟩ := s
  obtain ⟨h1, h2, h3, h4, h5⟩ := h
  exact ⟨e2.trans h1, e7.trans h2, e12.trans h3, e17.trans h4, e22.trans h5⟩
theorem HS.cg {n b : Nat} {kd f m kd' f' m' : Nat → Int32} {S : Nat → WS} (h : HS n kd f b m S) (hn : n ≤ 5) (hf : ∀ j, b ≤ j → j < b + 20 → f' j = f j) (hm : ∀ j, j < 27 → m' j = m j) (hk : ∀ j, j < 5 → kd' j = kd j) : HS n kd' f' b m' S := by
  refine ⟨by rw [hm 0 (by omega)]; exact h.1, fun i hi => ?_⟩
  obtain ⟨h1, h2, h3, h4⟩ := h.2 i hi
  exact ⟨h1, by rw [hk i (by omega)]; exact h2, h3.cg fun j a c => hf j (by omega) (by omega), h4.cg (hm _ (by omega)) (hm _ (by omega)) (hm _ (by omega)) (hm _ (by omega)) (hm _ (by omega))⟩
theorem HW.cg {n b : Nat} {kd f m kd' f' m' : Nat → Int32} (h : HW n kd f b m) (hn : n ≤ 5) (hf : ∀ j, b ≤ j → j < b + 20 → f' j = f j) (hm : ∀ j, j < 27 → m' j = m j) (hk : ∀ j, j < 5 → kd' j = kd j) : HW n kd' f' b m' := by
  obtain ⟨S, h⟩ := h
  exact ⟨S, h.cg hn hf hm hk⟩
theorem TR.cg {n h : Nat} {kd f m p kd' f' m' p' : Nat → Int32} (hT : TR n h kd f m p) (hk : ∀ j, j < 5 → kd' j = kd j) (hf : ∀ j, j < 1220 → f' j = f j) (hm : ∀ j, j < 27 → m' j = m j) (hp : ∀ j, j < 1620 → p' j = p j) : TR n h kd' f' m' p' := by
  obtain ⟨h1, h2, h3, h4, h5⟩ := hT
  refine ⟨h1, h2, by rw [hm 1 (by omega)]; exact h3, h4.cg h1 (fun j a b => hf j (by omega)) hm hk, fun g hg => ?_⟩
  obtain ⟨g1, g2⟩ := h5 g hg
  exact ⟨by rw [hp _ (by omega)]; exact g1, g2.cg h1 (fun j a b => hf j (by omega)) (fun j a => hp _ (by omega)) hk⟩
theorem ixf (h i : Nat) : nI h * 20 + nI i * 4 = nI (20 * h + 4 * i) := by
  rw [show (20 : Int32) = nI 20 from rfl, show (4 : Int32) = nI 4 from rfl, pk_mul, pk_mul, nI_add, Nat.mul_comm h, Nat.mul_comm i]
theorem load_spec {k i n h : Nat} {s : WS} {σ : GS} (hk : k ≠ 19 ∧ k ≠ 20 ∧ k ≠ 21) (hi : i < n) (hn : n ≤ 5) (hh : h ≤ 60) (e2 : σ.1 19 2 = nI n) (e3 : σ.1 19 3 = nI h) (ek : σ.1 20 i = nI s.1) (hF : FX (σ.1 21) (20 * h + 4 * i) s) : ∃ σ', F_Tn_load k (nI i) σ = some σ' ∧ WX σ' k s ∧ Fr [k] σ σ' := by
  obtain ⟨kn, l, hd, tu, w⟩ := s
  obtain ⟨f0, f1, f2, f3⟩ := hF
  have q20 : ∀ {a : GS} {j : Nat} {v : Int32}, (s1 a k j v).1 21 = a.1 21 := fun {a j v} => s1_c (Ne.symm hk.2.2)
  refine ⟨s1 (s1 (s1 (s1 (s1 σ k 0 (nI kn)) k 1 (nI (cdv l))) k 2 (nI hd)) k 3 (nI tu)) k 4 w, ?_, ⟨?_, ?_, ?_, ?_, ?_⟩, ?_⟩
  · unfold F_Tn_load
    rw [if_neg (nI_pos (by omega)), e2, if_pos (nI_lt hi (by omega)), gi (by omega) (by decide), c31 (by omega), ek, jn_s, e3, ixf, gi (by omega) (by decide), c31 (by omega), q20, f0, jn_s, nI_1, gi (by omega) (by decide), c31 (by omega), q20, q20, f1, jn_s, show nI (20 * h + 4 * i) + 2 = nI (20 * h + 4 * i + 2) from nI_add _ 2, gi (by omega) (by decide), c31 (by omega), q20, q20, q20, f2, jn_s, show nI (20 * h + 4 * i) + 3 = nI (20 * h + 4 * i + 3) from nI_add _ 3, gi (by omega) (by decide), c31 (by omega), q20, q20, q20, q20, f3, jn_s]
  · rw [s1_i (by decide), s1_i (by decide), s1_i (by decide), s1_i (by decide), s1_at]
  · rw [s1_i (by decide), s1_i (by decide), s1_i (by decide), s1_at]
  · rw [s1_i (by decide), s1_i (by decide), s1_at]
  · rw [s1_i (by decide), s1_at]
  · rw [s1_at]
  · exact Fr.trans (Fr.s1 (by simp)) (Fr.trans (Fr.s1 (by simp)) (Fr.trans (Fr.s1 (by simp)) (Fr.trans (Fr.s1 (by simp)) (Fr.s1 (by simp)))))
theorem store_spec {k i n h : Nat} {s : WS} {σ : GS} (hk : k ≠ 19 ∧ k ≠ 20 ∧ k ≠ 21) (hi : i < n) (hn : n ≤ 5) (hh : h ≤ 60) (e2 : σ.1 19 2 = nI n) (e3 : σ.1 19 3 = nI h) (hX : WX σ k s) : ∃ σ', F_Tn_store k (nI i) σ = some σ' ∧ FX (σ'.1 21) (20 * h + 4 * i) s ∧ (∀ j, j < 20 * h + 4 * i ∨ 20 * h + 4 * i + 4 ≤ j → σ'.1 21 j = σ.1 21 j) ∧ Fr [21] σ σ' := by
  obtain ⟨kn, l, hd, tu, w⟩ := s
  obtain ⟨x0, x1, x2, x3, x4⟩ := hX
  have qk : ∀ {a : GS} {j : Nat} {v : Int32}, (s1 a 21 j v).1 k = a.1 k := fun {a j v} => s1_c hk.2.2
  refine ⟨s1 (s1 (s1 (s1 σ 21 (20 * h + 4 * i) (nI (cdv l))) 21 (20 * h + 4 * i + 1) (nI hd)) 21 (20 * h + 4 * i + 2) (nI tu)) 21 (20 * h + 4 * i + 3) w, ?_, ⟨?_, ?_, ?_, ?_⟩, fun j hj => ?_, ?_⟩
  · unfold F_Tn_store
    rw [if_neg (nI_pos (by omega)), e2, if_pos (nI_lt hi (by omega)), e3, ixf, gi (by omega) (by decide), c31 (by omega), x1, jn_s, nI_1, gi (by omega) (by decide), c31 (by omega), qk, x2, jn_s, show nI (20 * h + 4 * i) + 2 = nI (20 * h + 4 * i + 2) from nI_add _ 2, gi (by omega) (by decide), c31 (by omega), qk, qk, x3, jn_s, show nI (20 * h + 4 * i) + 3 = nI (20 * h + 4 * i + 3) from nI_add _ 3, gi (by omega) (by decide), c31 (by omega), qk, qk, qk, x4, jn_s]
  · rw [s1_i (by omega), s1_i (by omega), s1_i (by omega), s1_at]
  · rw [s1_i (by omega), s1_i (by omega), s1_at]
  · rw [s1_i (by omega), s1_at]
  · rw [s1_at]
  · rw [s1_i (by omega), s1_i (by omega), s1_i (by omega), s1_i (by omega)]
  · exact Fr.trans (Fr.s1 (by simp)) (Fr.trans (Fr.s1 (by simp)) (Fr.trans (Fr.s1 (by simp)) (Fr.s1 (by simp))))
theorem walker_c {σ : GS} {n : Nat} (hn : n ≤ 5) (e2 : σ.1 19 2 = nI n) (x : Int32) : (F_X_isWalker x σ = some 0 ∧ ∀ s : GS, s.1 68 0 = nI n → F_M_isWalker x s = some 0) ∨ ∃ i, i < n ∧ x = nI i ∧ F_X_isWalker x σ = some 1 ∧ ∀ s : GS, s.1 68 0 = nI n → F_M_isWalker x s = some 1 := by
  unfold F_X_isWalker
  rcases rng_c x (n := n) (by omega) with ⟨h1, h2⟩ | ⟨j, hj, rfl, h1⟩
  · refine Or.inl ⟨?_, fun s hs => by unfold F_M_isWalker; rw [hs, h1]; rfl⟩
    rw [e2]
    rcases h2 with h | ⟨h, h3⟩
    · rw [if_pos h]
    · rw [if_neg h, if_pos h3]
  · refine Or.inr ⟨j, hj, rfl, ?_, fun s hs => by unfold F_M_isWalker; rw [hs, h1]; rfl⟩
    rw [if_neg (nI_pos (by omega)), e2, if_neg (nI_ge hj (by omega))]
def fact : WS → Nat → Int32 := fun (kn, l, h, _, w) v => if v = 0 then nI kn else if v = 1 then nI (cdv l) else if v = 2 then nI h else if v = 3 then w else nI l.length
theorem factX {i n h v : Nat} {s : WS} {σ : GS} (hi : i < n) (hn : n ≤ 5) (hh : h ≤ 60) (hv : v ≤ 4) (hV : WV s) (e2 : σ.1 19 2 = nI n) (e3 : σ.1 19 3 = nI h) (ek : σ.1 20 i = nI s.1) (hF : FX (σ.1 21) (20 * h + 4 * i) s) : ∃ σ', F_X_factOf (nI i) (nI v) σ = some (fact s v, σ') ∧ Fr [34, 32, 33] σ σ' := by
  obtain ⟨σ1, e1, x1, f1⟩ := load_spec (k := 34) (by decide) hi hn hh e2 e3 ek hF
  obtain ⟨kn, l, hd, tu, w⟩ := s
  obtain ⟨v1, v2, v3, v4, v5, v6, v7⟩ := hV
  obtain ⟨y0, y1, y2, y3, y4⟩ := x1
  unfold F_X_factOf
  rw [bv_s e1]
  have ne : ∀ c, c ≤ 3 → v ≠ c → ¬ nI v = nI c := fun c hc q z => q ((nI_eq (by omega) (by omega)).mp z)
  by_cases q0 : v = 0
  · subst q0
    exact ⟨σ1, by rw [if_pos (by decide), y0]; rfl, f1.mono (by simp)⟩
  rw [if_neg (show ¬ nI v = 0 from ne 0 (by decide) q0)]
  by_cases q1 : v = 1
  · subst q1
    exact ⟨σ1, by rw [if_pos (by decide), y1]; rfl, f1.mono (by simp)⟩
  rw [if_neg (show ¬ nI v = 1 from ne 1 (by decide) q1)]
  by_cases q2 : v = 2
  · subst q2
    exact ⟨σ1, by rw [if_pos (by decide), y2]; rfl, f1.mono (by simp)⟩
  rw [if_neg (show ¬ nI v = 2 from ne 2 (by decide) q2)]
  by_cases q3 : v = 3
  · subst q3
    exact ⟨σ1, by rw [if_pos (by decide), y4]; rfl, f1.mono (by simp)⟩
  rw [if_neg (show ¬ nI v = 3 from ne 3 (by decide) q3)]
  obtain ⟨σ2, e2', r2, f2⟩ := becomes_spec (w := 32) (σ := σ1) (cdv_isC v2 v4)
  rw [wd_cdv v2 v4, nf_of_good v3] at r2
  refine ⟨σ2, ?_, (f1.mono (by simp)).trans (f2.mono (by simp))⟩
  rw [y1, bv_s e2', r2.1]
  show some (nI l.length, σ2) = some (if v = 0 then _ else _, σ2)
  rw [if_neg q0, if_neg q1, if_neg q2, if_neg q3]
theorem fig_cdv {l : List Nat} (hv : wv l) (hl : l.length ≤ 9) : F_M_figures (nI (cdv l)) = some (nI l.length) := by
  rw [figures_spec (cdv_isC hv hl), (cdv_dg l hv hl).2, List.length_reverse]
theorem toldM {i v : Nat} {s : WS} {σ : GS} (hi : i < 5) (hv : v ≤ 4) (hV : WV s) (hM : WM (σ.1 68) i s) : F_M_told (nI i) (nI v) σ = some (fact s v) := by
  obtain ⟨kn, l, hd, tu, w⟩ := s
  obtain ⟨v1, v2, v3, v4, v5, v6, v7⟩ := hV
  obtain ⟨y0, y1, y2, y3, y4⟩ := hM
  unfold F_M_told
  have ne : ∀ c, c ≤ 3 → v ≠ c → ¬ nI v = nI c := fun c hc q z => q ((nI_eq (by omega) (by omega)).mp z)
  by_cases q0 : v = 0
  · subst q0
    rw [if_pos (by decide), ix2, gi (by omega) (by decide), c31 (by omega), y0]; rfl
  rw [if_neg (show ¬ nI v = 0 from ne 0 (by decide) q0)]
  by_cases q1 : v = 1
  · subst q1
    rw [if_pos (by decide), ix7, gi (by omega) (by decide), c31 (by omega), y1]; rfl
  rw [if_neg (show ¬ nI v = 1 from ne 1 (by decide) q1)]
  by_cases q2 : v = 2
  · subst q2
    rw [if_pos (by decide), ix12, gi (by omega) (by decide), c31 (by omega), y2]; rfl
  rw [if_neg (show ¬ nI v = 2 from ne 2 (by decide) q2)]
  by_cases q3 : v = 3
  · subst q3
    rw [if_pos (by decide), ix22, gi (by omega) (by decide), c31 (by omega), y4]; rfl
  rw [if_neg (show ¬ nI v = 3 from ne 3 (by decide) q3), ix7, gi (by omega) (by decide), c31 (by omega), y1, bp_s (fig_cdv v2 v4)]
  show some (nI l.length) = some (if v = 0 then _ else _)
  rw [if_neg q0, if_neg q1, if_neg q2, if_neg q3]
theorem stp_walker : St_walker Rel := by
  intro σ hR a1 a2
  obtain ⟨n, h, e2, e3, hn, hh, m1, ⟨S, m0, hS⟩, hp⟩ := hR.1.2.2.1
  unfold F_X_walker
  rcases walker_c hn e2 a1 with ⟨h1, h2⟩ | ⟨i, hi, rfl, h1, h2⟩
  · exact ⟨-1, σ, σ, by rw [bp_s h1, if_pos rfl], by unfold F_M_walker; rw [bp_s (h2 σ m0), if_pos rfl], hR⟩
  rw [bp_s h1, if_neg (by decide)]
  rcases bt_c a2 0 4 (by decide) (by decide) with ⟨q1, q2⟩ | ⟨v, q1, q2, rfl, q3⟩
  · exact ⟨-1, σ, σ, lo_hi (hi := 4) q2 _ _, by unfold F_M_walker; rw [bp_s (h2 σ m0), if_neg (by decide), show F_M_in a2.toInt64 0 4 = some 0 from q1]; rfl, hR⟩
  · obtain ⟨w1, w2, w3, w4⟩ := hS i hi
    obtain ⟨σ1, e1, f1⟩ := factX hi hn hh q2 w1 e2 e3 w2 w3
    refine ⟨1, s1 σ1 0 16 (fact (S i) v), s1 (s1 σ1 0 16 (fact (S i) v)) 63 9 (fact (S i) v), (lo_in (hi := 4) q2 (by decide) _ _).trans (by rw [bc_s e1, jn_s]), ?_, hR.ask3 f1 (Fr.refl [] _) (Fr.refl [] _) rfl⟩
    have e68 : (s1 σ1 0 16 (fact (S i) v)).1 68 = σ.1 68 := by rw [s1_c (by decide), f1.1 68 (by simp)]
    unfold F_M_walker
    rw [bp_s (h2 _ (by rw [e68]; exact m0)), if_neg (by decide), show F_M_in (nI v).toInt64 0 4 = some 1 from q3, bp_s rfl, if_neg (by decide), bp_s (toldM (by omega) q2 w1 (by rw [e68]; exact w4))]
    rfl
/-- the town after walker i has become s -/
theorem TR.set {n h i : Nat} {kd f m p f' m' : Nat → Int32} {s : WS} (hT : TR n h kd f m p) (hi : i < n) (hV : WV s) (hk : kd i = nI s.1) (hF : FX f' (20 * h + 4 * i) s) (hM : WM m' i s) (hf : ∀ j, j < 20 * h + 4 * i ∨ 20 * h + 4 * i + 4 ≤ j → f' j = f j) (hm : ∀ j, j ≠ 7 + i → j ≠ 12 + i → j ≠ 17 + i → j ≠ 22 + i → m' j = m j) : TR n h kd f' m' p := by
  obtain ⟨hn, hh, m1, ⟨S, m0, hS⟩, hp⟩ := hT
  refine ⟨hn, hh, by rw [hm 1 (by omega) (by omega) (by omega) (by omega)]; exact m1, ⟨fun j => if j = i then s else S j, by rw [hm 0 (by omega) (by omega) (by omega) (by omega)]; exact m0, fun j hj => ?_⟩, fun g hg => ?_⟩
  · by_cases e : j = i
    · subst e
      simp only [if_pos]
      exact ⟨hV, hk, hF, hM⟩
    · simp only [if_neg e]
      obtain ⟨w1, w2, w3, w4⟩ := hS j hj
      exact ⟨w1, w2, w3.cg fun z a b => hf z (by omega), w4.cg (hm _ (by omega) (by omega) (by omega) (by omega)) (hm _ (by omega) (by omega) (by omega) (by omega)) (hm _ (by omega) (by omega) (by omega) (by omega)) (hm _ (by omega) (by omega) (by omega) (by omega)) (hm _ (by omega) (by omega) (by omega) (by omega))⟩
  · obtain ⟨g1, g2⟩ := hp g hg
    exact ⟨g1, g2.cg hn (fun z a b => hf z (by omega)) (fun _ _ => rfl) (fun _ _ => rfl)⟩
theorem RB.now {σ σ2 : GS} (hB : RB σ) (h : ∀ c, kB c = true → ¬ ((19 ≤ c ∧ c ≤ 21) ∨ c = 68 ∨ c = 69) → σ2.1 c = σ.1 c) (hRN : RN σ2) : RB σ2 := by
  have k : ∀ c, ((2 ≤ c ∧ c ≤ 8) ∨ (10 ≤ c ∧ c ≤ 14) ∨ (22 ≤ c ∧ c ≤ 31) ∨ c = 36 ∨ (54 ≤ c ∧ c ≤ 58) ∨ (64 ≤ c ∧ c ≤ 67) ∨ (70 ≤ c ∧ c ≤ 72)) → σ2.1 c = σ.1 c := fun c hc => h c (decide_eq_true (by omega)) (by omega)
  obtain ⟨h1, h2, h3, h4, h5, h6⟩ := hB
  refine ⟨h1.fr fun c hc => k c (by omega), h2.fr fun c hc => k c (by omega), hRN, h4.fr fun c hc => k c (by omega), ?_, h6.fr fun c hc => k c (by omega)⟩
  unfold RI
  rw [k 36 (by omega)]
  exact h5
theorem stp_stand : St_stand Rel := by
  intro σ hR a1 a2
  obtain ⟨n, h, e2, e3, hT⟩ := hR.1.2.2.1
  obtain ⟨hn, hh, m1, ⟨S, m0, hS⟩, hp⟩ := id hT
  unfold F_X_stand
  rcases walker_c hn e2 a1 with ⟨h1, h2⟩ | ⟨i, hi, rfl, h1, h2⟩
  · exact ⟨-1, σ, σ, by rw [bp_s h1, if_pos rfl], by unfold F_M_stand; rw [bp_s (h2 σ m0), if_pos rfl], hR⟩
  rcases code_c a2 with ⟨h3, h4⟩ | ⟨m, rfl, hc, h3, h4⟩
  · exact ⟨-1, σ, σ, by rw [bp_s h1, if_neg (by decide), bp_s h3, if_pos rfl], by unfold F_M_stand; rw [bp_s (h2 σ m0), if_neg (by decide), bp_s h4, if_pos rfl], hR⟩
  obtain ⟨w1, w2, w3, w4⟩ := hS i hi
  obtain ⟨σ1, e1, x1, f1⟩ := load_spec (k := 34) (by decide) hi hn hh e2 e3 w2 w3
  obtain ⟨σ2, e5, -, f2⟩ := plainOfX_spec (σ := σ1) hc
  have hv := wd_wv hc
  have h9 := wd_le hc
  have hl2 := len_nf_le (wd m)
  generalize hs : S i = s at *
  obtain ⟨kn, l, hd, tu, w⟩ := s
  obtain ⟨v1, v2, v3, v4, v5, v6, v7⟩ := w1
  obtain ⟨y0, y1, y2, y3, y4⟩ := x1
  have ek : ∀ j, j ≠ 1 → (s1 σ2 34 1 (nI (cdv (nf (wd m))))).1 34 j = σ1.1 34 j := fun j hj => by rw [s1_i hj, f2.1 34 (by simp)]
  have hV' : WV (kn, nf (wd m), hd, tu, w) := ⟨v1, wv_nf hv, good_nf _, by omega, v5, v6, v7⟩
  have hX' : WX (s1 σ2 34 1 (nI (cdv (nf (wd m))))) 34 (kn, nf (wd m), hd, tu, w) := ⟨by rw [ek 0 (by decide)]; exact y0, s1_at _ _ _ _, by rw [ek 2 (by decide)]; exact y2, by rw [ek 3 (by decide)]; exact y3, by rw [ek 4 (by decide)]; exact y4⟩
  have k19 : (s1 σ2 34 1 (nI (cdv (nf (wd m))))).1 19 = σ.1 19 := by rw [s1_c (by decide), f2.1 19 (by simp), f1.1 19 (by simp)]
  have k21 : (s1 σ2 34 1 (nI (cdv (nf (wd m))))).1 21 = σ.1 21 := by rw [s1_c (by decide), f2.1 21 (by simp), f1.1 21 (by simp)]
  obtain ⟨σ3, e6, x6, j6, f6⟩ := store_spec (k := 34) (σ := s1 σ2 34 1 (nI (cdv (nf (wd m))))) (by decide) hi hn hh (by rw [k19]; exact e2) (by rw [k19]; exact e3) hX'
  have f3 : Fr [34, 32, 33, 21] σ σ3 := (f1.mono (by simp)).trans ((f2.mono (by simp)).trans (Fr.trans (Fr.s1 (by simp)) (f6.mono (by simp))))
  obtain ⟨σ4, e7, f7⟩ := plainOfM_spec (σ := σ3) hc
  have k68 : σ4.1 68 = σ.1 68 := by rw [f7.1 68 (by simp), f3.1 68 (by simp)]
  refine ⟨nI (cdv l), σ3, s1 σ4 68 (7 + i) (nI (cdv (nf (wd m)))), ?_, ?_, ?_, ?_⟩
  · rw [bp_s h1, if_neg (by decide), bp_s h3, if_neg (by decide), bv_s e1, bc_s e5, jn_s, bv_s e6, y1]
  · unfold F_M_stand
    rw [bp_s (h2 σ3 (by rw [f3.1 68 (by simp)]; exact m0)), if_neg (by decide), bp_s h4, if_neg (by decide), ix7, gi (by omega) (by decide), bc_s e7, gi (by omega) (by decide), c31 (by omega), jn_s, f3.1 68 (by simp), w4.2.1]
  · refine hR.1.now (fun c hc hnc => ?_) ⟨n, h, ?_, ?_, ?_⟩
    · have := of_decide_eq_true hc
      rw [s1_c (by omega), f7.1 c (by simp; omega), f3.1 c (by simp; omega)]
    · rw [s1_c (by decide), f7.1 19 (by simp), f3.1 19 (by simp)]; exact e2
    · rw [s1_c (by decide), f7.1 19 (by simp), f3.1 19 (by simp)]; exact e3
    · rw [s1_c (k' := 20) (by decide), f7.1 20 (by simp), f3.1 20 (by simp), s1_c (k' := 69) (by decide), f7.1 69 (by simp), f3.1 69 (by simp), s1_c (k' := 21) (by decide), f7.1 21 (by simp)]
      refine TR.set hT hi hV' w2 x6 ?_ (fun j hj => by rw [j6 j hj, k21]) (fun j a _ _ _ => by rw [s1_i a, k68])
      refine ⟨?_, s1_at _ _ _ _, ?_, ?_, ?_⟩
      · rw [s1_i (by omega), k68]; exact w4.1
      · rw [s1_i (by omega), k68]; exact w4.2.2.1
      · rw [s1_i (by omega), k68]; exact w4.2.2.2.1
      · rw [s1_i (by omega), k68]; exact w4.2.2.2.2
  · refine hR.2.fr2 (fun c hc => ?_) ?_
    · rw [s1_c (by omega), f7.1 c (by simp; omega), f3.1 c (by simp; omega)]
    · rw [s1_l, f7.2, f3.2]
theorem stp_head : St_head Rel := by
  intro σ hR a1 a2
  obtain ⟨n, h, e2, e3, hT⟩ := hR.1.2.2.1
  obtain ⟨hn, hh, m1, ⟨S, m0, hS⟩, hp⟩ := id hT
  unfold F_X_head
  rcases walker_c hn e2 a1 with ⟨h1, h2⟩ | ⟨i, hi, rfl, h1, h2⟩
  · exact ⟨-1, σ, σ, by rw [bp_s h1, if_pos rfl], by unfold F_M_head; rw [bp_s (h2 σ m0), if_pos rfl], hR⟩
  rcases street_c a2 with ⟨h3, h4, -⟩ | ⟨m, hm, rfl, h3, h4⟩
  · exact ⟨-1, σ, σ, by rw [bp_s h1, if_neg (by decide), bp_s h3, if_pos rfl], by unfold F_M_head; rw [bp_s (h2 σ m0), if_neg (by decide), bp_s h4, if_pos rfl], hR⟩
  obtain ⟨w1, w2, w3, w4⟩ := hS i hi
  obtain ⟨σ1, e1, x1, f1⟩ := load_spec (k := 34) (by decide) hi hn hh e2 e3 w2 w3
  generalize hs : S i = s at *
  obtain ⟨kn, l, hd, tu, w⟩ := s
  obtain ⟨v1, v2, v3, v4, v5, v6, v7⟩ := w1
  obtain ⟨y0, y1, y2, y3, y4⟩ := x1
  have hV' : WV (kn, l, m, 0, w) := ⟨v1, v2, v3, v4, hm, by omega, fun _ => rfl⟩
  have hX' : WX (s1 (s1 σ1 34 2 (nI m)) 34 3 0) 34 (kn, l, m, 0, w) := ⟨by rw [s1_i (by decide), s1_i (by decide)]; exact y0, by rw [s1_i (by decide), s1_i (by decide)]; exact y1, by rw [s1_i (by decide), s1_at], by rw [s1_at]; rfl, by rw [s1_i (by decide), s1_i (by decide)]; exact y4⟩
  have k19 : (s1 (s1 σ1 34 2 (nI m)) 34 3 0).1 19 = σ.1 19 := by rw [s1_c (by decide), s1_c (by decide), f1.1 19 (by simp)]
  have k21 : (s1 (s1 σ1 34 2 (nI m)) 34 3 0).1 21 = σ.1 21 := by rw [s1_c (by decide), s1_c (by decide), f1.1 21 (by simp)]
  obtain ⟨σ3, e6, x6, j6, f6⟩ := store_spec (k := 34) (σ := s1 (s1 σ1 34 2 (nI m)) 34 3 0) (by decide) hi hn hh (by rw [k19]; exact e2) (by rw [k19]; exact e3) hX'
  have f3 : Fr [34, 21] σ σ3 := (f1.mono (by simp)).trans (Fr.trans (Fr.s1 (by simp)) (Fr.trans (Fr.s1 (by simp)) (f6.mono (by simp))))
  have k68 : σ3.1 68 = σ.1 68 := f3.1 68 (by simp)
  refine ⟨nI hd, σ3, s1 (s1 σ3 68 (12 + i) (nI m)) 68 (17 + i) 0, ?_, ?_, ?_, ?_⟩
  · rw [bp_s h1, if_neg (by decide), bp_s h3, if_neg (by decide), bv_s e1, jn_s, jn_s, bv_s e6, y2]
  · unfold F_M_head
    rw [bp_s (h2 σ3 (by rw [k68]; exact m0)), if_neg (by decide), bp_s h4, if_neg (by decide), ix12, ix17, gi (by omega) (by decide), gi (by omega) (by decide), c31 (by omega), jn_s, gi (by omega) (by decide), c31 (by omega), jn_s, k68, w4.2.2.1]
  · refine hR.1.now (fun c hc hnc => ?_) ⟨n, h, ?_, ?_, ?_⟩
    · have := of_decide_eq_true hc
      rw [s1_c (by omega), s1_c (by omega), f3.1 c (by simp; omega)]
    · rw [s1_c (by decide), s1_c (by decide), f3.1 19 (by simp)]; exact e2
    · rw [s1_c (by decide), s1_c (by decide), f3.1 19 (by simp)]; exact e3
    · rw [s1_c (k' := 20) (by decide), s1_c (k' := 20) (by decide), f3.1 20 (by simp), s1_c (k' := 69) (by decide), s1_c (k' := 69) (by decide), f3.1 69 (by simp), s1_c (k' := 21) (by decide), s1_c (k' := 21) (by decide)]
      refine TR.set hT hi hV' w2 x6 ?_ (fun j hj => by rw [j6 j hj, k21]) (fun j _ b c _ => by rw [s1_i c, s1_i b, k68])
      refine ⟨?_, ?_, ?_, ?_, ?_⟩
      · rw [s1_i (by omega), s1_i (by omega), k68]; exact w4.1
      · rw [s1_i (by omega), s1_i (by omega), k68]; exact w4.2.1
      · rw [s1_i (by omega), s1_at]
      · rw [s1_at]; rfl
      · rw [s1_i (by omega), s1_i (by omega), k68]; exact w4.2.2.2.2
  · refine hR.2.fr2 (fun c hc => ?_) ?_
    · rw [s1_c (by omega), s1_c (by omega), f3.1 c (by simp; omega)]
    · rw [s1_l, s1_l, f3.2]
