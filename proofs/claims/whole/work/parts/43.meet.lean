/-! trying ahead: meet, part, mark -/
theorem tries_spec (σ : GS) : ∃ σ', F_M_tries σ = some σ' ∧ (∀ j, j < 27 → σ'.1 80 j = σ.1 68 j) ∧ Fr [80] σ σ' := by
  unfold F_M_tries
  rw [jn_s]
  refine lpE (G := fun n i (t : GS) => F_M_tries_2 (fun (v1_1 : Int32) (σL1 : GS) => some σL1) n (nI i) t) (P := fun o => ∃ σ', o = some σ' ∧ (∀ j, j < 27 → σ'.1 80 j = σ.1 68 j) ∧ Fr [80] σ σ') (Inv := fun i t => (∀ j, j < i → t.1 80 j = σ.1 68 j) ∧ Fr [80] σ t) (N := 27) ?_ ?_ 27 0 50000 σ (by omega) (by omega) ⟨fun j hj => absurd hj (Nat.not_lt_zero _), Fr.refl _ _⟩
  · intro n i t hi h
    refine Or.inr ⟨s1 t 80 i (σ.1 68 i), ?_, fun j hj => ?_, Fr.trans h.2 (Fr.s1 (by simp))⟩
    · show F_M_tries_2 _ (n + 1) (nI i) t = F_M_tries_2 _ n (nI (i + 1)) _
      rw [F_M_tries_2.eq_2, if_neg (show ¬ (27 : Int32) ≤ nI i from nI_ge (b := 27) hi (by decide)), gi hi (by decide), gi hi (by decide), c31 (by omega), h.2.1 68 (by simp), jn_s, nI_1]
    · by_cases e : j = i
      · rw [e, s1_at]
      · rw [s1_i e, h.1 j (by omega)]
  · intro n t h
    refine ⟨t, ?_, h.1, h.2⟩
    show F_M_tries_2 _ (n + 1) (nI 27) t = _
    rw [F_M_tries_2.eq_2, if_pos (by decide)]
def it (s : WS) : Nat → WS
  | 0 => s
  | n + 1 => ph (it s n)
theorem it_s (s : WS) (n : Nat) : it s (n + 1) = ph (it s n) := rfl
theorem it_ok {s : WS} (h : WV s) : ∀ n, WV (it s n)
  | 0 => h
  | n + 1 => ph_ok (it_ok h n)
def ip (s : WS) : Nat → WS
  | 0 => s
  | n + 1 => ps (ip s n)
theorem ip_ok {s : WS} (h : WV s) : ∀ n, WV (ip s n)
  | 0 => h
  | n + 1 => ps_ok (ip_ok h n)
def plc (s : WS) : Int32 := nI (cdv s.2.1)
theorem WX_p {σ : GS} {k : Nat} {s : WS} (h : WX σ k s) : σ.1 k 1 = plc s := h.2.1
theorem WM_p {f : Nat → Int32} {i : Nat} {s : WS} (h : WM f i s) : f (7 + i) = plc s := h.2.1
theorem plc_c {s : WS} (h : WV s) : isC (cdv s.2.1) = true := by
  obtain ⟨kn, l, hd, tu, w⟩ := s
  exact cdv_isC h.2.1 h.2.2.2.1
theorem WX.fr {S : List Nat} {σ σ' : GS} {k : Nat} {s : WS} (h : WX σ k s) (f : Fr S σ σ') (hk : k ∉ S) : WX σ' k s := by
  unfold WX
  rw [f.1 k hk]
  exact h
/-- both walkers an hour on, class -/
theorem twoX {s t : WS} {σ : GS} (hs : WV s) (ht : WV t) (h1 : WX σ 34 s) (h2 : WX σ 35 t) : ∃ σ1 σ2, F_Wk_passHour 34 σ = some σ1 ∧ F_Wk_passHour 35 σ1 = some σ2 ∧ WX σ2 34 (ph s) ∧ WX σ2 35 (ph t) ∧ Fr [32, 33, 34, 35] σ σ2 := by
  obtain ⟨σ1, e1, x1, f1⟩ := passHourX (k := 34) (by decide) hs h1
  obtain ⟨σ2, e2, x2, f2⟩ := passHourX (k := 35) (by decide) ht (h2.fr f1 (by simp))
  exact ⟨σ1, σ2, e1, e2, x1.fr f2 (by simp), x2, (f1.mono (by simp)).trans (f2.mono (by simp))⟩
theorem twoM {i j : Nat} {s t : WS} {σ : GS} (hi : i < 5) (hj : j < 5) (hij : i ≠ j) (hs : WV s) (ht : WV t) (h1 : WM (σ.1 80) i s) (h2 : WM (σ.1 80) j t) : ∃ σ1 σ2, F_M_hourOf 80 (nI i) σ = some σ1 ∧ F_M_hourOf 80 (nI j) σ1 = some σ2 ∧ WM (σ2.1 80) i (ph s) ∧ WM (σ2.1 80) j (ph t) ∧ Fr [75, 78, 79, 80] σ σ2 := by
  obtain ⟨σ1, e1, x1, j1, f1⟩ := hourOfM (q := 80) (by decide) hi hs h1
  obtain ⟨σ2, e2, x2, j2, f2⟩ := hourOfM (q := 80) (σ := σ1) (by decide) hj ht (h2.cg (j1 _ (by omega) (by omega) (by omega) (by omega)) (j1 _ (by omega) (by omega) (by omega) (by omega)) (j1 _ (by omega) (by omega) (by omega) (by omega)) (j1 _ (by omega) (by omega) (by omega) (by omega)) (j1 _ (by omega) (by omega) (by omega) (by omega)))
  exact ⟨σ1, σ2, e1, e2, x1.cg (j2 _ (by omega) (by omega) (by omega) (by omega)) (j2 _ (by omega) (by omega) (by omega) (by omega)) (j2 _ (by omega) (by omega) (by omega) (by omega)) (j2 _ (by omega) (by omega) (by omega) (by omega)) (j2 _ (by omega) (by omega) (by omega) (by omega)), x2, f1.trans f2⟩
theorem areTwo_c {σ : GS} {n : Nat} (hn : n ≤ 5) (e2 : σ.1 19 2 = nI n) (m0 : σ.1 68 0 = nI n) (x y : Int32) : (F_M_areTwo x y σ = some 0 ∧ (F_X_isWalker x σ = some 0 ∨ (F_X_isWalker x σ = some 1 ∧ (F_X_isWalker y σ = some 0 ∨ (F_X_isWalker y σ = some 1 ∧ x = y))))) ∨ ∃ i j, i < n ∧ j < n ∧ i ≠ j ∧ x = nI i ∧ y = nI j ∧ F_X_isWalker x σ = some 1 ∧ F_X_isWalker y σ = some 1 ∧ ∀ s : GS, s.1 68 0 = nI n → F_M_areTwo x y s = some 1 := by
  rcases walker_c hn e2 x with ⟨h1, h2⟩ | ⟨i, hi, rfl, h1, h2⟩
  · exact Or.inl ⟨by unfold F_M_areTwo; rw [bp_s (h2 σ m0), if_pos rfl], Or.inl h1⟩
  rcases walker_c hn e2 y with ⟨h3, h4⟩ | ⟨j, hj, rfl, h3, h4⟩
  · exact Or.inl ⟨by unfold F_M_areTwo; rw [bp_s (h2 σ m0), if_neg (by decide), bp_s (h4 σ m0), if_pos rfl], Or.inr ⟨h1, Or.inl h3⟩⟩
  by_cases e : nI i = nI j
  · exact Or.inl ⟨by unfold F_M_areTwo; rw [bp_s (h2 σ m0), if_neg (by decide), bp_s (h4 σ m0), if_neg (by decide), if_pos e], Or.inr ⟨h1, Or.inr ⟨h3, e⟩⟩⟩
  · exact Or.inr ⟨i, j, hi, hj, fun z => e (by rw [z]), rfl, rfl, h1, h3, fun s hs => by unfold F_M_areTwo; rw [bp_s (h2 s hs), if_neg (by decide), bp_s (h4 s hs), if_neg (by decide), if_neg e]⟩
theorem stp_part : St_part Rel := by
  intro σ hR a1 a2 a3
  obtain ⟨n, h, e2, e3, hn, hh, m1, ⟨S, m0, hS⟩, hp⟩ := hR.1.2.2.1
  unfold F_X_part
  rcases areTwo_c hn e2 m0 a1 a2 with ⟨h1, h2⟩ | ⟨i, j, hi, hj, hij, rfl, rfl, h1, h2, h3⟩
  · refine ⟨-1, σ, σ, ?_, by unfold F_M_part; rw [bp_s h1, if_pos rfl], hR⟩
    rcases h2 with h | ⟨h, h | ⟨h', h''⟩⟩
    · rw [bp_s h, if_pos rfl]
    · rename_i h0
      rw [bp_s h0, if_neg (by decide), bp_s h, if_pos rfl]
    · rw [bp_s h, if_neg (by decide), bp_s h', if_neg (by decide), if_pos h'']
  rw [bp_s h1, if_neg (by decide), bp_s h2, if_neg (by decide), if_neg (fun q => hij ((nI_eq (by omega) (by omega)).mp q))]
  rcases bt_c a3 0 40 (by decide) (by decide) with ⟨q1, q2⟩ | ⟨v, q1, q2, rfl, q3⟩
  · exact ⟨-1, σ, σ, lo_hi (hi := 40) q2 _ _, by unfold F_M_part; rw [bp_s (h3 σ m0), if_neg (by decide), show F_M_in a3.toInt64 0 40 = some 0 from q1]; rfl, hR⟩
  obtain ⟨w1, w2, w3, w4⟩ := hS i hi
  obtain ⟨u1, u2, u3, u4⟩ := hS j hj
  obtain ⟨σ1, e1, x1, f1⟩ := load_spec (k := 34) (by decide) hi hn hh e2 e3 w2 w3
  obtain ⟨σ2, e4, x2, f2⟩ := load_spec (k := 35) (σ := σ1) (by decide) hj hn hh (by rw [f1.1 19 (by simp)]; exact e2) (by rw [f1.1 19 (by simp)]; exact e3) (by rw [f1.1 20 (by simp)]; exact u2) (by rw [f1.1 21 (by simp)]; exact u3)
  have hX : ∃ σ', WX σ' 34 (it (S i) v) ∧ WX σ' 35 (it (S j) v) ∧ Fr [32, 33, 34, 35] σ2 σ' ∧ ∀ K : Int32 → GS → Option (Int32 × GS), F_X_part_60 (nI v) K 50000 0 σ2 = K (nI v) σ' := by
    have := lpE (G := fun k d (t : GS) => fun (K : Int32 → GS → Option (Int32 × GS)) => F_X_part_60 (nI v) K k (nI d) t) (P := fun o => ∃ σ', WX σ' 34 (it (S i) v) ∧ WX σ' 35 (it (S j) v) ∧ Fr [32, 33, 34, 35] σ2 σ' ∧ ∀ K, o K = K (nI v) σ') (Inv := fun d t => WX t 34 (it (S i) d) ∧ WX t 35 (it (S j) d) ∧ Fr [32, 33, 34, 35] σ2 t) (N := v) ?_ ?_ v 0 50000 σ2 (by omega) (by omega) ⟨x1.fr f2 (by simp), x2, Fr.refl _ _⟩
    · exact this
    · intro k d t hd hI
      obtain ⟨t1, t2, g1, g2, y1, y2, g3⟩ := twoX (it_ok w1 d) (it_ok u1 d) hI.1 hI.2.1
      refine Or.inr ⟨t2, ?_, y1, y2, hI.2.2.trans g3⟩
      funext K
      show F_X_part_60 (nI v) K (k + 1) (nI d) t = F_X_part_60 (nI v) K k (nI (d + 1)) t2
      rw [F_X_part_60.eq_2, if_neg (nI_ge hd (by omega)), bv_s g1, bv_s g2, nI_1]
    · intro k t hI
      refine ⟨t, hI.1, hI.2.1, hI.2.2, fun K => ?_⟩
      show F_X_part_60 (nI v) K (k + 1) (nI v) t = _
      rw [F_X_part_60.eq_2, if_pos (nI_le (Nat.le_refl _) (by omega))]
  obtain ⟨σ3, y1, y2, f3, eW⟩ := hX
  obtain ⟨σ4, e5, r5, f5⟩ := gapX_spec (σ := σ3) (plc_c (it_ok w1 v)) (plc_c (it_ok u1 v))
  have fX : Fr [34, 35, 32, 33] σ σ4 := (f1.mono (by simp)).trans ((f2.mono (by simp)).trans ((f3.mono (by simp)).trans (f5.mono (by simp))))
  obtain ⟨σ5, e6, c6, f6⟩ := tries_spec σ4
  have k68 : σ4.1 68 = σ.1 68 := fX.1 68 (by simp)
  have hW : ∀ z, z < n → ∀ s, WM (σ.1 68) z s → WM (σ5.1 80) z s := fun z hz s hw => hw.cg (by rw [c6 _ (by omega), k68]) (by rw [c6 _ (by omega), k68]) (by rw [c6 _ (by omega), k68]) (by rw [c6 _ (by omega), k68]) (by rw [c6 _ (by omega), k68])
  have hM : ∃ σ', WM (σ'.1 80) i (it (S i) v) ∧ WM (σ'.1 80) j (it (S j) v) ∧ Fr [75, 78, 79, 80] σ5 σ' ∧ ∀ K : Int32 → GS → Option (Int32 × GS), F_M_part_30 (nI i) (nI j) (nI v) K 50000 0 σ5 = K (nI v) σ' := by
    have := lpE (G := fun k d (t : GS) => fun (K : Int32 → GS → Option (Int32 × GS)) => F_M_part_30 (nI i) (nI j) (nI v) K k (nI d) t) (P := fun o => ∃ σ', WM (σ'.1 80) i (it (S i) v) ∧ WM (σ'.1 80) j (it (S j) v) ∧ Fr [75, 78, 79, 80] σ5 σ' ∧ ∀ K, o K = K (nI v) σ') (Inv := fun d t => WM (t.1 80) i (it (S i) d) ∧ WM (t.1 80) j (it (S j) d) ∧ Fr [75, 78, 79, 80] σ5 t) (N := v) ?_ ?_ v 0 50000 σ5 (by omega) (by omega) ⟨hW i hi _ w4, hW j hj _ u4, Fr.refl _ _⟩
    · exact this
    · intro k d t hd hI
      obtain ⟨t1, t2, g1, g2, y1, y2, g3⟩ := twoM (i := i) (j := j) (by omega) (by omega) hij (it_ok w1 d) (it_ok u1 d) hI.1 hI.2.1
      refine Or.inr ⟨t2, ?_, y1, y2, hI.2.2.trans g3⟩
      funext K
      show F_M_part_30 (nI i) (nI j) (nI v) K (k + 1) (nI d) t = F_M_part_30 (nI i) (nI j) (nI v) K k (nI (d + 1)) t2
      rw [F_M_part_30.eq_2, if_neg (nI_ge hd (by omega)), bv_s g1, bv_s g2, nI_1]
    · intro k t hI
      refine ⟨t, hI.1, hI.2.1, hI.2.2, fun K => ?_⟩
      show F_M_part_30 (nI i) (nI j) (nI v) K (k + 1) (nI v) t = _
      rw [F_M_part_30.eq_2, if_pos (nI_le (Nat.le_refl _) (by omega))]
  obtain ⟨σ6, z1, z2, f7, eW2⟩ := hM
  obtain ⟨σ7, e8, -, -, f8⟩ := farOf_spec (σ := σ6) (plc_c (it_ok w1 v)) (plc_c (it_ok u1 v))
  refine ⟨nI (nf (dg (cdv (it (S i) v).2.1) ++ wd (cdv (it (S j) v).2.1))).length, σ4, σ7, ?_, ?_, (((hR.fr fX rfl rfl).fr f6 rfl rfl).fr f7 rfl rfl).fr f8 rfl rfl⟩
  · refine (lo_in (hi := 40) q2 (by decide) _ _).trans ?_
    rw [bv_s e1, bv_s e4, jn_s, eW, WX_p y1, WX_p y2]
    unfold plc
    rw [bc_s e5]
  · unfold F_M_part
    rw [bp_s (h3 σ4 (by rw [k68]; exact m0)), if_neg (by decide), show F_M_in (nI v).toInt64 0 40 = some 1 from q3, bp_s rfl, if_neg (by decide), bv_s e6, jn_s, eW2, ix7, ix7, gi (by omega) (by decide), gi (by omega) (by decide), c31 (by omega), c31 (by omega), WM_p z1, WM_p z2]
    unfold plc
    rw [bc_s e8, far_eq (plc_c (it_ok w1 v)) (plc_c (it_ok u1 v))]
theorem stp_meet : St_meet Rel := by
  intro σ hR a1 a2
  obtain ⟨n, h, e2, e3, hn, hh, m1, ⟨S, m0, hS⟩, hp⟩ := hR.1.2.2.1
  unfold F_X_meet
  rcases areTwo_c hn e2 m0 a1 a2 with ⟨h1, h2⟩ | ⟨i, j, hi, hj, hij, rfl, rfl, h1, h2, h3⟩
  · refine ⟨-1, σ, σ, ?_, by unfold F_M_meet; rw [bp_s h1, if_pos rfl], hR⟩
    rcases h2 with h | ⟨h, h | ⟨h', h''⟩⟩
    · rw [bp_s h, if_pos rfl]
    · rename_i h0
      rw [bp_s h0, if_neg (by decide), bp_s h, if_pos rfl]
    · rw [bp_s h, if_neg (by decide), bp_s h', if_neg (by decide), if_pos h'']
  rw [bp_s h1, if_neg (by decide), bp_s h2, if_neg (by decide), if_neg (fun q => hij ((nI_eq (by omega) (by omega)).mp q))]
  obtain ⟨w1, w2, w3, w4⟩ := hS i hi
  obtain ⟨u1, u2, u3, u4⟩ := hS j hj
  obtain ⟨σ1, e1, x1, f1⟩ := load_spec (k := 34) (by decide) hi hn hh e2 e3 w2 w3
  obtain ⟨σ2, e4, x2, f2⟩ := load_spec (k := 35) (σ := σ1) (by decide) hj hn hh (by rw [f1.1 19 (by simp)]; exact e2) (by rw [f1.1 19 (by simp)]; exact e3) (by rw [f1.1 20 (by simp)]; exact u2) (by rw [f1.1 21 (by simp)]; exact u3)
  have f12 : Fr [34, 35] σ σ2 := (f1.mono (by simp)).trans (f2.mono (by simp))
  rw [bv_s e1, bv_s e4, jn_s]
  have hX : (∃ k σ', k ≤ 40 ∧ plc (it (S i) k) = plc (it (S j) k) ∧ (∀ d, d < k → plc (it (S i) d) ≠ plc (it (S j) d)) ∧ Fr [32, 33, 34, 35] σ2 σ' ∧ F_X_meet_49 (fun (v3_9 : Int32) (σL9 : GS) => some ((-9 : Int32), σL9)) 50000 0 σ2 = some (nI k, s1 σ' 0 16 (plc (it (S i) k)))) ∨ ((∀ d, d < 41 → plc (it (S i) d) ≠ plc (it (S j) d)) ∧ ∃ σ', Fr [32, 33, 34, 35] σ2 σ' ∧ F_X_meet_49 (fun (v3_9 : Int32) (σL9 : GS) => some ((-9 : Int32), σL9)) 50000 0 σ2 = some (-9, σ')) := by
    refine lpE (G := fun k d (t : GS) => F_X_meet_49 (fun (v3_9 : Int32) (σL9 : GS) => some ((-9 : Int32), σL9)) k (nI d) t) (P := fun o => (∃ k σ', k ≤ 40 ∧ plc (it (S i) k) = plc (it (S j) k) ∧ (∀ d, d < k → plc (it (S i) d) ≠ plc (it (S j) d)) ∧ Fr [32, 33, 34, 35] σ2 σ' ∧ o = some (nI k, s1 σ' 0 16 (plc (it (S i) k)))) ∨ ((∀ d, d < 41 → plc (it (S i) d) ≠ plc (it (S j) d)) ∧ ∃ σ', Fr [32, 33, 34, 35] σ2 σ' ∧ o = some (-9, σ'))) (Inv := fun d t => WX t 34 (it (S i) d) ∧ WX t 35 (it (S j) d) ∧ Fr [32, 33, 34, 35] σ2 t ∧ ∀ d', d' < d → plc (it (S i) d') ≠ plc (it (S j) d')) (N := 41) ?_ ?_ 41 0 50000 σ2 (by omega) (by omega) ⟨x1.fr f2 (by simp), x2, Fr.refl _ _, fun d' hd => absurd hd (Nat.not_lt_zero _)⟩
    · intro k d t hd hI
      by_cases q : plc (it (S i) d) = plc (it (S j) d)
      · refine Or.inl (Or.inl ⟨d, t, by omega, q, hI.2.2.2, hI.2.2.1, ?_⟩)
        show F_X_meet_49 _ (k + 1) (nI d) t = _
        rw [F_X_meet_49.eq_2, if_neg (show ¬ (40 : Int32) < nI d from nI_nlt (a := 40) (by omega) (by decide)), WX_p hI.1, WX_p hI.2.1, if_pos q, jn_s]
      · obtain ⟨t1, t2, g1, g2, y1, y2, g3⟩ := twoX (it_ok w1 d) (it_ok u1 d) hI.1 hI.2.1
        refine Or.inr ⟨t2, ?_, y1, y2, hI.2.2.1.trans g3, fun d' hd' => ?_⟩
        · show F_X_meet_49 _ (k + 1) (nI d) t = F_X_meet_49 _ k (nI (d + 1)) t2
          rw [F_X_meet_49.eq_2, if_neg (show ¬ (40 : Int32) < nI d from nI_nlt (a := 40) (by omega) (by decide)), WX_p hI.1, WX_p hI.2.1, if_neg q, bv_s g1, bv_s g2, nI_1]
        · by_cases e : d' = d
          · rw [e]; exact q
          · exact hI.2.2.2 d' (by omega)
    · intro k t hI
      refine Or.inr ⟨hI.2.2.2, t, hI.2.2.1, ?_⟩
      show F_X_meet_49 _ (k + 1) (nI 41) t = _
      rw [F_X_meet_49.eq_2, if_pos (by decide)]
  have hM : ∀ s : GS, s.1 68 = σ.1 68 → ∃ σ0 : GS, F_M_tries s = some σ0 ∧ Fr [80] s σ0 ∧ ((∃ k σ', k ≤ 40 ∧ plc (it (S i) k) = plc (it (S j) k) ∧ (∀ d, d < k → plc (it (S i) d) ≠ plc (it (S j) d)) ∧ Fr [75, 78, 79, 80] σ0 σ' ∧ F_M_meet_17 (nI i) (nI j) (fun (v3_5 : Int32) (σL5 : GS) => some ((-9 : Int32), σL5)) 50000 0 σ0 = some (nI k, s1 σ' 63 9 (plc (it (S i) k)))) ∨ ((∀ d, d < 41 → plc (it (S i) d) ≠ plc (it (S j) d)) ∧ ∃ σ', Fr [75, 78, 79, 80] σ0 σ' ∧ F_M_meet_17 (nI i) (nI j) (fun (v3_5 : Int32) (σL5 : GS) => some ((-9 : Int32), σL5)) 50000 0 σ0 = some (-9, σ'))) := fun s k68 => by
    obtain ⟨σ0, e6, c6, f6⟩ := tries_spec s
    have hW : ∀ z, z < n → ∀ a, WM (σ.1 68) z a → WM (σ0.1 80) z a := fun z hz a hw => hw.cg (by rw [c6 _ (by omega), k68]) (by rw [c6 _ (by omega), k68]) (by rw [c6 _ (by omega), k68]) (by rw [c6 _ (by omega), k68]) (by rw [c6 _ (by omega), k68])
    refine ⟨σ0, e6, f6, ?_⟩
    refine lpE (G := fun k d (t : GS) => F_M_meet_17 (nI i) (nI j) (fun (v3_5 : Int32) (σL5 : GS) => some ((-9 : Int32), σL5)) k (nI d) t) (P := fun o => (∃ k σ', k ≤ 40 ∧ plc (it (S i) k) = plc (it (S j) k) ∧ (∀ d, d < k → plc (it (S i) d) ≠ plc (it (S j) d)) ∧ Fr [75, 78, 79, 80] σ0 σ' ∧ o = some (nI k, s1 σ' 63 9 (plc (it (S i) k)))) ∨ ((∀ d, d < 41 → plc (it (S i) d) ≠ plc (it (S j) d)) ∧ ∃ σ', Fr [75, 78, 79, 80] σ0 σ' ∧ o = some (-9, σ'))) (Inv := fun d t => WM (t.1 80) i (it (S i) d) ∧ WM (t.1 80) j (it (S j) d) ∧ Fr [75, 78, 79, 80] σ0 t ∧ ∀ d', d' < d → plc (it (S i) d') ≠ plc (it (S j) d')) (N := 41) ?_ ?_ 41 0 50000 σ0 (by omega) (by omega) ⟨hW i hi _ w4, hW j hj _ u4, Fr.refl _ _, fun d' hd => absurd hd (Nat.not_lt_zero _)⟩
    · intro k d t hd hI
      by_cases q : plc (it (S i) d) = plc (it (S j) d)
      · refine Or.inl (Or.inl ⟨d, t, by omega, q, hI.2.2.2, hI.2.2.1, ?_⟩)
        show F_M_meet_17 _ _ _ (k + 1) (nI d) t = _
        rw [F_M_meet_17.eq_2, if_neg (show ¬ (40 : Int32) < nI d from nI_nlt (a := 40) (by omega) (by decide)), ix7, ix7, gi (by omega) (by decide), gi (by omega) (by decide), c31 (by omega), c31 (by omega), WM_p hI.1, WM_p hI.2.1, if_pos q, gi (by omega) (by decide)]
        rfl
      · obtain ⟨t1, t2, g1, g2, y1, y2, g3⟩ := twoM (i := i) (j := j) (by omega) (by omega) hij (it_ok w1 d) (it_ok u1 d) hI.1 hI.2.1
        refine Or.inr ⟨t2, ?_, y1, y2, hI.2.2.1.trans g3, fun d' hd' => ?_⟩
        · show F_M_meet_17 _ _ _ (k + 1) (nI d) t = F_M_meet_17 _ _ _ k (nI (d + 1)) t2
          rw [F_M_meet_17.eq_2, if_neg (show ¬ (40 : Int32) < nI d from nI_nlt (a := 40) (by omega) (by decide)), ix7, ix7, gi (by omega) (by decide), gi (by omega) (by decide), c31 (by omega), c31 (by omega), WM_p hI.1, WM_p hI.2.1, if_neg q, bv_s g1, bv_s g2, nI_1]
        · by_cases e : d' = d
          · rw [e]; exact q
          · exact hI.2.2.2 d' (by omega)
    · intro k t hI
      refine Or.inr ⟨hI.2.2.2, t, hI.2.2.1, ?_⟩
      show F_M_meet_17 _ _ _ (k + 1) (nI 41) t = _
      rw [F_M_meet_17.eq_2, if_pos (by decide)]
  rcases hX with ⟨k, σ3, hk, eq1, ne1, f3, eX⟩ | ⟨ne1, σ3, f3, eX⟩
  · have fX : Fr [34, 35, 32, 33] σ σ3 := (f12.mono (by simp)).trans (f3.mono (by simp))
    have k68 : (s1 σ3 0 16 (plc (it (S i) k))).1 68 = σ.1 68 := by rw [s1_c (by decide), fX.1 68 (by simp)]
    obtain ⟨σ4, e6, f6, hm⟩ := hM _ k68
    rcases hm with ⟨k', σ5, hk', eq2, ne2, f5, eM⟩ | ⟨ne2, -⟩
    · have : k' = k := by
        rcases Nat.lt_trichotomy k' k with q | q | q
        · exact absurd eq2 (ne1 k' q)
        · exact q
        · exact absurd eq1 (ne2 k q)
      subst this
      refine ⟨nI k', _, _, eX, ?_, hR.ask3 fX ((f6.mono (T := [75, 78, 79, 80]) (by simp)).trans f5) (Fr.refl [] _) rfl⟩
      unfold F_M_meet
      rw [bp_s (h3 _ (by rw [k68]; exact m0)), if_neg (by decide), bv_s e6, jn_s]
      exact eM
    · exact absurd eq1 (ne2 k (by omega))
  · have fX : Fr [34, 35, 32, 33] σ σ3 := (f12.mono (by simp)).trans (f3.mono (by simp))
    have k68 : σ3.1 68 = σ.1 68 := fX.1 68 (by simp)
    obtain ⟨σ4, e6, f6, hm⟩ := hM _ k68
    rcases hm with ⟨k', σ5, hk', eq2, -⟩ | ⟨-, σ5, f5, eM⟩
    · exact absurd eq2 (ne1 k' (by omega))
    · refine ⟨-9, _, σ5, eX, ?_, ((hR.fr fX rfl rfl).fr f6 rfl rfl).fr f5 rfl rfl⟩
      unfold F_M_meet
      rw [bp_s (h3 _ (by rw [k68]; exact m0)), if_neg (by decide), bv_s e6, jn_s]
      exact eM
