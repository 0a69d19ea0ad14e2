/-! mark -/
theorem isOf_s : ∀ a, a < 6 → ∀ b, b < 6 → F_Wk_isOf (nI a) (nI b) = F_M_isOf (nI a) (nI b) ∧ (F_M_isOf (nI a) (nI b) = some 0 ∨ F_M_isOf (nI a) (nI b) = some 1) := by decide +kernel
/-- others where walker i is -/
def oth (P : Nat → Int32) (i : Nat) : Nat → Nat
  | 0 => 0
  | j + 1 => if j ≠ i ∧ P j = P i then oth P i j + 1 else oth P i j
theorem oth_s (P : Nat → Int32) (i j : Nat) : oth P i (j + 1) = if j ≠ i ∧ P j = P i then oth P i j + 1 else oth P i j := rfl
theorem placeX {σ : GS} {j h : Nat} (hj : j < 5) (hh : h ≤ 60) (e3 : σ.1 19 3 = nI h) : F_Tn_placeOf (nI j) σ = some (σ.1 21 (20 * h + 4 * j)) := by
  unfold F_Tn_placeOf
  rw [e3, ixf, gi (by omega) (by decide), c31 (by omega)]
theorem othX {σ : GS} {i n h : Nat} (hi : i < n) (hn : n ≤ 5) (hh : h ≤ 60) (e2 : σ.1 19 2 = nI n) (e3 : σ.1 19 3 = nI h) : F_Tn_othersAt (nI i) σ = some (nI (oth (fun j => σ.1 21 (20 * h + 4 * j)) i n)) := by
  unfold F_Tn_othersAt
  rw [jn_s]
  refine lpE (G := fun k j (t : Int32) => F_Tn_othersAt_4 (nI i) σ (fun (v2_1 : Int32) (v3_1 : Int32) => some v2_1) k t (nI j)) (P := fun o => o = some (nI (oth (fun j => σ.1 21 (20 * h + 4 * j)) i n))) (Inv := fun j t => t = nI (oth (fun j => σ.1 21 (20 * h + 4 * j)) i j)) (N := n) ?_ ?_ n 0 50000 0 (by omega) (by omega) rfl
  · intro k j t hj hI
    refine Or.inr ⟨nI (oth (fun j => σ.1 21 (20 * h + 4 * j)) i (j + 1)), ?_, rfl⟩
    show F_Tn_othersAt_4 (nI i) σ _ (k + 1) t (nI j) = F_Tn_othersAt_4 (nI i) σ _ k _ (nI (j + 1))
    rw [F_Tn_othersAt_4.eq_2, e2, if_neg (nI_ge hj (by omega)), oth_s, hI, nI_1]
    by_cases q : j = i
    · rw [if_pos (by rw [q]), if_neg (fun z => z.1 q)]
    · rw [if_neg (fun z => q ((nI_eq (by omega) (by omega)).mp z)), bp_s (placeX (by omega) hh e3), bp_s (placeX (by omega) hh e3), nI_1]
      by_cases z : σ.1 21 (20 * h + 4 * j) = σ.1 21 (20 * h + 4 * i)
      · rw [if_pos z, if_pos ⟨q, z⟩]
      · rw [if_neg z, if_neg (fun y => z y.2)]
  · intro k t hI
    show F_Tn_othersAt_4 (nI i) σ _ (k + 1) t (nI n) = _
    rw [F_Tn_othersAt_4.eq_2, e2, if_pos (nI_le (Nat.le_refl _) (by omega)), hI]
theorem othM {σ : GS} {i n : Nat} (hi : i < n) (hn : n ≤ 5) (e2 : σ.1 68 0 = nI n) (K : Int32 → Int32 → Option (Int32 × GS)) : F_M_mark_174 (nI i) σ K 50000 0 0 = K (nI (oth (fun j => σ.1 68 (7 + j)) i n)) (nI n) := by
  refine lpE (G := fun k j (t : Int32) => F_M_mark_174 (nI i) σ K k t (nI j)) (P := fun o => o = K (nI (oth (fun j => σ.1 68 (7 + j)) i n)) (nI n)) (Inv := fun j t => t = nI (oth (fun j => σ.1 68 (7 + j)) i j)) (N := n) ?_ ?_ n 0 50000 0 (by omega) (by omega) rfl
  · intro k j t hj hI
    refine Or.inr ⟨nI (oth (fun j => σ.1 68 (7 + j)) i (j + 1)), ?_, rfl⟩
    show F_M_mark_174 (nI i) σ K (k + 1) t (nI j) = F_M_mark_174 (nI i) σ K k _ (nI (j + 1))
    rw [F_M_mark_174.eq_2, e2, if_neg (nI_ge hj (by omega)), oth_s, hI, jn_s, nI_1, show nI (oth (fun j => σ.1 68 (7 + j)) i j) + (0 : Int32) = nI (oth (fun j => σ.1 68 (7 + j)) i j) from nI_add _ 0]
    by_cases q : j = i
    · rw [if_pos (by rw [q]), if_neg (fun z => z.1 q)]
    · rw [if_neg (fun z => q ((nI_eq (by omega) (by omega)).mp z)), ix7, ix7, gi (by omega) (by decide), gi (by omega) (by decide), c31 (by omega), c31 (by omega), nI_1]
      by_cases z : σ.1 68 (7 + j) = σ.1 68 (7 + i)
      · rw [if_pos z, if_pos ⟨q, z⟩]
      · rw [if_neg z, if_neg (fun y => z y.2)]
  · intro k t hI
    show F_M_mark_174 (nI i) σ K (k + 1) t (nI n) = _
    rw [F_M_mark_174.eq_2, e2, if_pos (nI_le (Nat.le_refl _) (by omega)), hI]
theorem oth_congr {P Q : Nat → Int32} {i : Nat} (hi : P i = Q i) : ∀ {n : Nat}, (∀ j, j < n → P j = Q j) → oth P i n = oth Q i n
  | 0, _ => rfl
  | n + 1, h => by rw [oth_s, oth_s, oth_congr hi (fun j hj => h j (by omega)), h n (by omega), hi]
theorem four_X {s : WS} {σ : GS} (hV : WV s) (hX : WX σ 34 s) : ∃ σ', WX σ' 34 (ip s 4) ∧ Fr [32, 33, 34] σ σ' ∧ ∀ (u : Int32) (K : Int32 → GS → Option (Int32 × GS)), F_X_driftOf_7 u K 50000 0 σ = K (nI 4) σ' := by
  have := lpE (G := fun k d (t : GS) => fun (u : Int32) (K : Int32 → GS → Option (Int32 × GS)) => F_X_driftOf_7 u K k (nI d) t) (P := fun o => ∃ σ', WX σ' 34 (ip s 4) ∧ Fr [32, 33, 34] σ σ' ∧ ∀ u K, o u K = K (nI 4) σ') (Inv := fun d t => WX t 34 (ip s d) ∧ Fr [32, 33, 34] σ t) (N := 4) ?_ ?_ 4 0 50000 σ (by omega) (by omega) ⟨hX, Fr.refl _ _⟩
  · exact this
  · intro k d t hd hI
    obtain ⟨t1, g1, y1, g3⟩ := passStreet_spec (k := 34) (by decide) (ip_ok hV d) hI.1
    refine Or.inr ⟨t1, ?_, y1, hI.2.trans g3⟩
    funext u K
    show F_X_driftOf_7 u K (k + 1) (nI d) t = F_X_driftOf_7 u K k (nI (d + 1)) t1
    rw [F_X_driftOf_7.eq_2, if_neg (show ¬ (4 : Int32) ≤ nI d from nI_ge (b := 4) hd (by decide)), bv_s g1, nI_1]
  · intro k t hI
    refine ⟨t, hI.1, hI.2, fun u K => ?_⟩
    show F_X_driftOf_7 u K (k + 1) (nI 4) t = _
    rw [F_X_driftOf_7.eq_2, if_pos (by decide)]
theorem four_M {i : Nat} {s : WS} {σ : GS} (hi : i < 5) (hV : WV s) (hM : WM (σ.1 80) i s) : ∃ σ', WM (σ'.1 80) i (ip s 4) ∧ Fr [75, 78, 79, 80] σ σ' ∧ ∀ (K : Int32 → GS → Option (Int32 × GS)), F_M_mark_77 (nI i) K 50000 0 σ = K (nI 4) σ' := by
  have := lpE (G := fun k d (t : GS) => fun (K : Int32 → GS → Option (Int32 × GS)) => F_M_mark_77 (nI i) K k (nI d) t) (P := fun o => ∃ σ', WM (σ'.1 80) i (ip s 4) ∧ Fr [75, 78, 79, 80] σ σ' ∧ ∀ K, o K = K (nI 4) σ') (Inv := fun d t => WM (t.1 80) i (ip s d) ∧ Fr [75, 78, 79, 80] σ t) (N := 4) ?_ ?_ 4 0 50000 σ (by omega) (by omega) ⟨hM, Fr.refl _ _⟩
  · exact this
  · intro k d t hd hI
    obtain ⟨t1, g1, y1, -, g3⟩ := goes_spec (q := 80) (by decide) hi (ip_ok hV d) hI.1
    refine Or.inr ⟨t1, ?_, y1, hI.2.trans g3⟩
    funext K
    show F_M_mark_77 (nI i) K (k + 1) (nI d) t = F_M_mark_77 (nI i) K k (nI (d + 1)) t1
    rw [F_M_mark_77.eq_2, if_neg (show ¬ (4 : Int32) ≤ nI d from nI_ge (b := 4) hd (by decide)), bv_s g1, nI_1]
  · intro k t hI
    refine ⟨t, hI.1, hI.2, fun K => ?_⟩
    show F_M_mark_77 (nI i) K (k + 1) (nI 4) t = _
    rw [F_M_mark_77.eq_2, if_pos (by decide)]
theorem stp_mark : St_mark Rel := by
  intro σ hR a1 a2
  obtain ⟨n, h, e2, e3, hn, hh, m1, ⟨S, m0, hS⟩, hp⟩ := hR.1.2.2.1
  unfold F_X_mark
  rcases walker_c hn e2 a1 with ⟨h1, h2⟩ | ⟨i, hi, rfl, h1, h2⟩
  · exact ⟨-1, σ, σ, by rw [bp_s h1, if_pos rfl], by unfold F_M_mark; rw [bp_s (h2 σ m0), if_pos rfl], hR⟩
  rw [bp_s h1, if_neg (by decide)]
  rcases bt_c a2 1 5 (by decide) (by decide) with ⟨q1, q2⟩ | ⟨c, c1, c5, rfl, q3⟩
  · refine ⟨-1, σ, σ, ?_, by unfold F_M_mark; rw [bp_s (h2 σ m0), if_neg (by decide), show F_M_in a2.toInt64 1 5 = some 0 from q1]; rfl, hR⟩
    rcases q2 with q | ⟨q, q'⟩
    · rw [if_pos (by
        rw [Int32.lt_iff_toInt_lt] at q
        rw [Int32.le_iff_toInt_le]
        have z1 : (nI 1).toInt = 1 := by decide
        have z0 : (0 : Int32).toInt = 0 := by decide
        omega)]
    · rw [if_neg (by
        rw [Int32.lt_iff_toInt_lt] at q
        rw [Int32.le_iff_toInt_le]
        have z1 : (nI 1).toInt = 1 := by decide
        have z0 : (0 : Int32).toInt = 0 := by decide
        omega), if_neg (show ¬ a2 ≤ 5 from Int32.not_le.mpr q')]
  rw [if_neg (nI_nle (by omega) (by omega)), if_pos (show nI c ≤ 5 from nI_le (b := 5) c5 (by decide))]
  obtain ⟨w1, w2, w3, w4⟩ := hS i hi
  obtain ⟨σ1, e1, x1, f1⟩ := load_spec (k := 34) (by decide) hi hn hh e2 e3 w2 w3
  have hkb := WV_k w1
  obtain ⟨o1, o2⟩ := isOf_s (S i).1 (by omega) c (by omega)
  have k68 : σ1.1 68 = σ.1 68 := f1.1 68 (by simp)
  have hMi : ∀ s : GS, s.1 68 = σ.1 68 → F_M_mark (nI i) (nI c) s = bp (F_M_isOf (nI (S i).1) (nI c)) (fun (r7 : Int32) => if r7 = (0 : Int32) then some (-3, gM 3 s) else bv (F_M_tries s) (fun (σ9 : GS) => if nI c = (1 : Int32) then bv (F_M_turns 80 (nI i) σ9) (fun (σ41 : GS) => some (σ41.1 80 (12 + i), σ41)) else if nI c = (2 : Int32) then F_M_mark_77 (nI i) (fun (v3_30 : Int32) (σL30 : GS) => bc (F_M_farOf (σL30.1 68 (7 + i)) (σL30.1 80 (7 + i)) σL30) (fun (r34 : Int32) (σ35 : GS) => some (r34, σ35))) 50000 (0 : Int32) σ9 else if nI c = (3 : Int32) then bc (F_M_endsOf (σ9.1 68 (7 + i)) σ9) (fun (r25 : Int32) (σ26 : GS) => bp (F_M_bits r25) (fun (r28 : Int32) => some (r28, σ26))) else if nI c = (4 : Int32) then bv (F_M_hourOf 80 (nI i) σ9) (fun (σ18 : GS) => bp (F_M_figures (σ18.1 80 (7 + i))) (fun (r21 : Int32) => some (r21, σ18))) else F_M_mark_174 (nI i) σ9 (fun (v3_10 : Int32) (v4_10 : Int32) => some (v3_10, σ9)) 50000 (0 : Int32) (0 : Int32))) := fun s es => by
    have g2 : ∀ {α : Type} (x : Option α), gd (iB (nI (2 + i)) 27) x = x := fun x => gi (by omega) (by decide)
    have g7 : ∀ {α : Type} (x : Option α), gd (iB (nI (7 + i)) 27) x = x := fun x => gi (by omega) (by decide)
    have g12 : ∀ {α : Type} (x : Option α), gd (iB (nI (12 + i)) 27) x = x := fun x => gi (by omega) (by decide)
    unfold F_M_mark
    rw [bp_s (h2 s (by rw [es]; exact m0)), if_neg (by decide), show F_M_in (nI c).toInt64 1 5 = some 1 from q3, bp_s rfl, if_neg (by decide)]
    simp only [jn_s, ix2, ix7, ix12, g2, g7, g12, c31 (show 2 + i < 2 ^ 31 by omega), c31 (show 7 + i < 2 ^ 31 by omega), c31 (show 12 + i < 2 ^ 31 by omega), es, WM_k w4, bc_s (foM3 s)]
  have eis : ∀ v, F_M_isOf (nI (S i).1) (nI c) = some v → (v = 0 ∨ v = 1) → F_Wk_is 34 (nI c) σ1 = some v := fun v hv hb => by
    unfold F_Wk_is
    rw [WX_k x1, bp_s (o1.trans hv)]
    rcases hb with rfl | rfl <;> rfl
  rw [bv_s e1]
  rcases o2 with o2 | o2
  · refine ⟨-3, gX 3 σ1, gM 3 (gX 3 σ1), ?_, ?_, fR (hR.fr f1 rfl rfl)⟩
    · rw [bp_s (eis 0 o2 (Or.inl rfl)), if_pos rfl, bc_s (foX3 σ1)]
    · rw [hMi _ (by rw [gX_c (by decide) (by decide), k68]), bp_s o2, if_pos rfl]
  rw [bp_s (eis 1 o2 (Or.inr rfl)), if_neg (by decide)]
  have hM1 : ∀ s : GS, s.1 68 = σ.1 68 → ∃ σ9, F_M_tries s = some σ9 ∧ WM (σ9.1 80) i (S i) ∧ σ9.1 68 = σ.1 68 ∧ Fr [80] s σ9 := fun s es => by
    obtain ⟨σ9, e6, c6, f6⟩ := tries_spec s
    exact ⟨σ9, e6, w4.cg (by rw [c6 _ (by omega), es]) (by rw [c6 _ (by omega), es]) (by rw [c6 _ (by omega), es]) (by rw [c6 _ (by omega), es]) (by rw [c6 _ (by omega), es]), by rw [f6.1 68 (by simp), es], f6⟩
  have ne : ∀ d, d ≤ 5 → c ≠ d → ¬ nI c = nI d := fun d hd q z => q ((nI_eq (by omega) (by omega)).mp z)
  have n1 : c ≠ 1 → ¬ nI c = (1 : Int32) := fun q => ne 1 (by decide) q
  have n2 : c ≠ 2 → ¬ nI c = (2 : Int32) := fun q => ne 2 (by decide) q
  have n3 : c ≠ 3 → ¬ nI c = (3 : Int32) := fun q => ne 3 (by decide) q
  have n4 : c ≠ 4 → ¬ nI c = (4 : Int32) := fun q => ne 4 (by decide) q
  by_cases q1 : c = 1
  · subst q1
    have wv0 := w1
    have wx0 := x1
    generalize hs : S i = s at *
    obtain ⟨kn, l, hd, tu, w⟩ := s
    obtain ⟨v1, v2, v3, v4, v5, v6, v7⟩ := wv0
    obtain ⟨y0, y1, y2, y3, y4⟩ := wx0
    obtain ⟨σ2, e5, t2, -, -, f2⟩ := turnX (k := 34) v1 v5 v6 y0 y2 y3
    have k68' : σ2.1 68 = σ.1 68 := by rw [f2.1 68 (by simp), k68]
    obtain ⟨σ9, e6, x6, k9, f6⟩ := hM1 σ2 k68'
    obtain ⟨z0, z1, z2, z3, z4⟩ := x6
    have et := turnM (q := 80) (i := i) (σ := σ9) (by omega) v1 v5 v6 v7 z0 z2 z3
    refine ⟨nI (tn kn hd tu).1, σ2, _, ?_, ?_, (((hR.fr f1 rfl rfl).fr f2 rfl rfl).fr f6 rfl rfl).fr (S := [80]) (Fr.trans (Fr.s1 (k := 80) (i := 12 + i) (v := nI (tn kn hd tu).1) (by simp)) (Fr.s1 (k := 80) (i := 17 + i) (v := nI (tn kn hd tu).2) (by simp))) rfl rfl⟩
    · rw [if_pos (by decide), bv_s e5, t2]
    · rw [hMi σ2 k68', bp_s o2, if_neg (by decide), bv_s e6, if_pos (by decide), bv_s et, s1_i (by omega), s1_at]
  by_cases q2 : c = 2
  · subst q2
    obtain ⟨σ2, y2, f2, eX⟩ := four_X w1 x1
    obtain ⟨σ3, e5, -, f3⟩ := gapX_spec (σ := σ2) (plc_c w1) (plc_c (ip_ok w1 4))
    have fX : Fr [32, 33, 34] σ1 σ3 := f2.trans (f3.mono (by simp))
    have k68' : σ3.1 68 = σ.1 68 := by rw [fX.1 68 (by simp), k68]
    obtain ⟨σ9, e6, x6, k9, f6⟩ := hM1 σ3 k68'
    obtain ⟨σ10, y10, f10, eM⟩ := four_M (i := i) (by omega) w1 x6
    obtain ⟨σ11, e11, -, -, f11⟩ := farOf_spec (σ := σ10) (plc_c w1) (plc_c (ip_ok w1 4))
    refine ⟨nI (nf (dg (cdv (S i).2.1) ++ wd (cdv (ip (S i) 4).2.1))).length, σ3, σ11, ?_, ?_, ((((hR.fr f1 rfl rfl).fr fX rfl rfl).fr f6 rfl rfl).fr f10 rfl rfl).fr f11 rfl rfl⟩
    · unfold F_X_driftOf
      rw [if_neg (n1 (by decide)), if_pos (by decide), jn_s, jn_s, eX, WX_p x1, WX_p y2]
      unfold plc
      rw [bc_s e5]
      rfl
    · rw [hMi σ3 k68', bp_s o2, if_neg (by decide), bv_s e6, if_neg (n1 (by decide)), if_pos (by decide), eM, f10.1 68 (by simp), k9, WM_p w4, WM_p y10]
      unfold plc
      rw [bc_s e11, far_eq (plc_c w1) (plc_c (ip_ok w1 4))]
  by_cases q3' : c = 3
  · subst q3'
    have hc := plc_c w1
    obtain ⟨σ2, e5, r2, f2⟩ := becomes_spec (w := 32) (σ := σ1) hc
    have k68' : σ2.1 68 = σ.1 68 := by rw [f2.1 68 (by simp), k68]
    obtain ⟨σ9, e6, x6, k9, f6⟩ := hM1 σ2 k68'
    obtain ⟨σ10, e10, f10⟩ := endsOf_spec (σ := σ9) hc
    obtain ⟨k, hk, b1, b2⟩ := bits_s _ (lset_lt (wv_nf (wd_wv hc)))
    refine ⟨nI k, σ2, σ10, ?_, ?_, (((hR.fr f1 rfl rfl).fr f2 rfl rfl).fr f6 rfl rfl).fr f10 rfl rfl⟩
    · rw [if_neg (n1 (by decide)), if_neg (n2 (by decide)), if_pos (by decide), WX_p x1]
      unfold plc
      rw [bv_s e5, bp_s (lastStreets_spec r2), bp_s b1]
    · rw [hMi σ2 k68', bp_s o2, if_neg (by decide), bv_s e6, if_neg (n1 (by decide)), if_neg (n2 (by decide)), if_pos (by decide), k9, WM_p w4]
      unfold plc
      rw [bc_s e10, bp_s b2]
  by_cases q4 : c = 4
  · subst q4
    obtain ⟨σ2, e5, x5, f5⟩ := passHourX (k := 34) (by decide) w1 x1
    have hV2 := ph_ok w1
    have hc := plc_c hV2
    obtain ⟨σ3, e7, r7, f7⟩ := becomes_spec (w := 32) (σ := σ2) hc
    have fX : Fr [32, 33, 34] σ1 σ3 := f5.trans (f7.mono (by simp))
    have k68' : σ3.1 68 = σ.1 68 := by rw [fX.1 68 (by simp), k68]
    obtain ⟨σ9, e6, x6, k9, f6⟩ := hM1 σ3 k68'
    obtain ⟨σ10, e10, x10, -, f10⟩ := hourOfM (q := 80) (i := i) (by decide) (by omega) w1 x6
    have efig : (nf (wd (cdv (ph (S i)).2.1))).length = (ph (S i)).2.1.length ∧ F_M_figures (plc (ph (S i))) = some (nI (ph (S i)).2.1.length) := by
      unfold plc
      generalize ph (S i) = s at hV2
      obtain ⟨kn, l, hd, tu, w⟩ := s
      obtain ⟨v1, v2, v3, v4, v5, v6, v7⟩ := hV2
      exact ⟨by rw [wd_cdv v2 v4, nf_of_good v3], fig_cdv v2 v4⟩
    refine ⟨nI (ph (S i)).2.1.length, σ3, σ10, ?_, ?_, (((hR.fr f1 rfl rfl).fr fX rfl rfl).fr f6 rfl rfl).fr f10 rfl rfl⟩
    · rw [if_neg (n1 (by decide)), if_neg (n2 (by decide)), if_neg (n3 (by decide)), if_pos (by decide), bv_s e5, WX_p x5]
      unfold plc
      rw [bv_s e7, r7.1, efig.1]
    · rw [hMi σ3 k68', bp_s o2, if_neg (by decide), bv_s e6, if_neg (n1 (by decide)), if_neg (n2 (by decide)), if_neg (n3 (by decide)), if_pos (by decide), bv_s e10, WM_p x10, bp_s efig.2]
  · obtain ⟨σ9, e6, x6, k9, f6⟩ := hM1 σ1 k68
    have k19 : σ1.1 19 = σ.1 19 := f1.1 19 (by simp)
    have k21 : σ1.1 21 = σ.1 21 := f1.1 21 (by simp)
    refine ⟨nI (oth (fun j => σ.1 21 (20 * h + 4 * j)) i n), σ1, σ9, ?_, ?_, (hR.fr f1 rfl rfl).fr f6 rfl rfl⟩
    · rw [if_neg (n1 q1), if_neg (n2 q2), if_neg (n3 q3'), if_neg (n4 q4), bp_s (othX hi hn hh (by rw [k19]; exact e2) (by rw [k19]; exact e3)), k21]
    · rw [hMi σ1 k68, bp_s o2, if_neg (by decide), bv_s e6, if_neg (n1 q1), if_neg (n2 q2), if_neg (n3 q3'), if_neg (n4 q4), othM hi hn (by rw [k9]; exact m0), k9]
      have pe : ∀ j, j < n → σ.1 68 (7 + j) = σ.1 21 (20 * h + 4 * j) := fun j hj => by
        obtain ⟨-, -, g3, g4⟩ := hS j hj
        rw [WM_p g4]
        exact g3.1.symm
      rw [oth_congr (Q := fun j => σ.1 21 (20 * h + 4 * j)) (pe i hi) (fun j hj => pe j hj)]
