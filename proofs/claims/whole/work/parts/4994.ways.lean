theorem setInM {U C : List Nat} {t : GS} {Wy : Nat → Nat} {k : Nat} (ha : arr (t.1 75) U) (hv : wv U) (hL : U.length ≤ 18) (hM : MI t C Wy) (hV : MV U C Wy k 0) (hk : k < C.length) (hWk : Wy k = zT U (zpc (C.getD k 0) U.length) (C.getD k 0)) : ∃ t' C' Wy', MI t' C' Wy' ∧ MV U C' Wy' k U.length ∧ C.length ≤ C'.length ∧ FS t t' ∧ ∀ K : Int32 → GS → Option GS, F_M_laySets_32 75 (nI U.length) (nI k) K 50000 0 t = K (nI U.length) t' := by
  have hpow : (2 : Nat) ^ U.length ≤ 2 ^ 18 := Nat.pow_le_pow_right (by decide) hL
  have := lpE (G := fun f p (t1 : GS) => fun (K : Int32 → GS → Option GS) => F_M_laySets_32 75 (nI U.length) (nI k) K f (nI p) t1) (P := fun o => ∃ t' C' Wy', MI t' C' Wy' ∧ MV U C' Wy' k U.length ∧ C.length ≤ C'.length ∧ FS t t' ∧ ∀ K, o K = K (nI U.length) t') (Inv := fun p t1 => ∃ C1 Wy1, MI t1 C1 Wy1 ∧ MV U C1 Wy1 k p ∧ C1.getD k 0 = C.getD k 0 ∧ C.length ≤ C1.length ∧ FS t t1 ∧ Wy1 k = zT U (zpc (C.getD k 0) U.length) (C.getD k 0)) (N := U.length) ?_ ?_ U.length 0 50000 t (by omega) (by omega) ⟨C, Wy, hM, hV, rfl, Nat.le_refl _, FS.refl _, hWk⟩
  · exact this
  · rintro f p t1 hp ⟨C1, Wy1, g1, g2, g3, g4, g5, g6⟩
    have hk1 : k < C1.length := by omega
    have hC1 := ztot_le hv hL g2.1 g2.2.1
    have hId := g2.2.1 _ (getD_mem hk1)
    have hx31 : ∀ x ∈ C1, x < 2 ^ 31 := fun x hx => by have := (g2.2.1 x hx).1; omega
    have hm31 : C1.getD k 0 < 2 ^ 31 := hx31 _ (getD_mem hk1)
    have ha1 : arr (t1.1 75) U := by rw [g5.1 75 (by decide) (by decide)]; exact ha
    obtain ⟨x1, x2⟩ := g1.2 k hk1
    have hmay := fun (K : Int32 → Int32 → Option GS) => mayM (x2 := nI U.length) (K := K) ha1 hv hL (by omega) hp x1 hm31
    have hz0 : zmy U (C1.getD k 0) p 0 = !((C1.getD k 0).testBit p) := rfl
    have hstep : ∀ K : Int32 → GS → Option GS, F_M_laySets_32 75 (nI U.length) (nI k) K (f + 1) (nI p) t1 = (if (if zmy U (C1.getD k 0) p p = true then (1 : Int32) else 0) = 0 then F_M_laySets_32 75 (nI U.length) (nI k) K f (nI (p + 1)) t1 else bv (F_M_adds (nI (C1.getD k 0) ||| ((1 : Int32) <<< (nI p &&& 31))) (lN (Wy1 k)) t1) (fun (σ12 : GS) => F_M_laySets_32 75 (nI U.length) (nI k) K f (nI (p + 1)) σ12)) := fun K => by
      rw [F_M_laySets_32.eq_2, if_neg (nI_ge hp (by omega)), gi (by omega) (by decide), jn_s, c31 (n := k) (by omega), x1]
      cases hb : (C1.getD k 0).testBit p with
      | false =>
        rw [if_pos ((bit0I hm31 (by omega)).mpr hb)]
        rw [hz0, hb, if_pos (show (!false) = true from rfl)] at hmay
        dsimp only
        rw [jn_s, hmay, gi (by omega) (by decide), gi (by omega) (by decide), x2, nI_1]
      | true =>
        rw [if_neg (fun q => by rw [(bit0I hm31 (by omega)).mp q] at hb; cases hb)]
        rw [hz0, hb, if_neg (show ¬ (!true) = true by decide)] at hmay
        dsimp only
        rw [jn_s, hmay, gi (by omega) (by decide), gi (by omega) (by decide), x2, nI_1]
    by_cases z : zmy U (C1.getD k 0) p p = true
    · have hz : zad U (C1.getD k 0) p := (zmy_iff p).mp z
      have hId' := idl_ad hId hp hz
      have hok2 : ∀ x ∈ zins C1 (zfl (C1.getD k 0) p), Idl U x := fun x hx => (zins_of hx).elim (g2.2.1 x) fun e => by rw [e]; exact hId'
      have hle2 := ztot_le hv hL (zins_nd (m := zfl (C1.getD k 0) p) g2.1) hok2
      obtain ⟨t2, Wy2, e2, m2, f2, w1, w2, w3⟩ := addsM (m := zfl (C1.getD k 0) p) (v := Wy1 k) g1 g2.1 (by have := hId'.1; omega) hx31 (fun _ => by omega) (by omega)
      obtain ⟨v1, v2, v3, v4⟩ := g2.add hk1 hp hz (by rw [g3]; exact g6) w1 w2 w3
      refine Or.inr ⟨t2, ?_, zins C1 (zfl (C1.getD k 0) p), Wy2, m2, v1, by rw [v2, g3], by omega, g5.trans f2, by rw [v4, g6]⟩
      funext K
      show F_M_laySets_32 75 (nI U.length) (nI k) K (f + 1) (nI p) t1 = F_M_laySets_32 75 (nI U.length) (nI k) K f (nI (p + 1)) t2
      rw [hstep, if_pos z, if_neg (by decide), orI (by omega) hz.1, bv_s e2]
    · have hz : ¬ zad U (C1.getD k 0) p := fun q => z ((zmy_iff p).mpr q)
      refine Or.inr ⟨t1, ?_, C1, Wy1, g1, g2.skip hp hz, g3, g4, g5, g6⟩
      funext K
      show F_M_laySets_32 75 (nI U.length) (nI k) K (f + 1) (nI p) t1 = F_M_laySets_32 75 (nI U.length) (nI k) K f (nI (p + 1)) t1
      rw [hstep, if_neg z, if_pos rfl]
  · rintro f t1 ⟨C1, Wy1, g1, g2, g3, g4, g5, g6⟩
    refine ⟨t1, C1, Wy1, g1, g2, g4, g5, fun K => ?_⟩
    show F_M_laySets_32 75 (nI U.length) (nI k) K (f + 1) (nI U.length) t1 = _
    rw [F_M_laySets_32.eq_2, if_pos (nI_le (Nat.le_refl _) (by omega))]
theorem MV.next {U C : List Nat} {Wy : Nat → Nat} {k : Nat} (h : MV U C Wy k U.length) (hk : k < C.length) : MV U C Wy (k + 1) 0 := by
  obtain ⟨h1, h2, h3, h4, h5, h6, h7, h8, h9, h10⟩ := h
  refine ⟨h1, h2, h3, h4, h5, fun hk1 j hj => ?_, fun k' hk' q hq hq2 => ?_, fun q hq => absurd hq (Nat.not_lt_zero _), fun j j0 hj => ?_, h10⟩
  · have := h6 hk j hj
    have := h5 k (k + 1) (by omega) hk1
    omega
  · by_cases e : k' = k
    · rw [e] at hq2 ⊢
      exact h8 q hq hq2
    · exact h7 k' (by omega) q hq hq2
  · rw [h9 j j0 hj]
    unfold zws
    refine zsm_congr _ fun q hq => ?_
    have e1 : (zfl (C.getD j 0) q ∈ C.take k ∨ (zfl (C.getD j 0) q = C.getD k 0 ∧ q < U.length)) ↔ (zfl (C.getD j 0) q ∈ C.take (k + 1) ∨ (zfl (C.getD j 0) q = C.getD (k + 1) 0 ∧ q < 0)) := by
      rw [take_snoc hk, List.mem_append, List.mem_singleton]
      constructor
      · rintro (x | ⟨x, -⟩)
        · exact Or.inl (Or.inl x)
        · exact Or.inl (Or.inr x)
      · rintro ((x | x) | ⟨-, x⟩)
        · exact Or.inl x
        · exact Or.inr ⟨x, hq⟩
        · exact absurd x (Nat.not_lt_zero _)
    by_cases z : zlas U (C.getD j 0) q = true ∧ (zfl (C.getD j 0) q ∈ C.take k ∨ (zfl (C.getD j 0) q = C.getD k 0 ∧ q < U.length))
    · rw [if_pos z, if_pos ⟨z.1, e1.mp z.2⟩]
    · rw [if_neg z, if_neg (fun y => z ⟨y.1, e1.mpr y.2⟩)]
theorem setsM {U : List Nat} {t : GS} (ha : arr (t.1 75) U) (hv : wv U) (hL : U.length ≤ 18) : ∃ t', F_M_laySets 75 (nI U.length) t = some t' ∧ t'.1 63 24 = nI (nId U) ∧ t'.2 82 (nId U - 1) = lN (zT U U.length (2 ^ U.length - 1)) ∧ 0 < nId U ∧ nId U ≤ 100 ∧ FS t t' := by
  unfold F_M_laySets
  rw [jn_s, jn_s, jn_s, jn_s]
  have f0 : FS t (s1 (s2 (s1 t 81 0 0) 82 0 1) 63 24 1) := ⟨fun q q0 q1 => by rw [s1_c q0, s2_i, s1_c q1], fun j hj => by rw [s1_i hj, s2_i, s1_c (by decide)], fun q hq => by rw [s1_l, s2_c hq, s1_l]⟩
  have m0 : MI (s1 (s2 (s1 t 81 0 0) 82 0 1) 63 24 1) [0] (fun _ => 1) := by
    refine ⟨s1_at _ _ _ _, fun k hk => ?_⟩
    have hk : k < 1 := hk
    have e : k = 0 := by omega
    subst e
    rw [s1_c (by decide), s2_i, s1_at, s1_l, s2_get, if_pos ⟨rfl, rfl⟩]
    exact ⟨rfl, rfl⟩
  have v0 : MV U [0] (fun _ => 1) 0 0 := by
    have hz : ∀ j, j < [0].length → j = 0 := fun j hj => by
      have hj : j < 1 := hj
      omega
    refine ⟨by simp, fun x hx => by rw [List.mem_singleton.mp hx]; exact idl_0 U, by decide, rfl, fun i j hij hj => ?_, fun _ j hj => ?_, fun k' hk' => absurd hk' (Nat.not_lt_zero _), fun q hq => absurd hq (Nat.not_lt_zero _), fun j j0 hj => ?_, rfl⟩
    · have := hz j hj
      have e : i = 0 := by omega
      rw [this, e]
      exact Nat.le_refl _
    · rw [hz j hj]
      exact Nat.le_succ _
    · have := hz j hj
      omega
  refine lpW (G := fun f k (t1 : GS) => F_M_laySets_21 75 (nI U.length) (fun (v3_4 : Int32) (σL4 : GS) => some σL4) f (nI k) t1) (P := fun o => ∃ t', o = some t' ∧ t'.1 63 24 = nI (nId U) ∧ t'.2 82 (nId U - 1) = lN (zT U U.length (2 ^ U.length - 1)) ∧ 0 < nId U ∧ nId U ≤ 100 ∧ FS t t') (Inv := fun k t1 => ∃ C Wy, MI t1 C Wy ∧ MV U C Wy k 0 ∧ k ≤ C.length ∧ FS t t1) (B := 101) ?_ 101 0 50000 (s1 (s2 (s1 t 81 0 0) 82 0 1) 63 24 1) (by omega) (by omega) ⟨[0], fun _ => 1, m0, v0, Nat.zero_le _, f0⟩
  rintro f k t1 ⟨C, Wy, g1, g2, g3, g4⟩
  have hC := ztot_le hv hL g2.1 g2.2.1
  by_cases e : k = C.length
  · subst e
    have h0 := g2.2.2.1
    have hall : ∀ m, Idl U m → m ∈ C.take C.length := fun m hI => g2.compl (Nat.le_refl _) (B := U.length + 1) (fun j h1 h2 => by omega) h0 _ m rfl hI (by have := zpc_le m U.length; omega)
    have hmem : ∀ m, m ∈ C ↔ Idl U m := fun m => ⟨g2.2.1 m, fun h => by have := hall m h; rw [List.take_length] at this; exact this⟩
    have hlen := nId_of g2.1 hmem
    obtain ⟨j, hj, ej⟩ := mem_getD ((hmem _).mpr (idl_full U))
    have hlast : C.getD (C.length - 1) 0 = 2 ^ U.length - 1 := by
      refine full_of (g2.2.1 _ (getD_mem (by omega))) ?_
      have h1 := g2.2.2.2.2.1 j (C.length - 1) (by omega) (by omega)
      rw [ej, zpc_fv] at h1
      have h2 := zpc_le (C.getD (C.length - 1) 0) U.length
      omega
    have hval := g2.val (k := C.length - 1) (by omega) (fun _ q hq hl => hall _ (idl_las (g2.2.1 _ (getD_mem (by omega))) hq hl))
    rw [hlast, zpc_fv] at hval
    refine Or.inl ⟨t1, ?_, by rw [g1.1, hlen], by rw [← hlen, (g1.2 (C.length - 1) (by omega)).2, hval], by omega, by omega, g4⟩
    show F_M_laySets_21 75 (nI U.length) _ (f + 1) (nI C.length) t1 = _
    rw [F_M_laySets_21.eq_2, g1.1, if_pos (nI_le (Nat.le_refl _) (by omega))]
  · have hk : k < C.length := by omega
    have hval := g2.val hk (fun k0 q hq hl => by
      have hb := ((zlas_iff hq).mp hl).1
      have hpc := zpc_off hb hq
      exact g2.compl g3 (B := zpc (C.getD k 0) U.length) (fun j h1 h2 => g2.2.2.2.2.1 k j h1 h2) k0 _ _ rfl (idl_las (g2.2.1 _ (getD_mem hk)) hq hl) (by omega))
    have ha1 : arr (t1.1 75) U := by rw [g4.1 75 (by decide) (by decide)]; exact ha
    obtain ⟨t', C', Wy', m', v', l', f', e'⟩ := setInM ha1 hv hL g1 g2 hk hval
    refine Or.inr ⟨by omega, t', ?_, C', Wy', m', v'.next (by omega), by omega, g4.trans f'⟩
    show F_M_laySets_21 75 (nI U.length) _ (f + 1) (nI k) t1 = F_M_laySets_21 75 (nI U.length) _ f (nI (k + 1)) t'
    rw [F_M_laySets_21.eq_2, g1.1, if_neg (nI_ge hk (by omega)), jn_s, e', nI_1]
theorem Rel.fi {σ σ' : GS} (hR : Rel σ) (f : FI σ σ') (hi : RI σ') : Rel σ' := by
  obtain ⟨⟨h1, h2, h3, h4, h5, h6⟩, hL⟩ := hR
  have k : ∀ c, c ≠ 36 → c ≠ 37 → c ≠ 38 → σ'.1 c = σ.1 c := f.1
  refine ⟨⟨h1.fr fun c hc => k c (by omega) (by omega) (by omega), h2.fr fun c hc => k c (by omega) (by omega) (by omega), h3.fr fun c hc => k c (by omega) (by omega) (by omega), h4.fr fun c hc => k c (by omega) (by omega) (by omega), hi, h6.fr fun c hc => k c (by omega) (by omega) (by omega)⟩, ?_⟩
  unfold RL
  rw [k 0 (by decide) (by decide) (by decide), k 62 (by decide) (by decide) (by decide), k 63 (by decide) (by decide) (by decide), k 73 (by decide) (by decide) (by decide), f.2 0 (by decide) (by decide) (by decide), f.2 63 (by decide) (by decide) (by decide)]
  exact hL
theorem Rel.fs {σ σ' : GS} (hR : Rel σ) (f : FS σ σ') : Rel σ' := by
  refine ⟨hR.1.fr1 fun c hc => ?_, ?_⟩
  · have := of_decide_eq_true hc
    exact f.1 c (by omega) (by omega)
  · unfold RL
    rw [f.1 0 (by decide) (by decide), f.1 62 (by decide) (by decide), f.2.1 12 (by decide), f.2.1 9 (by decide), f.1 73 (by decide) (by decide), f.2.2 0 (by decide), f.2.2 63 (by decide)]
    exact hR.2
theorem stp_between : St_between Rel := by
  intro σ hR a1 a2
  unfold F_X_between
  rcases codes_c a1 a2 with ⟨h1, h2⟩ | ⟨a, b, rfl, rfl, ha, hb, h1, h2, h3⟩
  · refine ⟨-1, σ, σ, ?_, by unfold F_M_between; rw [bp_s h1, if_pos rfl], hR⟩
    rcases h2 with h | ⟨h, h'⟩
    · rw [bp_s h, if_pos rfl]
    · rw [bp_s h, if_neg (by decide), bp_s h', if_pos rfl]
  have hl := len_way ha hb
  have hv := wv_cd ha hb
  obtain ⟨σ1, e1, r1, f1⟩ := way_spec (w := 32) (σ := σ) ha hb
  have hR1 : Rel σ1 := hR.fr f1 rfl rfl
  obtain ⟨σ2, e2, -, x2, i2, f2⟩ := tallyX r1 hl hR1.1.2.2.2.2.1
  have hR2 := hR1.fi f2 i2
  obtain ⟨σ3, e3, a3, v3, f3⟩ := farOf_spec (σ := σ2) ha hb
  obtain ⟨σ4, e4, x4, -, -, -, f4⟩ := setsM a3 v3 (by rw [far_eq ha hb]; exact hl)
  have hE := eqv_ideals (eqv_rd (dg a ++ wd b))
  refine ⟨nI (nId (nf (dg a ++ wd b))), σ2, σ4, ?_, ?_, (hR2.fr f3 rfl rfl).fs f4⟩
  · rw [bp_s h1, if_neg (by decide), bp_s h2, if_neg (by decide), bv_s e1, bv_s e2, x2]
  · unfold F_M_between
    rw [bp_s h3, if_neg (by decide), bc_s e3, bv_s e4, x4, hE.2.1]
theorem stp_ways : St_ways Rel := by
  intro σ hR a1 a2
  unfold F_X_ways
  rcases codes_c a1 a2 with ⟨h1, h2⟩ | ⟨a, b, rfl, rfl, ha, hb, h1, h2, h3⟩
  · refine ⟨-1, σ, σ, ?_, by unfold F_M_ways; rw [bp_s h1, if_pos rfl], hR⟩
    rcases h2 with h | ⟨h, h'⟩
    · rw [bp_s h, if_pos rfl]
    · rw [bp_s h, if_neg (by decide), bp_s h', if_pos rfl]
  have hl := len_way ha hb
  have hv := wv_cd ha hb
  obtain ⟨σ1, e1, r1, f1⟩ := way_spec (w := 32) (σ := σ) ha hb
  have hR1 : Rel σ1 := hR.fr f1 rfl rfl
  obtain ⟨σ2, e2, y2, -, i2, f2⟩ := tallyX r1 hl hR1.1.2.2.2.2.1
  have hR2 := hR1.fi f2 i2
  have hE := eqv_ideals (eqv_rd (dg a ++ wd b))
  obtain ⟨x, ex⟩ : ∃ x, x = lN (zT (nf (dg a ++ wd b)) (nf (dg a ++ wd b)).length (2 ^ (nf (dg a ++ wd b)).length - 1)) := ⟨_, rfl⟩
  rw [← ex] at y2
  obtain ⟨σ3, e3, a3, v3, f3⟩ := farOf_spec (σ := s2 (s2 σ2 0 17 x) 0 18 1) ha hb
  obtain ⟨σ4, e4, x4, y4, n4, n5, f4⟩ := setsM a3 v3 (by rw [far_eq ha hb]; exact hl)
  rw [← hE.2.2, ← ex] at y4
  refine ⟨1, s2 (s2 σ2 0 17 x) 0 18 1, s2 (s2 σ4 63 10 x) 63 11 1, ?_, ?_, ?_, ?_⟩
  · rw [bp_s h1, if_neg (by decide), bp_s h2, if_neg (by decide), bv_s e1, bv_s e2, y2, bc_s (tellX1 _ _)]
  · unfold F_M_ways
    rw [bp_s h3, if_neg (by decide), bc_s e3, bv_s e4, x4, sub1 (by omega), gi (by omega) (by decide), c31 (by omega), y4, bc_s (tellsM1 _ _)]
  · refine hR2.1.fr1 fun c hc => ?_
    have := of_decide_eq_true hc
    rw [s2_i, s2_i, f4.1 c (by omega) (by omega), f3.1 c (by simp; omega), s2_i, s2_i]
  · obtain ⟨b1, b2, b3, b4, b5⟩ := hR2.2
    have k : ∀ c, c ≠ 63 → c ≠ 81 → c ≠ 75 → σ4.1 c = σ2.1 c := fun c c0 c1 c2 => by rw [f4.1 c c0 c1, f3.1 c (by simp; omega), s2_i, s2_i]
    have k63 : ∀ j, j ≠ 24 → σ4.1 63 j = σ2.1 63 j := fun j hj => by rw [f4.2.1 j hj, f3.1 63 (by simp), s2_i, s2_i]
    refine ⟨?_, ?_, ?_, ?_, fun g hg => ?_⟩
    · rw [s2_i, s2_i, k 0 (by decide) (by decide) (by decide), k63 12 (by decide)]
      exact b1
    · rw [s2_i, s2_i, k 0 (by decide) (by decide) (by decide), k63 9 (by decide)]
      exact b2
    · rw [s2_c (k' := 0) (by decide), s2_c (k' := 0) (by decide), f4.2.2 0 (by decide), f3.2]
      simp [s2_get]
    · rw [s2_c (k' := 0) (by decide), s2_c (k' := 0) (by decide), f4.2.2 0 (by decide), f3.2]
      simp [s2_get]
    · rw [s2_i, s2_i, k 62 (by decide) (by decide) (by decide), k 73 (by decide) (by decide) (by decide)]
      exact b5 g hg
