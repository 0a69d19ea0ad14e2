/-! the model's reader -/
def WRM (σ : GS) : List PW → Prop
  | [] => True
  | w :: R => σ.1 74 (2 + R.length) = nI w.1 ∧ σ.1 74 (12 + R.length) = nI w.2.1 ∧ σ.1 74 (7 + R.length) = nI (cdv (nf w.2.2)) ∧ WRM σ R
theorem WRM.cg {σ σ' : GS} : ∀ {W : List PW}, (∀ j, j < W.length → σ'.1 74 (2 + j) = σ.1 74 (2 + j) ∧ σ'.1 74 (12 + j) = σ.1 74 (12 + j) ∧ σ'.1 74 (7 + j) = σ.1 74 (7 + j)) → WRM σ W → WRM σ' W
  | [], _, _ => trivial
  | w :: R, h, ⟨a, b, c, d⟩ => by
    obtain ⟨e1, e2, e3⟩ := h R.length (Nat.lt_succ_self _)
    exact ⟨e1.trans a, e2.trans b, e3.trans c, WRM.cg (fun j hj => h j (Nat.lt_succ_of_lt hj)) d⟩
def RMd (σ : GS) (W : List PW) : Prop := σ.1 74 0 = nI W.length ∧ WRM σ W ∧ σ.1 74 1 = 0 ∧ ∀ i, i < 5 → σ.1 74 (17 + i) = 0 ∧ σ.1 74 (22 + i) = 0
def MR (t n : Nat) (b : Nat → Int32) (σ : GS) (i : Nat) : Prop := σ.1 66 t = nI n ∧ σ.1 63 15 = nI i ∧ ∀ j, j < n → σ.1 67 (80 * t + j) = b j
def FM (σ σ' : GS) : Prop := Fr [63, 74, 75, 78, 79] σ σ' ∧ ∀ j, j ≠ 15 → σ'.1 63 j = σ.1 63 j
theorem FM.refl (σ : GS) : FM σ σ := ⟨Fr.refl _ _, fun _ _ => rfl⟩
theorem FM.trans {a b c : GS} (h : FM a b) (h2 : FM b c) : FM a c := ⟨h.1.trans h2.1, fun j hj => (h2.2 j hj).trans (h.2 j hj)⟩
theorem FM.at {σ : GS} {v : Int32} : FM σ (s1 σ 63 15 v) := ⟨Fr.s1 (by simp), fun j hj => s1_i hj⟩
theorem FM.rd {σ : GS} {i : Nat} {v : Int32} : FM σ (s1 σ 74 i v) := ⟨Fr.s1 (by simp), fun j hj => by rw [s1_c (by decide)]⟩
theorem FM.of {S : List Nat} {σ σ' : GS} (h : Fr S σ σ') (hS : ∀ x ∈ S, x = 75 ∨ x = 78 ∨ x = 79) : FM σ σ' := ⟨h.mono fun x hx => by
  rcases hS x hx with e | e | e <;> subst e <;> simp, fun j _ => by
  rw [h.1 63 (fun q => by rcases hS 63 q with e | e | e <;> exact absurd e (by decide))]⟩
theorem MR.mv {t n i j : Nat} {b : Nat → Int32} {σ σ' : GS} (h : MR t n b σ i) (f : FM σ σ') (hj : σ'.1 63 15 = nI j) : MR t n b σ' j := ⟨by rw [f.1.1 66 (by simp)]; exact h.1, hj, fun z hz => by rw [f.1.1 67 (by simp)]; exact h.2.2 z hz⟩
theorem byteM {t i n : Nat} {b : Nat → Int32} {σ : GS} (ht : t < 4) (hn : n ≤ 80) (hi : i ≤ n) (h : MR t n b σ i) : F_M_byteAt (nI t) σ = some (if i < n then b i else -1000) := by
  obtain ⟨h66, h15, hb⟩ := h
  unfold F_M_byteAt
  rw [gi ht (by decide), c31 (by omega), h66, h15]
  by_cases q : i < n
  · rw [if_neg (nI_ge q (by omega)), ix80, gi (by omega) (by decide), c31 (by omega), hb i q, if_pos q]
  · rw [if_pos (nI_le (by omega) (by omega)), if_neg q]
theorem no1000 : F_M_isStreet ((-1000 : Int32) - 48) = some 0 := by decide +kernel
theorem figM {t n k h0 : Nat} {x : Int32} {b : Nat → Int32} {R : List PW} (ht : t < 4) (hn : n ≤ 80) {K : Int32 → Int32 → GS → Option (Int32 × GS)} : ∀ (m fuel i : Nat) (u : List Nat) (σ : GS), u.length + m = 4 → m < fuel → i ≤ n → wv u → MR t n b σ i → arr (σ.1 75) (rd u) → ∃ u' i' σ', F_M_takesWalker_95 (nI t) x K fuel (nI (rd u).length) (nI u.length) σ = K (nI (rd u').length) (nI u'.length) σ' ∧ i ≤ i' ∧ i' ≤ n ∧ wv u' ∧ u'.length ≤ 4 ∧ MR t n b σ' i' ∧ arr (σ'.1 75) (rd u') ∧ FM σ σ' ∧ σ'.1 74 = σ.1 74 ∧ rn b n i ((k, h0, u) :: R, u.length + 2) = rn b n i' ((k, h0, u') :: R, u'.length + 2) ∧ (u'.length = 4 ∨ i' = n ∨ stb (b i' - 48) = false) := by
  intro m
  induction m with
  | zero =>
    intro fuel i u σ hu hf hi hv hM ha
    obtain ⟨fuel, rfl⟩ : ∃ q, fuel = q + 1 := ⟨fuel - 1, by omega⟩
    refine ⟨u, i, σ, ?_, Nat.le_refl _, hi, hv, by omega, hM, ha, FM.refl σ, rfl, rfl, Or.inl (by omega)⟩
    rw [F_M_takesWalker_95.eq_2, show u.length = 4 by omega, if_pos (by decide)]
  | succ m ih =>
    intro fuel i u σ hu hf hi hv hM ha
    obtain ⟨fuel, rfl⟩ : ∃ q, fuel = q + 1 := ⟨fuel - 1, by omega⟩
    rw [F_M_takesWalker_95.eq_2, if_neg (show ¬ (4 : Int32) ≤ nI u.length from nI_ge (b := 4) (by omega) (by decide)), bp_s (byteM ht hn hi hM)]
    by_cases q : i < n
    · rw [if_pos q, bp_s (stb_M _)]
      by_cases hs : stb (b i - 48) = true
      · obtain ⟨s5, se⟩ := stb_n hs
        have hl := len_rd_le hv
        obtain ⟨σ1, e1, a1, f1⟩ := times_spec (q := 75) (s := (b i - 48).toNatClampNeg) ha (wv_rd hv) (by omega) s5
        rw [← rd_snoc] at e1 a1
        have fA : FM σ σ1 := FM.of f1 (by simp)
        have h15 : σ1.1 63 15 = nI i := by rw [f1.1 63 (by simp)]; exact hM.2.1
        have hul : (u ++ [(b i - 48).toNatClampNeg]).length = u.length + 1 := by rw [List.length_append]; rfl
        obtain ⟨u', i', σ', g1, g2, g3, g4, g5, g6, g7, g8, g9, g10, g11⟩ := ih fuel (i + 1) (u ++ [(b i - 48).toNatClampNeg]) (s1 σ1 63 15 (nI (i + 1))) (by omega) (by omega) (by omega) (wv_app hv (fun y hy => by rw [List.mem_singleton.mp hy]; exact s5)) (hM.mv (fA.trans FM.at) (s1_at _ _ _ _)) (by rw [s1_c (by decide)]; exact a1)
        refine ⟨u', i', σ', ?_, by omega, g3, g4, g5, g6, g7, (fA.trans FM.at).trans g8, by rw [g9, s1_c (by decide), f1.1 74 (by simp)], ?_, g11⟩
        · rw [if_pos hs, if_neg (by decide), bp_s (byteM ht hn hi hM), if_pos q, se, bc_s e1, jn_s, h15, nI_1, nI_1, ← hul, g1]
        · rw [rn_some q (tk_fig2 hs (by omega) (by omega)), ← g10, hul]
      · rw [if_neg hs, if_pos rfl]
        exact ⟨u, i, σ, rfl, Nat.le_refl _, hi, hv, by omega, hM, ha, FM.refl σ, rfl, rfl, Or.inr (Or.inr (Bool.eq_false_iff.mpr hs))⟩
    · rw [if_neg q, bp_s no1000, if_pos rfl]
      exact ⟨u, i, σ, rfl, Nat.le_refl _, hi, hv, by omega, hM, ha, FM.refl σ, rfl, rfl, Or.inr (Or.inl (by omega))⟩
theorem takesM {t n i : Nat} {b : Nat → Int32} {σ : GS} {st : PS} (ht : t < 4) (hn : n ≤ 80) (hi : i < n) (hM : MR t n b σ i) (hV : hv st) (hf : st.2 ≠ 1) (hs : st.2 = 0 ∨ stb (b i - 48) = false) (h32 : b i ≠ 32) (hR : RMd σ st.1) : ∃ r σ' i', F_M_takesWalker (nI t) σ = some (r, σ') ∧ FM σ σ' ∧ MR t n b σ' i' ∧ i' ≤ n ∧ ((r = 0 ∧ (rn b n i st).1 = some i') ∨ (r = 1 ∧ i < i' ∧ ∃ st' : PS, rn b n i st = rn b n i' st' ∧ hv st' ∧ st'.2 ≠ 1 ∧ (st'.2 = 0 ∨ i' = n ∨ stb (b i' - 48) = false) ∧ RMd σ' st'.1)) := by
  obtain ⟨W, f⟩ := st
  have hl : W.length ≤ 5 := hV.2.2.1
  have hR : RMd σ W := hR
  unfold F_M_takesWalker
  rw [bp_s (byteM ht hn (by omega) hM), if_pos hi, bp_s (kdc_s (b i)).2.1]
  by_cases q6 : ¬ (kdc (b i) < 6)
  · rw [if_neg q6, if_pos (by decide)]
    refine ⟨0, σ, i, rfl, FM.refl σ, hM, by omega, Or.inl ⟨rfl, ?_⟩⟩
    by_cases z : stb (b i - 48) = true
    · rw [rn_none hi (tk_fig0 z (Or.inl (hs.resolve_right (by rw [z]; decide))))]
    · rw [rn_none hi (tk_let0 h32 (Bool.eq_false_iff.mpr z) (fun y => q6 y.1))]
  have q6 := Decidable.not_not.mp q6
  rw [if_pos q6, if_neg (nI_pos (by omega)), hR.1]
  by_cases l5 : W.length = 5
  · rw [l5, if_pos (by decide)]
    refine ⟨0, σ, i, rfl, FM.refl σ, hM, by omega, Or.inl ⟨rfl, ?_⟩⟩
    rw [rn_none hi (tk_let0 h32 ((kdc_s (b i)).2.2 q6).1 (fun y => absurd y.2.2 (by show ¬ W.length < 5; omega)))]
  rw [if_neg (show ¬ nI W.length = (5 : Int32) from fun z => l5 ((nI_eq (a := W.length) (b := 5) (by omega) (by decide)).mp z)), jn_s, hM.2.1, nI_1]
  have e0 : rn b n i (W, f) = rn b n (i + 1) ((kdc (b i), 0, []) :: W, 1) := rn_some hi (tk_let q6 hf (by show W.length < 5; omega))
  have hM5 : MR t n b (s1 σ 63 15 (nI (i + 1))) (i + 1) := hM.mv FM.at (s1_at _ _ _ _)
  rw [bp_s (byteM ht hn (by omega) hM5)]
  by_cases q : ¬ (i + 1 < n)
  · rw [if_neg q, bp_s no1000, if_pos rfl]
    refine ⟨0, _, i + 1, rfl, FM.at, hM5, by omega, Or.inl ⟨rfl, ?_⟩⟩
    have en : i + 1 = n := by omega
    rw [e0, en, rn_end]
    rfl
  have q := Decidable.not_not.mp q
  rw [if_pos q, bp_s (stb_M _)]
  by_cases hs1 : ¬ (stb (b (i + 1) - 48) = true)
  · rw [if_neg hs1, if_pos rfl]
    refine ⟨0, _, i + 1, rfl, FM.at, hM5, by omega, Or.inl ⟨rfl, ?_⟩⟩
    rw [e0]
    by_cases z : b (i + 1) = 32
    · rw [rn_none q (by rw [z]; exact tk_blank1 rfl)]
    · rw [rn_none q (tk_let0 z (Bool.eq_false_iff.mpr hs1) (fun y => y.2.1 rfl))]
  have hs1 := Decidable.not_not.mp hs1
  obtain ⟨s5, se⟩ := stb_n hs1
  have e1 : rn b n (i + 1) ((kdc (b i), 0, []) :: W, 1) = rn b n (i + 2) ((kdc (b i), (b (i + 1) - 48).toNatClampNeg, []) :: W, 2) := rn_some q (tk_fig1 hs1)
  rw [if_pos hs1, if_neg (by decide), ix2, gi (by omega) (by decide), c31 (by omega), jn_s]
  have hM11 : MR t n b (s1 (s1 σ 63 15 (nI (i + 1))) 74 (2 + W.length) (nI (kdc (b i)))) (i + 1) := hM5.mv FM.rd (by rw [s1_c (by decide), s1_at])
  rw [bp_s (byteM ht hn (by omega) hM11), if_pos q, ix12, gi (by omega) (by decide), c31 (by omega), jn_s, jn_s, s1_c (k' := 63) (by decide), hM11.2.1, nI_1, jn_s, jn_s]
  obtain ⟨τ, eτ⟩ : ∃ z, z = s1 (s1 (s1 (s1 σ 63 15 (nI (i + 1))) 74 (2 + W.length) (nI (kdc (b i)))) 74 (12 + W.length) (b (i + 1) - 48)) 63 15 (nI (i + 1 + 1)) := ⟨_, rfl⟩
  have fτ : FM σ τ := by rw [eτ]; exact ((FM.at.trans FM.rd).trans FM.rd).trans FM.at
  have hMτ : MR t n b τ (i + 2) := hM.mv fτ (by rw [eτ, s1_at])
  rw [← eτ]
  obtain ⟨u', i', σ1, g1, g2, g3, g4, g5, g6, g7, g8, g9, g10, g11⟩ := figM (k := kdc (b i)) (h0 := (b (i + 1) - 48).toNatClampNeg) (R := W) (x := nI W.length) ht hn (K := fun (v4_18 : Int32) (v5_18 : Int32) (σL18 : GS) => bc (F_M_codeOf 75 v4_18 σL18) (fun (r20 : Int32) (σ21 : GS) => gd (iB ((7 : Int32) + nI W.length) 27) (jn (s1 σ21 74 (((7 : Int32) + nI W.length).toNatClampNeg) r20) (fun (σ23 : GS) => jn (s1 σ23 74 0 ((σ23.1 74 0) + (1 : Int32))) (fun (σ24 : GS) => gd (iB (nI t) 4) (if (σ24.1 63 15) = (σ24.1 66 (nI t).toNatClampNeg) then some ((1 : Int32), σ24) else bp (F_M_byteAt (nI t) σ24) (fun (r27 : Int32) => if r27 = (32 : Int32) then some ((1 : Int32), σ24) else bp (F_M_byteAt (nI t) σ24) (fun (r29 : Int32) => bp (F_M_kindOf r29) (fun (r31 : Int32) => if r31 < (0 : Int32) then some ((0 : Int32), σ24) else some ((1 : Int32), σ24)))))))))) 4 50000 (i + 2) [] τ rfl (by omega) (by omega) wv_nil hMτ (arr_nil _)
  rw [show F_M_takesWalker_95 (nI t) (nI W.length) _ 50000 (0 : Int32) (0 : Int32) τ = _ from g1]
  have hlr := len_rd_le g4
  obtain ⟨σ2, e2, f2⟩ := codeOf_spec (q1 := 75) (σ := σ1) (u := nf u') (by decide) (good_nf _).1 (wv_nf g4) (eqv_rd _) (wv_rd g4) (by omega) g7
  rw [bc_s e2, ix7, gi (by omega) (by decide), c31 (by omega), jn_s, jn_s]
  have k74 : σ2.1 74 = τ.1 74 := by rw [f2.1 74 (by simp), g9]
  have k740 : σ2.1 74 0 = nI W.length := by
    rw [k74, eτ, s1_c (by decide), s1_i (by omega), s1_i (by omega), s1_c (by decide)]
    exact hR.1
  rw [s1_i (i' := 0) (by omega), k740, nI_1]
  obtain ⟨ρ, eρ⟩ : ∃ z, z = s1 (s1 σ2 74 (7 + W.length) (nI (cdv (nf u')))) 74 0 (nI (W.length + 1)) := ⟨_, rfl⟩
  rw [← eρ]
  have fρ1 : FM σ1 ρ := by rw [eρ]; exact ((FM.of f2 (by simp)).trans FM.rd).trans FM.rd
  have fρ : FM σ ρ := (fτ.trans g8).trans fρ1
  have hMρ : MR t n b ρ i' := g6.mv fρ1 (by rw [eρ, s1_c (by decide), s1_c (by decide), f2.1 63 (by simp)]; exact g6.2.1)
  have hRρ : RMd ρ ((kdc (b i), (b (i + 1) - 48).toNatClampNeg, u') :: W) := by
    have gt : ∀ j, j ≠ 0 → j ≠ 7 + W.length → j ≠ 2 + W.length → j ≠ 12 + W.length → ρ.1 74 j = σ.1 74 j := fun j h0 h7 h2 h12 => by
      rw [eρ, s1_i h0, s1_i h7, k74, eτ, s1_c (by decide), s1_i h12, s1_i h2, s1_c (by decide)]
    refine ⟨by rw [eρ, s1_at]; rfl, ⟨?_, ?_, ?_, ?_⟩, ?_, fun j hj => ⟨?_, ?_⟩⟩
    · rw [eρ, s1_i (by omega), s1_i (by omega), k74, eτ, s1_c (by decide), s1_i (by omega), s1_at]
    · rw [eρ, s1_i (by omega), s1_i (by omega), k74, eτ, s1_c (by decide), s1_at]
      exact se
    · rw [eρ, s1_i (by omega), s1_at]
    · exact hR.2.1.cg fun j hj => ⟨gt _ (by omega) (by omega) (by omega) (by omega), gt _ (by omega) (by omega) (by omega) (by omega), gt _ (by omega) (by omega) (by omega) (by omega)⟩
    · rw [gt 1 (by omega) (by omega) (by omega) (by omega)]; exact hR.2.2.1
    · rw [gt _ (by omega) (by omega) (by omega) (by omega)]; exact (hR.2.2.2 j hj).1
    · rw [gt _ (by omega) (by omega) (by omega) (by omega)]; exact (hR.2.2.2 j hj).2
  have eR : rn b n i (W, f) = rn b n i' ((kdc (b i), (b (i + 1) - 48).toNatClampNeg, u') :: W, u'.length + 2) := by rw [e0, e1]; exact g10
  have hV' : hv ((kdc (b i), (b (i + 1) - 48).toNatClampNeg, u') :: W, u'.length + 2) := by
    refine ⟨Or.inr ⟨_, _, _, _, rfl, Or.inr ⟨by show 2 ≤ u'.length + 2; omega, rfl⟩⟩, by show u'.length + 2 ≤ 6; omega, by show W.length + 1 ≤ 5; omega, fun w hw => ?_⟩
    rcases List.mem_cons.mp hw with e | hw
    · subst e
      exact ⟨by show kdc (b i) ≤ 5; omega, s5, g4, g5⟩
    · exact hV.2.2.2 w hw
  have good1 : (i' = n ∨ stb (b i' - 48) = false) → ∃ r σ' j', some ((1 : Int32), ρ) = some (r, σ') ∧ FM σ σ' ∧ MR t n b σ' j' ∧ j' ≤ n ∧ ((r = 0 ∧ (rn b n i (W, f)).1 = some j') ∨ (r = 1 ∧ i < j' ∧ ∃ st' : PS, rn b n i (W, f) = rn b n j' st' ∧ hv st' ∧ st'.2 ≠ 1 ∧ (st'.2 = 0 ∨ j' = n ∨ stb (b j' - 48) = false) ∧ RMd σ' st'.1)) := fun hz => ⟨1, ρ, i', rfl, fρ, hMρ, g3, Or.inr ⟨rfl, by omega, _, eR, hV', by show u'.length + 2 ≠ 1; omega, Or.inr hz, hRρ⟩⟩
  rw [gi ht (by decide), c31 (by omega), hMρ.1, hMρ.2.1]
  by_cases en : i' = n
  · rw [if_pos (by rw [en])]
    exact good1 (Or.inl en)
  rw [if_neg (fun z => en ((nI_eq (by omega) (by omega)).mp z)), bp_s (byteM ht hn g3 hMρ), if_pos (show i' < n by omega)]
  by_cases z32 : b i' = 32
  · rw [if_pos z32]
    exact good1 (Or.inr (by rw [z32]; decide +kernel))
  rw [if_neg z32, bp_s (byteM ht hn g3 hMρ), if_pos (show i' < n by omega), bp_s (kdc_s _).2.1]
  by_cases z6 : kdc (b i') < 6
  · rw [if_pos z6, if_neg (nI_pos (by omega))]
    exact good1 (Or.inr ((kdc_s _).2.2 z6).1)
  · rw [if_neg z6, if_pos (by decide)]
    refine ⟨0, ρ, i', rfl, fρ, hMρ, g3, Or.inl ⟨rfl, ?_⟩⟩
    rw [eR]
    by_cases zs : stb (b i' - 48) = true
    · rcases g11 with g | g | g
      · rw [rn_none (by omega) (tk_fig0 zs (Or.inr (by show 5 < u'.length + 2; omega)))]
      · exact absurd g en
      · rw [zs] at g; cases g
    · rw [rn_none (by omega) (tk_let0 z32 (Bool.eq_false_iff.mpr zs) (fun y => z6 y.1))]
