/-! one street by both; walks by lots -/
theorem cdv_0 {l : List Nat} : cdv l = 0 ↔ l = [] := by
  constructor
  · intro h
    cases e : l.getLast? with
    | none => exact List.getLast?_eq_none_iff.mp e
    | some x =>
      rw [snoc_of e, cdv_snoc] at h
      omega
  · intro h
    rw [h]
    rfl
theorem cdv_b {l : List Nat} (hv : wv l) (hl : l.length ≤ 9) : cdv l ≤ 555555555 := isC_le (cdv_isC hv hl)
theorem stepM {l : List Nat} {s : Nat} (σ : GS) (hv : wv l) (hg : good l) (hl : l.length ≤ 9) (hs : s < 5) : ∃ σ1 σ2 σ3, F_M_follow 75 0 (nI (cdv l)) σ = some (nI (rd l).length, σ1) ∧ F_M_times 75 (nI (rd l).length) (nI s) σ1 = some (nI (go l s).length, σ2) ∧ F_M_codeOf 75 (nI (go l s).length) σ2 = some (nI (cdv (go l s)), σ3) ∧ Fr [75] σ σ1 ∧ Fr [75] σ1 σ2 ∧ Fr [78, 79] σ2 σ3 := by
  have hc := cdv_isC hv hl
  obtain ⟨σ1, e1, a1, v1, f1⟩ := follow0 (q := 75) (σ := σ) hc
  rw [wd_cdv hv hl] at e1 a1 v1
  have hn := nf_of_good hg
  have he := eqv_rd l
  rw [hn] at he
  have hrl : (rd l).length = l.length := by rw [len_rd hv, hn]
  obtain ⟨σ2, e2, a2, f2⟩ := times_spec a1 v1 (s := s) (by omega) hs
  have he2 := eqv_step he s
  have el := len_eqv (wv_go hv hs) (wv_tm v1 hs) he2
  have hle := len_go_le l s
  obtain ⟨σ3, e3, f3⟩ := codeOf_spec (q1 := 75) (σ := σ2) (u := go l s) (by decide) (good_go hg s).1 (wv_go hv hs) he2 (wv_tm v1 hs) (by omega) a2
  rw [← el] at e2 e3
  exact ⟨σ1, σ2, σ3, e1, e2, e3, f1, f2, f3⟩
/-- lots: number, times at home, place -/
def dr (seed : Nat) : Nat → Nat × Nat × List Nat
  | 0 => (seed, 0, [])
  | i + 1 => if (go (dr seed i).2.2 (48271 * (dr seed i).1 % 2147483647 % 5)).length ≤ 9 then (48271 * (dr seed i).1 % 2147483647, (dr seed i).2.1 + (if (go (dr seed i).2.2 (48271 * (dr seed i).1 % 2147483647 % 5)).length = 0 then 1 else 0), go (dr seed i).2.2 (48271 * (dr seed i).1 % 2147483647 % 5)) else (48271 * (dr seed i).1 % 2147483647, (dr seed i).2.1, (dr seed i).2.2)
theorem dr_s (seed i : Nat) : dr seed (i + 1) = if (go (dr seed i).2.2 (48271 * (dr seed i).1 % 2147483647 % 5)).length ≤ 9 then (48271 * (dr seed i).1 % 2147483647, (dr seed i).2.1 + (if (go (dr seed i).2.2 (48271 * (dr seed i).1 % 2147483647 % 5)).length = 0 then 1 else 0), go (dr seed i).2.2 (48271 * (dr seed i).1 % 2147483647 % 5)) else (48271 * (dr seed i).1 % 2147483647, (dr seed i).2.1, (dr seed i).2.2) := rfl
theorem dr_ok {seed : Nat} (hs : seed < 2147483647) : ∀ i, (dr seed i).1 < 2147483647 ∧ wv (dr seed i).2.2 ∧ good (dr seed i).2.2 ∧ (dr seed i).2.2.length ≤ 9
  | 0 => ⟨hs, wv_nil, good_nil, Nat.zero_le _⟩
  | i + 1 => by
    obtain ⟨h1, h2, h3, h4⟩ := dr_ok hs i
    have hm : 48271 * (dr seed i).1 % 2147483647 < 2147483647 := Nat.mod_lt _ (by decide)
    have h5 : 48271 * (dr seed i).1 % 2147483647 % 5 < 5 := Nat.mod_lt _ (by decide)
    rw [dr_s]
    split
    · rename_i h
      exact ⟨hm, wv_go h2 h5, good_go h3 _, h⟩
    · exact ⟨hm, h2, h3, h4⟩
theorem lotX {k : Nat} (hk : k < 2147483647) : lN k * 48271 - lN k * 48271 / 2147483647 * 2147483647 = lN (48271 * k % 2147483647) := by
  rw [show (48271 : Int64) = lN 48271 from rfl, show (2147483647 : Int64) = lN 2147483647 from rfl, lN_mul, pk_lRem (by omega) (by decide) (by decide), Nat.mul_comm]
theorem lotM {k : Nat} (hk : k < 2147483647) : 48271 * lN k - 48271 * lN k / 2147483647 * 2147483647 = lN (48271 * k % 2147483647) := by
  rw [show (48271 : Int64) = lN 48271 from rfl, show (2147483647 : Int64) = lN 2147483647 from rfl, lN_mul, pk_lRem (by omega) (by decide) (by decide)]
theorem lot5 {k : Nat} (hk : k < 2147483647) : (lN k - lN k / 5 * 5).toInt32 = nI (k % 5) := by
  rw [show (5 : Int64) = lN 5 from rfl, pk_lRem (by omega) (by decide) (by decide), lN_i]
theorem stp_drunk : St_drunk Rel := by
  intro σ hR a1 a2
  unfold F_X_drunk
  rcases bt_c a1 1 60 (by decide) (by decide) with ⟨h1, h2⟩ | ⟨n, hn1, hn2, rfl, h3⟩
  · refine ⟨-1, σ, σ, ?_, by unfold F_M_drunk; rw [show F_M_in a1.toInt64 1 60 = some 0 from h1]; rfl, hR⟩
    rcases h2 with h | ⟨h, h'⟩
    · rw [if_pos (show a1 < 1 from h)]
    · rw [if_neg (show ¬ a1 < 1 from h), if_pos (show (60 : Int32) < a1 from h')]
  rw [if_neg (show ¬ nI n < 1 from nI_nlt (b := 1) hn1 (by omega)), if_neg (show ¬ (60 : Int32) < nI n from nI_nlt (a := 60) hn2 (by decide))]
  have hM0 : ∀ s, F_M_drunk (nI n) a2 s = bp (F_M_in a2.toInt64 (1 : Int64) (2147483646 : Int64)) (fun (r4 : Int32) => if r4 = (0 : Int32) then some ((-1 : Int32), s) else F_M_drunk_38 (nI n) (fun (v3_5 : Int64) (v5_5 : Int32) (v6_5 : Int32) (v7_5 : Int32) (σL5 : GS) => bc (F_M_tell v6_5 σL5) (fun (r7 : Int32) (σ8 : GS) => some (v5_5, σ8))) 50000 a2.toInt64 (0 : Int32) (0 : Int32) (0 : Int32) s) := fun s => by
    unfold F_M_drunk
    rw [show F_M_in (nI n).toInt64 1 60 = some 1 from h3, bp_s rfl, if_neg (by decide)]
    simp only [jn_s]
  have e64 : (2147483646 : Int64) = (nI 2147483646).toInt64 := by decide
  rcases bt_c a2 1 2147483646 (by decide) (by decide) with ⟨q1, q2⟩ | ⟨seed, q1, q2, rfl, q3⟩
  · refine ⟨-1, σ, σ, ?_, by rw [hM0, e64, show (1 : Int64) = (nI 1).toInt64 from rfl, q1]; rfl, hR⟩
    rcases q2 with h | ⟨h, h'⟩
    · rw [if_pos (show a2 < 1 from h)]
    · rw [if_neg (show ¬ a2 < 1 from h), if_neg (fun z => by
        rw [Int32.lt_iff_toInt_lt] at z h'
        have z1 : (2147483647 : Int32).toInt = 2147483647 := by decide
        have z2 : (nI 2147483646).toInt = 2147483646 := by decide
        omega)]
  have hs : seed < 2147483647 := by omega
  rw [if_neg (show ¬ nI seed < 1 from nI_nlt (b := 1) q1 (by omega)), if_pos (show nI seed < 2147483647 from nI_lt (b := 2147483647) hs (by decide)), bv_s (clear_spec (w := 32) (σ := σ)).1, jn_s]
  have hX : ∃ σ', Rep σ' 32 (dr seed n).2.2 ∧ Fr [32, 33] σ σ' ∧ ∀ K : Int64 → Int32 → Int32 → GS → Option (Int32 × GS), F_X_drunk_41 (nI n) K 50000 (nI seed).toInt64 0 0 (s1 σ 32 1 0) = K (lN (dr seed n).1) (nI (dr seed n).2.1) (nI n) σ' := by
    have := lpE (G := fun k i (t : Int64 × Int32 × GS) => fun (K : Int64 → Int32 → Int32 → GS → Option (Int32 × GS)) => F_X_drunk_41 (nI n) K k t.1 t.2.1 (nI i) t.2.2) (P := fun o => ∃ σ', Rep σ' 32 (dr seed n).2.2 ∧ Fr [32, 33] σ σ' ∧ ∀ K, o K = K (lN (dr seed n).1) (nI (dr seed n).2.1) (nI n) σ') (Inv := fun i t => t.1 = lN (dr seed i).1 ∧ t.2.1 = nI (dr seed i).2.1 ∧ Rep t.2.2 32 (dr seed i).2.2 ∧ Fr [32, 33] σ t.2.2) (N := n) ?_ ?_ n 0 50000 ((nI seed).toInt64, 0, s1 σ 32 1 0) (by omega) (by omega) ⟨nI_l (by omega), rfl, (clear_spec (w := 32) (σ := σ)).2, Fr.s1 (by simp)⟩
    · exact this
    · rintro k i ⟨t1, t2, t⟩ hi ⟨h1, h2, h3, h4⟩
      have h1 : t1 = lN (dr seed i).1 := h1
      have h2 : t2 = nI (dr seed i).2.1 := h2
      have h3 : Rep t 32 (dr seed i).2.2 := h3
      have h4 : Fr [32, 33] σ t := h4
      obtain ⟨g1, g2, g3, g4⟩ := dr_ok hs i
      have hm : 48271 * (dr seed i).1 % 2147483647 < 2147483647 := Nat.mod_lt _ (by decide)
      have h5 : 48271 * (dr seed i).1 % 2147483647 % 5 < 5 := Nat.mod_lt _ (by decide)
      obtain ⟨t', e, r', f'⟩ := goNear_spec h3 g3 g4 h5
      have hr : Rep t' 32 (dr seed (i + 1)).2.2 := by
        rw [dr_s]
        split
        · rename_i q; rw [if_pos q] at r'; exact r'
        · rename_i q; rw [if_neg q] at r'; exact r'
      refine Or.inr ⟨(lN (dr seed (i + 1)).1, nI (dr seed (i + 1)).2.1, t'), ?_, rfl, rfl, hr, h4.trans f'⟩
      funext K
      show F_X_drunk_41 (nI n) K (k + 1) t1 t2 (nI i) t = F_X_drunk_41 (nI n) K k (lN (dr seed (i + 1)).1) (nI (dr seed (i + 1)).2.1) (nI (i + 1)) t'
      have hlen := r'.len
      rw [F_X_drunk_41.eq_2, if_neg (nI_ge hi (by omega)), h1, lotX g1, lot5 hm, bc_s e, nI_1, h2, r'.1, dr_s]
      by_cases q : (go (dr seed i).2.2 (48271 * (dr seed i).1 % 2147483647 % 5)).length ≤ 9
      · simp only [if_pos q]
        rw [if_neg (by decide)]
        by_cases z : (go (dr seed i).2.2 (48271 * (dr seed i).1 % 2147483647 % 5)).length = 0
        · rw [if_pos (by rw [z]; decide), if_pos z, nI_1]
        · rw [if_neg (nI_ne0 (by omega) (by omega)), if_neg z]
          rfl
      · simp only [if_neg q]
        rw [if_pos True.intro]
    · rintro k ⟨t1, t2, t⟩ ⟨h1, h2, h3, h4⟩
      have h1 : t1 = lN (dr seed n).1 := h1
      have h2 : t2 = nI (dr seed n).2.1 := h2
      refine ⟨t, h3, h4, fun K => ?_⟩
      show F_X_drunk_41 (nI n) K (k + 1) t1 t2 (nI n) t = _
      rw [F_X_drunk_41.eq_2, if_pos (nI_le (Nat.le_refl _) (by omega)), h1, h2]
  obtain ⟨σ1, r1, f1, eW⟩ := hX
  obtain ⟨g1, g2, g3, g4⟩ := dr_ok hs n
  have hM : ∀ s : GS, ∃ σ', Fr [75, 78, 79] s σ' ∧ ∀ K : Int64 → Int32 → Int32 → Int32 → GS → Option (Int32 × GS), F_M_drunk_38 (nI n) K 50000 (nI seed).toInt64 0 0 0 s = K (lN (dr seed n).1) (nI (cdv (dr seed n).2.2)) (nI (dr seed n).2.1) (nI n) σ' := fun s => by
    have := lpE (G := fun k i (t : Int64 × Int32 × Int32 × GS) => fun (K : Int64 → Int32 → Int32 → Int32 → GS → Option (Int32 × GS)) => F_M_drunk_38 (nI n) K k t.1 t.2.1 t.2.2.1 (nI i) t.2.2.2) (P := fun o => ∃ σ', Fr [75, 78, 79] s σ' ∧ ∀ K, o K = K (lN (dr seed n).1) (nI (cdv (dr seed n).2.2)) (nI (dr seed n).2.1) (nI n) σ') (Inv := fun i t => t.1 = lN (dr seed i).1 ∧ t.2.1 = nI (cdv (dr seed i).2.2) ∧ t.2.2.1 = nI (dr seed i).2.1 ∧ Fr [75, 78, 79] s t.2.2.2) (N := n) ?_ ?_ n 0 50000 ((nI seed).toInt64, 0, 0, s) (by omega) (by omega) ⟨nI_l (by omega), rfl, rfl, Fr.refl _ _⟩
    · exact this
    · rintro k i ⟨t1, t2, t3, t⟩ hi ⟨h1, h2, h3, h4⟩
      have h1 : t1 = lN (dr seed i).1 := h1
      have h2 : t2 = nI (cdv (dr seed i).2.2) := h2
      have h3 : t3 = nI (dr seed i).2.1 := h3
      have h4 : Fr [75, 78, 79] s t := h4
      obtain ⟨g1, g2, g3, g4⟩ := dr_ok hs i
      have hm : 48271 * (dr seed i).1 % 2147483647 < 2147483647 := Nat.mod_lt _ (by decide)
      have h5 : 48271 * (dr seed i).1 % 2147483647 % 5 < 5 := Nat.mod_lt _ (by decide)
      obtain ⟨s1', s2', s3', e1, e2, e3, f1, f2, f3⟩ := stepM t g2 g3 g4 h5
      have hlg := len_go_le (dr seed i).2.2 (48271 * (dr seed i).1 % 2147483647 % 5)
      have ec : ∀ K : Int64 → Int32 → Int32 → Int32 → GS → Option (Int32 × GS), F_M_drunk_38 (nI n) K (k + 1) t1 t2 t3 (nI i) t = (fun (tJ15 : Int32) (σJ15 : GS) => if tJ15 = (0 : Int32) then F_M_drunk_38 (nI n) K k (lN (48271 * (dr seed i).1 % 2147483647)) tJ15 (nI ((dr seed i).2.1 + 1)) (nI (i + 1)) σJ15 else F_M_drunk_38 (nI n) K k (lN (48271 * (dr seed i).1 % 2147483647)) tJ15 (nI (dr seed i).2.1) (nI (i + 1)) σJ15) (if (go (dr seed i).2.2 (48271 * (dr seed i).1 % 2147483647 % 5)).length ≤ 9 then nI (cdv (go (dr seed i).2.2 (48271 * (dr seed i).1 % 2147483647 % 5))) else nI (cdv (dr seed i).2.2)) (if (go (dr seed i).2.2 (48271 * (dr seed i).1 % 2147483647 % 5)).length ≤ 9 then s3' else s2') := fun K => by
        rw [F_M_drunk_38.eq_2, if_neg (nI_ge hi (by omega)), h1, lotM g1, lot5 hm, h2, bc_s e1, bc_s e2, jn_s, bc_s e3, nI_1, h3, nI_1, show nI (dr seed i).2.1 + (0 : Int32) = nI (dr seed i).2.1 from nI_add _ 0]
        by_cases q : (go (dr seed i).2.2 (48271 * (dr seed i).1 % 2147483647 % 5)).length ≤ 9
        · rw [if_pos (show nI _ ≤ (9 : Int32) from nI_le (b := 9) q (by decide)), if_pos q, if_pos q]
        · rw [if_neg (show ¬ nI _ ≤ (9 : Int32) from nI_ge (a := 9) (by omega) (by omega)), if_neg q, if_neg q]
      by_cases q : (go (dr seed i).2.2 (48271 * (dr seed i).1 % 2147483647 % 5)).length ≤ 9
      · refine Or.inr ⟨(lN (dr seed (i + 1)).1, nI (cdv (dr seed (i + 1)).2.2), nI (dr seed (i + 1)).2.1, s3'), ?_, rfl, rfl, rfl, h4.trans ((f1.mono (by simp)).trans ((f2.mono (by simp)).trans (f3.mono (by simp))))⟩
        funext K
        show F_M_drunk_38 (nI n) K (k + 1) t1 t2 t3 (nI i) t = F_M_drunk_38 (nI n) K k (lN (dr seed (i + 1)).1) (nI (cdv (dr seed (i + 1)).2.2)) (nI (dr seed (i + 1)).2.1) (nI (i + 1)) s3'
        rw [ec, dr_s]
        simp only [if_pos q]
        have hb := cdv_b (wv_go g2 h5) q
        by_cases z : (go (dr seed i).2.2 (48271 * (dr seed i).1 % 2147483647 % 5)).length = 0
        · rw [if_pos (by rw [cdv_0.mpr (List.length_eq_zero_iff.mp z)]; decide), if_pos z]
        · rw [if_neg (nI_ne0 (Nat.pos_of_ne_zero fun y => z (by rw [cdv_0.mp y]; rfl)) (by omega)), if_neg z]
          rfl
      · refine Or.inr ⟨(lN (dr seed (i + 1)).1, nI (cdv (dr seed (i + 1)).2.2), nI (dr seed (i + 1)).2.1, s2'), ?_, rfl, rfl, rfl, h4.trans ((f1.mono (by simp)).trans (f2.mono (by simp)))⟩
        funext K
        show F_M_drunk_38 (nI n) K (k + 1) t1 t2 t3 (nI i) t = F_M_drunk_38 (nI n) K k (lN (dr seed (i + 1)).1) (nI (cdv (dr seed (i + 1)).2.2)) (nI (dr seed (i + 1)).2.1) (nI (i + 1)) s2'
        rw [ec, dr_s]
        simp only [if_neg q]
        have hb := cdv_b g2 g4
        rw [if_neg (nI_ne0 (Nat.pos_of_ne_zero fun y => q (by rw [cdv_0.mp y] at hlg ⊢; exact Nat.le_trans hlg (by decide))) (by omega))]
    · rintro k ⟨t1, t2, t3, t⟩ ⟨h1, h2, h3, h4⟩
      have h1 : t1 = lN (dr seed n).1 := h1
      have h2 : t2 = nI (cdv (dr seed n).2.2) := h2
      have h3 : t3 = nI (dr seed n).2.1 := h3
      refine ⟨t, h4, fun K => ?_⟩
      show F_M_drunk_38 (nI n) K (k + 1) t1 t2 t3 (nI n) t = _
      rw [F_M_drunk_38.eq_2, if_pos (nI_le (Nat.le_refl _) (by omega)), h1, h2, h3]
  obtain ⟨σ2, f2, eW2⟩ := hM (s1 σ1 0 16 (nI (dr seed n).2.1))
  have r1' : Rep (s1 σ1 0 16 (nI (dr seed n).2.1)) 32 (dr seed n).2.2 := r1.fr (S := [0]) (Fr.s1 (by simp)) (by simp) (by simp)
  refine ⟨nI (cdv (dr seed n).2.2), s1 σ1 0 16 (nI (dr seed n).2.1), s1 σ2 63 9 (nI (dr seed n).2.1), ?_, ?_, hR.ask3 f1 f2 (Fr.refl [] _) rfl⟩
  · rw [eW, jn_s, bp_s (code_spec r1'), if_pos g4]
  · have e4 : F_M_tell (nI (dr seed n).2.1) σ2 = some (1, s1 σ2 63 9 (nI (dr seed n).2.1)) := rfl
    rw [hM0, e64, show (1 : Int64) = (nI 1).toInt64 from rfl, bp_s q3, if_neg (by decide), eW2, bc_s e4]
