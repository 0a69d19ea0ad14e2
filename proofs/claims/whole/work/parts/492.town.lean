/-! fault, town -/
theorem RMd.fr {σ σ' : GS} {W : List PW} (h : RMd σ W) (e : σ'.1 74 = σ.1 74) : RMd σ' W := ⟨by rw [e]; exact h.1, h.2.1.cg (fun j _ => by rw [e]; exact ⟨rfl, rfl, rfl⟩), by rw [e]; exact h.2.2.1, fun i hi => by rw [e]; exact h.2.2.2 i hi⟩
theorem readsM_loop {t n : Nat} {b : Nat → Int32} (ht : t < 4) (hn : n ≤ 80) : ∀ (N i fuel : Nat) (σ : GS) (st : PS), n ≤ i + N → i ≤ n → N < fuel → MR t n b σ i → hv st → st.2 ≠ 1 → (st.2 = 0 ∨ i = n ∨ stb (b i - 48) = false) → RMd σ st.1 → ∃ σ', F_M_reads_26 (nI t) (fun (σL3 : GS) => some ((-9 : Int32), σL3)) (fun (σL3 : GS) => some (σL3.1 63 15, σL3)) fuel σ = some (rvl (rn b n i st).1, σ') ∧ FM σ σ' ∧ ((rn b n i st).1 = none → RMd σ' (rn b n i st).2.1) := by
  have fin : ∀ (fuel : Nat) (σ : GS) (st : PS), MR t n b σ n → st.2 ≠ 1 → RMd σ st.1 → ∃ σ', F_M_reads_26 (nI t) (fun (σL3 : GS) => some ((-9 : Int32), σL3)) (fun (σL3 : GS) => some (σL3.1 63 15, σL3)) (fuel + 1) σ = some (rvl (rn b n n st).1, σ') ∧ FM σ σ' ∧ ((rn b n n st).1 = none → RMd σ' (rn b n n st).2.1) := fun fuel σ st hM hf hR => by
    rw [rn_end, if_neg hf]
    refine ⟨σ, ?_, FM.refl σ, fun _ => hR⟩
    rw [F_M_reads_26.eq_2, gi ht (by decide), c31 (by omega), hM.1, hM.2.1, if_pos (nI_le (Nat.le_refl _) (by omega))]
    rfl
  intro N
  induction N with
  | zero =>
    intro i fuel σ st h1 h2 h3 hM hV hf hs hR
    obtain ⟨fuel, rfl⟩ : ∃ q, fuel = q + 1 := ⟨fuel - 1, by omega⟩
    have e : i = n := by omega
    subst e
    exact fin fuel σ st hM hf hR
  | succ N ih =>
    intro i fuel σ st h1 h2 h3 hM hV hf hs hR
    obtain ⟨fuel, rfl⟩ : ∃ q, fuel = q + 1 := ⟨fuel - 1, by omega⟩
    by_cases en : i = n
    · subst en
      exact fin fuel σ st hM hf hR
    have hi : i < n := by omega
    rw [F_M_reads_26.eq_2, gi ht (by decide), c31 (by omega), hM.1, hM.2.1, if_neg (nI_ge hi (by omega)), bp_s (byteM ht hn h2 hM), if_pos hi]
    by_cases z : b i = 32
    · rw [if_pos z, jn_s, nI_1]
      obtain ⟨σ', g1, g2, g3⟩ := ih (i + 1) fuel (s1 σ 63 15 (nI (i + 1))) (st.1, 0) (by omega) (by omega) (by omega) (hM.mv FM.at (s1_at _ _ _ _)) ⟨Or.inl rfl, Nat.zero_le _, hV.2.2.1, hV.2.2.2⟩ (by show 0 ≠ 1; decide) (Or.inl rfl) (hR.fr (by rw [s1_c (by decide)]))
      have e : rn b n i st = rn b n (i + 1) (st.1, 0) := rn_some hi (by rw [z]; exact tk_blank hf)
      rw [e]
      exact ⟨σ', g1, FM.at.trans g2, g3⟩
    · rw [if_neg z]
      obtain ⟨r, σ1, i', e1, f1, m1, l1, hh⟩ := takesM ht hn hi hM hV hf (hs.imp id (fun y => y.resolve_left en)) z hR
      rw [bc_s e1]
      rcases hh with ⟨r0, hh⟩ | ⟨r1, hlt, st', er, hV', hf', hs', hR'⟩
      · rw [if_pos r0, hh, m1.2.1]
        exact ⟨σ1, rfl, f1, fun y => by cases y⟩
      · rw [if_neg (by rw [r1]; decide), er]
        obtain ⟨σ', g1, g2, g3⟩ := ih i' fuel σ1 st' (by omega) l1 (by omega) m1 hV' hf' hs' hR'
        exact ⟨σ', g1, f1.trans g2, g3⟩
theorem reads0 (x : Int32) (σ : GS) : ∃ σ', (∀ j, j < 27 → σ'.1 74 j = 0) ∧ Fr [74] σ σ' ∧ ∀ K, F_M_reads_2 x K 50000 0 σ = K (nI 27) σ' := by
  have := lpE (G := fun m e (t : GS) => fun (K : Int32 → GS → Option (Int32 × GS)) => F_M_reads_2 x K m (nI e) t) (P := fun o => ∃ σ', (∀ j, j < 27 → σ'.1 74 j = 0) ∧ Fr [74] σ σ' ∧ ∀ K, o K = K (nI 27) σ') (Inv := fun e t => (∀ j, j < e → t.1 74 j = 0) ∧ Fr [74] σ t) (N := 27) ?_ ?_ 27 0 50000 σ (by omega) (by omega) ⟨fun j hj => absurd hj (Nat.not_lt_zero _), Fr.refl _ _⟩
  · exact this
  · intro m e t he hI
    refine Or.inr ⟨s1 t 74 e 0, ?_, fun j hj => ?_, Fr.trans hI.2 (Fr.s1 (by simp))⟩
    · funext K
      show F_M_reads_2 x K (m + 1) (nI e) t = F_M_reads_2 x K m (nI (e + 1)) _
      rw [F_M_reads_2.eq_2, if_neg (show ¬ (27 : Int32) ≤ nI e from nI_ge (b := 27) he (by decide)), gi he (by decide), c31 (by omega), jn_s, nI_1]
    · by_cases q : j = e
      · rw [q, s1_at]
      · rw [s1_i q, hI.1 j (by omega)]
  · intro m t hI
    refine ⟨t, hI.1, hI.2, fun K => ?_⟩
    show F_M_reads_2 x K (m + 1) (nI 27) t = _
    rw [F_M_reads_2.eq_2, if_pos (by decide)]
theorem readsM {t n : Nat} {b : Nat → Int32} {σ : GS} (ht : t < 4) (hn : n ≤ 80) (h66 : σ.1 66 t = nI n) (hb : ∀ j, j < n → σ.1 67 (80 * t + j) = b j) : ∃ σ', F_M_reads (nI t) σ = some (rvl (rn b n 0 ([], 0)).1, σ') ∧ FM σ σ' ∧ ((rn b n 0 ([], 0)).1 = none → RMd σ' (rn b n 0 ([], 0)).2.1) := by
  unfold F_M_reads
  obtain ⟨σ1, z1, f1, e1⟩ := reads0 (nI t) σ
  rw [jn_s, e1, jn_s, jn_s, jn_s]
  have fm1 : FM σ σ1 := ⟨f1.mono (by simp), fun j _ => by rw [f1.1 63 (by simp)]⟩
  have k74 : ∀ j, (s1 σ1 63 15 0).1 74 j = σ1.1 74 j := fun j => by rw [s1_c (by decide)]
  obtain ⟨σ', g1, g2, g3⟩ := readsM_loop (b := b) ht hn n 0 50000 (s1 σ1 63 15 0) ([], 0) (by omega) (by omega) (by omega) ⟨by rw [s1_c (by decide), f1.1 66 (by simp)]; exact h66, s1_at _ _ _ _, fun j hj => by rw [s1_c (by decide), f1.1 67 (by simp)]; exact hb j hj⟩ ⟨Or.inl rfl, Nat.zero_le _, Nat.zero_le _, fun w hw => by cases hw⟩ (by show 0 ≠ 1; decide) (Or.inl rfl) ⟨by rw [k74]; exact z1 0 (by omega), trivial, by rw [k74]; exact z1 1 (by omega), fun i hi => ⟨by rw [k74]; exact z1 _ (by omega), by rw [k74]; exact z1 _ (by omega)⟩⟩
  exact ⟨σ', g1, (fm1.trans FM.at).trans g2, g3⟩
theorem Rel.fm {σ σ' : GS} (hR : Rel σ) (f : FM σ σ') : Rel σ' := by
  refine ⟨hR.1.fr f.1 rfl, ?_⟩
  unfold RL
  rw [f.1.1 0 (by simp), f.2 12 (by decide), f.2 9 (by decide), f.1.2, f.1.1 62 (by simp), f.1.1 73 (by simp)]
  exact hR.2
theorem stp_fault : St_fault Rel := by
  intro σ hR a1
  unfold F_X_fault
  rcases text_c a1 with ⟨h1, h2⟩ | ⟨t, ht, rfl, h1, h2⟩
  · exact ⟨-1, σ, σ, by rw [bc_s (txtRef_bad h1 σ), if_neg (by decide)], by unfold F_M_fault; rw [bp_s h2, if_pos rfl], hR⟩
  rcases txtsz hR.1.2.1 ht with ⟨h14, h66⟩ | ⟨n, hn, h14, h66⟩
  · exact ⟨-3, gX 1 σ, gM 1 (gX 1 σ), by rw [bc_s (txtRef_no ht h1 h14), if_neg (by decide)], by unfold F_M_fault; rw [bp_s h2, if_neg (by decide), gi ht (by decide), c31 (by omega), gX_c (by decide) (by decide), h66, if_neg (by decide), bc_s (foM1 _)], fR hR⟩
  obtain ⟨σ1, e1, f1, -⟩ := readX (q := 10 + t) (n := n) (b := σ.1 (10 + t)) (σ := σ) (by omega) hn (fun _ _ => rfl)
  obtain ⟨σ2, e2, f2, -⟩ := readsM (t := t) (n := n) (b := σ.1 (10 + t)) (σ := σ1) ht hn (by rw [f1.1 66 (by simp)]; exact h66) (fun j hj => by rw [f1.1 67 (by simp)]; exact (hR.1.2.1.2 t ht j (by omega)).symm)
  refine ⟨rvl (rn (σ.1 (10 + t)) n 0 ([], 0)).1, σ1, σ2, ?_, ?_, (hR.fr f1 rfl rfl).fm f2⟩
  · rw [bc_s (txtRef_ok ht hn h1 h14), if_pos rfl, gi ht (by decide), gi ht (by decide), c31 (by omega), h14, bc_s e1]
  · unfold F_M_fault
    rw [bp_s h2, if_neg (by decide), gi ht (by decide), c31 (by omega), f1.1 66 (by simp), h66, if_pos (nI_pos' (by omega)), bc_s e2]
-- a town settled
def wnt (W : List PW) (i : Nat) : PW := W.reverse.getD i (0, 0, [])
theorem wnt_lt {w : PW} {R : List PW} {i : Nat} (h : i < R.length) : wnt (w :: R) i = wnt R i := by
  unfold wnt
  rw [List.reverse_cons, List.getD_eq_getElem?_getD, List.getD_eq_getElem?_getD, List.getElem?_append_left (by rw [List.length_reverse]; exact h)]
theorem wnt_eq {w : PW} {R : List PW} : wnt (w :: R) R.length = w := by
  unfold wnt
  rw [List.reverse_cons, List.getD_eq_getElem?_getD, List.getElem?_append_right (by rw [List.length_reverse]; exact Nat.le_refl _), List.length_reverse, Nat.sub_self]
  rfl
theorem wnt_mem {W : List PW} {i : Nat} (h : i < W.length) : wnt W i ∈ W := by
  unfold wnt
  have h' : i < W.reverse.length := by rw [List.length_reverse]; exact h
  rw [List.getD_eq_getElem?_getD, List.getElem?_eq_getElem h']
  exact List.mem_reverse.mp (List.getElem_mem h')
theorem WRX.get {σ : GS} : ∀ {W : List PW}, WRX σ W → ∀ i, i < W.length → σ.1 16 i = nI (wnt W i).1 ∧ σ.1 17 i = nI (wnt W i).2.1 ∧ σ.1 18 i = nI (cdv (wnt W i).2.2)
  | [], _, i, hi => absurd hi (Nat.not_lt_zero _)
  | w :: R, ⟨a, b, c, d⟩, i, hi => by
    by_cases q : i = R.length
    · subst q
      rw [wnt_eq]
      exact ⟨a, b, c⟩
    · have hi : i < R.length + 1 := hi
      rw [wnt_lt (by omega)]
      exact WRX.get d i (by omega)
theorem WRM.get {σ : GS} : ∀ {W : List PW}, WRM σ W → ∀ i, i < W.length → σ.1 74 (2 + i) = nI (wnt W i).1 ∧ σ.1 74 (12 + i) = nI (wnt W i).2.1 ∧ σ.1 74 (7 + i) = nI (cdv (nf (wnt W i).2.2))
  | [], _, i, hi => absurd hi (Nat.not_lt_zero _)
  | w :: R, ⟨a, b, c, d⟩, i, hi => by
    by_cases q : i = R.length
    · subst q
      rw [wnt_eq]
      exact ⟨a, b, c⟩
    · have hi : i < R.length + 1 := hi
      rw [wnt_lt (by omega)]
      exact WRM.get d i (by omega)
def swt (W : List PW) (i : Nat) : WS := ((wnt W i).1, nf (wnt W i).2.2, (wnt W i).2.1, 0, 0)
theorem settleX {W : List PW} {σ : GS} (hl : W.length ≤ 5) (hP : PWv W) (h3 : σ.1 15 3 = nI W.length) (hW : WRX σ W) : ∃ σ', F_Tn_settle σ = some σ' ∧ (∀ i, i < W.length → σ'.1 20 i = nI (swt W i).1 ∧ FX (σ'.1 21) (4 * i) (swt W i)) ∧ σ'.1 19 2 = nI W.length ∧ σ'.1 19 3 = 0 ∧ Fr [19, 20, 21, 32, 33] σ σ' := by
  unfold F_Tn_settle
  have e5 : (if (5 : Int32) < σ.1 15 3 then (5 : Int32) else σ.1 15 3) = nI W.length := by
    rw [h3, if_neg (show ¬ (5 : Int32) < nI W.length from nI_nlt (a := 5) hl (by decide))]
  have e6 : (if (0 : Int32) < nI W.length then nI W.length else (0 : Int32)) = nI W.length := by
    by_cases q : W.length = 0
    · rw [q]; decide
    · rw [if_pos (show (0 : Int32) < nI W.length from nI_lt (a := 0) (by omega) (by omega))]
  rw [e5, e6, jn_s, jn_s, jn_s]
  refine lpE (G := fun k i (t : GS) => F_Tn_settle_23 (fun (v3_3 : Int32) (σL3 : GS) => some σL3) k (nI i) t) (P := fun o => ∃ σ', o = some σ' ∧ (∀ i, i < W.length → σ'.1 20 i = nI (swt W i).1 ∧ FX (σ'.1 21) (4 * i) (swt W i)) ∧ σ'.1 19 2 = nI W.length ∧ σ'.1 19 3 = 0 ∧ Fr [19, 20, 21, 32, 33] σ σ') (Inv := fun i t => (∀ j, j < i → t.1 20 j = nI (swt W j).1 ∧ FX (t.1 21) (4 * j) (swt W j)) ∧ t.1 19 2 = nI W.length ∧ t.1 19 3 = 0 ∧ Fr [19, 20, 21, 32, 33] σ t) (N := W.length) ?_ ?_ W.length 0 50000 _ (by omega) (by omega) ⟨fun j hj => absurd hj (Nat.not_lt_zero _), by rw [s1_i (by decide), s1_at], s1_at _ _ _ _, Fr.trans (Fr.s1 (by simp)) (Fr.s1 (by simp))⟩
  · intro k i t hi ⟨i1, i2, i3, i4⟩
    obtain ⟨w1, w2, w3, w4⟩ := hP _ (wnt_mem hi)
    obtain ⟨a1, a2, a3⟩ := hW.get i hi
    have hc : isC (cdv (wnt W i).2.2) = true := cdv_isC w3 (by omega)
    obtain ⟨t1, e1, r1, f1⟩ := becomes_spec (w := 32) (m := cdv (wnt W i).2.2) (σ := s1 t 20 i (nI (wnt W i).1)) hc
    rw [wd_cdv w3 (by omega)] at r1
    have hnl : (nf (wnt W i).2.2).length ≤ 9 := Nat.le_trans (len_nf_le _) (by omega)
    have kk : ∀ c, c ≠ 20 → c ≠ 32 → c ≠ 33 → t1.1 c = t.1 c := fun c q1 q2 q3 => by rw [f1.1 c (by simp [q2, q3]), s1_c q1]
    refine Or.inr ⟨s1 (s1 (s1 (s1 t1 21 (i * 4) (nI (cdv (nf (wnt W i).2.2)))) 21 (i * 4 + 1) (nI (wnt W i).2.1)) 21 (i * 4 + 2) 0) 21 (i * 4 + 3) 0, ?_, fun j hj => ?_, ?_, ?_, ?_⟩
    · show F_Tn_settle_23 _ (k + 1) (nI i) t = F_Tn_settle_23 _ k (nI (i + 1)) _
      rw [F_Tn_settle_23.eq_2, i2, if_neg (nI_ge hi (by omega)), gi (by omega) (by decide), gi (by omega) (by decide), c31 (by omega), i4.1 16 (by simp), a1, jn_s, gi (by omega) (by decide), s1_c (k' := 18) (by decide), i4.1 18 (by simp), a3, bv_s e1, bp_s (code_spec r1), if_pos hnl, show nI i * (4 : Int32) = nI (i * 4) from pk_mul i 4, gi (by omega) (by decide), c31 (by omega), jn_s, gi (by omega) (by decide), nI_1, gi (by omega) (by decide), c31 (by omega), s1_c (k' := 17) (by decide), kk 17 (by decide) (by decide) (by decide), i4.1 17 (by simp), a2, jn_s, show nI (i * 4) + (2 : Int32) = nI (i * 4 + 2) from nI_add _ 2, gi (by omega) (by decide), c31 (by omega), jn_s, show nI (i * 4) + (3 : Int32) = nI (i * 4 + 3) from nI_add _ 3, gi (by omega) (by decide), c31 (by omega), jn_s, nI_1]
    · have g20 : ∀ z, (s1 (s1 (s1 (s1 t1 21 (i * 4) (nI (cdv (nf (wnt W i).2.2)))) 21 (i * 4 + 1) (nI (wnt W i).2.1)) 21 (i * 4 + 2) 0) 21 (i * 4 + 3) 0).1 20 z = if z = i then nI (wnt W i).1 else t.1 20 z := fun z => by
        rw [s1_c (by decide), s1_c (by decide), s1_c (by decide), s1_c (by decide), f1.1 20 (by simp)]
        by_cases q : z = i
        · rw [q, s1_at, if_pos rfl]
        · rw [s1_i q, if_neg q]
      by_cases q : j = i
      · subst q
        refine ⟨by rw [g20, if_pos rfl]; rfl, ?_⟩
        rw [show 4 * j = j * 4 by omega]
        refine ⟨?_, ?_, ?_, ?_⟩
        · rw [s1_i (by omega), s1_i (by omega), s1_i (by omega), s1_at]
        · rw [s1_i (by omega), s1_i (by omega), s1_at]
        · rw [s1_i (by omega), s1_at]; rfl
        · rw [s1_at]
      · obtain ⟨b1, b2⟩ := i1 j (by omega)
        refine ⟨by rw [g20, if_neg q]; exact b1, b2.cg fun z h1 h2 => ?_⟩
        rw [s1_i (by omega), s1_i (by omega), s1_i (by omega), s1_i (by omega), kk 21 (by decide) (by decide) (by decide)]
    · rw [s1_c (by decide), s1_c (by decide), s1_c (by decide), s1_c (by decide), kk 19 (by decide) (by decide) (by decide)]; exact i2
    · rw [s1_c (by decide), s1_c (by decide), s1_c (by decide), s1_c (by decide), kk 19 (by decide) (by decide) (by decide)]; exact i3
    · exact (i4.trans ((Fr.s1 (S := [19, 20, 21, 32, 33]) (by simp)).trans (f1.mono (by simp)))).trans (Fr.trans (Fr.trans (Fr.trans (Fr.s1 (by simp)) (Fr.s1 (by simp))) (Fr.s1 (by simp))) (Fr.s1 (by simp)))
  · intro k t ⟨i1, i2, i3, i4⟩
    refine ⟨t, ?_, i1, i2, i3, i4⟩
    show F_Tn_settle_23 _ (k + 1) (nI W.length) t = _
    rw [F_Tn_settle_23.eq_2, i2, if_pos (nI_le (Nat.le_refl _) (by omega))]
theorem rvl_none {o : Option Nat} (h : ∀ j, o = some j → j < 2 ^ 31) : (rvl o = -9 ↔ o = none) := by
  cases o with
  | none => exact ⟨fun _ => rfl, fun _ => rfl⟩
  | some j =>
    refine ⟨fun e => ?_, fun e => by cases e⟩
    have e : nI j = -9 := e
    have := congrArg Int32.toInt e
    rw [nI_toInt (h j rfl)] at this
    exact absurd this (by show ¬ ((j : Int) = -9); omega)
theorem rnF_le {b : Nat → Int32} : ∀ (d i : Nat) (st : PS) (j : Nat), (rnF b d i st).1 = some j → j ≤ i + d
  | 0, i, st, j, h => by
    have h : (if st.2 = 1 then some i else none) = some j := h
    by_cases q : st.2 = 1
    · rw [if_pos q] at h
      cases h
      omega
    · rw [if_neg q] at h
      cases h
  | d + 1, i, st, j, h => by
    have h : (match tk (b i) st with | none => (some i, st) | some st' => rnF b d (i + 1) st').1 = some j := h
    cases ht : tk (b i) st with
    | none =>
      rw [ht] at h
      cases h
      omega
    | some st' =>
      rw [ht] at h
      have := rnF_le d (i + 1) st' j h
      omega
theorem stp_town : St_town Rel := by
  intro σ hR a1
  unfold F_X_town
  rcases text_c a1 with ⟨h1, h2⟩ | ⟨t, ht, rfl, h1, h2⟩
  · exact ⟨-1, σ, σ, by rw [bc_s (txtRef_bad h1 σ), if_neg (by decide)], by unfold F_M_town; rw [bp_s h2, if_pos rfl], hR⟩
  rcases txtsz hR.1.2.1 ht with ⟨h14, h66⟩ | ⟨n, hn, h14, h66⟩
  · exact ⟨-3, gX 1 σ, gM 1 (gX 1 σ), by rw [bc_s (txtRef_no ht h1 h14), if_neg (by decide)], by unfold F_M_town; rw [bp_s h2, if_neg (by decide), gi ht (by decide), c31 (by omega), gX_c (by decide) (by decide), h66, if_neg (by decide), bc_s (foM1 _)], fR hR⟩
  obtain ⟨σ1, e1, f1, hX⟩ := readX (q := 10 + t) (n := n) (b := σ.1 (10 + t)) (σ := σ) (by omega) hn (fun _ _ => rfl)
  have hrv : rvl (rn (σ.1 (10 + t)) n 0 ([], 0)).1 = -9 ↔ (rn (σ.1 (10 + t)) n 0 ([], 0)).1 = none := rvl_none fun j hj => by
    have := rnF_le _ _ _ _ hj
    omega
  rw [bc_s (txtRef_ok ht hn h1 h14), if_pos rfl, gi ht (by decide), gi ht (by decide), c31 (by omega), h14, bc_s e1]
  have hRd : ∀ s : GS, s.1 66 = σ.1 66 → s.1 67 = σ.1 67 → ∃ σ', F_M_reads (nI t) s = some (rvl (rn (σ.1 (10 + t)) n 0 ([], 0)).1, σ') ∧ FM s σ' ∧ ((rn (σ.1 (10 + t)) n 0 ([], 0)).1 = none → RMd σ' (rn (σ.1 (10 + t)) n 0 ([], 0)).2.1) := fun s q1 q2 => readsM (t := t) (n := n) (b := σ.1 (10 + t)) (σ := s) ht hn (by rw [q1]; exact h66) (fun j hj => by rw [q2]; exact (hR.1.2.1.2 t ht j (by omega)).symm)
  by_cases hz : (rn (σ.1 (10 + t)) n 0 ([], 0)).1 = none
  · obtain ⟨W, f⟩ : ∃ W : List PW, W = (rn (σ.1 (10 + t)) n 0 ([], 0)).2.1 := ⟨_, rfl⟩
    obtain ⟨hV, hRX⟩ := hX hz
    have hl : W.length ≤ 5 := by rw [f]; exact hV.2.2.1
    have hP : PWv W := by rw [f]; exact hV.2.2.2
    obtain ⟨σ2, e2, x1, x2, x3, f2⟩ := settleX (W := W) (σ := σ1) hl hP (by rw [f]; exact hRX.1) (by rw [f]; exact hRX.2.2)
    rw [if_pos (hrv.mpr hz), bv_s e2, jn_s]
    have hK : ∃ σ3, (∀ j, j < 3 → σ3.1 (23 + 3 * j) 2 = 0) ∧ Fr [23, 26, 29] σ2 σ3 ∧ ∀ K, F_X_town_56 K 50000 0 σ2 = K (nI 3) σ3 := by
      have := lpE (G := fun m e (t : GS) => fun (K : Int32 → GS → Option (Int32 × GS)) => F_X_town_56 K m (nI e) t) (P := fun o => ∃ σ3, (∀ j, j < 3 → σ3.1 (23 + 3 * j) 2 = 0) ∧ Fr [23, 26, 29] σ2 σ3 ∧ ∀ K, o K = K (nI 3) σ3) (Inv := fun e t => (∀ j, j < e → t.1 (23 + 3 * j) 2 = 0) ∧ Fr [23, 26, 29] σ2 t) (N := 3) ?_ ?_ 3 0 50000 σ2 (by omega) (by omega) ⟨fun j hj => absurd hj (Nat.not_lt_zero _), Fr.refl _ _⟩
      · exact this
      · intro m e t he hI
        refine Or.inr ⟨s1 t (23 + 3 * e) 2 0, ?_, fun j hj => ?_, Fr.trans hI.2 (Fr.s1 (by simp; omega))⟩
        · funext K
          show F_X_town_56 K (m + 1) (nI e) t = F_X_town_56 K m (nI (e + 1)) _
          rw [F_X_town_56.eq_2, if_neg (show ¬ (3 : Int32) ≤ nI e from nI_ge (b := 3) he (by decide)), gi he (by decide), c31 (by omega), jn_s, nI_1]
        · by_cases q : j = e
          · rw [q, s1_at]
          · rw [s1_c (by omega), hI.1 j (by omega)]
      · intro m t hI
        refine ⟨t, hI.1, hI.2, fun K => ?_⟩
        show F_X_town_56 K (m + 1) (nI 3) t = _
        rw [F_X_town_56.eq_2, if_pos (by decide)]
    obtain ⟨σ3, y1, f3, e3⟩ := hK
    have kX : ∀ c, ¬ (15 ≤ c ∧ c ≤ 21) → c ≠ 32 → c ≠ 33 → c ≠ 23 → c ≠ 26 → c ≠ 29 → σ3.1 c = σ.1 c := fun c q1 q2 q3 q4 q5 q6 => by rw [f3.1 c (by simp [q4, q5, q6]), f2.1 c (by simp; omega), f1.1 c (by simp; omega)]
    obtain ⟨σ4, e4, f4, hM⟩ := hRd σ3 (kX 66 (by omega) (by omega) (by omega) (by omega) (by omega) (by omega)) (kX 67 (by omega) (by omega) (by omega) (by omega) (by omega) (by omega))
    have hM := hM hz
    rw [← f] at hM
    have hC : ∃ σ5, (∀ j, j < 27 → σ5.1 68 j = σ4.1 74 j) ∧ Fr [68] σ4 σ5 ∧ ∀ K, F_M_town_39 K 50000 0 σ4 = K (nI 27) σ5 := by
      have := lpE (G := fun m e (t : GS) => fun (K : Int32 → GS → Option (Int32 × GS)) => F_M_town_39 K m (nI e) t) (P := fun o => ∃ σ5, (∀ j, j < 27 → σ5.1 68 j = σ4.1 74 j) ∧ Fr [68] σ4 σ5 ∧ ∀ K, o K = K (nI 27) σ5) (Inv := fun e t => (∀ j, j < e → t.1 68 j = σ4.1 74 j) ∧ Fr [68] σ4 t) (N := 27) ?_ ?_ 27 0 50000 σ4 (by omega) (by omega) ⟨fun j hj => absurd hj (Nat.not_lt_zero _), Fr.refl _ _⟩
      · exact this
      · intro m e t he hI
        refine Or.inr ⟨s1 t 68 e (σ4.1 74 e), ?_, fun j hj => ?_, Fr.trans hI.2 (Fr.s1 (by simp))⟩
        · funext K
          show F_M_town_39 K (m + 1) (nI e) t = F_M_town_39 K m (nI (e + 1)) _
          rw [F_M_town_39.eq_2, if_neg (show ¬ (27 : Int32) ≤ nI e from nI_ge (b := 27) he (by decide)), gi he (by decide), gi he (by decide), c31 (by omega), hI.2.1 74 (by simp), jn_s, nI_1]
        · by_cases q : j = e
          · rw [q, s1_at]
          · rw [s1_i q, hI.1 j (by omega)]
      · intro m t hI
        refine ⟨t, hI.1, hI.2, fun K => ?_⟩
        show F_M_town_39 K (m + 1) (nI 27) t = _
        rw [F_M_town_39.eq_2, if_pos (by decide)]
    obtain ⟨σ5, y5, f5, e5⟩ := hC
    have hD : ∃ σ6, (∀ j, j < 3 → σ6.1 72 j = 0) ∧ Fr [72] σ5 σ6 ∧ ∀ K, F_M_town_65 K 50000 0 σ5 = K (nI 3) σ6 := by
      have := lpE (G := fun m e (t : GS) => fun (K : Int32 → GS → Option (Int32 × GS)) => F_M_town_65 K m (nI e) t) (P := fun o => ∃ σ6, (∀ j, j < 3 → σ6.1 72 j = 0) ∧ Fr [72] σ5 σ6 ∧ ∀ K, o K = K (nI 3) σ6) (Inv := fun e t => (∀ j, j < e → t.1 72 j = 0) ∧ Fr [72] σ5 t) (N := 3) ?_ ?_ 3 0 50000 σ5 (by omega) (by omega) ⟨fun j hj => absurd hj (Nat.not_lt_zero _), Fr.refl _ _⟩
      · exact this
      · intro m e t he hI
        refine Or.inr ⟨s1 t 72 e 0, ?_, fun j hj => ?_, Fr.trans hI.2 (Fr.s1 (by simp))⟩
        · funext K
          show F_M_town_65 K (m + 1) (nI e) t = F_M_town_65 K m (nI (e + 1)) _
          rw [F_M_town_65.eq_2, if_neg (show ¬ (3 : Int32) ≤ nI e from nI_ge (b := 3) he (by decide)), gi he (by decide), c31 (by omega), show vp_nar .boolean (0 : Int32) = 0 from by decide, jn_s, nI_1]
        · by_cases q : j = e
          · rw [q, s1_at]
          · rw [s1_i q, hI.1 j (by omega)]
      · intro m t hI
        refine ⟨t, hI.1, hI.2, fun K => ?_⟩
        show F_M_town_65 K (m + 1) (nI 3) t = _
        rw [F_M_town_65.eq_2, if_pos (by decide)]
    obtain ⟨σ6, y6, f6, e6⟩ := hD
    have kM : ∀ c, c ≠ 63 → c ≠ 74 → c ≠ 75 → c ≠ 78 → c ≠ 79 → c ≠ 68 → c ≠ 72 → σ6.1 c = σ3.1 c := fun c q1 q2 q3 q4 q5 q6 q7 => by rw [f6.1 c (by simp [q7]), f5.1 c (by simp [q6]), f4.1.1 c (by simp [q1, q2, q3, q4, q5])]
    have k63 : ∀ j, j ≠ 15 → σ6.1 63 j = σ.1 63 j := fun j hj => by rw [f6.1 63 (by simp), f5.1 63 (by simp), f4.2 j hj, kX 63 (by omega) (by omega) (by omega) (by omega) (by omega) (by omega)]
    have kA : ∀ c, ¬ (15 ≤ c ∧ c ≤ 33) → c ≠ 63 → c ≠ 74 → c ≠ 75 → c ≠ 78 → c ≠ 79 → c ≠ 68 → c ≠ 72 → σ6.1 c = σ.1 c := fun c q0 q1 q2 q3 q4 q5 q6 q7 => by rw [kM c q1 q2 q3 q4 q5 q6 q7, kX c (by omega) (by omega) (by omega) (by omega) (by omega) (by omega)]
    have m0 : σ6.1 68 0 = nI W.length := by rw [f6.1 68 (by simp), y5 0 (by omega)]; exact hM.1
    have a2 : σ6.1 19 = σ2.1 19 := by rw [kM 19 (by omega) (by omega) (by omega) (by omega) (by omega) (by omega) (by omega), f3.1 19 (by simp)]
    have a20 : σ6.1 20 = σ2.1 20 := by rw [kM 20 (by omega) (by omega) (by omega) (by omega) (by omega) (by omega) (by omega), f3.1 20 (by simp)]
    have a21 : σ6.1 21 = σ2.1 21 := by rw [kM 21 (by omega) (by omega) (by omega) (by omega) (by omega) (by omega) (by omega), f3.1 21 (by simp)]
    have m68 : ∀ j, j < 27 → σ6.1 68 j = σ4.1 74 j := fun j hj => by rw [f6.1 68 (by simp), y5 j hj]
    refine ⟨nI W.length, σ3, σ6, ?_, ?_, ⟨?_, ?_, ?_, ?_, ?_, ?_⟩, ?_⟩
    · rw [e3, f3.1 19 (by simp), x2]
    · unfold F_M_town
      rw [bp_s h2, if_neg (by decide), gi ht (by decide), c31 (by omega), kX 66 (by omega) (by omega) (by omega) (by omega) (by omega) (by omega), h66, if_pos (nI_pos' (by omega)), bc_s e4, if_pos (hrv.mpr hz), jn_s, e5, jn_s, e6, m0]
    · exact hR.1.1.fr fun c hc => kA c (by omega) (by omega) (by omega) (by omega) (by omega) (by omega) (by omega) (by omega)
    · exact hR.1.2.1.fr fun c hc => kA c (by omega) (by omega) (by omega) (by omega) (by omega) (by omega) (by omega) (by omega)
    · refine ⟨W.length, 0, by rw [a2]; exact x2, by rw [a2]; exact x3, hl, by omega, by rw [m68 1 (by omega)]; exact hM.2.2.1, ⟨swt W, m0, fun i hi => ?_⟩, fun g hg => absurd hg (Nat.not_lt_zero _)⟩
      obtain ⟨w1, w2, w3, w4⟩ := hP _ (wnt_mem hi)
      obtain ⟨b1, b2, b3⟩ := hM.2.1.get i hi
      obtain ⟨c1, c2⟩ := hM.2.2.2 i (by omega)
      refine ⟨⟨w1, wv_nf w3, good_nf _, Nat.le_trans (len_nf_le _) (by omega), w2, Nat.zero_le _, fun _ => rfl⟩, by rw [a20]; exact (x1 i hi).1, ?_, ?_, ?_, ?_, ?_, ?_⟩
      · rw [a21, Nat.mul_zero, Nat.zero_add]; exact (x1 i hi).2
      · rw [m68 _ (by omega)]; exact b1
      · rw [m68 _ (by omega)]; exact b3
      · rw [m68 _ (by omega)]; exact b2
      · rw [m68 _ (by omega)]; exact c1
      · rw [m68 _ (by omega)]; exact c2
    · intro k hk
      refine Or.inl ⟨y6 k hk, ?_⟩
      rw [kM _ (by omega) (by omega) (by omega) (by omega) (by omega) (by omega) (by omega)]
      exact y1 k hk
    · unfold RI
      rw [kA 36 (by omega) (by omega) (by omega) (by omega) (by omega) (by omega) (by omega) (by omega)]
      exact hR.1.2.2.2.2.1
    · exact hR.1.2.2.2.2.2.fr fun c hc => kA c (by omega) (by omega) (by omega) (by omega) (by omega) (by omega) (by omega) (by omega)
    · unfold RL
      rw [kA 0 (by omega) (by omega) (by omega) (by omega) (by omega) (by omega) (by omega) (by omega), k63 12 (by decide), k63 9 (by decide), f6.2, f5.2, f4.1.2, f3.2, f2.2, f1.2, kA 62 (by omega) (by omega) (by omega) (by omega) (by omega) (by omega) (by omega) (by omega), kA 73 (by omega) (by omega) (by omega) (by omega) (by omega) (by omega) (by omega) (by omega)]
      exact hR.2
  · obtain ⟨σ2, e2, f2, -⟩ := hRd σ1 (f1.1 66 (by simp)) (f1.1 67 (by simp))
    rw [if_neg (fun y => hz (hrv.mp y))]
    refine ⟨-4, σ1, σ2, rfl, ?_, (hR.fr f1 rfl rfl).fm f2⟩
    unfold F_M_town
    rw [bp_s h2, if_neg (by decide), gi ht (by decide), c31 (by omega), f1.1 66 (by simp), h66, if_pos (nI_pos' (by omega)), bc_s e2, if_neg (fun y => hz (hrv.mp y))]
