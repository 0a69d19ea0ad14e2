/-! the model's fire; burns, held, idle -/
def FB (a b : GS) : Prop := Fr [63, 75, 78, 79, 86, 87] a b ∧ ∀ j, j ≠ 29 → b.1 63 j = a.1 63 j
theorem FB.refl (a : GS) : FB a a := ⟨Fr.refl _ _, fun _ _ => rfl⟩
theorem FB.trans {a b c : GS} (h : FB a b) (h2 : FB b c) : FB a c := ⟨h.1.trans h2.1, fun j hj => (h2.2 j hj).trans (h.2 j hj)⟩
theorem FB.of {S : List Nat} {a b : GS} (f : Fr S a b) (h : ∀ x ∈ S, x ∈ [75, 78, 79, 86, 87]) : FB a b := by
  refine ⟨f.mono fun x hx => ?_, fun j _ => ?_⟩
  · have := h x hx
    simp at this ⊢
    omega
  · rw [f.1 63 fun q => by
      have := h 63 q
      simp at this]
theorem FB.s29 {σ : GS} {v : Int32} : FB σ (s1 σ 63 29 v) := ⟨Fr.s1 (by simp), fun j hj => s1_i hj⟩
theorem Rel.fb {σ σ' : GS} (hR : Rel σ) (f : FB σ σ') : Rel σ' := by
  refine ⟨hR.1.fr f.1 rfl, ?_⟩
  unfold RL
  rw [f.1.1 0 (by simp), f.2 12 (by decide), f.2 9 (by decide), f.1.2, f.1.1 62 (by simp), f.1.1 73 (by simp)]
  exact hR.2
def MF (x : Int32) (cs : List Nat) (t : GS) (F : List (List Nat)) : Prop := t.1 63 29 = nI F.length ∧ (∀ k, k < F.length → t.1 86 k = nI (cdv (F.getD k []))) ∧ ∀ i, i < cs.length → t.1 87 i = if nI i = x then 0 else nI (cdv (gdw cs i))
theorem MF.fr {x : Int32} {cs : List Nat} {t t' : GS} {F : List (List Nat)} (h : MF x cs t F) (f : ∀ c, c = 63 ∨ c = 86 ∨ c = 87 → t'.1 c = t.1 c) : MF x cs t' F := by
  unfold MF
  rw [f 63 (by omega), f 86 (by omega), f 87 (by omega)]
  exact h
theorem isBurn {x : Int32} {cs : List Nat} {t : GS} {F : List (List Nat)} {v : List Nat} (hM : MF x cs t F) (hF : FV 4 F) (hv : wv v) (hl : v.length ≤ 9) : F_M_isBurning (nI (cdv v)) t = some (if v ∈ F then 1 else 0) := by
  unfold F_M_isBurning
  rw [jn_s]
  have hlen := hF.len
  refine lpE (G := fun n k (b : Int32) => F_M_isBurning_4 (nI (cdv v)) t (fun (v2_1 : Int32) (v3_1 : Int32) => gd (bB v2_1) (some v2_1)) n b (nI k)) (P := fun o => o = some (if v ∈ F then 1 else 0)) (Inv := fun k b => b = if v ∈ F.take k then 1 else 0) (N := F.length) ?_ ?_ F.length 0 50000 0 (by omega) (by omega) (by simp)
  · intro n k b hk h
    refine Or.inr ⟨if v ∈ F.take (k + 1) then 1 else 0, ?_, rfl⟩
    show F_M_isBurning_4 (nI (cdv v)) t _ (n + 1) b (nI k) = F_M_isBurning_4 (nI (cdv v)) t _ n _ (nI (k + 1))
    obtain ⟨w1, w2, w3⟩ := hF.2 _ (getD_memL hk)
    have iff1 : v ∈ F.take (k + 1) ↔ v ∈ F.take k ∨ F.getD k [] = v := by rw [take_snocL hk, List.mem_append, List.mem_singleton, eq_comm (a := v)]
    rw [F_M_isBurning_4.eq_2, hM.1, if_neg (nI_ge hk (by omega)), jn_s, nI_1, h]
    by_cases z : v ∈ F.take k
    · rw [if_pos z, if_neg (by decide), if_pos (iff1.mpr (Or.inl z))]
    · rw [if_neg z, if_pos rfl, gi (by omega) (by decide), c31 (by omega), hM.2.1 k hk]
      by_cases y : F.getD k [] = v
      · rw [if_pos ((cdv_eqI w1 hv (by omega) hl).mpr y), if_pos (iff1.mpr (Or.inr y))]
      · rw [if_neg (fun q => y ((cdv_eqI w1 hv (by omega) hl).mp q)), if_neg (fun q => (iff1.mp q).elim z y)]
  · intro n b h
    show F_M_isBurning_4 (nI (cdv v)) t _ (n + 1) b (nI F.length) = _
    rw [F_M_isBurning_4.eq_2, hM.1, if_pos (nI_le (Nat.le_refl _) (by omega)), h, List.take_length]
    by_cases z : v ∈ F
    · rw [if_pos z]; rfl
    · rw [if_neg z]; rfl
theorem guardM {x x2 v5 u6 v7 v8 : Int32} {cs : List Nat} {t : GS} {F : List (List Nat)} {v : List Nat} {K : Int32 → Int32 → Option (Int32 × GS)} (hM : MF x cs t F) (h0 : [] ∈ F) (hcl : cs.length ≤ 20) (hcs : ∀ i, i < cs.length → isC (cs.getD i 0) = true) (hv : wv v) (hl : v.length ≤ 9) : F_M_fire_148 x2 (nI cs.length) v5 u6 v7 v8 (nI (cdv v)) t K 50000 (if v ∈ F then 1 else 0) 0 = K (if v ∈ F ∨ blP cs x cs.length v = true then 1 else 0) (nI cs.length) := by
  refine lpE (G := fun n k (b : Int32) => F_M_fire_148 x2 (nI cs.length) v5 u6 v7 v8 (nI (cdv v)) t K n b (nI k)) (P := fun o => o = K (if v ∈ F ∨ blP cs x cs.length v = true then 1 else 0) (nI cs.length)) (Inv := fun k b => b = if v ∈ F ∨ blP cs x k v = true then 1 else 0) (N := cs.length) ?_ ?_ cs.length 0 50000 _ (by omega) (by omega) (by simp [blP])
  · intro n i b hi h
    refine Or.inr ⟨if v ∈ F ∨ blP cs x (i + 1) v = true then 1 else 0, ?_, rfl⟩
    show F_M_fire_148 x2 (nI cs.length) v5 u6 v7 v8 (nI (cdv v)) t K (n + 1) b (nI i) = F_M_fire_148 x2 (nI cs.length) v5 u6 v7 v8 (nI (cdv v)) t K n _ (nI (i + 1))
    obtain ⟨w1, w2, w3⟩ := gdw_ok (hcs i hi)
    rw [F_M_fire_148.eq_2, if_neg (nI_ge hi (by omega)), jn_s, nI_1, h]
    by_cases z : v ∈ F ∨ blP cs x i v = true
    · rw [if_pos z, if_neg (by decide), if_pos (z.imp id fun q => by rw [blP_s, q, Bool.true_or])]
    · have zF : v ∉ F := fun q => z (Or.inl q)
      have zB : blP cs x i v = false := Bool.eq_false_iff.mpr fun q => z (Or.inr q)
      rw [if_neg z, if_pos rfl, gi (by omega) (by decide), c31 (by omega), hM.2.2 i hi]
      by_cases ex : nI i = x
      · have hv0 : v ≠ [] := fun e => zF (e ▸ h0)
        have h0' : ¬ (0 : Int32) = nI (cdv v) := fun q => hv0 ((cdv_eqI wv_nil hv (by decide) hl).mp q).symm
        rw [if_pos ex, if_neg h0', blP_s, zB, decide_eq_false (fun q => q ex), Bool.false_and, Bool.or_false, if_neg (fun q => q.elim zF (by decide))]
      · rw [if_neg ex]
        by_cases y : gdw cs i = v
        · rw [if_pos ((cdv_eqI w1 hv w3 hl).mpr y), if_pos (Or.inr (by rw [blP_s, decide_eq_true ex, y, beq_self_eq_true, Bool.true_and, Bool.or_true]))]
        · rw [if_neg (fun q => y ((cdv_eqI w1 hv w3 hl).mp q)), blP_s, zB, beq_eq_false_iff_ne.mpr y, Bool.and_false, Bool.or_false, if_neg (fun q => q.elim zF (by decide))]
  · intro n b h
    show F_M_fire_148 x2 (nI cs.length) v5 u6 v7 v8 (nI (cdv v)) t K (n + 1) b (nI cs.length) = _
    rw [F_M_fire_148.eq_2, if_pos (nI_le (Nat.le_refl _) (by omega)), h]
theorem spreadM {x x2 v5 u6 : Int32} {cs : List Nat} {t : GS} {F : List (List Nat)} {k : Nat} {w : List Nat} (hM : MF x cs t F) (hF : FV 4 F) (h0 : [] ∈ F) (hcl : cs.length ≤ 20) (hcs : ∀ i, i < cs.length → isC (cs.getD i 0) = true) (hk : k < F.length) (ew : F.getD k [] = w) (w1 : wv w) (w2 : good w) (w3 : w.length ≤ 3) : ∃ t', MF x cs t' (fsp (blP cs x cs.length) w F 5) ∧ FB t t' ∧ ∀ K : Int32 → GS → Option (Int32 × GS), F_M_fire_97 x2 (nI cs.length) v5 u6 (nI k) K 50000 0 t = K (nI 5) t' := by
  have hlen := hF.len
  have := lpE (G := fun n s (t' : GS) => fun (K : Int32 → GS → Option (Int32 × GS)) => F_M_fire_97 x2 (nI cs.length) v5 u6 (nI k) K n (nI s) t') (P := fun o => ∃ t', MF x cs t' (fsp (blP cs x cs.length) w F 5) ∧ FB t t' ∧ ∀ K, o K = K (nI 5) t') (Inv := fun s t' => MF x cs t' (fsp (blP cs x cs.length) w F s) ∧ FB t t') (N := 5) ?_ ?_ 5 0 50000 t (by omega) (by omega) ⟨hM, FB.refl _⟩
  · exact this
  · intro n s t1 hs ⟨i1, i2⟩
    have hFs := hF.stS (B := blP cs x cs.length) w1 w2 (by omega) s (by omega)
    have hFs1 := hF.stS (B := blP cs x cs.length) w1 w2 (by omega) (s + 1) (by omega)
    have hpl := (fsp_pre (blP cs x cs.length) w F s).length_le
    have e86 := i1.2.1 k (by omega)
    rw [getD_pre (fsp_pre _ w F s) hk, ew] at e86
    obtain ⟨t2, e2, a2, v2, f2⟩ := follow0 (q := 75) (σ := t1) (cdv_isC w1 (by omega))
    rw [wd_cdv w1 (by omega)] at e2 a2 v2
    have lr := len_rd_le w1
    obtain ⟨t3, e3, a3, f3⟩ := times_spec a2 v2 (s := s) (by omega) hs
    rw [← rd_snoc] at e3 a3
    have hws : wv (w ++ [s]) := wv_app w1 fun y hy => by rw [List.mem_singleton.mp hy]; exact hs
    have he := eqv_rd (w ++ [s])
    rw [nf_snoc, nf_of_good w2] at he
    have lr2 := len_rd_le hws
    rw [List.length_append, List.length_singleton] at lr2
    have g1 := wv_go w1 hs
    have g2 := good_go w2 s
    have g3 := len_go_le w s
    obtain ⟨t4, e4, f4⟩ := codeOf_spec (q1 := 75) (σ := t3) (u := go w s) (by decide) g2.1 g1 he (wv_rd hws) (by omega) a3
    have f14 : Fr [75, 78, 79] t1 t4 := ((f2.mono (by simp)).trans (f3.mono (by simp))).trans (f4.mono (by simp))
    have m4 : MF x cs t4 (fsp (blP cs x cs.length) w F s) := i1.fr fun c hc => f14.1 c (by simp; omega)
    have e5 := isBurn m4 hFs g1 (by omega)
    have e6 := fun (K : Int32 → Int32 → Option (Int32 × GS)) => guardM (x2 := x2) (v5 := v5) (u6 := u6) (v7 := nI k) (v8 := nI s) (K := K) m4 (pre_mem (fsp_pre _ w F s) h0) hcl hcs g1 (by omega)
    have hb : FB t t4 := i2.trans (FB.of f14 (by simp))
    by_cases z : go w s ∈ fsp (blP cs x cs.length) w F s ∨ blP cs x cs.length (go w s) = true
    · refine Or.inr ⟨t4, ?_, ?_, hb⟩
      · funext K
        show F_M_fire_97 x2 (nI cs.length) v5 u6 (nI k) K (n + 1) (nI s) t1 = F_M_fire_97 x2 (nI cs.length) v5 u6 (nI k) K n (nI (s + 1)) t4
        rw [F_M_fire_97.eq_2, if_neg (show ¬ (5 : Int32) ≤ nI s from nI_ge (b := 5) hs (by decide)), gi (by omega) (by decide), c31 (n := k) (by omega), e86, bc_s e2, bc_s e3, bc_s e4, bp_s e5, jn_s, e6, if_pos z, if_neg (by decide), nI_1]
      · rw [fsp_s]
        unfold fs1
        rw [if_pos z]
        exact m4
    · have eF : fsp (blP cs x cs.length) w F (s + 1) = fsp (blP cs x cs.length) w F s ++ [go w s] := by
        rw [fsp_s]
        unfold fs1
        rw [if_neg z]
      have hl2 := hFs1.len
      rw [eF, List.length_append, List.length_singleton] at hl2
      have h29 : (s1 t4 86 (fsp (blP cs x cs.length) w F s).length (nI (cdv (go w s)))).1 63 29 = nI (fsp (blP cs x cs.length) w F s).length := by rw [s1_c (by decide), m4.1]
      refine Or.inr ⟨s1 (s1 t4 86 (fsp (blP cs x cs.length) w F s).length (nI (cdv (go w s)))) 63 29 (nI ((fsp (blP cs x cs.length) w F s).length + 1)), ?_, ?_, (hb.trans (FB.of (S := [86]) (Fr.s1 (by simp)) (by simp))).trans FB.s29⟩
      · funext K
        show F_M_fire_97 x2 (nI cs.length) v5 u6 (nI k) K (n + 1) (nI s) t1 = F_M_fire_97 x2 (nI cs.length) v5 u6 (nI k) K n (nI (s + 1)) _
        rw [F_M_fire_97.eq_2, if_neg (show ¬ (5 : Int32) ≤ nI s from nI_ge (b := 5) hs (by decide)), gi (by omega) (by decide), c31 (n := k) (by omega), e86, bc_s e2, bc_s e3, bc_s e4, bp_s e5, jn_s, e6, if_neg z, if_pos rfl, m4.1, gi (by omega) (by decide), c31 (n := (fsp (blP cs x cs.length) w F s).length) (by omega), jn_s, h29, nI_1, jn_s, nI_1]
      · rw [eF]
        refine ⟨?_, fun j hj => ?_, fun j hj => ?_⟩
        · rw [s1_at, List.length_append]
          rfl
        · rw [List.length_append, List.length_singleton] at hj
          rw [s1_c (by decide), getD_snocL (by omega)]
          by_cases e : j = (fsp (blP cs x cs.length) w F s).length
          · rw [e, s1_at, if_pos rfl]
          · rw [s1_i e, if_neg e, m4.2.1 j (by omega)]
        · rw [s1_c (by decide), s1_c (by decide)]
          exact m4.2.2 j hj
  · intro n t1 ⟨i1, i2⟩
    refine ⟨t1, i1, i2, fun K => ?_⟩
    show F_M_fire_97 x2 (nI cs.length) v5 u6 (nI k) K (n + 1) (nI 5) t1 = _
    rw [F_M_fire_97.eq_2, if_pos (by decide)]
theorem fhourM {x x2 v5 : Int32} {cs : List Nat} {t : GS} {F : List (List Nat)} (hM : MF x cs t F) (hF : FV 3 F) (h0 : [] ∈ F) (hcl : cs.length ≤ 20) (hcs : ∀ i, i < cs.length → isC (cs.getD i 0) = true) : ∃ t', MF x cs t' (fho (blP cs x cs.length) F F) ∧ FB t t' ∧ ∀ K : Int32 → GS → Option (Int32 × GS), F_M_fire_87 x2 (nI cs.length) v5 (nI F.length) K 50000 0 t = K (nI F.length) t' := by
  have hl := (hF.mono (by omega) : FV 4 F).len
  have := lpE (G := fun n i (t' : GS) => fun (K : Int32 → GS → Option (Int32 × GS)) => F_M_fire_87 x2 (nI cs.length) v5 (nI F.length) K n (nI i) t') (P := fun o => ∃ t', MF x cs t' (fho (blP cs x cs.length) F F) ∧ FB t t' ∧ ∀ K, o K = K (nI F.length) t') (Inv := fun i t' => MF x cs t' (fho (blP cs x cs.length) (F.take i) F) ∧ FB t t') (N := F.length) ?_ ?_ F.length 0 50000 t (by omega) (by omega) ⟨hM, FB.refl _⟩
  · exact this
  · intro n i t1 hi ⟨i1, i2⟩
    obtain ⟨w1, w2, w3⟩ := hF.2 _ (getD_memL hi)
    have hFi : FV 4 (fho (blP cs x cs.length) (F.take i) F) := FV.stH (hF.mono (by omega)) fun w hw => by
      obtain ⟨a, b, c⟩ := hF.2 w (List.mem_of_mem_take hw)
      exact ⟨a, b, by omega⟩
    have hpl := (fho_pre (blP cs x cs.length) (F.take i) F).length_le
    obtain ⟨t2, m2, f2, e2⟩ := spreadM (x2 := x2) (v5 := v5) (u6 := nI F.length) i1 hFi (pre_mem (fho_pre _ _ F) h0) hcl hcs (by omega) (getD_pre (fho_pre (blP cs x cs.length) (F.take i) F) hi) w1 w2 w3
    refine Or.inr ⟨t2, ?_, ?_, i2.trans f2⟩
    · funext K
      show F_M_fire_87 x2 (nI cs.length) v5 (nI F.length) K (n + 1) (nI i) t1 = F_M_fire_87 x2 (nI cs.length) v5 (nI F.length) K n (nI (i + 1)) t2
      rw [F_M_fire_87.eq_2, if_neg (nI_ge hi (by omega)), jn_s, e2, nI_1]
    · rw [take_snocL hi, fho_snoc]
      exact m2
  · intro n t1 ⟨i1, i2⟩
    rw [List.take_length] at i1
    refine ⟨t1, i1, i2, fun K => ?_⟩
    show F_M_fire_87 x2 (nI cs.length) v5 (nI F.length) K (n + 1) (nI F.length) t1 = _
    rw [F_M_fire_87.eq_2, if_pos (nI_le (Nat.le_refl _) (by omega))]
theorem fireM {x : Int32} {r h : Nat} {cs : List Nat} {σ : GS} (hr : r < 6) (hh : h ≤ 4) (hcl : cs.length ≤ 20) (hcs : ∀ i, i < cs.length → isC (cs.getD i 0) = true) (h64 : σ.1 64 r = nI cs.length) (h65 : ∀ i, i < cs.length → σ.1 65 (40 * r + i) = nI (cs.getD i 0)) : ∃ σ', F_M_fire (nI r) (nI h) x σ = some (nI (fNF (blP cs x cs.length) h).1.length, σ') ∧ MF x cs σ' (fNF (blP cs x cs.length) h).1 ∧ FB σ σ' := by
  have hG : ∃ t', (∀ j, j < cs.length → t'.1 87 j = if nI j = x then 0 else nI (cdv (gdw cs j))) ∧ FB σ t' ∧ ∀ K : Int32 → GS → Option (Int32 × GS), F_M_fire_11 (nI r) (nI h) x (nI cs.length) K 50000 0 σ = K (nI cs.length) t' := by
    have := lpE (G := fun n i (t' : GS) => fun (K : Int32 → GS → Option (Int32 × GS)) => F_M_fire_11 (nI r) (nI h) x (nI cs.length) K n (nI i) t') (P := fun o => ∃ t', (∀ j, j < cs.length → t'.1 87 j = if nI j = x then 0 else nI (cdv (gdw cs j))) ∧ FB σ t' ∧ ∀ K, o K = K (nI cs.length) t') (Inv := fun i t' => (∀ j, j < i → t'.1 87 j = if nI j = x then 0 else nI (cdv (gdw cs j))) ∧ FB σ t') (N := cs.length) ?_ ?_ cs.length 0 50000 σ (by omega) (by omega) ⟨fun j hj => absurd hj (Nat.not_lt_zero _), FB.refl _⟩
    · exact this
    · intro n i t hi ⟨i1, i2⟩
      by_cases ex : nI i = x
      · refine Or.inr ⟨s1 t 87 i 0, ?_, fun j hj => ?_, i2.trans (FB.of (S := [87]) (Fr.s1 (by simp)) (by simp))⟩
        · funext K
          show F_M_fire_11 (nI r) (nI h) x (nI cs.length) K (n + 1) (nI i) t = F_M_fire_11 (nI r) (nI h) x (nI cs.length) K n (nI (i + 1)) _
          rw [F_M_fire_11.eq_2, if_neg (nI_ge hi (by omega)), if_pos ex, gi (by omega) (by decide), c31 (n := i) (by omega), jn_s, nI_1]
        · by_cases e : j = i
          · rw [e, s1_at, if_pos ex]
          · rw [s1_i e, i1 j (by omega)]
      · obtain ⟨t2, e2, f2⟩ := plainOfM_spec (σ := t) (hcs i hi)
        have e2 : F_M_plainOf (nI (cs.getD i 0)) t = some (nI (cdv (gdw cs i)), t2) := e2
        refine Or.inr ⟨s1 t2 87 i (nI (cdv (gdw cs i))), ?_, fun j hj => ?_, (i2.trans (FB.of f2 (by simp))).trans (FB.of (S := [87]) (Fr.s1 (by simp)) (by simp))⟩
        · funext K
          show F_M_fire_11 (nI r) (nI h) x (nI cs.length) K (n + 1) (nI i) t = F_M_fire_11 (nI r) (nI h) x (nI cs.length) K n (nI (i + 1)) _
          rw [F_M_fire_11.eq_2, if_neg (nI_ge hi (by omega)), if_neg ex, ix40, gi (by omega) (by decide), c31 (n := 40 * r + i) (by omega), i2.1.1 65 (by simp), h65 i hi, bc_s e2, gi (by omega) (by decide), c31 (n := i) (by omega), jn_s, nI_1]
        · by_cases e : j = i
          · rw [e, s1_at, if_neg ex]
          · rw [s1_i e, f2.1 87 (by simp), i1 j (by omega)]
    · intro n t ⟨i1, i2⟩
      refine ⟨t, i1, i2, fun K => ?_⟩
      show F_M_fire_11 (nI r) (nI h) x (nI cs.length) K (n + 1) (nI cs.length) t = _
      rw [F_M_fire_11.eq_2, if_pos (nI_le (Nat.le_refl _) (by omega))]
  obtain ⟨t1, g1, f1, e1⟩ := hG
  unfold F_M_fire
  rw [gi hr (by decide), c31 (n := r) (by omega), h64, jn_s, jn_s, e1, jn_s, jn_s, jn_s]
  have m0 : MF x cs (s1 (s1 t1 86 0 0) 63 29 1) [[]] := by
    refine ⟨s1_at _ _ _ _, fun k hk => ?_, fun i hi => ?_⟩
    · have hk : k < 1 := hk
      rw [show k = 0 by omega, s1_c (by decide), s1_at]
      rfl
    · rw [s1_c (by decide), s1_c (by decide)]
      exact g1 i hi
  have f0 : FB σ (s1 (s1 t1 86 0 0) 63 29 1) := (f1.trans (FB.of (S := [86]) (Fr.s1 (by simp)) (by simp))).trans FB.s29
  refine lpE (G := fun n k (t : GS) => F_M_fire_72 (nI h) (nI cs.length) (fun (v5_6 : Int32) (σL6 : GS) => some (σL6.1 63 29, σL6)) n (nI k) t) (P := fun o => ∃ σ', o = some (nI (fNF (blP cs x cs.length) h).1.length, σ') ∧ MF x cs σ' (fNF (blP cs x cs.length) h).1 ∧ FB σ σ') (Inv := fun k t => MF x cs t (fNF (blP cs x cs.length) k).1 ∧ FB σ t) (N := h) ?_ ?_ h 0 50000 _ (by omega) (by omega) ⟨m0, f0⟩
  · intro n k t hk ⟨h2, h3⟩
    obtain ⟨t', m', f', e'⟩ := fhourM (x2 := nI h) (v5 := nI k) h2 ((fNF_FV (blP cs x cs.length) k).mono (by omega)) (fNF_home _ k) hcl hcs
    rw [fNF_M] at m'
    refine Or.inr ⟨t', ?_, m', h3.trans f'⟩
    show F_M_fire_72 (nI h) (nI cs.length) _ (n + 1) (nI k) t = F_M_fire_72 (nI h) (nI cs.length) _ n (nI (k + 1)) t'
    rw [F_M_fire_72.eq_2, if_neg (nI_ge hk (by omega)), jn_s, jn_s, h2.1, e', nI_1]
  · intro n t ⟨h2, h3⟩
    refine ⟨t, ?_, h2, h3⟩
    show F_M_fire_72 (nI h) (nI cs.length) _ (n + 1) (nI h) t = _
    rw [F_M_fire_72.eq_2, if_pos (nI_le (Nat.le_refl _) (by omega)), h2.1]
theorem stp_burns : St_burns Rel := by
  intro σ hR a1 a2
  unfold F_X_burns
  rcases bt_c a2 0 4 (by decide) (by decide) with ⟨q1, q2⟩ | ⟨h, q1, q2, rfl, q3⟩
  · exact ⟨-1, σ, σ, lo_hi (hi := 4) q2 _ _, by unfold F_M_burns; rw [show F_M_in a2.toInt64 0 4 = some 0 from q1]; rfl, hR⟩
  rw [if_neg (nI_pos (by omega)), if_pos (show nI h ≤ (4 : Int32) from nI_le (b := 4) q2 (by decide))]
  have eI : F_M_in (nI h).toInt64 0 4 = some 1 := q3
  rcases cod_c hR a1 (M := 20) (by decide) with ⟨v, σ1, σ2, e1, hv, hv2, e2, h'⟩ | ⟨r, cs, hr, rfl, hl40, hl, hcs, h8, h64, ha, eX, eM⟩
  · exact ⟨v, σ1, σ2, by rw [bc_s (show F_X_codesRefusal a1 20 σ = _ from e1), if_neg hv], by unfold F_M_burns; rw [bp_s eI, if_neg (by decide), bc_s (show F_M_noCodes a1 20 σ1 = _ from e2), if_neg hv2], h'⟩
  obtain ⟨σ1, e1, q1', g1, f1⟩ := guards_spec hR.1.2.2.2.2.2 hr hl hcs h8 ha
  obtain ⟨σ2, e2, -, f2⟩ := burnX (x := -9) (h := h) hl hcs q1' g1 q2
  have k64 : σ2.1 64 = σ.1 64 := by rw [f2.1.1 64 (by simp), f1.1 64 (by simp)]
  have k65 : σ2.1 65 = σ.1 65 := by rw [f2.1.1 65 (by simp), f1.1 65 (by simp)]
  have hR2 : Rel σ2 := hR.qt ((f1.mono (by simp)).trans (f2.1.mono (by simp))) (q1'.fq f2)
  obtain ⟨σ3, e3, -, f3⟩ := fireM (x := -9) (r := r) (h := h) (cs := cs) (σ := σ2) hr q2 hl hcs (by rw [k64]; exact h64) (fun i hi => by rw [k65, ← hR.1.1.2 r hr i (by omega)]; exact ha i hi)
  refine ⟨_, σ2, σ3, by rw [bc_s (show F_X_codesRefusal (nI r) 20 σ = _ from eX), if_pos rfl, bv_s e1, bc_s e2], ?_, hR2.fb f3⟩
  unfold F_M_burns
  rw [bp_s eI, if_neg (by decide), bc_s (show F_M_noCodes (nI r) 20 σ2 = _ from eM σ2 k64 k65), if_pos (by decide), bc_s e3]
-- held
def edg (F : List (List Nat)) : Bool := F.any (fun v => decide (v.length = 4))
theorem edg_snoc (F : List (List Nat)) (v : List Nat) : edg (F ++ [v]) = (edg F || decide (v.length = 4)) := by
  unfold edg
  rw [List.any_append, List.any_cons, List.any_nil, Bool.or_false]
theorem edgeX {B : List Nat → Bool} {t : GS} {F : List (List Nat)} (hX : XF B t F) (hq : QT t) (hF : FV 4 F) : F_Qu_edgeBurns t = some (if edg F = true then 1 else 0) := by
  unfold F_Qu_edgeBurns
  rw [jn_s]
  have hlen := hF.len
  refine lpE (G := fun n k (_ : Unit) => F_Qu_edgeBurns_2 t (fun (v1_1 : Int32) => some (0 : Int32)) n (nI k)) (P := fun o => o = some (if edg F = true then 1 else 0)) (Inv := fun k _ => edg (F.take k) = false) (N := F.length) ?_ ?_ F.length 0 50000 () (by omega) (by omega) rfl
  · intro n k _ hk h
    have hmem := getD_memL hk
    obtain ⟨w1, w2, w3⟩ := hF.2 _ hmem
    have hx := qx_lt w2 w1 w3
    have hxw := qw_x w2 w1 w3
    have e56 := (hq.2.1 _ hx).2.1
    rw [hxw] at e56
    have e : F_Qu_edgeBurns_2 t (fun (v1_1 : Int32) => some (0 : Int32)) (n + 1) (nI k) = if nI (F.getD k []).length = 4 then some 1 else F_Qu_edgeBurns_2 t (fun (v1_1 : Int32) => some (0 : Int32)) n (nI (k + 1)) := by
      rw [F_Qu_edgeBurns_2.eq_2, hX.1, if_neg (nI_ge hk (by omega)), gi (by omega) (by decide), c31 (n := k) (by omega), hX.2.1 k hk, gi hx (by decide), c31 (n := qL.idxOf (F.getD k [])) (by omega), e56, nI_1]
    by_cases z : (F.getD k []).length = 4
    · refine Or.inl ?_
      show F_Qu_edgeBurns_2 t _ (n + 1) (nI k) = _
      have : edg F = true := List.any_eq_true.mpr ⟨_, hmem, decide_eq_true z⟩
      rw [e, z, if_pos (by decide), this, if_pos rfl]
    · refine Or.inr ⟨(), ?_, ?_⟩
      · show F_Qu_edgeBurns_2 t _ (n + 1) (nI k) = _
        rw [e, if_neg (show ¬ nI (F.getD k []).length = (4 : Int32) from fun q => z ((nI_eq (b := 4) (by omega) (by decide)).mp q))]
      · rw [take_snocL hk, edg_snoc, h, decide_eq_false z]
        rfl
  · intro n _ h
    rw [List.take_length] at h
    show F_Qu_edgeBurns_2 t _ (n + 1) (nI F.length) = _
    rw [F_Qu_edgeBurns_2.eq_2, hX.1, if_pos (nI_le (Nat.le_refl _) (by omega)), h]
    rfl
theorem heldM {x : Int32} {cs : List Nat} {t : GS} {F : List (List Nat)} {K : Int32 → Int32 → Option (Int32 × GS)} (hM : MF x cs t F) (hF : FV 4 F) : F_M_held_33 t K 50000 1 0 = K (if edg F = true then 0 else 1) (nI F.length) := by
  have hlen := hF.len
  refine lpE (G := fun n k (b : Int32) => F_M_held_33 t K n b (nI k)) (P := fun o => o = K (if edg F = true then 0 else 1) (nI F.length)) (Inv := fun k b => b = if edg (F.take k) = true then 0 else 1) (N := F.length) ?_ ?_ F.length 0 50000 1 (by omega) (by omega) rfl
  · intro n k b hk h
    refine Or.inr ⟨if edg (F.take (k + 1)) = true then 0 else 1, ?_, rfl⟩
    show F_M_held_33 t K (n + 1) b (nI k) = F_M_held_33 t K n _ (nI (k + 1))
    obtain ⟨w1, w2, w3⟩ := hF.2 _ (getD_memL hk)
    have ef := figures_spec (cdv_isC w1 (by omega))
    rw [(cdv_dg _ w1 (by omega)).2, List.length_reverse] at ef
    rw [F_M_held_33.eq_2, hM.1, if_neg (nI_ge hk (by omega)), nI_1, h, take_snocL hk, edg_snoc]
    by_cases z : edg (F.take k) = true
    · rw [if_pos z, if_pos rfl, z, Bool.true_or, if_pos rfl]
    · rw [if_neg z, if_neg (by decide), gi (by omega) (by decide), c31 (n := k) (by omega), hM.2.1 k hk, bp_s ef, Bool.eq_false_iff.mpr z, Bool.false_or]
      by_cases y : (F.getD k []).length = 4
      · rw [y, if_pos (by decide), decide_eq_true rfl, if_pos rfl]
      · rw [if_neg (show ¬ (4 : Int32) ≤ nI _ from nI_ge (b := 4) (by omega) (by decide)), decide_eq_false y, if_neg (by decide)]
  · intro n b h
    show F_M_held_33 t K (n + 1) b (nI F.length) = _
    rw [F_M_held_33.eq_2, hM.1, if_pos (nI_le (Nat.le_refl _) (by omega)), h, List.take_length]
theorem stp_held : St_held Rel := by
  intro σ hR a1
  unfold F_X_held
  rcases cod_c hR a1 (M := 20) (by decide) with ⟨v, σ1, σ2, e1, hv, hv2, e2, h'⟩ | ⟨r, cs, hr, rfl, hl40, hl, hcs, h8, h64, ha, eX, eM⟩
  · exact ⟨v, σ1, σ2, by rw [bc_s (show F_X_codesRefusal a1 20 σ = _ from e1), if_neg hv], by unfold F_M_held; rw [bc_s (show F_M_noCodes a1 20 σ1 = _ from e2), if_neg hv2], h'⟩
  obtain ⟨σ1, e1, q1', g1, f1⟩ := guards_spec hR.1.2.2.2.2.2 hr hl hcs h8 ha
  obtain ⟨σ2, e2, x2, f2⟩ := burnX (x := -9) (h := 4) hl hcs q1' g1 (by decide)
  have e2 : F_Qu_burn (-9) 4 σ1 = some (nI (fNF (blP cs (-9) cs.length) 4).1.length, σ2) := e2
  have hF := fNF_FV (blP cs (-9) cs.length) 4
  have hR2 : Rel σ2 := hR.qt ((f1.mono (by simp)).trans (f2.1.mono (by simp))) (q1'.fq f2)
  have x3 : XF (blP cs (-9) cs.length) (s1 σ2 0 16 (nI (fNF (blP cs (-9) cs.length) 4).1.length)) (fNF (blP cs (-9) cs.length) 4).1 := by
    unfold XF
    rw [s1_c (k' := 54) (by decide), s1_c (k' := 60) (by decide), s1_c (k' := 59) (by decide)]
    exact x2
  have q3 : QT (s1 σ2 0 16 (nI (fNF (blP cs (-9) cs.length) 4).1.length)) := (q1'.fq f2).fr (by rw [s1_c (by decide)]) fun c hc => s1_c (by omega)
  have k64 : (s1 σ2 0 16 (nI (fNF (blP cs (-9) cs.length) 4).1.length)).1 64 = σ.1 64 := by rw [s1_c (by decide), f2.1.1 64 (by simp), f1.1 64 (by simp)]
  have k65 : (s1 σ2 0 16 (nI (fNF (blP cs (-9) cs.length) 4).1.length)).1 65 = σ.1 65 := by rw [s1_c (by decide), f2.1.1 65 (by simp), f1.1 65 (by simp)]
  have eE := edgeX x3 q3 hF
  obtain ⟨σ4, e4, m4, f4⟩ := fireM (x := -9) (r := r) (h := 4) (cs := cs) (σ := s1 σ2 0 16 (nI (fNF (blP cs (-9) cs.length) 4).1.length)) hr (by decide) hl hcs (by rw [k64]; exact h64) (fun i hi => by rw [k65, ← hR.1.1.2 r hr i (by omega)]; exact ha i hi)
  have e4 : F_M_fire (nI r) 4 (-9) (s1 σ2 0 16 (nI (fNF (blP cs (-9) cs.length) 4).1.length)) = some (nI (fNF (blP cs (-9) cs.length) 4).1.length, σ4) := e4
  have eM' := eM _ k64 k65
  have eM' : F_M_noCodes (nI r) 20 (s1 σ2 0 16 (nI (fNF (blP cs (-9) cs.length) 4).1.length)) = some (0, s1 σ2 0 16 (nI (fNF (blP cs (-9) cs.length) 4).1.length)) := eM'
  have eX : F_X_codesRefusal (nI r) 20 σ = some (0, σ) := eX
  generalize (fNF (blP cs (-9) cs.length) 4).1 = F at *
  have m5 : MF (-9) cs (s1 σ4 63 9 (nI F.length)) F := by
    refine ⟨by rw [s1_i (by decide)]; exact m4.1, fun k hk => by rw [s1_c (by decide)]; exact m4.2.1 k hk, fun i hi => by rw [s1_c (by decide)]; exact m4.2.2 i hi⟩
  have eT : F_M_tell (nI F.length) σ4 = some (1, s1 σ4 63 9 (nI F.length)) := rfl
  refine ⟨if edg F = true then 0 else 1, s1 σ2 0 16 (nI F.length), s1 σ4 63 9 (nI F.length), ?_, ?_, ?_, ?_⟩
  · rw [bc_s eX, if_pos rfl, bv_s e1, bc_s e2, jn_s, bp_s eE]
    by_cases z : edg F = true
    · rw [if_pos z, if_pos z, if_neg (by decide)]
    · rw [if_neg z, if_neg z, if_pos rfl]
  · unfold F_M_held
    rw [bc_s eM', if_pos (by decide), bc_s e4, bc_s eT, jn_s, heldM m5 hF]
    by_cases z : edg F = true
    · rw [if_pos z, if_pos rfl]
    · rw [if_neg z, if_neg (by decide)]
  · exact ((hR2.1.fr (S := [0]) (Fr.s1 (by simp)) rfl).fr f4.1 rfl).fr (S := [63]) (Fr.s1 (by simp)) rfl
  · refine hR2.2.ask (nI F.length) ?_ ?_ ?_ ?_ ?_ ?_ ?_
    · rw [s1_c (by decide), f4.1.1 0 (by simp), s1_at]
    · rw [s1_c (by decide), f4.1.1 0 (by simp), s1_i (by decide)]
    · exact s1_at _ _ _ _
    · rw [s1_i (by decide), f4.2 12 (by decide), s1_c (by decide)]
    · show σ4.2 = σ2.2
      rw [f4.1.2]
      rfl
    · rw [s1_c (by decide), f4.1.1 62 (by simp), s1_c (by decide)]
    · rw [s1_c (by decide), f4.1.1 73 (by simp), s1_c (by decide)]
-- idle
def idv (f : Nat → Bool) (i : Nat) : Nat → Int32
  | 0 => -9
  | d + 1 => if f i = true then nI i else idv f (i + 1) d
theorem idv_s (f : Nat → Bool) (i d : Nat) : idv f i (d + 1) = if f i = true then nI i else idv f (i + 1) d := rfl
theorem stp_idle : St_idle Rel := by
  intro σ hR a1
  unfold F_X_idle
  rcases cod_c hR a1 (M := 20) (by decide) with ⟨v, σ1, σ2, e1, hv, hv2, e2, h'⟩ | ⟨r, cs, hr, rfl, hl40, hl, hcs, h8, h64, ha, eX, eM⟩
  · exact ⟨v, σ1, σ2, by rw [bc_s (show F_X_codesRefusal a1 20 σ = _ from e1), if_neg hv], by unfold F_M_idle; rw [bc_s (show F_M_noCodes a1 20 σ1 = _ from e2), if_neg hv2], h'⟩
  obtain ⟨σ1, e1, q1', g1, f1⟩ := guards_spec hR.1.2.2.2.2.2 hr hl hcs h8 ha
  obtain ⟨σ2, e2, x2, f2⟩ := burnX (x := -9) (h := 4) hl hcs q1' g1 (by decide)
  have e2 : F_Qu_burn (-9) 4 σ1 = some (nI (fNF (blP cs (-9) cs.length) 4).1.length, σ2) := e2
  have hlen : ∀ x, (fNF (blP cs x cs.length) 4).1.length ≤ 166 := fun x => (fNF_FV (blP cs x cs.length) 4).len
  obtain ⟨f, ef⟩ : ∃ f : Nat → Bool, f = fun i => decide ((fNF (blP cs (nI i) cs.length) 4).1.length = (fNF (blP cs (-9) cs.length) 4).1.length) := ⟨_, rfl⟩
  have hcmp : ∀ i, (nI (fNF (blP cs (nI i) cs.length) 4).1.length = nI (fNF (blP cs (-9) cs.length) 4).1.length) ↔ f i = true := fun i => by
    have h1 := hlen (nI i)
    have h2 := hlen (-9)
    rw [nI_eq (by omega) (by omega), ef]
    exact ⟨fun q => decide_eq_true q, fun q => of_decide_eq_true q⟩
  have hX : ∃ σ', F_X_idle_33 (nI r) (nI (fNF (blP cs (-9) cs.length) 4).1.length) (fun (v4_9 : Int32) (σL9 : GS) => some ((-9 : Int32), σL9)) 50000 0 σ2 = some (idv f 0 cs.length, σ') ∧ FQb σ2 σ' := by
    refine lpE (G := fun n i (t : GS) => F_X_idle_33 (nI r) (nI (fNF (blP cs (-9) cs.length) 4).1.length) (fun (v4_9 : Int32) (σL9 : GS) => some ((-9 : Int32), σL9)) n (nI i) t) (P := fun o => ∃ σ', o = some (idv f 0 cs.length, σ') ∧ FQb σ2 σ') (Inv := fun i t => idv f 0 cs.length = idv f i (cs.length - i) ∧ FQb σ2 t) (N := cs.length) ?_ ?_ cs.length 0 50000 σ2 (by omega) (by omega) ⟨rfl, FQb.refl _⟩
    · intro n i t hi ⟨i1, i2⟩
      obtain ⟨t', e', -, f'⟩ := burnX (x := nI i) (h := 4) hl hcs ((q1'.fq f2).fq i2) ((g1.fq f2).fq i2) (by decide)
      have e' : F_Qu_burn (nI i) 4 t = some (nI (fNF (blP cs (nI i) cs.length) 4).1.length, t') := e'
      have ee : F_X_idle_33 (nI r) (nI (fNF (blP cs (-9) cs.length) 4).1.length) (fun (v4_9 : Int32) (σL9 : GS) => some ((-9 : Int32), σL9)) (n + 1) (nI i) t = if nI (fNF (blP cs (nI i) cs.length) 4).1.length = nI (fNF (blP cs (-9) cs.length) 4).1.length then some (nI i, t') else F_X_idle_33 (nI r) (nI (fNF (blP cs (-9) cs.length) 4).1.length) (fun (v4_9 : Int32) (σL9 : GS) => some ((-9 : Int32), σL9)) n (nI (i + 1)) t' := by
        rw [F_X_idle_33.eq_2, gi hr (by decide), c31 (n := r) (by omega), i2.1.1 8 (by simp), f2.1.1 8 (by simp), f1.1 8 (by simp), h8, if_neg (nI_ge hi (by omega)), bc_s e', nI_1]
      rw [show cs.length - i = (cs.length - (i + 1)) + 1 by omega, idv_s] at i1
      by_cases z : f i = true
      · rw [if_pos z] at i1
        refine Or.inl ⟨t', ?_, i2.trans f'⟩
        show F_X_idle_33 (nI r) _ _ (n + 1) (nI i) t = _
        rw [ee, if_pos ((hcmp i).mpr z), i1]
      · rw [if_neg z] at i1
        refine Or.inr ⟨t', ?_, i1, i2.trans f'⟩
        show F_X_idle_33 (nI r) _ _ (n + 1) (nI i) t = _
        rw [ee, if_neg (fun q => z ((hcmp i).mp q))]
    · intro n t ⟨i1, i2⟩
      rw [Nat.sub_self] at i1
      refine ⟨t, ?_, i2⟩
      show F_X_idle_33 (nI r) _ _ (n + 1) (nI cs.length) t = _
      rw [F_X_idle_33.eq_2, gi hr (by decide), c31 (n := r) (by omega), i2.1.1 8 (by simp), f2.1.1 8 (by simp), f1.1 8 (by simp), h8, if_pos (nI_le (Nat.le_refl _) (by omega)), i1]
      rfl
  obtain ⟨σ3, e3, f3⟩ := hX
  have k64 : σ3.1 64 = σ.1 64 := by rw [f3.1.1 64 (by simp), f2.1.1 64 (by simp), f1.1 64 (by simp)]
  have k65 : σ3.1 65 = σ.1 65 := by rw [f3.1.1 65 (by simp), f2.1.1 65 (by simp), f1.1 65 (by simp)]
  have hR3 : Rel σ3 := hR.qt (((f1.mono (by simp)).trans (f2.1.mono (by simp))).trans (f3.1.mono (by simp))) ((q1'.fq f2).fq f3)
  have hfire : ∀ (x : Int32) (t : GS), FB σ3 t → ∃ σ', F_M_fire (nI r) 4 x t = some (nI (fNF (blP cs x cs.length) 4).1.length, σ') ∧ FB t σ' := fun x t ft => by
    obtain ⟨σ', e', -, f'⟩ := fireM (x := x) (r := r) (h := 4) (cs := cs) (σ := t) hr (by decide) hl hcs (by rw [ft.1.1 64 (by simp), k64]; exact h64) (fun i hi => by rw [ft.1.1 65 (by simp), k65, ← hR.1.1.2 r hr i (by omega)]; exact ha i hi)
    exact ⟨σ', e', f'⟩
  obtain ⟨σ4, e4, f4⟩ := hfire (-9) σ3 (FB.refl _)
  have hM : ∃ σ', F_M_idle_26 (nI r) (nI (fNF (blP cs (-9) cs.length) 4).1.length) (fun (v4_7 : Int32) (σL7 : GS) => some ((-9 : Int32), σL7)) 50000 0 σ4 = some (idv f 0 cs.length, σ') ∧ FB σ3 σ' := by
    refine lpE (G := fun n i (t : GS) => F_M_idle_26 (nI r) (nI (fNF (blP cs (-9) cs.length) 4).1.length) (fun (v4_7 : Int32) (σL7 : GS) => some ((-9 : Int32), σL7)) n (nI i) t) (P := fun o => ∃ σ', o = some (idv f 0 cs.length, σ') ∧ FB σ3 σ') (Inv := fun i t => idv f 0 cs.length = idv f i (cs.length - i) ∧ FB σ3 t) (N := cs.length) ?_ ?_ cs.length 0 50000 σ4 (by omega) (by omega) ⟨rfl, f4⟩
    · intro n i t hi ⟨i1, i2⟩
      obtain ⟨t', e', f'⟩ := hfire (nI i) t i2
      have ee : F_M_idle_26 (nI r) (nI (fNF (blP cs (-9) cs.length) 4).1.length) (fun (v4_7 : Int32) (σL7 : GS) => some ((-9 : Int32), σL7)) (n + 1) (nI i) t = if nI (fNF (blP cs (nI i) cs.length) 4).1.length = nI (fNF (blP cs (-9) cs.length) 4).1.length then some (nI i, t') else F_M_idle_26 (nI r) (nI (fNF (blP cs (-9) cs.length) 4).1.length) (fun (v4_7 : Int32) (σL7 : GS) => some ((-9 : Int32), σL7)) n (nI (i + 1)) t' := by
        rw [F_M_idle_26.eq_2, gi hr (by decide), c31 (n := r) (by omega), i2.1.1 64 (by simp), k64, h64, if_neg (nI_ge hi (by omega)), bc_s e', nI_1]
      rw [show cs.length - i = (cs.length - (i + 1)) + 1 by omega, idv_s] at i1
      by_cases z : f i = true
      · rw [if_pos z] at i1
        refine Or.inl ⟨t', ?_, i2.trans f'⟩
        show F_M_idle_26 (nI r) _ _ (n + 1) (nI i) t = _
        rw [ee, if_pos ((hcmp i).mpr z), i1]
      · rw [if_neg z] at i1
        refine Or.inr ⟨t', ?_, i1, i2.trans f'⟩
        show F_M_idle_26 (nI r) _ _ (n + 1) (nI i) t = _
        rw [ee, if_neg (fun q => z ((hcmp i).mp q))]
    · intro n t ⟨i1, i2⟩
      rw [Nat.sub_self] at i1
      refine ⟨t, ?_, i2⟩
      show F_M_idle_26 (nI r) _ _ (n + 1) (nI cs.length) t = _
      rw [F_M_idle_26.eq_2, gi hr (by decide), c31 (n := r) (by omega), i2.1.1 64 (by simp), k64, h64, if_pos (nI_le (Nat.le_refl _) (by omega)), i1]
      rfl
  obtain ⟨σ5, e5, f5⟩ := hM
  refine ⟨idv f 0 cs.length, σ3, σ5, ?_, ?_, hR3.fb f5⟩
  · rw [bc_s (show F_X_codesRefusal (nI r) 20 σ = _ from eX), if_pos rfl, bv_s e1, bc_s e2, jn_s, e3]
  · unfold F_M_idle
    rw [bc_s (show F_M_noCodes (nI r) 20 σ3 = _ from eM σ3 k64 k65), if_pos (by decide), bc_s e4, jn_s, e5]
