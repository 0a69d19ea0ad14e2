theorem ps_3 (l : List Nat) (h tu : Nat) (w : Int32) : ps (3, l, h, tu, w) = if lset l = 0 then (3, l, h, tu, w) else (3, go l (lowN (lset l)), h, tu, w + 1) := rfl
theorem ps_n {kn : Nat} (hk : ¬ kn = 3) (l : List Nat) (h tu : Nat) (w : Int32) : ps (kn, l, h, tu, w) = (kn, if (go l h).length ≤ 9 then go l h else l, (tn kn h tu).1, (tn kn h tu).2, if (go l h).length ≤ 9 then w + 1 else w) := by
  unfold ps
  exact if_neg hk
theorem homeX_loop {k : Nat} {l : List Nat} {w : Int32} {σ : GS} (hk : k ≠ 32 ∧ k ≠ 33) (hv : wv l) (hl : l.length ≤ 9) (hR : Rep σ 32 l) (h4 : σ.1 k 4 = w) : ∃ σ', F_Wk_goHome k σ = some σ' ∧ (if lset l = 0 then σ' = σ else σ'.1 k 1 = nI (cdv (go l (lowN (lset l)))) ∧ σ'.1 k 4 = w + 1) ∧ (∀ j, j ≠ 1 → j ≠ 4 → σ'.1 k j = σ.1 k j) ∧ Fr [32, 33, k] σ σ' := by
  have hls := lset_lt hv
  unfold F_Wk_goHome
  rw [bp_s (lastStreets_spec hR), jn_s]
  by_cases h0 : lset l = 0
  · refine lpE (G := fun n i (t : GS) => F_Wk_goHome_7 k (nI (lset l)) (fun (v3_3 : Int32) (σL3 : GS) => some σL3) n (nI i) t) (P := fun o => ∃ σ', o = some σ' ∧ (if lset l = 0 then σ' = σ else σ'.1 k 1 = nI (cdv (go l (lowN (lset l)))) ∧ σ'.1 k 4 = w + 1) ∧ (∀ j, j ≠ 1 → j ≠ 4 → σ'.1 k j = σ.1 k j) ∧ Fr [32, 33, k] σ σ') (Inv := fun i t => t = σ) (N := 5) ?_ ?_ 5 0 50000 σ (by omega) (by omega) rfl
    · rintro n i t hi rfl
      refine Or.inr ⟨t, ?_, rfl⟩
      show F_Wk_goHome_7 k (nI (lset l)) _ (n + 1) (nI i) t = F_Wk_goHome_7 k (nI (lset l)) _ n (nI (i + 1)) t
      rw [F_Wk_goHome_7.eq_2, if_neg (show ¬ (5 : Int32) ≤ nI i from nI_ge (b := 5) hi (by decide)), if_neg (fun q => by rw [bit_s _ hls i hi, h0, Nat.zero_testBit] at q; cases q), nI_1]
    · rintro n t rfl
      refine ⟨t, ?_, by rw [if_pos h0], fun _ _ _ => rfl, Fr.refl _ _⟩
      show F_Wk_goHome_7 k (nI (lset l)) _ (n + 1) (nI 5) t = _
      rw [F_Wk_goHome_7.eq_2, if_pos (by decide)]
  · obtain ⟨b1, b2, -, b3⟩ := low_s _ hls h0
    obtain ⟨σ1, e1, r1, f1⟩ := go_spec hR (s := lowN (lset l)) (by omega) b1
    obtain ⟨-, g2⟩ := low_go hv h0
    refine lpE (G := fun n i (t : GS) => F_Wk_goHome_7 k (nI (lset l)) (fun (v3_3 : Int32) (σL3 : GS) => some σL3) n (nI i) t) (P := fun o => ∃ σ', o = some σ' ∧ (if lset l = 0 then σ' = σ else σ'.1 k 1 = nI (cdv (go l (lowN (lset l)))) ∧ σ'.1 k 4 = w + 1) ∧ (∀ j, j ≠ 1 → j ≠ 4 → σ'.1 k j = σ.1 k j) ∧ Fr [32, 33, k] σ σ') (Inv := fun i t => t = σ) (N := lowN (lset l)) ?_ ?_ (lowN (lset l)) 0 50000 σ (by omega) (by omega) rfl
    · rintro n i t hi rfl
      refine Or.inr ⟨t, ?_, rfl⟩
      show F_Wk_goHome_7 k (nI (lset l)) _ (n + 1) (nI i) t = F_Wk_goHome_7 k (nI (lset l)) _ n (nI (i + 1)) t
      rw [F_Wk_goHome_7.eq_2, if_neg (show ¬ (5 : Int32) ≤ nI i from nI_ge (b := 5) (by omega) (by decide)), if_neg (fun q => by rw [bit_s _ hls i (by omega), b3 i hi] at q; cases q), nI_1]
    · rintro n t rfl
      have ek : σ1.1 k = t.1 k := f1.1 k (by simp [hk.1, hk.2])
      refine ⟨s1 (s1 σ1 k 1 (nI (cdv (go l (lowN (lset l)))))) k 4 (w + 1), ?_, ?_, fun j h1 h4 => ?_, Fr.trans (f1.mono (by simp)) (Fr.trans (Fr.s1 (by simp)) (Fr.s1 (by simp)))⟩
      · show F_Wk_goHome_7 k (nI (lset l)) _ (n + 1) (nI (lowN (lset l))) t = _
        rw [F_Wk_goHome_7.eq_2, if_neg (show ¬ (5 : Int32) ≤ nI _ from nI_ge (b := 5) b1 (by decide)), if_pos ((bit_s _ hls _ b1).mpr b2), bv_s e1, bp_s (code_spec r1), if_pos (by omega), jn_s, s1_i (by decide), ek, h4, jn_s]
      · rw [if_neg h0]
        exact ⟨by rw [s1_i (by decide), s1_at], s1_at _ _ _ _⟩
      · rw [s1_i h4, s1_i h1, ek]
theorem passStreet_spec {k : Nat} {s : WS} {σ : GS} (hk : k ≠ 32 ∧ k ≠ 33) (hV : WV s) (hX : WX σ k s) : ∃ σ', F_Wk_passStreet k σ = some σ' ∧ WX σ' k (ps s) ∧ Fr [32, 33, k] σ σ' := by
  obtain ⟨kn, l, h, tu, w⟩ := s
  obtain ⟨h1, h2, h3, h4, h5, h6, h7⟩ := hV
  obtain ⟨x0, x1, x2, x3, x4⟩ := hX
  have hc := cdv_isC h2 h4
  have ek0 : (s1 σ 32 1 0).1 k = σ.1 k := s1_c hk.1
  obtain ⟨σ1, e1, r1, f1⟩ := goAlong_spec (w := 32) (clear_spec (w := 32) (σ := σ)).2 hc (Nat.zero_le _)
  rw [wd_cdv h2 h4, show fo [] l = nf l from rfl, nf_of_good h3] at r1
  have ek : σ1.1 k = σ.1 k := by rw [f1.1 k (by simp [hk.1, hk.2]), ek0]
  have f1' : Fr [32, 33] σ σ1 := Fr.trans (Fr.s1 (by simp)) f1
  unfold F_Wk_passStreet
  rw [bv_s (clear_spec (w := 32) (σ := σ)).1, ek0, x1, bv_s e1, ek, x0]
  by_cases k3 : kn = 3
  · subst k3
    obtain ⟨σ2, e2, g1, g2, f2⟩ := homeX_loop (k := k) (w := w) hk h2 h4 r1 (by rw [ek]; exact x4)
    refine ⟨σ2, by rw [if_pos (by decide), bv_s e2], ?_, (f1'.mono (by simp)).trans f2⟩
    rw [ps_3]
    by_cases h0 : lset l = 0
    · rw [if_pos h0] at g1 ⊢
      subst g1
      rw [WX, ek]
      exact ⟨x0, x1, x2, x3, x4⟩
    · rw [if_neg h0] at g1 ⊢
      exact ⟨by rw [g2 0 (by decide) (by decide), ek]; exact x0, g1.1, by rw [g2 2 (by decide) (by decide), ek]; exact x2, by rw [g2 3 (by decide) (by decide), ek]; exact x3, g1.2⟩
  · rw [if_neg (show ¬ nI kn = (3 : Int32) from fun q => k3 ((nI_eq (a := kn) (b := 3) (by omega) (by decide)).mp q)), x2]
    obtain ⟨σ2, e2, r2, f2⟩ := goNear_spec r1 h3 h4 h5
    have ek2 : σ2.1 k = σ.1 k := by rw [f2.1 k (by simp [hk.1, hk.2]), ek]
    -- behind the counting of streets
    have key : ∀ (σ3 : GS) (w' : Int32), Rep σ3 32 (if (go l h).length ≤ 9 then go l h else l) → (∀ j, j ≠ 4 → σ3.1 k j = σ.1 k j) → σ3.1 k 4 = w' → Fr [32, 33, k] σ σ3 → ∃ σ', bp (F_Wd_code 32 σ3) (fun (r10 : Int32) => jn (s1 σ3 k 1 r10) (fun (σ11 : GS) => bv (F_Wk_turn k σ11) (fun (σ13 : GS) => some σ13))) = some σ' ∧ WX σ' k (kn, if (go l h).length ≤ 9 then go l h else l, (tn kn h tu).1, (tn kn h tu).2, w') ∧ Fr [32, 33, k] σ σ' := fun σ3 w' hr hj hw hf => by
      have hlen : (if (go l h).length ≤ 9 then go l h else l).length ≤ 9 := by
        split
        · rename_i q; exact q
        · exact h4
      obtain ⟨σ4, e4, y2, y3, yj, f4⟩ := turnX (k := k) (kn := kn) (h := h) (tu := tu) (σ := s1 σ3 k 1 (nI (cdv (if (go l h).length ≤ 9 then go l h else l)))) h1 h5 h6 (by rw [s1_i (by decide), hj 0 (by decide)]; exact x0) (by rw [s1_i (by decide), hj 2 (by decide)]; exact x2) (by rw [s1_i (by decide), hj 3 (by decide)]; exact x3)
      refine ⟨σ4, by rw [bp_s (code_spec hr), if_pos hlen, jn_s, bv_s e4], ⟨?_, ?_, y2, y3, ?_⟩, hf.trans (Fr.trans (Fr.s1 (by simp)) (f4.mono (by simp)))⟩
      · rw [yj 0 (by decide) (by decide), s1_i (by decide), hj 0 (by decide)]; exact x0
      · rw [yj 1 (by decide) (by decide), s1_at]
      · rw [yj 4 (by decide) (by decide), s1_i (by decide)]; exact hw
    rw [ps_n k3, bc_s e2, jn_s]
    by_cases q : (go l h).length ≤ 9
    · rw [if_pos q, if_neg (by decide), jn_s, ek2, x4]
      obtain ⟨σ', e', hx, hf⟩ := key (s1 σ2 k 4 (w + 1)) (w + 1) (r2.fr (S := [k]) (Fr.s1 (by simp)) (by simp [Ne.symm hk.1]) (by simp [Ne.symm hk.2])) (fun j hj => by rw [s1_i hj, ek2]) (s1_at _ _ _ _) ((f1'.mono (by simp)).trans (Fr.trans (f2.mono (by simp)) (Fr.s1 (by simp))))
      rw [if_pos q] at hx
      exact ⟨σ', e', by rw [if_pos q, if_pos q]; exact hx, hf⟩
    · rw [if_neg q, if_pos rfl]
      obtain ⟨σ', e', hx, hf⟩ := key σ2 w r2 (fun j hj => by rw [ek2]) (by rw [ek2]; exact x4) ((f1'.mono (by simp)).trans (f2.mono (by simp)))
      rw [if_neg q] at hx
      exact ⟨σ', e', by rw [if_neg q, if_neg q]; exact hx, hf⟩
theorem goes_spec {q i : Nat} {s : WS} {σ : GS} (hq : q ≠ 75 ∧ q ≠ 78 ∧ q ≠ 79) (hi : i < 5) (hV : WV s) (hM : WM (σ.1 q) i s) : ∃ σ', F_M_goes q (nI i) σ = some σ' ∧ WM (σ'.1 q) i (ps s) ∧ (∀ j, j ≠ 7 + i → j ≠ 12 + i → j ≠ 17 + i → j ≠ 22 + i → σ'.1 q j = σ.1 q j) ∧ Fr [75, 78, 79, q] σ σ' := by
  obtain ⟨kn, l, h, tu, w⟩ := s
  obtain ⟨h1, h2, h3, h4, h5, h6, h7⟩ := hV
  obtain ⟨x0, x1, x2, x3, x4⟩ := hM
  have hc := cdv_isC h2 h4
  obtain ⟨σ1, e1, f1⟩ := endsOf_spec (σ := σ) hc
  rw [wd_cdv h2 h4, nf_of_good h3] at e1
  have ek : σ1.1 q = σ.1 q := f1.1 q (by simp [hq.1])
  have hls := lset_lt h2
  have g2 : ∀ {α : Type} (x : Option α), gd (iB (nI (2 + i)) 27) x = x := fun x => gi (by omega) (by decide)
  have g7 : ∀ {α : Type} (x : Option α), gd (iB (nI (7 + i)) 27) x = x := fun x => gi (by omega) (by decide)
  have g12 : ∀ {α : Type} (x : Option α), gd (iB (nI (12 + i)) 27) x = x := fun x => gi (by omega) (by decide)
  have g22 : ∀ {α : Type} (x : Option α), gd (iB (nI (22 + i)) 27) x = x := fun x => gi (by omega) (by decide)
  unfold F_M_goes
  rw [ix2, ix7, g2, g7, c31 (n := 7 + i) (by omega), c31 (n := 2 + i) (by omega), x1, bc_s e1, x0, jn_s, ek]
  -- a street gone, then turned
  have key : ∀ s : Nat, s < 5 → ∀ l' : List Nat, l' = (if (go l s).length ≤ 9 then go l s else l) → ∃ σ', bc (F_M_follow 75 0 (nI (cdv l)) σ1) (fun (r10 : Int32) (σ11 : GS) => bc (F_M_times 75 r10 (nI s) σ11) (fun (r13 : Int32) (σ14 : GS) => if (9 : Int32) < r13 then bv (F_M_turns q (nI i) σ14) (fun (σ16 : GS) => some σ16) else bc (F_M_codeOf 75 r13 σ14) (fun (r18 : Int32) (σ19 : GS) => gd (iB (nI (7 + i)) 27) (jn (s1 σ19 q (7 + i) r18) (fun (σ21 : GS) => gd (iB ((22 : Int32) + nI i) 27) (gd (iB ((22 : Int32) + nI i) 27) (jn (s1 σ21 q (((22 : Int32) + nI i).toNatClampNeg) ((σ21.1 q ((22 : Int32) + nI i).toNatClampNeg) + (1 : Int32))) (fun (σ24 : GS) => bv (F_M_turns q (nI i) σ24) (fun (σ26 : GS) => some σ26))))))))) = some σ' ∧ WM (σ'.1 q) i (kn, l', (tn kn h tu).1, (tn kn h tu).2, if (go l s).length ≤ 9 then w + 1 else w) ∧ (∀ j, j ≠ 7 + i → j ≠ 12 + i → j ≠ 17 + i → j ≠ 22 + i → σ'.1 q j = σ.1 q j) ∧ Fr [75, 78, 79, q] σ σ' := fun s hs l' el => by
    obtain ⟨σ2, σ3, σ4, e2, e3, e4, f2, f3, f4⟩ := stepM σ1 h2 h3 h4 hs
    have hlg := len_go_le l s
    have ek3 : σ3.1 q = σ.1 q := by rw [f3.1 q (by simp [hq.1]), f2.1 q (by simp [hq.1]), ek]
    have ek4 : σ4.1 q = σ.1 q := by rw [f4.1 q (by simp [hq.2.1, hq.2.2]), ek3]
    rw [bc_s e2, bc_s e3]
    by_cases z : (go l s).length ≤ 9
    · have et := turnM (q := q) (i := i) (kn := kn) (h := h) (tu := tu) (σ := s1 (s1 σ4 q (7 + i) (nI (cdv (go l s)))) q (22 + i) (w + 1)) hi h1 h5 h6 h7 (by rw [s1_i (by omega), s1_i (by omega), ek4]; exact x0) (by rw [s1_i (by omega), s1_i (by omega), ek4]; exact x2) (by rw [s1_i (by omega), s1_i (by omega), ek4]; exact x3)
      refine ⟨s1 (s1 (s1 (s1 σ4 q (7 + i) (nI (cdv (go l s)))) q (22 + i) (w + 1)) q (12 + i) (nI (tn kn h tu).1)) q (17 + i) (nI (tn kn h tu).2), ?_, ⟨?_, ?_, ?_, ?_, ?_⟩, fun j a1 a2 a3 a4 => ?_, ?_⟩
      · rw [if_neg (show ¬ (9 : Int32) < nI _ from nI_nlt (a := 9) z (by decide)), bc_s e4, g7, jn_s, ix22, g22, g22, c31 (by omega), s1_i (by omega), ek4, x4, jn_s, bv_s et]
      · rw [s1_i (by omega), s1_i (by omega), s1_i (by omega), s1_i (by omega), ek4]; exact x0
      · rw [s1_i (by omega), s1_i (by omega), s1_i (by omega), s1_at, el, if_pos z]
      · rw [s1_i (by omega), s1_at]
      · rw [s1_at]
      · rw [s1_i (by omega), s1_i (by omega), s1_at, if_pos z]
      · rw [s1_i a3, s1_i a2, s1_i a4, s1_i a1, ek4]
      · exact (f1.mono (by simp)).trans ((f2.mono (by simp)).trans ((f3.mono (by simp)).trans ((f4.mono (by simp)).trans (Fr.trans (Fr.s1 (by simp)) (Fr.trans (Fr.s1 (by simp)) (Fr.trans (Fr.s1 (by simp)) (Fr.s1 (by simp))))))))
    · have et := turnM (q := q) (i := i) (kn := kn) (h := h) (tu := tu) (σ := σ3) hi h1 h5 h6 h7 (by rw [ek3]; exact x0) (by rw [ek3]; exact x2) (by rw [ek3]; exact x3)
      refine ⟨s1 (s1 σ3 q (12 + i) (nI (tn kn h tu).1)) q (17 + i) (nI (tn kn h tu).2), ?_, ⟨?_, ?_, ?_, ?_, ?_⟩, fun j a1 a2 a3 a4 => ?_, ?_⟩
      · rw [if_pos (show (9 : Int32) < nI _ from nI_lt (a := 9) (by omega) (by omega)), bv_s et]
      · rw [s1_i (by omega), s1_i (by omega), ek3]; exact x0
      · rw [s1_i (by omega), s1_i (by omega), ek3, el, if_neg z]; exact x1
      · rw [s1_i (by omega), s1_at]
      · rw [s1_at]
      · rw [s1_i (by omega), s1_i (by omega), ek3, if_neg z]; exact x4
      · rw [s1_i a3, s1_i a2, ek3]
      · exact (f1.mono (by simp)).trans ((f2.mono (by simp)).trans ((f3.mono (by simp)).trans (Fr.trans (Fr.s1 (by simp)) (Fr.s1 (by simp)))))
  by_cases k3 : kn = 3
  · subst k3
    rw [if_pos (by decide)]
    by_cases h0 : lset l = 0
    · refine ⟨σ1, by rw [h0, if_pos (by decide)], ?_, fun j _ _ _ _ => by rw [ek], f1.mono (by simp)⟩
      rw [ps_3, if_pos h0, ek]
      exact ⟨x0, x1, x2, x3, x4⟩
    · rw [if_neg (nI_ne0 (by omega) (by omega))]
      dsimp only
      rw [jn_s, if_pos (show nI 3 = (3 : Int32) by decide)]
      obtain ⟨b1, b2, b4, b3⟩ := low_s _ hls h0
      obtain ⟨-, g9⟩ := low_go h2 h0
      obtain ⟨σ', e', hx, hj, hf⟩ := key (lowN (lset l)) b1 (go l (lowN (lset l))) (by rw [if_pos (by omega)])
      refine ⟨σ', ?_, ?_, hj, hf⟩
      · rw [bp_s b4]
        dsimp only
        rw [g7, x1]
        exact e'
      · rw [ps_3, if_neg h0]
        rw [if_pos (by omega)] at hx
        have et : tn 3 h tu = (h, tu) := rfl
        rw [et] at hx
        exact hx
  · have hk3 : ¬ nI kn = (3 : Int32) := fun z => k3 ((nI_eq (a := kn) (b := 3) (by omega) (by decide)).mp z)
    obtain ⟨σ', e', hx, hj, hf⟩ := key h h5 _ rfl
    refine ⟨σ', ?_, ?_, hj, hf⟩
    · rw [if_neg hk3]
      dsimp only
      rw [jn_s, if_neg hk3, ix12, g12, c31 (by omega), x2]
      dsimp only
      rw [g7, x1]
      exact e'
    · rw [ps_n k3]
      exact hx
/-- an hour -/
def ph (s : WS) : WS := if s.1 = 4 then ps (ps s) else ps s
theorem ps_k (s : WS) : (ps s).1 = s.1 := by
  obtain ⟨kn, l, h, tu, w⟩ := s
  show (if kn = 3 then _ else _ : WS).1 = kn
  by_cases k3 : kn = 3
  · rw [if_pos k3]
    by_cases h0 : lset l = 0
    · rw [if_pos h0]
    · rw [if_neg h0]
  · rw [if_neg k3]
theorem ph_ok {s : WS} (h : WV s) : WV (ph s) := by
  unfold ph
  split
  · exact ps_ok (ps_ok h)
  · exact ps_ok h
theorem ph_k (s : WS) : (ph s).1 = s.1 := by
  unfold ph
  split
  · rw [ps_k, ps_k]
  · rw [ps_k]
theorem WX_k {σ : GS} {k : Nat} {s : WS} (h : WX σ k s) : σ.1 k 0 = nI s.1 := h.1
theorem WM_k {f : Nat → Int32} {i : Nat} {s : WS} (h : WM f i s) : f (2 + i) = nI s.1 := h.1
theorem WV_k {s : WS} (h : WV s) : s.1 ≤ 5 := h.1
theorem passHourX {k : Nat} {s : WS} {σ : GS} (hk : k ≠ 32 ∧ k ≠ 33) (hV : WV s) (hX : WX σ k s) : ∃ σ', F_Wk_passHour k σ = some σ' ∧ WX σ' k (ph s) ∧ Fr [32, 33, k] σ σ' := by
  obtain ⟨σ1, e1, x1, f1⟩ := passStreet_spec hk hV hX
  have hk0 := WX_k x1
  have hb := WV_k hV
  rw [ps_k] at hk0
  unfold F_Wk_passHour
  rw [bv_s e1, hk0]
  by_cases q : s.1 = 4
  · obtain ⟨σ2, e2, x2, f2⟩ := passStreet_spec hk (ps_ok hV) x1
    refine ⟨σ2, by rw [q, if_pos (by decide), bv_s e2], ?_, f1.trans f2⟩
    unfold ph
    rw [if_pos q]
    exact x2
  · refine ⟨σ1, by rw [if_neg (show ¬ nI s.1 = (4 : Int32) from fun z => q ((nI_eq (a := s.1) (b := 4) (by omega) (by decide)).mp z))], ?_, f1⟩
    unfold ph
    rw [if_neg q]
    exact x1
theorem hourOfM {q i : Nat} {s : WS} {σ : GS} (hq : q ≠ 75 ∧ q ≠ 78 ∧ q ≠ 79) (hi : i < 5) (hV : WV s) (hM : WM (σ.1 q) i s) : ∃ σ', F_M_hourOf q (nI i) σ = some σ' ∧ WM (σ'.1 q) i (ph s) ∧ (∀ j, j ≠ 7 + i → j ≠ 12 + i → j ≠ 17 + i → j ≠ 22 + i → σ'.1 q j = σ.1 q j) ∧ Fr [75, 78, 79, q] σ σ' := by
  obtain ⟨σ1, e1, x1, j1, f1⟩ := goes_spec hq hi hV hM
  have hk0 := WM_k x1
  have hb := WV_k hV
  rw [ps_k] at hk0
  unfold F_M_hourOf
  rw [bv_s e1, ix2, gi (by omega) (by decide), c31 (by omega), hk0]
  by_cases z : s.1 = 4
  · obtain ⟨σ2, e2, x2, j2, f2⟩ := goes_spec hq hi (ps_ok hV) x1
    refine ⟨σ2, by rw [z, if_pos (by decide), bv_s e2], ?_, fun j a b c d => by rw [j2 j a b c d, j1 j a b c d], f1.trans f2⟩
    unfold ph
    rw [if_pos z]
    exact x2
  · refine ⟨σ1, by rw [if_neg (show ¬ nI s.1 = (4 : Int32) from fun y => z ((nI_eq (a := s.1) (b := 4) (by omega) (by decide)).mp y))], ?_, j1, f1⟩
    unfold ph
    rw [if_neg z]
    exact x1
