theorem rng_getD {n i : Nat} (h : i < n) : (List.range n).getD i 0 = i := by
  rw [List.getD_eq_getElem?_getD, List.getElem?_range h]
  rfl
theorem srchX {cs : List Nat} {t : GS} (hl : cs.length ≤ 6) (hcs : ∀ i, i < cs.length → isC (cs.getD i 0) = true) (hz : ZO cs t) : ∃ t', F_To_search t = some t' ∧ t'.1 50 4 = nI (rst (lno cs) 1000000 (pTs cs.length)).1 ∧ arr (t'.1 53) (rst (lno cs) 1000000 (pTs cs.length)).2 ∧ Fr [50, 52, 53] t t' := by
  have hP := pT_ok cs.length (by omega)
  have hpos := pT_pos (n := cs.length) (by omega)
  have h0 : ∃ t1, arr (t1.1 52) (List.range cs.length) ∧ Fr [52] t t1 ∧ ∀ K : Int32 → GS → Option GS, F_To_search_2 K 50000 0 t = K (nI cs.length) t1 := by
    have := lpE (G := fun f i (t1 : GS) => fun (K : Int32 → GS → Option GS) => F_To_search_2 K f (nI i) t1) (P := fun o => ∃ t1, arr (t1.1 52) (List.range cs.length) ∧ Fr [52] t t1 ∧ ∀ K, o K = K (nI cs.length) t1) (Inv := fun i t1 => (∀ j, j < i → t1.1 52 j = nI j) ∧ Fr [52] t t1) (N := cs.length) ?_ ?_ cs.length 0 50000 t (by omega) (by omega) ⟨fun j hj => absurd hj (Nat.not_lt_zero _), Fr.refl _ _⟩
    · exact this
    · rintro f i t1 hi ⟨i1, i2⟩
      refine Or.inr ⟨s1 t1 52 i (nI i), ?_, fun j hj => ?_, i2.trans (Fr.s1 (by simp))⟩
      · funext K
        show F_To_search_2 K (f + 1) (nI i) t1 = F_To_search_2 K f (nI (i + 1)) _
        rw [F_To_search_2.eq_2, i2.1 50 (by simp), hz.1, if_neg (nI_ge hi (by omega)), gi (by omega) (by decide), c31 (n := i) (by omega), jn_s, nI_1]
      · by_cases e : j = i
        · rw [e, s1_at]
        · rw [s1_i e, i1 j (by omega)]
    · rintro f t1 ⟨i1, i2⟩
      refine ⟨t1, fun j hj => ?_, i2, fun K => ?_⟩
      · rw [List.length_range] at hj
        rw [rng_getD hj, i1 j hj]
      · show F_To_search_2 K (f + 1) (nI cs.length) t1 = _
        rw [F_To_search_2.eq_2, i2.1 50 (by simp), hz.1, if_pos (nI_le (Nat.le_refl _) (by omega))]
  obtain ⟨t1, a1, f1, e1⟩ := h0
  unfold F_To_search
  rw [jn_s, e1, jn_s, jn_s]
  have z1 : ZO cs (s1 t1 50 4 1000000) := ⟨by rw [s1_i (by decide), f1.1 50 (by simp)]; exact hz.1, fun i j hi hj => by rw [s1_c (by decide), f1.1 51 (by simp)]; exact hz.2 i j hi hj⟩
  refine lpW (G := fun f k (u : GS) => F_To_search_31 (fun (v1_3 : Int32) (σL3 : GS) => some σL3) f (nI k) u) (P := fun x => ∃ t', x = some t' ∧ t'.1 50 4 = nI (rst (lno cs) 1000000 (pTs cs.length)).1 ∧ arr (t'.1 53) (rst (lno cs) 1000000 (pTs cs.length)).2 ∧ Fr [50, 52, 53] t t') (Inv := fun k u => k < (pTs cs.length).length ∧ ZO cs u ∧ arr (u.1 52) ((pTs cs.length).getD k []) ∧ u.1 50 4 = nI (rst (lno cs) 1000000 ((pTs cs.length).take k)).1 ∧ arr (u.1 53) (rst (lno cs) 1000000 ((pTs cs.length).take k)).2 ∧ Fr [50, 52, 53] t u) (B := 720) ?_ 720 0 50000 (s1 t1 50 4 1000000) (by omega) (by omega) ⟨hpos, z1, by rw [hP.2.1, s1_c (by decide)]; exact a1, s1_at _ _ _ _, arr_nil _, (f1.mono (by simp)).trans (Fr.s1 (by simp))⟩
  rintro f k u ⟨hk, zu, b52, b4, b53, fu⟩
  have hmem := getD_memL hk
  obtain ⟨o1, o2⟩ := pT_mem (by omega) hmem
  have hle := lno_le hl hcs o2
  have hrl := rst_le (f := lno cs) (B := 1000000) ((pTs cs.length).take k)
  have hlen := lenX hl hcs o1 o2 zu b52
  have esn : rst (lno cs) 1000000 ((pTs cs.length).take (k + 1)) = if (rst (lno cs) 1000000 ((pTs cs.length).take k)).1 ≤ lno cs ((pTs cs.length).getD k []) then rst (lno cs) 1000000 ((pTs cs.length).take k) else (lno cs ((pTs cs.length).getD k []), (pTs cs.length).getD k []) := by rw [take_snocL hk, rst_snoc]
  obtain ⟨u2, e2, z2, c52, c4, c53, f2⟩ : ∃ u2, F_To_search_31 (fun (v1_3 : Int32) (σL3 : GS) => some σL3) (f + 1) (nI k) u = bc (F_To_stepOrder u2) (fun (r8 : Int32) (σ9 : GS) => if r8 = (0 : Int32) then some σ9 else F_To_search_31 (fun (v1_3 : Int32) (σL3 : GS) => some σL3) f (nI (k + 1)) σ9) ∧ ZO cs u2 ∧ arr (u2.1 52) ((pTs cs.length).getD k []) ∧ u2.1 50 4 = nI (rst (lno cs) 1000000 ((pTs cs.length).take (k + 1))).1 ∧ arr (u2.1 53) (rst (lno cs) 1000000 ((pTs cs.length).take (k + 1))).2 ∧ Fr [50, 52, 53] u u2 := by
    rw [esn]
    by_cases q : (rst (lno cs) 1000000 ((pTs cs.length).take k)).1 ≤ lno cs ((pTs cs.length).getD k [])
    · refine ⟨u, ?_, zu, b52, by rw [if_pos q]; exact b4, by rw [if_pos q]; exact b53, Fr.refl _ _⟩
      rw [F_To_search_31.eq_2, if_neg (show ¬ (720 : Int32) ≤ nI k from nI_ge (b := 720) (by omega) (by decide)), bp_s hlen, jn_s, b4, if_pos (nI_le q (by omega)), nI_1]
    · have g3 : (s1 u 50 4 (nI (lno cs ((pTs cs.length).getD k [])))).1 50 3 = nI cs.length := by rw [s1_i (by decide)]; exact zu.1
      have fr := cA_fr (s1 u 50 4 (nI (lno cs ((pTs cs.length).getD k [])))) 52 53 0 0 cs.length
      refine ⟨cA (s1 u 50 4 (nI (lno cs ((pTs cs.length).getD k [])))) 52 53 0 0 cs.length, ?_, ⟨by rw [fr.1 50 (by simp)]; exact g3, fun i j hi hj => by rw [fr.1 51 (by simp), s1_c (by decide)]; exact zu.2 i j hi hj⟩, by rw [fr.1 52 (by simp), s1_c (by decide)]; exact b52, by rw [fr.1 50 (by simp), s1_at, if_neg q], ?_, Fr.trans (Fr.s1 (by simp)) (fr.mono (by simp))⟩
      · rw [F_To_search_31.eq_2, if_neg (show ¬ (720 : Int32) ≤ nI k from nI_ge (b := 720) (by omega) (by decide)), bp_s hlen, jn_s, b4, if_neg (nI_ge (by omega) (by omega)), jn_s, g3, show (0 : Int32) = nI 0 from rfl, cp_ok (by omega) (by omega) (by decide) (by decide), c31 (n := 0) (by decide), c31 (n := cs.length) (by omega), jn_s, nI_1]
      · rw [if_neg q]
        intro i hi
        have hi : i < ((pTs cs.length).getD k []).length := hi
        rw [cA_at, if_pos ⟨Nat.zero_le _, by omega⟩, Nat.zero_add, Nat.sub_zero, s1_c (by decide)]
        exact b52 i hi
  have hstep := stepX hl o1 (fun i hi => by have := o2 i (by omega); omega) z2.1 c52
  have hpn := pch_at (pch_all cs.length (by omega)) k hk
  by_cases q : k + 1 < (pTs cs.length).length
  · rw [if_pos q] at hpn
    obtain ⟨u3, e3, a3, f3⟩ := hstep.2 _ hpn
    refine Or.inr ⟨by omega, u3, ?_, q, ⟨by rw [f3.1 50 (by simp)]; exact z2.1, fun i j hi hj => by rw [f3.1 51 (by simp)]; exact z2.2 i j hi hj⟩, a3, by rw [f3.1 50 (by simp)]; exact c4, by rw [f3.1 53 (by simp)]; exact c53, (fu.trans f2).trans (f3.mono (by simp))⟩
    show F_To_search_31 _ (f + 1) (nI k) u = F_To_search_31 _ f (nI (k + 1)) u3
    rw [e2, bc_s e3, if_neg (by decide)]
  · rw [if_neg q] at hpn
    have e3 := hstep.1 hpn
    rw [List.take_of_length_le (by omega)] at c4 c53
    refine Or.inl ⟨u2, ?_, c4, c53, fu.trans f2⟩
    show F_To_search_31 _ (f + 1) (nI k) u = _
    rw [e2, bc_s e3, if_pos rfl]
-- the model's orders
theorem digM {n v : Nat} {σ : GS} {x1 x2 v5 v6 : Int32} (hn : n ≤ 6) (hv : v < 6 ^ n) : ∃ σ' z, arr (σ'.1 84) (pdg n v) ∧ Fr [84] σ σ' ∧ ∀ K : Int32 → Int32 → Int32 → GS → Option (Int32 × GS), F_M_round_85 x1 x2 (nI n) v5 v6 (nI v) K 50000 (nI v) 0 (nI n - 1) σ = K z (nI (pus v n)) (-1) σ' := by
  have hv6 : v < 46656 := Nat.lt_of_lt_of_le hv (Nat.pow_le_pow_right (n := 6) (j := 6) (by decide) hn)
  have := lpE (G := fun f d (s : Int32 × Int32 × GS) => fun (K : Int32 → Int32 → Int32 → GS → Option (Int32 × GS)) => F_M_round_85 x1 x2 (nI n) v5 v6 (nI v) K f s.1 s.2.1 (nI (n - d) - 1) s.2.2) (P := fun o => ∃ σ' z, arr (σ'.1 84) (pdg n v) ∧ Fr [84] σ σ' ∧ ∀ K, o K = K z (nI (pus v n)) (-1) σ') (Inv := fun d s => s.1 = nI (v / 6 ^ d) ∧ s.2.1 = nI (pus v d) ∧ (∀ k, n - d ≤ k → k < n → s.2.2.1 84 k = nI (v / 6 ^ (n - 1 - k) % 6)) ∧ Fr [84] σ s.2.2) (N := n) ?_ ?_ n 0 50000 (nI v, 0, σ) (by omega) (by omega) ⟨by rw [Nat.pow_zero, Nat.div_one], rfl, fun k h1 h2 => by omega, Fr.refl _ _⟩
  · exact this
  · rintro f d ⟨s1', s2', t⟩ hd ⟨h1, h2, h3, h4⟩
    have h1 : s1' = nI (v / 6 ^ d) := h1
    have h2 : s2' = nI (pus v d) := h2
    have h3 : ∀ k, n - d ≤ k → k < n → t.1 84 k = nI (v / 6 ^ (n - 1 - k) % 6) := h3
    have h4 : Fr [84] σ t := h4
    have hdl : v / 6 ^ d ≤ v := Nat.div_le_self _ _
    have e6 : nI (v / 6 ^ d) - nI (v / 6 ^ d) / (6 : Int32) * (6 : Int32) = nI (v / 6 ^ d % 6) := pk_rem (d := 6) (by omega) (by decide) (by decide)
    have e7 : nI (v / 6 ^ d) / (6 : Int32) = nI (v / 6 ^ (d + 1)) := by
      rw [show nI (v / 6 ^ d) / (6 : Int32) = nI (v / 6 ^ d / 6) from pk_div (d := 6) (by omega) (by decide) (by decide), Nat.div_div_eq_div_mul, Nat.pow_succ]
    have em : v / 6 ^ d % 6 < 6 := Nat.mod_lt _ (by decide)
    refine Or.inr ⟨(nI (v / 6 ^ (d + 1)), nI (pus v (d + 1)), s1 t 84 (n - 1 - d) (nI (v / 6 ^ d % 6))), ?_, rfl, rfl, fun k k1 k2 => ?_, h4.trans (Fr.s1 (by simp))⟩
    · funext K
      show F_M_round_85 x1 x2 (nI n) v5 v6 (nI v) K (f + 1) s1' s2' (nI (n - d) - 1) t = F_M_round_85 x1 x2 (nI n) v5 v6 (nI v) K f (nI (v / 6 ^ (d + 1))) (nI (pus v (d + 1))) (nI (n - (d + 1)) - 1) _
      rw [sub1 (m := n - d) (by omega), show n - d - 1 = n - 1 - d by omega, F_M_round_85.eq_2, if_neg (nI_pos (by omega)), gi (by omega) (by decide), c31 (n := n - 1 - d) (by omega), h1, e6, jn_s, gi (by omega) (by decide), s1_at, shl18 _ (by omega), h2, or_nI, e7, show n - (d + 1) = n - 1 - d by omega, Int32.sub_eq_add_neg]
      rfl
    · show (s1 t 84 (n - 1 - d) (nI (v / 6 ^ d % 6))).1 84 k = _
      by_cases e : k = n - 1 - d
      · rw [e, s1_at, show n - 1 - (n - 1 - d) = d by omega]
      · rw [s1_i e]
        exact h3 k (by omega) k2
  · rintro f ⟨s1', s2', t⟩ ⟨h1, h2, h3, h4⟩
    have h2 : s2' = nI (pus v n) := h2
    have h3 : ∀ k, n - n ≤ k → k < n → t.1 84 k = nI (v / 6 ^ (n - 1 - k) % 6) := h3
    have h4 : Fr [84] σ t := h4
    refine ⟨t, s1', fun i hi => ?_, h4, fun K => ?_⟩
    · have hl : (pdg n v).length = n := by unfold pdg; rw [List.length_map, List.length_range]
      rw [hl] at hi
      unfold pdg
      rw [map_getD _ hi]
      exact h3 i (by omega) hi
    · show F_M_round_85 x1 x2 (nI n) v5 v6 (nI v) K (f + 1) s1' s2' (nI (n - n) - 1) t = _
      rw [Nat.sub_self, F_M_round_85.eq_2, if_pos (by decide), h2]
      rfl
theorem lenM {r : Nat} {cs o : List Nat} {σ : GS} {x2 v5 v6 v7 : Int32} (hr : r < 6) (hl : cs.length ≤ 6) (hcs : ∀ i, i < cs.length → isC (cs.getD i 0) = true) (ho : o.length = cs.length) (hoo : ∀ i, i < cs.length → o.getD i 0 < cs.length) (h84 : arr (σ.1 84) o) (h65 : ∀ i, i < cs.length → σ.1 65 (40 * r + i) = nI (cs.getD i 0)) : ∃ σ', Fr [75] σ σ' ∧ ∀ K : Int32 → Int32 → Int32 → GS → Option (Int32 × GS), F_M_round_152 (nI r) x2 (nI cs.length) v5 v6 v7 K 50000 0 0 0 σ = K (nI (lnF cs o cs.length).1) (nI (stc cs (lnF cs o cs.length).2)) (nI cs.length) σ' := by
  have := lpE (G := fun f k (s : Int32 × Int32 × GS) => fun (K : Int32 → Int32 → Int32 → GS → Option (Int32 × GS)) => F_M_round_152 (nI r) x2 (nI cs.length) v5 v6 v7 K f s.1 s.2.1 (nI k) s.2.2) (P := fun x => ∃ σ', Fr [75] σ σ' ∧ ∀ K, x K = K (nI (lnF cs o cs.length).1) (nI (stc cs (lnF cs o cs.length).2)) (nI cs.length) σ') (Inv := fun k s => s.1 = nI (lnF cs o k).1 ∧ s.2.1 = nI (stc cs (lnF cs o k).2) ∧ Fr [75] σ s.2.2) (N := cs.length) ?_ ?_ cs.length 0 50000 (0, 0, σ) (by omega) (by omega) ⟨rfl, rfl, Fr.refl _ _⟩
  · exact this
  · rintro f k ⟨s1', s2', t⟩ hk ⟨h1, h2, h3⟩
    have h1 : s1' = nI (lnF cs o k).1 := h1
    have h2 : s2' = nI (stc cs (lnF cs o k).2) := h2
    have h3 : Fr [75] σ t := h3
    obtain ⟨b1, b2⟩ := lnF_ok hcs hoo k (by omega)
    have b3 := hoo k hk
    have c1 := stc_ok hcs (lnF cs o k).2 b1
    have c2 := hcs (o.getD k 0) b3
    obtain ⟨t', e', -, -, f'⟩ := farOf_spec (σ := t) c1 c2
    rw [far_eq c1 c2] at e'
    have e' : F_M_farOf (nI (stc cs (lnF cs o k).2)) (nI (cs.getD (o.getD k 0) 0)) t = some (nI (gp cs (lnF cs o k).2 (o.getD k 0 + 1)), t') := e'
    refine Or.inr ⟨(nI (lnF cs o (k + 1)).1, nI (stc cs (lnF cs o (k + 1)).2), t'), ?_, rfl, rfl, h3.trans f'⟩
    funext K
    show F_M_round_152 (nI r) x2 (nI cs.length) v5 v6 v7 K (f + 1) s1' s2' (nI k) t = F_M_round_152 (nI r) x2 (nI cs.length) v5 v6 v7 K f (nI (lnF cs o (k + 1)).1) (nI (stc cs (lnF cs o (k + 1)).2)) (nI (k + 1)) t'
    have k84 : t.1 84 k = nI (o.getD k 0) := by rw [h3.1 84 (by simp)]; exact h84 k (by omega)
    have k84' : t'.1 84 k = nI (o.getD k 0) := by rw [f'.1 84 (by simp)]; exact k84
    have k65 : t.1 65 (40 * r + o.getD k 0) = nI (cs.getD (o.getD k 0) 0) := by rw [h3.1 65 (by simp)]; exact h65 _ b3
    have k65' : t'.1 65 (40 * r + o.getD k 0) = nI (cs.getD (o.getD k 0) 0) := by rw [f'.1 65 (by simp)]; exact k65
    rw [F_M_round_152.eq_2, if_neg (nI_ge hk (by omega)), gi (by omega) (by decide), c31 (n := k) (by omega), k84, ix40, gi (by omega) (by decide), c31 (n := 40 * r + o.getD k 0) (by omega), k65, h2, bc_s e', gi (by omega) (by decide), k84', ix40, gi (by omega) (by decide), c31 (n := 40 * r + o.getD k 0) (by omega), k65', h1, nI_add, nI_1]
    rfl
  · rintro f ⟨s1', s2', t⟩ ⟨h1, h2, h3⟩
    have h1 : s1' = nI (lnF cs o cs.length).1 := h1
    have h2 : s2' = nI (stc cs (lnF cs o cs.length).2) := h2
    have h3 : Fr [75] σ t := h3
    refine ⟨t, h3, fun K => ?_⟩
    show F_M_round_152 (nI r) x2 (nI cs.length) v5 v6 v7 K (f + 1) s1' s2' (nI cs.length) t = _
    rw [F_M_round_152.eq_2, if_pos (nI_le (Nat.le_refl _) (by omega)), h1, h2]
theorem cpyM {n : Nat} {o : List Nat} {σ : GS} {x1 x2 v5 u6 v7 : Int32} (hn : n ≤ 6) (ho : o.length = n) (h84 : arr (σ.1 84) o) : ∃ σ', arr (σ'.1 85) o ∧ Fr [85] σ σ' ∧ ∀ K : Int32 → GS → Option (Int32 × GS), F_M_round_237 x1 x2 (nI n) v5 u6 v7 K 50000 0 σ = K (nI n) σ' := by
  have := lpE (G := fun f k (t : GS) => fun (K : Int32 → GS → Option (Int32 × GS)) => F_M_round_237 x1 x2 (nI n) v5 u6 v7 K f (nI k) t) (P := fun x => ∃ σ', arr (σ'.1 85) o ∧ Fr [85] σ σ' ∧ ∀ K, x K = K (nI n) σ') (Inv := fun k t => (∀ j, j < k → t.1 85 j = nI (o.getD j 0)) ∧ Fr [85] σ t) (N := n) ?_ ?_ n 0 50000 σ (by omega) (by omega) ⟨fun j hj => absurd hj (Nat.not_lt_zero _), Fr.refl _ _⟩
  · exact this
  · rintro f k t hk ⟨h1, h2⟩
    refine Or.inr ⟨s1 t 85 k (nI (o.getD k 0)), ?_, fun j hj => ?_, h2.trans (Fr.s1 (by simp))⟩
    · funext K
      show F_M_round_237 x1 x2 (nI n) v5 u6 v7 K (f + 1) (nI k) t = F_M_round_237 x1 x2 (nI n) v5 u6 v7 K f (nI (k + 1)) _
      rw [F_M_round_237.eq_2, if_neg (nI_ge hk (by omega)), gi (by omega) (by decide), gi (by omega) (by decide), c31 (n := k) (by omega), h2.1 84 (by simp), h84 k (by omega), jn_s, nI_1]
    · by_cases e : j = k
      · rw [e, s1_at]
      · rw [s1_i e, h1 j (by omega)]
  · rintro f t ⟨h1, h2⟩
    refine ⟨t, fun j hj => h1 j (by omega), h2, fun K => ?_⟩
    show F_M_round_237 x1 x2 (nI n) v5 u6 v7 K (f + 1) (nI n) t = _
    rw [F_M_round_237.eq_2, if_pos (nI_le (Nat.le_refl _) (by omega))]
theorem gp0 {cs : List Nat} {i : Nat} (h : isC (stc cs i) = true) : (rd (wd (stc cs i))).length = gp cs i 0 := by
  rw [len_rd (wd_wv h)]
  show (nf (wd (stc cs i))).length = (nf (dg (stc cs i) ++ wd 0)).length
  rw [show wd 0 = [] from rfl, List.append_nil]
  unfold wd
  exact len_nf_rev (dg_wv h)
theorem orderM {r : Nat} {cs : List Nat} {σ : GS} {x2 : Int32} (hr : r < 6) (hl : cs.length ≤ 6) (hcs : ∀ i, i < cs.length → isC (cs.getD i 0) = true) (h65 : ∀ i, i < cs.length → σ.1 65 (40 * r + i) = nI (cs.getD i 0)) : ∃ σ', arr (σ'.1 85) (rst (lno cs) 9999 (pTs cs.length)).2 ∧ Fr [75, 84, 85] σ σ' ∧ ∀ K : Int32 → Int32 → GS → Option (Int32 × GS), F_M_round_65 (nI r) x2 (nI cs.length) (nI (6 ^ cs.length)) K 50000 9999 0 σ = K (nI (rst (lno cs) 9999 (pTs cs.length)).1) (nI (6 ^ cs.length)) σ' := by
  have hp6 : 6 ^ cs.length ≤ 46656 := Nat.pow_le_pow_right (n := 6) (j := 6) (by decide) hl
  have := lpE (G := fun f v (s : Int32 × GS) => fun (K : Int32 → Int32 → GS → Option (Int32 × GS)) => F_M_round_65 (nI r) x2 (nI cs.length) (nI (6 ^ cs.length)) K f s.1 (nI v) s.2) (P := fun x => ∃ σ', arr (σ'.1 85) (rst (lno cs) 9999 (pTs cs.length)).2 ∧ Fr [75, 84, 85] σ σ' ∧ ∀ K, x K = K (nI (rst (lno cs) 9999 (pTs cs.length)).1) (nI (6 ^ cs.length)) σ') (Inv := fun v s => s.1 = nI (rst (lno cs) 9999 (pL cs.length v)).1 ∧ arr (s.2.1 85) (rst (lno cs) 9999 (pL cs.length v)).2 ∧ Fr [75, 84, 85] σ s.2) (N := 6 ^ cs.length) ?_ ?_ (6 ^ cs.length) 0 50000 (9999, σ) (by omega) (by omega) ⟨rfl, arr_nil _, Fr.refl _ _⟩
  · exact this
  · rintro f v ⟨s1', t⟩ hv ⟨h1, h2, h3⟩
    have h1 : s1' = nI (rst (lno cs) 9999 (pL cs.length v)).1 := h1
    have h2 : arr (t.1 85) (rst (lno cs) 9999 (pL cs.length v)).2 := h2
    have h3 : Fr [75, 84, 85] σ t := h3
    obtain ⟨t2, z, a2, f2, e2⟩ := digM (n := cs.length) (v := v) (σ := t) (x1 := nI r) (x2 := x2) (v5 := nI (6 ^ cs.length)) (v6 := s1') hl hv
    have hfu : (1 : Int32) <<< (nI cs.length &&& 31) - 1 = nI (2 ^ cs.length - 1) := full18 cs.length (by omega)
    have hpl := pus_lt v cs.length
    have hp2 : 2 ^ cs.length ≤ 64 := Nat.pow_le_pow_right (n := 2) (j := 6) (by decide) hl
    have hcmp : nI (pus v cs.length) = nI (2 ^ cs.length - 1) ↔ pB cs.length v = true := by
      rw [nI_eq (by omega) (by omega)]
      unfold pB
      rw [beq_iff_eq]
    have hrl := rst_le (f := lno cs) (B := 9999) (pL cs.length v)
    by_cases hb : pB cs.length v = true
    · have hom : pdg cs.length v ∈ pTs cs.length := List.mem_map.mpr ⟨v, pV_all (by omega) hv hb, rfl⟩
      obtain ⟨o1, o2⟩ := pT_mem (by omega) hom
      have hle := lno_le hl hcs o2
      obtain ⟨b1, b2⟩ := lnF_ok hcs o2 cs.length (Nat.le_refl _)
      have hg1 := gp_le hcs b1 (Nat.zero_le _)
      obtain ⟨t3, f3, e3⟩ := lenM (r := r) (x2 := x2) (v5 := nI (6 ^ cs.length)) (v6 := s1') (v7 := nI v) hr hl hcs o1 o2 a2 (fun i hi => by rw [f2.1 65 (by simp), h3.1 65 (by simp)]; exact h65 i hi)
      obtain ⟨t4, e4, f4⟩ := lengthOf_spec (σ := t3) (stc_ok hcs _ b1)
      rw [gp0 (stc_ok hcs _ b1)] at e4
      have es : nI (lnF cs (pdg cs.length v) cs.length).1 + nI (gp cs (lnF cs (pdg cs.length v) cs.length).2 0) = nI (lno cs (pdg cs.length v)) := by rw [nI_add]; rfl
      have f24 : Fr [75, 84, 85] t t4 := ((f2.mono (by simp)).trans (f3.mono (by simp))).trans (f4.mono (by simp))
      have esn : rst (lno cs) 9999 (pL cs.length (v + 1)) = if (rst (lno cs) 9999 (pL cs.length v)).1 ≤ lno cs (pdg cs.length v) then rst (lno cs) 9999 (pL cs.length v) else (lno cs (pdg cs.length v), pdg cs.length v) := by rw [pL_s, if_pos hb, rst_snoc]
      by_cases q : (rst (lno cs) 9999 (pL cs.length v)).1 ≤ lno cs (pdg cs.length v)
      · rw [if_pos q] at esn
        refine Or.inr ⟨(nI (rst (lno cs) 9999 (pL cs.length (v + 1))).1, t4), ?_, rfl, ?_, h3.trans f24⟩
        · funext K
          show F_M_round_65 (nI r) x2 (nI cs.length) (nI (6 ^ cs.length)) K (f + 1) s1' (nI v) t = F_M_round_65 (nI r) x2 (nI cs.length) (nI (6 ^ cs.length)) K f (nI (rst (lno cs) 9999 (pL cs.length (v + 1))).1) (nI (v + 1)) t4
          rw [F_M_round_65.eq_2, if_neg (nI_ge hv (by omega)), jn_s, e2, hfu, if_pos (hcmp.mpr hb), jn_s, e3, bc_s e4, es, h1, if_pos (nI_le q (by omega)), esn, nI_1]
        · show arr (t4.1 85) _
          rw [esn, f4.1 85 (by simp), f3.1 85 (by simp), f2.1 85 (by simp)]
          exact h2
      · rw [if_neg q] at esn
        obtain ⟨t5, a5, f5, e5⟩ := cpyM (n := cs.length) (σ := t4) (x1 := nI r) (x2 := x2) (v5 := nI (6 ^ cs.length)) (u6 := nI (lno cs (pdg cs.length v))) (v7 := nI v) hl o1 (by rw [f4.1 84 (by simp), f3.1 84 (by simp)]; exact a2)
        refine Or.inr ⟨(nI (rst (lno cs) 9999 (pL cs.length (v + 1))).1, t5), ?_, rfl, ?_, (h3.trans f24).trans (f5.mono (by simp))⟩
        · funext K
          show F_M_round_65 (nI r) x2 (nI cs.length) (nI (6 ^ cs.length)) K (f + 1) s1' (nI v) t = F_M_round_65 (nI r) x2 (nI cs.length) (nI (6 ^ cs.length)) K f (nI (rst (lno cs) 9999 (pL cs.length (v + 1))).1) (nI (v + 1)) t5
          rw [F_M_round_65.eq_2, if_neg (nI_ge hv (by omega)), jn_s, e2, hfu, if_pos (hcmp.mpr hb), jn_s, e3, bc_s e4, es, h1, if_neg (nI_ge (by omega) (by omega)), jn_s, jn_s, e5, esn, nI_1]
        · show arr (t5.1 85) _
          rw [esn]
          exact a5
    · refine Or.inr ⟨(s1', t2), ?_, ?_, ?_, h3.trans (f2.mono (by simp))⟩
      · funext K
        show F_M_round_65 (nI r) x2 (nI cs.length) (nI (6 ^ cs.length)) K (f + 1) s1' (nI v) t = F_M_round_65 (nI r) x2 (nI cs.length) (nI (6 ^ cs.length)) K f s1' (nI (v + 1)) t2
        rw [F_M_round_65.eq_2, if_neg (nI_ge hv (by omega)), jn_s, e2, hfu, if_neg (fun y => hb (hcmp.mp y)), nI_1]
      · show s1' = _
        rw [pL_s, if_neg hb]
        exact h1
      · show arr (t2.1 85) _
        rw [pL_s, if_neg hb, f2.1 85 (by simp)]
        exact h2
  · rintro f ⟨s1', t⟩ ⟨h1, h2, h3⟩
    have h1 : s1' = nI (rst (lno cs) 9999 (pL cs.length (6 ^ cs.length))).1 := h1
    have h2 : arr (t.1 85) (rst (lno cs) 9999 (pL cs.length (6 ^ cs.length))).2 := h2
    have h3 : Fr [75, 84, 85] σ t := h3
    rw [pL_end (by omega)] at h1 h2
    refine ⟨t, h2, h3, fun K => ?_⟩
    show F_M_round_65 (nI r) x2 (nI cs.length) (nI (6 ^ cs.length)) K (f + 1) s1' (nI (6 ^ cs.length)) t = _
    rw [F_M_round_65.eq_2, if_pos (nI_le (Nat.le_refl _) (by omega)), h1]
theorem pow6M {n : Nat} {σ : GS} {x1 x2 : Int32} {K : Int32 → Int32 → Option (Int32 × GS)} (hn : n ≤ 6) : F_M_round_37 x1 x2 (nI n) σ K 50000 1 0 = K (nI (6 ^ n)) (nI n) := by
  refine lpE (G := fun f k (s : Int32) => F_M_round_37 x1 x2 (nI n) σ K f s (nI k)) (P := fun x => x = K (nI (6 ^ n)) (nI n)) (Inv := fun k s => s = nI (6 ^ k)) (N := n) ?_ ?_ n 0 50000 1 (by omega) (by omega) rfl
  · intro f k s hk h
    refine Or.inr ⟨nI (6 ^ (k + 1)), ?_, rfl⟩
    show F_M_round_37 x1 x2 (nI n) σ K (f + 1) s (nI k) = F_M_round_37 x1 x2 (nI n) σ K f _ (nI (k + 1))
    rw [F_M_round_37.eq_2, if_neg (nI_ge hk (by omega)), h, show nI (6 ^ k) * (6 : Int32) = nI (6 ^ k * 6) from pk_mul _ 6, ← Nat.pow_succ, nI_1]
  · intro f s h
    show F_M_round_37 x1 x2 (nI n) σ K (f + 1) s (nI n) = _
    rw [F_M_round_37.eq_2, if_pos (nI_le (Nat.le_refl _) (by omega)), h]
theorem outX {q n : Nat} {b : List Nat} {K : Int32 → GS → Option (Int32 × GS)} (hq : q < 6) (hn : n ≤ 6) (hb : b.length = n) (σ : GS) (h53 : arr (σ.1 53) b) : ∃ σ', F_X_round_67 (nI q) (nI n) K 50000 0 σ = K (nI n) σ' ∧ (∀ j, σ'.1 (2 + q) j = if j < n then nI (b.getD j 0) else σ.1 (2 + q) j) ∧ Fr [2 + q] σ σ' := by
  refine lpE (G := fun f i (t : GS) => F_X_round_67 (nI q) (nI n) K f (nI i) t) (P := fun o => ∃ σ', o = K (nI n) σ' ∧ (∀ j, σ'.1 (2 + q) j = if j < n then nI (b.getD j 0) else σ.1 (2 + q) j) ∧ Fr [2 + q] σ σ') (Inv := fun i t => (∀ j, t.1 (2 + q) j = if j < i then nI (b.getD j 0) else σ.1 (2 + q) j) ∧ Fr [2 + q] σ t) (N := n) ?_ ?_ n 0 50000 σ (by omega) (by omega) ⟨fun j => by rw [if_neg (Nat.not_lt_zero j)], Fr.refl _ _⟩
  · rintro f i t hi ⟨h1, h2⟩
    refine Or.inr ⟨s1 t (2 + q) i (nI (b.getD i 0)), ?_, fun j => ?_, h2.trans (Fr.s1 (by simp))⟩
    · show F_X_round_67 (nI q) (nI n) K (f + 1) (nI i) t = F_X_round_67 (nI q) (nI n) K f (nI (i + 1)) _
      rw [F_X_round_67.eq_2, if_neg (nI_ge hi (by omega)), gi hq (by decide), gi (by omega) (by decide), gi (by omega) (by decide), c31 (n := q) (by omega), c31 (n := i) (by omega), h2.1 53 (by simp; omega), h53 i (by omega), jn_s, nI_1]
    · rw [s1_get]
      by_cases e : j = i
      · rw [if_pos ⟨rfl, e⟩, if_pos (by omega), e]
      · rw [if_neg (fun z => e z.2), h1 j]
        by_cases z : j < i
        · rw [if_pos z, if_pos (by omega)]
        · rw [if_neg z, if_neg (by omega)]
  · rintro f t ⟨h1, h2⟩
    refine ⟨t, ?_, h1, h2⟩
    show F_X_round_67 (nI q) (nI n) K (f + 1) (nI n) t = _
    rw [F_X_round_67.eq_2, if_pos (nI_le (Nat.le_refl _) (by omega))]
theorem outM {q n : Nat} {b : List Nat} {y : Int32} {K : Int32 → GS → Option (Int32 × GS)} (hq : q < 6) (hn : n ≤ 6) (hb : b.length = n) (σ : GS) (h85 : arr (σ.1 85) b) : ∃ σ', F_M_round_282 (nI q) (nI n) y K 50000 0 σ = K (nI n) σ' ∧ (∀ j, σ'.1 65 j = if 40 * q ≤ j ∧ j < 40 * q + n then nI (b.getD (j - 40 * q) 0) else σ.1 65 j) ∧ Fr [65] σ σ' := by
  refine lpE (G := fun f i (t : GS) => F_M_round_282 (nI q) (nI n) y K f (nI i) t) (P := fun o => ∃ σ', o = K (nI n) σ' ∧ (∀ j, σ'.1 65 j = if 40 * q ≤ j ∧ j < 40 * q + n then nI (b.getD (j - 40 * q) 0) else σ.1 65 j) ∧ Fr [65] σ σ') (Inv := fun i t => (∀ j, t.1 65 j = if 40 * q ≤ j ∧ j < 40 * q + i then nI (b.getD (j - 40 * q) 0) else σ.1 65 j) ∧ Fr [65] σ t) (N := n) ?_ ?_ n 0 50000 σ (by omega) (by omega) ⟨fun j => by rw [if_neg (by omega)], Fr.refl _ _⟩
  · rintro f i t hi ⟨h1, h2⟩
    refine Or.inr ⟨s1 t 65 (40 * q + i) (nI (b.getD i 0)), ?_, fun j => ?_, h2.trans (Fr.s1 (by simp))⟩
    · show F_M_round_282 (nI q) (nI n) y K (f + 1) (nI i) t = F_M_round_282 (nI q) (nI n) y K f (nI (i + 1)) _
      rw [F_M_round_282.eq_2, if_neg (nI_ge hi (by omega)), gi (by omega) (by decide), ix40, gi (by omega) (by decide), c31 (n := i) (by omega), c31 (n := 40 * q + i) (by omega), h2.1 85 (by simp), h85 i (by omega), jn_s, nI_1]
    · rw [s1_get]
      by_cases e : j = 40 * q + i
      · rw [if_pos ⟨rfl, e⟩, if_pos (by omega), e, Nat.add_sub_cancel_left]
      · rw [if_neg (fun z => e z.2), h1 j]
        by_cases z : 40 * q ≤ j ∧ j < 40 * q + i
        · rw [if_pos z, if_pos (by omega)]
        · rw [if_neg z, if_neg (by omega)]
  · rintro f t ⟨h1, h2⟩
    refine ⟨t, ?_, h1, h2⟩
    show F_M_round_282 (nI q) (nI n) y K (f + 1) (nI n) t = _
    rw [F_M_round_282.eq_2, if_pos (nI_le (Nat.le_refl _) (by omega))]
theorem stp_round : St_round Rel := by
  intro σ hR a1 a2
  unfold F_X_round
  rcases row_c a2 with ⟨g1, g2⟩ | ⟨q, hq, rfl, g1, g2⟩
  · exact ⟨-1, σ, σ, by rw [bp_s g1, if_pos rfl], by unfold F_M_round; rw [bp_s g2, if_pos rfl], hR⟩
  rw [bp_s g1, if_neg (by decide)]
  rcases cod_c hR a1 (M := 6) (by decide) with ⟨v, σ1, σ2, e1, hv, hv2, e2, h'⟩ | ⟨r, cs, hr, rfl, hl40, hl, hcs, h8, h64, ha, eX, eM⟩
  · exact ⟨v, σ1, σ2, by rw [bc_s (show F_X_codesRefusal a1 6 σ = _ from e1), if_neg hv], by unfold F_M_round; rw [bp_s g2, if_neg (by decide), bc_s (show F_M_noCodes a1 6 σ1 = _ from e2), if_neg hv2], h'⟩
  obtain ⟨σ1, e1, x1, y1, f1⟩ := measX hr hl hcs ha
  obtain ⟨σ2, e2, x2, y2, f2⟩ := srchX hl hcs ⟨x1, y1⟩
  have hob : ∀ o ∈ pTs cs.length, lno cs o < 9999 ∧ lno cs o < 1000000 := fun o ho => by
    have := lno_le hl hcs (pT_mem (by omega) ho).2
    omega
  have hBB : rst (lno cs) 9999 (pTs cs.length) = rst (lno cs) 1000000 (pTs cs.length) := rst_B hob (pT_pos (by omega))
  have hbm := rst_mem (f := lno cs) (B := 1000000) (pTs cs.length) (fun o ho => (hob o ho).2) (pT_pos (by omega))
  obtain ⟨σ3, e3, x3, y3, f3⟩ := renewX (r := q) (n := cs.length) hq σ2
  have h5 := fun (s : GS) (h : ∀ i, i < cs.length → s.1 65 (40 * r + i) = nI (cs.getD i 0)) => orderM (x2 := nI q) (σ := s) hr hl hcs h
  rw [hBB] at h5
  have bl := (pT_mem (n := cs.length) (by omega) hbm).1
  generalize rst (lno cs) 1000000 (pTs cs.length) = st at *
  obtain ⟨σ4, e4, y4, f4⟩ := outX (K := fun (v5_15 : Int32) (σL15 : GS) => some (σL15.1 50 4, σL15)) hq hl bl σ3 (by rw [f3.1 53 (by simp; omega)]; exact y2)
  have k64 : σ4.1 64 = σ.1 64 := by rw [f4.1 64 (by simp; omega), f3.1 64 (by simp; omega), f2.1 64 (by simp), f1.1 64 (by simp)]
  have k65 : σ4.1 65 = σ.1 65 := by rw [f4.1 65 (by simp; omega), f3.1 65 (by simp; omega), f2.1 65 (by simp), f1.1 65 (by simp)]
  have k50 : σ4.1 50 4 = nI st.1 := by rw [f4.1 50 (by simp; omega), f3.1 50 (by simp; omega)]; exact x2
  obtain ⟨σ5, y5, f5, e5⟩ := h5 σ4 (fun i hi => by rw [k65, ← hR.1.1.2 r hr i (by omega)]; exact ha i hi)
  obtain ⟨σ6, e6, x6, y6, f6⟩ := rowM (r := q) (n := cs.length) hq (by omega) σ5 g2
  obtain ⟨σ7, e7, y7, f7⟩ := outM (y := nI st.1) (K := fun (v8_13 : Int32) (σL13 : GS) => some (nI st.1, σL13)) hq hl bl σ6 (by rw [f6.1 85 (by simp)]; exact y5)
  refine ⟨nI st.1, σ4, σ7, ?_, ?_, ?_, ?_⟩
  · rw [bc_s (show F_X_codesRefusal (nI r) 6 σ = _ from eX), if_pos rfl, gi hr (by decide), gi hr (by decide), c31 (n := r) (by omega), h8, bv_s e1, bv_s e2, bv_s e3, jn_s, jn_s, e4, k50]
  · unfold F_M_round
    rw [bp_s g2, if_neg (by decide), bc_s (show F_M_noCodes (nI r) 6 σ4 = _ from eM σ4 k64 k65), if_pos (by decide), gi hr (by decide), c31 (n := r) (by omega), k64, h64, jn_s, jn_s, pow6M hl, jn_s, e5, bc_s e6, jn_s, e7]
  · have k : ∀ c, c ≠ 32 → c ≠ 33 → c ≠ 50 → c ≠ 51 → c ≠ 52 → c ≠ 53 → c ≠ 8 → c ≠ 2 + q → c ≠ 75 → c ≠ 84 → c ≠ 85 → c ≠ 64 → c ≠ 65 → σ7.1 c = σ.1 c := fun c w1 w2 w3 w4 w5 w6 w7 w8 w9 w10 w11 w12 w13 => by
      rw [f7.1 c (by simp [w13]), f6.1 c (by simp [w12, w13]), f5.1 c (by simp [w9, w10, w11]), f4.1 c (by simp [w8]), f3.1 c (by simp [w7, w8]), f2.1 c (by simp [w3, w5, w6]), f1.1 c (by simp [w1, w2, w3, w4])]
    refine hR.1.rows (fun c hc hnc => ?_) ?_
    · have := of_decide_eq_true hc
      exact k c (by omega) (by omega) (by omega) (by omega) (by omega) (by omega) (by omega) (by omega) (by omega) (by omega) (by omega) (by omega) (by omega)
    · refine RR.put hR.1.1 (r := q) (nI cs.length) (fun i => if i < cs.length then nI (st.2.getD i 0) else 0) (Or.inr ⟨_, by omega, rfl⟩) (fun j => ?_) (fun j => ?_) (fun i hi => ?_) (fun z hz hne => ?_) (fun z i hz hi => ?_)
      · rw [f7.1 8 (by simp), f6.1 8 (by simp), f5.1 8 (by simp), f4.1 8 (by simp; omega), x3, f2.1 8 (by simp), f1.1 8 (by simp)]
      · rw [f7.1 64 (by simp), x6, f5.1 64 (by simp), k64]
      · rw [f7.1 (2 + q) (by simp; omega), f6.1 (2 + q) (by simp; omega), f5.1 (2 + q) (by simp; omega), y4, y3 i hi]
      · exact k (2 + z) (by omega) (by omega) (by omega) (by omega) (by omega) (by omega) (by omega) (by omega) (by omega) (by omega) (by omega) (by omega) (by omega)
      · rw [y7, y6, f5.1 65 (by simp), k65]
        by_cases e : z = q
        · subst e
          rw [if_pos rfl]
          by_cases w : i < cs.length
          · rw [if_pos w, if_pos (by omega), Nat.add_sub_cancel_left]
          · rw [if_neg w, if_neg (by omega), if_pos (by omega)]
        · rw [if_neg e, if_neg (by omega), if_neg (by omega)]
  · refine hR.2.fr2 (fun c hc => ?_) ?_
    · rw [f7.1 c (by simp; omega), f6.1 c (by simp; omega), f5.1 c (by simp; omega), f4.1 c (by simp; omega), f3.1 c (by simp; omega), f2.1 c (by simp; omega), f1.1 c (by simp; omega)]
    · rw [f7.2, f6.2, f5.2, f4.2, f3.2, f2.2, f1.2]
