/-! digest -/
def hsm (f : Nat → Int32) (h : Int64) : Nat → Int64
  | 0 => h
  | n + 1 => 31 * hsm f h n + (f n).toInt64
theorem hsm_s (f : Nat → Int32) (h : Int64) (n : Nat) : hsm f h (n + 1) = 31 * hsm f h n + (f n).toInt64 := rfl
theorem hsm_congr {f g : Nat → Int32} {h : Int64} : ∀ {n : Nat}, (∀ i, i < n → f i = g i) → hsm f h n = hsm g h n
  | 0, _ => rfl
  | n + 1, q => by rw [hsm_s, hsm_s, hsm_congr (fun i hi => q i (by omega)), q n (by omega)]
def hrw (z : Nat → Int32) (c : Nat → Nat → Int32) (h : Int64) : Nat → Int64
  | 0 => h
  | r + 1 => hsm (c r) (31 * hrw z c h r + (z r).toInt64) (z r).toNatClampNeg
theorem hrw_s (z : Nat → Int32) (c : Nat → Nat → Int32) (h : Int64) (r : Nat) : hrw z c h (r + 1) = hsm (c r) (31 * hrw z c h r + (z r).toInt64) (z r).toNatClampNeg := rfl
theorem hrw_congr {z z' : Nat → Int32} {c c' : Nat → Nat → Int32} {h : Int64} : ∀ {n : Nat}, (∀ r, r < n → z r = z' r ∧ ∀ i, i < (z r).toNatClampNeg → c r i = c' r i) → hrw z c h n = hrw z' c' h n
  | 0, _ => rfl
  | n + 1, q => by
    obtain ⟨q1, q2⟩ := q n (by omega)
    rw [hrw_s, hrw_s, hrw_congr (fun i hi => q i (by omega)), ← q1, hsm_congr q2]
def hwk (S : Nat → WS) (h : Int64) : Nat → Int64
  | 0 => h
  | i + 1 => hsm (fact (S i)) (hwk S h i) 5
theorem hwk_s (S : Nat → WS) (h : Int64) (i : Nat) : hwk S h (i + 1) = hsm (fact (S i)) (hwk S h i) 5 := rfl
theorem dgX6 {σ : GS} {n h : Nat} {S : Nat → WS} {K : Int64 → Int32 → Option (Int64 × GS)} (hK : RK σ) (hn : n ≤ 5) (hh : h ≤ 60) (e2 : σ.1 19 2 = nI n) (e3 : σ.1 19 3 = nI h) (hS : HS n (σ.1 20) (σ.1 21) (20 * h) (σ.1 68) S) : F_X_digest_6 σ K 50000 17 0 = K (hsm (ctv σ S n h) 17 8) (nI 8) := by
  refine lpE (G := fun k i (t : Int64) => F_X_digest_6 σ K k t (nI i)) (P := fun o => o = K (hsm (ctv σ S n h) 17 8) (nI 8)) (Inv := fun i t => t = hsm (ctv σ S n h) 17 i) (N := 8) ?_ ?_ 8 0 50000 17 (by omega) (by omega) rfl
  · intro k i t hi hI
    refine Or.inr ⟨hsm (ctv σ S n h) 17 (i + 1), ?_, rfl⟩
    show F_X_digest_6 σ K (k + 1) t (nI i) = F_X_digest_6 σ K k _ (nI (i + 1))
    rw [F_X_digest_6.eq_2, if_neg (show ¬ (8 : Int32) ≤ nI i from nI_ge (b := 8) hi (by decide)), bp_s (countX hK hn hh hi e2 e3 hS), nI_1, hI]
    rfl
  · intro k t hI
    show F_X_digest_6 σ K (k + 1) t (nI 8) = _
    rw [F_X_digest_6.eq_2, if_pos (by decide), hI]
theorem dgM6 {s σ : GS} {n h : Nat} {S : Nat → WS} {K : Int64 → Int32 → Option Int64} (hB : RB σ) (hn : n ≤ 5) (hS : HS n (σ.1 20) (σ.1 21) (20 * h) (σ.1 68) S) (m1 : σ.1 68 1 = nI h) (k68 : s.1 68 = σ.1 68) (k72 : s.1 72 = σ.1 72) (k64 : s.1 64 = σ.1 64) (k66 : s.1 66 = σ.1 66) : F_M_digest_6 s K 50000 17 0 = K (hsm (ctv σ S n h) 17 8) (nI 8) := by
  refine lpE (G := fun k i (t : Int64) => F_M_digest_6 s K k t (nI i)) (P := fun o => o = K (hsm (ctv σ S n h) 17 8) (nI 8)) (Inv := fun i t => t = hsm (ctv σ S n h) 17 i) (N := 8) ?_ ?_ 8 0 50000 17 (by omega) (by omega) rfl
  · intro k i t hi hI
    refine Or.inr ⟨hsm (ctv σ S n h) 17 (i + 1), ?_, rfl⟩
    show F_M_digest_6 s K (k + 1) t (nI i) = F_M_digest_6 s K k _ (nI (i + 1))
    rw [F_M_digest_6.eq_2, if_neg (show ¬ (8 : Int32) ≤ nI i from nI_ge (b := 8) hi (by decide)), bp_s (countedM hB hn hi hS m1 k68 k72 k64 k66), nI_1, hI]
    rfl
  · intro k t hI
    show F_M_digest_6 s K (k + 1) t (nI 8) = _
    rw [F_M_digest_6.eq_2, if_pos (by decide), hI]
theorem dgX47 {i n h : Nat} {s : WS} {σ : GS} (v : Int64) (hi : i < n) (hn : n ≤ 5) (hh : h ≤ 60) (hV : WV s) (e2 : σ.1 19 2 = nI n) (e3 : σ.1 19 3 = nI h) (ek : σ.1 20 i = nI s.1) (hF : FX (σ.1 21) (20 * h + 4 * i) s) : ∃ σ', Fr [34, 32, 33] σ σ' ∧ ∀ K : Int64 → Int32 → GS → Option (Int64 × GS), F_X_digest_47 (nI i) K 50000 v 0 σ = K (hsm (fact s) v 5) (nI 5) σ' := by
  have := lpE (G := fun k j (t : Int64 × GS) => fun (K : Int64 → Int32 → GS → Option (Int64 × GS)) => F_X_digest_47 (nI i) K k t.1 (nI j) t.2) (P := fun o => ∃ σ', Fr [34, 32, 33] σ σ' ∧ ∀ K, o K = K (hsm (fact s) v 5) (nI 5) σ') (Inv := fun j t => t.1 = hsm (fact s) v j ∧ Fr [34, 32, 33] σ t.2) (N := 5) ?_ ?_ 5 0 50000 (v, σ) (by omega) (by omega) ⟨rfl, Fr.refl _ _⟩
  · exact this
  · rintro k j ⟨t1, t⟩ hj ⟨h1, h2⟩
    have h1 : t1 = hsm (fact s) v j := h1
    have h2 : Fr [34, 32, 33] σ t := h2
    obtain ⟨t', e, f⟩ := factX (v := j) (σ := t) hi hn hh (by omega) hV (by rw [h2.1 19 (by simp)]; exact e2) (by rw [h2.1 19 (by simp)]; exact e3) (by rw [h2.1 20 (by simp)]; exact ek) (by rw [h2.1 21 (by simp)]; exact hF)
    refine Or.inr ⟨(hsm (fact s) v (j + 1), t'), ?_, rfl, h2.trans f⟩
    funext K
    show F_X_digest_47 (nI i) K (k + 1) t1 (nI j) t = F_X_digest_47 (nI i) K k (hsm (fact s) v (j + 1)) (nI (j + 1)) t'
    rw [F_X_digest_47.eq_2, if_neg (show ¬ (5 : Int32) ≤ nI j from nI_ge (b := 5) hj (by decide)), bc_s e, nI_1, h1, hsm_s]
  · rintro k ⟨t1, t⟩ ⟨h1, h2⟩
    have h1 : t1 = hsm (fact s) v 5 := h1
    refine ⟨t, h2, fun K => ?_⟩
    show F_X_digest_47 (nI i) K (k + 1) t1 (nI 5) t = _
    rw [F_X_digest_47.eq_2, if_pos (by decide), h1]
theorem dgX33 {n h : Nat} {S : Nat → WS} {σ : GS} (v : Int64) (hn : n ≤ 5) (hh : h ≤ 60) (e2 : σ.1 19 2 = nI n) (e3 : σ.1 19 3 = nI h) (hS : HS n (σ.1 20) (σ.1 21) (20 * h) (σ.1 68) S) : ∃ σ', Fr [34, 32, 33] σ σ' ∧ ∀ K : Int64 → Int32 → GS → Option (Int64 × GS), F_X_digest_33 K 50000 v 0 σ = K (hwk S v n) (nI n) σ' := by
  have := lpE (G := fun k j (t : Int64 × GS) => fun (K : Int64 → Int32 → GS → Option (Int64 × GS)) => F_X_digest_33 K k t.1 (nI j) t.2) (P := fun o => ∃ σ', Fr [34, 32, 33] σ σ' ∧ ∀ K, o K = K (hwk S v n) (nI n) σ') (Inv := fun j t => t.1 = hwk S v j ∧ Fr [34, 32, 33] σ t.2) (N := n) ?_ ?_ n 0 50000 (v, σ) (by omega) (by omega) ⟨rfl, Fr.refl _ _⟩
  · exact this
  · rintro k j ⟨t1, t⟩ hj ⟨h1, h2⟩
    have h1 : t1 = hwk S v j := h1
    have h2 : Fr [34, 32, 33] σ t := h2
    obtain ⟨w1, w2, w3, w4⟩ := hS.2 j hj
    obtain ⟨t', f, e⟩ := dgX47 (σ := t) t1 hj hn hh w1 (by rw [h2.1 19 (by simp)]; exact e2) (by rw [h2.1 19 (by simp)]; exact e3) (by rw [h2.1 20 (by simp)]; exact w2) (by rw [h2.1 21 (by simp)]; exact w3)
    refine Or.inr ⟨(hwk S v (j + 1), t'), ?_, rfl, h2.trans f⟩
    funext K
    show F_X_digest_33 K (k + 1) t1 (nI j) t = F_X_digest_33 K k (hwk S v (j + 1)) (nI (j + 1)) t'
    rw [F_X_digest_33.eq_2, h2.1 19 (by simp), e2, if_neg (nI_ge hj (by omega)), jn_s, e, nI_1, h1, hwk_s]
  · rintro k ⟨t1, t⟩ ⟨h1, h2⟩
    have h1 : t1 = hwk S v n := h1
    have h2 : Fr [34, 32, 33] σ t := h2
    refine ⟨t, h2, fun K => ?_⟩
    show F_X_digest_33 K (k + 1) t1 (nI n) t = _
    rw [F_X_digest_33.eq_2, h2.1 19 (by simp), e2, if_pos (nI_le (Nat.le_refl _) (by omega)), h1]
theorem dgM46 {i : Nat} {s : WS} {σ : GS} {K : Int64 → Int32 → Option Int64} (v : Int64) (hi : i < 5) (hV : WV s) (hM : WM (σ.1 68) i s) : F_M_digest_46 (nI i) σ K 50000 v 0 = K (hsm (fact s) v 5) (nI 5) := by
  refine lpE (G := fun k j (t : Int64) => F_M_digest_46 (nI i) σ K k t (nI j)) (P := fun o => o = K (hsm (fact s) v 5) (nI 5)) (Inv := fun j t => t = hsm (fact s) v j) (N := 5) ?_ ?_ 5 0 50000 v (by omega) (by omega) rfl
  · intro k j t hj hI
    refine Or.inr ⟨hsm (fact s) v (j + 1), ?_, rfl⟩
    show F_M_digest_46 (nI i) σ K (k + 1) t (nI j) = F_M_digest_46 (nI i) σ K k _ (nI (j + 1))
    rw [F_M_digest_46.eq_2, if_neg (show ¬ (5 : Int32) ≤ nI j from nI_ge (b := 5) hj (by decide)), bp_s (toldM hi (by omega) hV hM), nI_1, hI, hsm_s]
  · intro k t hI
    show F_M_digest_46 (nI i) σ K (k + 1) t (nI 5) = _
    rw [F_M_digest_46.eq_2, if_pos (by decide), hI]
theorem dgM33 {n : Nat} {S : Nat → WS} {σ : GS} {K : Int64 → Int32 → Option Int64} (v : Int64) (hn : n ≤ 5) (m0 : σ.1 68 0 = nI n) (hV : ∀ i, i < n → WV (S i)) (hM : ∀ i, i < n → WM (σ.1 68) i (S i)) : F_M_digest_33 σ K 50000 v 0 = K (hwk S v n) (nI n) := by
  refine lpE (G := fun k j (t : Int64) => F_M_digest_33 σ K k t (nI j)) (P := fun o => o = K (hwk S v n) (nI n)) (Inv := fun j t => t = hwk S v j) (N := n) ?_ ?_ n 0 50000 v (by omega) (by omega) rfl
  · intro k j t hj hI
    refine Or.inr ⟨hwk S v (j + 1), ?_, rfl⟩
    show F_M_digest_33 σ K (k + 1) t (nI j) = F_M_digest_33 σ K k _ (nI (j + 1))
    rw [F_M_digest_33.eq_2, m0, if_neg (nI_ge hj (by omega)), jn_s, dgM46 t (by omega) (hV j hj) (hM j hj), nI_1, hI, hwk_s]
  · intro k t hI
    show F_M_digest_33 σ K (k + 1) t (nI n) = _
    rw [F_M_digest_33.eq_2, m0, if_pos (nI_le (Nat.le_refl _) (by omega)), hI]
def kpv (σ : GS) (k : Nat) : Int32 := if σ.1 (23 + 3 * k) 2 = 0 then -1 else σ.1 (23 + 3 * k) 3
theorem dgX82 {s σ : GS} {K : Int64 → Int32 → Option (Int64 × GS)} (v : Int64) (e : ∀ c, 23 ≤ c → c ≤ 31 → s.1 c = σ.1 c) : F_X_digest_82 s K 50000 v 0 = K (hsm (kpv σ) v 3) (nI 3) := by
  refine lpE (G := fun k j (t : Int64) => F_X_digest_82 s K k t (nI j)) (P := fun o => o = K (hsm (kpv σ) v 3) (nI 3)) (Inv := fun j t => t = hsm (kpv σ) v j) (N := 3) ?_ ?_ 3 0 50000 v (by omega) (by omega) rfl
  · intro k j t hj hI
    refine Or.inr ⟨hsm (kpv σ) v (j + 1), ?_, rfl⟩
    show F_X_digest_82 s K (k + 1) t (nI j) = F_X_digest_82 s K k _ (nI (j + 1))
    rw [F_X_digest_82.eq_2, if_neg (show ¬ (3 : Int32) ≤ nI j from nI_ge (b := 3) hj (by decide)), gi hj (by decide), jn_s, c31 (by omega), e (23 + 3 * j) (by omega) (by omega), gi hj (by decide), nI_1, hI, hsm_s]
    unfold kpv
    by_cases q : σ.1 (23 + 3 * j) 2 = 0
    · rw [if_pos q, if_pos q]
    · rw [if_neg q, if_neg q]
  · intro k t hI
    show F_X_digest_82 s K (k + 1) t (nI 3) = _
    rw [F_X_digest_82.eq_2, if_pos (by decide), hI]
theorem dgM81 {s σ : GS} {K : Int64 → Int32 → Option Int64} (v : Int64) (hK : RK σ) (e72 : s.1 72 = σ.1 72) (e70 : s.1 70 = σ.1 70) : F_M_digest_81 s K 50000 v 0 = K (hsm (kpv σ) v 3) (nI 3) := by
  refine lpE (G := fun k j (t : Int64) => F_M_digest_81 s K k t (nI j)) (P := fun o => o = K (hsm (kpv σ) v 3) (nI 3)) (Inv := fun j t => t = hsm (kpv σ) v j) (N := 3) ?_ ?_ 3 0 50000 v (by omega) (by omega) rfl
  · intro k j t hj hI
    refine Or.inr ⟨hsm (kpv σ) v (j + 1), ?_, rfl⟩
    show F_M_digest_81 s K (k + 1) t (nI j) = F_M_digest_81 s K k _ (nI (j + 1))
    rw [F_M_digest_81.eq_2, if_neg (show ¬ (3 : Int32) ≤ nI j from nI_ge (b := 3) hj (by decide)), gi hj (by decide), jn_s, c31 (by omega), e72, show (27 : Int32) * nI j + 1 = nI (27 * j + 1) from ix27 j 1, gi (by omega) (by decide), c31 (by omega), e70, nI_1, hI, hsm_s]
    unfold kpv
    rcases hK j hj with ⟨q1, q2⟩ | ⟨q1, n, h, q2, q3, q4, q5⟩
    · rw [if_pos q1, if_pos q2]
    · have hm : σ.1 70 (27 * j + 1) = nI h := q5.2.2.1
      have hn := q5.1
      rw [if_neg (by rw [q1]; decide), if_neg (by rw [q3]; exact nI_ne0 (by omega) (by omega)), hm, q4]
  · intro k t hI
    show F_M_digest_81 s K (k + 1) t (nI 3) = _
    rw [F_M_digest_81.eq_2, if_pos (by decide), hI]
theorem szc {z : Int32} {B : Nat} (hB : B < 1000) (h : z = -1 ∨ ∃ n, n ≤ B ∧ z = nI n) : ∃ m, m ≤ B ∧ z.toNatClampNeg = m ∧ (∀ j, j < m → ¬ z ≤ nI j) ∧ z ≤ nI m := by
  rcases h with h | ⟨n, hn, h⟩
  · subst h
    exact ⟨0, Nat.zero_le _, by decide, fun j hj => absurd hj (Nat.not_lt_zero _), by decide⟩
  · subst h
    exact ⟨n, hn, c31 (by omega), fun j hj => nI_ge hj (by omega), nI_le (Nat.le_refl _) (by omega)⟩
theorem dgX151 {r m : Nat} {s : GS} {K : Int64 → Int32 → Option (Int64 × GS)} (v : Int64) (hr : r < 6) (hm : m ≤ 40) (h1 : ∀ j, j < m → ¬ s.1 8 r ≤ nI j) (h2 : s.1 8 r ≤ nI m) : F_X_digest_151 (nI r) s K 50000 v 0 = K (hsm (s.1 (2 + r)) v m) (nI m) := by
  refine lpE (G := fun k j (t : Int64) => F_X_digest_151 (nI r) s K k t (nI j)) (P := fun o => o = K (hsm (s.1 (2 + r)) v m) (nI m)) (Inv := fun j t => t = hsm (s.1 (2 + r)) v j) (N := m) ?_ ?_ m 0 50000 v (by omega) (by omega) rfl
  · intro k j t hj hI
    refine Or.inr ⟨hsm (s.1 (2 + r)) v (j + 1), ?_, rfl⟩
    show F_X_digest_151 (nI r) s K (k + 1) t (nI j) = F_X_digest_151 (nI r) s K k _ (nI (j + 1))
    rw [F_X_digest_151.eq_2, gi hr (by decide), c31 (show r < 2 ^ 31 by omega), if_neg (h1 j hj), gi hr (by decide), gi (show j < 40 by omega) (by decide), c31 (show j < 2 ^ 31 by omega), nI_1, hI, hsm_s]
  · intro k t hI
    show F_X_digest_151 (nI r) s K (k + 1) t (nI m) = _
    rw [F_X_digest_151.eq_2, gi hr (by decide), c31 (show r < 2 ^ 31 by omega), if_pos h2, hI]
theorem dgX128 {s : GS} {K : Int64 → Int32 → Option (Int64 × GS)} (v : Int64) (hz : ∀ r, r < 6 → s.1 8 r = -1 ∨ ∃ n, n ≤ 40 ∧ s.1 8 r = nI n) : F_X_digest_128 s K 50000 v 0 = K (hrw (s.1 8) (fun r => s.1 (2 + r)) v 6) (nI 6) := by
  refine lpE (G := fun k j (t : Int64) => F_X_digest_128 s K k t (nI j)) (P := fun o => o = K (hrw (s.1 8) (fun r => s.1 (2 + r)) v 6) (nI 6)) (Inv := fun j t => t = hrw (s.1 8) (fun r => s.1 (2 + r)) v j) (N := 6) ?_ ?_ 6 0 50000 v (by omega) (by omega) rfl
  · intro k j t hj hI
    refine Or.inr ⟨hrw (s.1 8) (fun r => s.1 (2 + r)) v (j + 1), ?_, rfl⟩
    show F_X_digest_128 s K (k + 1) t (nI j) = F_X_digest_128 s K k _ (nI (j + 1))
    obtain ⟨m, q1, q2, q3, q4⟩ := szc (by decide) (hz j hj)
    rw [F_X_digest_128.eq_2, if_neg (show ¬ (6 : Int32) ≤ nI j from nI_ge (b := 6) hj (by decide)), gi hj (by decide), jn_s, c31 (by omega), dgX151 _ hj q1 q3 q4, nI_1, hI, hrw_s, q2]
  · intro k t hI
    show F_X_digest_128 s K (k + 1) t (nI 6) = _
    rw [F_X_digest_128.eq_2, if_pos (by decide), hI]
theorem dgM149 {r m : Nat} {s : GS} {K : Int64 → Int32 → Option Int64} (v : Int64) (hr : r < 6) (hm : m ≤ 40) (h1 : ∀ j, j < m → ¬ s.1 64 r ≤ nI j) (h2 : s.1 64 r ≤ nI m) : F_M_digest_149 (nI r) s K 50000 v 0 = K (hsm (fun i => s.1 65 (40 * r + i)) v m) (nI m) := by
  refine lpE (G := fun k j (t : Int64) => F_M_digest_149 (nI r) s K k t (nI j)) (P := fun o => o = K (hsm (fun i => s.1 65 (40 * r + i)) v m) (nI m)) (Inv := fun j t => t = hsm (fun i => s.1 65 (40 * r + i)) v j) (N := m) ?_ ?_ m 0 50000 v (by omega) (by omega) rfl
  · intro k j t hj hI
    refine Or.inr ⟨hsm (fun i => s.1 65 (40 * r + i)) v (j + 1), ?_, rfl⟩
    show F_M_digest_149 (nI r) s K (k + 1) t (nI j) = F_M_digest_149 (nI r) s K k _ (nI (j + 1))
    rw [F_M_digest_149.eq_2, gi hr (by decide), c31 (show r < 2 ^ 31 by omega), if_neg (h1 j hj), ix40, gi (show 40 * r + j < 240 by omega) (by decide), c31 (by omega), nI_1, hI, hsm_s]
  · intro k t hI
    show F_M_digest_149 (nI r) s K (k + 1) t (nI m) = _
    rw [F_M_digest_149.eq_2, gi hr (by decide), c31 (show r < 2 ^ 31 by omega), if_pos h2, hI]
theorem dgM126 {s : GS} {K : Int64 → Int32 → Option Int64} (v : Int64) (hz : ∀ r, r < 6 → s.1 64 r = -1 ∨ ∃ n, n ≤ 40 ∧ s.1 64 r = nI n) : F_M_digest_126 s K 50000 v 0 = K (hrw (s.1 64) (fun r => fun i => s.1 65 (40 * r + i)) v 6) (nI 6) := by
  refine lpE (G := fun k j (t : Int64) => F_M_digest_126 s K k t (nI j)) (P := fun o => o = K (hrw (s.1 64) (fun r => fun i => s.1 65 (40 * r + i)) v 6) (nI 6)) (Inv := fun j t => t = hrw (s.1 64) (fun r => fun i => s.1 65 (40 * r + i)) v j) (N := 6) ?_ ?_ 6 0 50000 v (by omega) (by omega) rfl
  · intro k j t hj hI
    refine Or.inr ⟨hrw (s.1 64) (fun r => fun i => s.1 65 (40 * r + i)) v (j + 1), ?_, rfl⟩
    show F_M_digest_126 s K (k + 1) t (nI j) = F_M_digest_126 s K k _ (nI (j + 1))
    obtain ⟨m, q1, q2, q3, q4⟩ := szc (by decide) (hz j hj)
    rw [F_M_digest_126.eq_2, if_neg (show ¬ (6 : Int32) ≤ nI j from nI_ge (b := 6) hj (by decide)), gi hj (by decide), jn_s, c31 (by omega), dgM149 _ hj q1 q3 q4, nI_1, hI, hrw_s, q2]
  · intro k t hI
    show F_M_digest_126 s K (k + 1) t (nI 6) = _
    rw [F_M_digest_126.eq_2, if_pos (by decide), hI]
theorem dgX215 {r m : Nat} {s : GS} {K : Int64 → Int32 → Option (Int64 × GS)} (v : Int64) (hr : r < 4) (hm : m ≤ 80) (h1 : ∀ j, j < m → ¬ s.1 14 r ≤ nI j) (h2 : s.1 14 r ≤ nI m) : F_X_digest_215 (nI r) s K 50000 v 0 = K (hsm (s.1 (10 + r)) v m) (nI m) := by
  refine lpE (G := fun k j (t : Int64) => F_X_digest_215 (nI r) s K k t (nI j)) (P := fun o => o = K (hsm (s.1 (10 + r)) v m) (nI m)) (Inv := fun j t => t = hsm (s.1 (10 + r)) v j) (N := m) ?_ ?_ m 0 50000 v (by omega) (by omega) rfl
  · intro k j t hj hI
    refine Or.inr ⟨hsm (s.1 (10 + r)) v (j + 1), ?_, rfl⟩
    show F_X_digest_215 (nI r) s K (k + 1) t (nI j) = F_X_digest_215 (nI r) s K k _ (nI (j + 1))
    rw [F_X_digest_215.eq_2, gi hr (by decide), c31 (show r < 2 ^ 31 by omega), if_neg (h1 j hj), gi hr (by decide), gi (show j < 80 by omega) (by decide), c31 (show j < 2 ^ 31 by omega), nI_1, hI, hsm_s]
  · intro k t hI
    show F_X_digest_215 (nI r) s K (k + 1) t (nI m) = _
    rw [F_X_digest_215.eq_2, gi hr (by decide), c31 (show r < 2 ^ 31 by omega), if_pos h2, hI]
theorem dgX193 {s : GS} {K : Int64 → Int32 → Option (Int64 × GS)} (v : Int64) (hz : ∀ r, r < 4 → s.1 14 r = -1 ∨ ∃ n, n ≤ 80 ∧ s.1 14 r = nI n) : F_X_digest_193 s K 50000 v 0 = K (hrw (s.1 14) (fun r => s.1 (10 + r)) v 4) (nI 4) := by
  refine lpE (G := fun k j (t : Int64) => F_X_digest_193 s K k t (nI j)) (P := fun o => o = K (hrw (s.1 14) (fun r => s.1 (10 + r)) v 4) (nI 4)) (Inv := fun j t => t = hrw (s.1 14) (fun r => s.1 (10 + r)) v j) (N := 4) ?_ ?_ 4 0 50000 v (by omega) (by omega) rfl
  · intro k j t hj hI
    refine Or.inr ⟨hrw (s.1 14) (fun r => s.1 (10 + r)) v (j + 1), ?_, rfl⟩
    show F_X_digest_193 s K (k + 1) t (nI j) = F_X_digest_193 s K k _ (nI (j + 1))
    obtain ⟨m, q1, q2, q3, q4⟩ := szc (by decide) (hz j hj)
    rw [F_X_digest_193.eq_2, if_neg (show ¬ (4 : Int32) ≤ nI j from nI_ge (b := 4) hj (by decide)), gi hj (by decide), jn_s, c31 (by omega), dgX215 _ hj q1 q3 q4, nI_1, hI, hrw_s, q2]
  · intro k t hI
    show F_X_digest_193 s K (k + 1) t (nI 4) = _
    rw [F_X_digest_193.eq_2, if_pos (by decide), hI]
theorem dgM216 {r m : Nat} {s : GS} {K : Int64 → Int32 → Option Int64} (v : Int64) (hr : r < 4) (hm : m ≤ 80) (h1 : ∀ j, j < m → ¬ s.1 66 r ≤ nI j) (h2 : s.1 66 r ≤ nI m) : F_M_digest_216 (nI r) s K 50000 v 0 = K (hsm (fun i => s.1 67 (80 * r + i)) v m) (nI m) := by
  refine lpE (G := fun k j (t : Int64) => F_M_digest_216 (nI r) s K k t (nI j)) (P := fun o => o = K (hsm (fun i => s.1 67 (80 * r + i)) v m) (nI m)) (Inv := fun j t => t = hsm (fun i => s.1 67 (80 * r + i)) v j) (N := m) ?_ ?_ m 0 50000 v (by omega) (by omega) rfl
  · intro k j t hj hI
    refine Or.inr ⟨hsm (fun i => s.1 67 (80 * r + i)) v (j + 1), ?_, rfl⟩
    show F_M_digest_216 (nI r) s K (k + 1) t (nI j) = F_M_digest_216 (nI r) s K k _ (nI (j + 1))
    rw [F_M_digest_216.eq_2, gi hr (by decide), c31 (show r < 2 ^ 31 by omega), if_neg (h1 j hj), ix80, gi (show 80 * r + j < 320 by omega) (by decide), c31 (by omega), nI_1, hI, hsm_s]
  · intro k t hI
    show F_M_digest_216 (nI r) s K (k + 1) t (nI m) = _
    rw [F_M_digest_216.eq_2, gi hr (by decide), c31 (show r < 2 ^ 31 by omega), if_pos h2, hI]
theorem dgM194 {s : GS} {K : Int64 → Int32 → Option Int64} (v : Int64) (hz : ∀ r, r < 4 → s.1 66 r = -1 ∨ ∃ n, n ≤ 80 ∧ s.1 66 r = nI n) : F_M_digest_194 s K 50000 v 0 = K (hrw (s.1 66) (fun r => fun i => s.1 67 (80 * r + i)) v 4) (nI 4) := by
  refine lpE (G := fun k j (t : Int64) => F_M_digest_194 s K k t (nI j)) (P := fun o => o = K (hrw (s.1 66) (fun r => fun i => s.1 67 (80 * r + i)) v 4) (nI 4)) (Inv := fun j t => t = hrw (s.1 66) (fun r => fun i => s.1 67 (80 * r + i)) v j) (N := 4) ?_ ?_ 4 0 50000 v (by omega) (by omega) rfl
  · intro k j t hj hI
    refine Or.inr ⟨hrw (s.1 66) (fun r => fun i => s.1 67 (80 * r + i)) v (j + 1), ?_, rfl⟩
    show F_M_digest_194 s K (k + 1) t (nI j) = F_M_digest_194 s K k _ (nI (j + 1))
    obtain ⟨m, q1, q2, q3, q4⟩ := szc (by decide) (hz j hj)
    rw [F_M_digest_194.eq_2, if_neg (show ¬ (4 : Int32) ≤ nI j from nI_ge (b := 4) hj (by decide)), gi hj (by decide), jn_s, c31 (by omega), dgM216 _ hj q1 q3 q4, nI_1, hI, hrw_s, q2]
  · intro k t hI
    show F_M_digest_194 s K (k + 1) t (nI 4) = _
    rw [F_M_digest_194.eq_2, if_pos (by decide), hI]
theorem hrw_rows {σ : GS} (hR : RR σ) (v : Int64) : hrw (σ.1 8) (fun r => σ.1 (2 + r)) v 6 = hrw (σ.1 64) (fun r i => σ.1 65 (40 * r + i)) v 6 := hrw_congr fun r hr => by
  obtain ⟨m, q1, q2, -, -⟩ := szc (B := 40) (by decide) (hR.1 r hr).2
  refine ⟨(hR.1 r hr).1, fun i hi => hR.2 r hr i (by omega)⟩
theorem hrw_txts {σ : GS} (hR : RT σ) (v : Int64) : hrw (σ.1 14) (fun r => σ.1 (10 + r)) v 4 = hrw (σ.1 66) (fun r i => σ.1 67 (80 * r + i)) v 4 := hrw_congr fun r hr => by
  obtain ⟨m, q1, q2, -, -⟩ := szc (B := 80) (by decide) (hR.1 r hr).2
  refine ⟨(hR.1 r hr).1, fun i hi => hR.2 r hr i (by omega)⟩
theorem stp_digest : St_digest Rel := by
  intro σ hR
  obtain ⟨n, h, e2, e3, hn, hh, m1, ⟨S, hS⟩, hp⟩ := hR.1.2.2.1
  obtain ⟨σ1, f, eW⟩ := dgX33 (σ := σ) (hsm (ctv σ S n h) 17 8) hn hh e2 e3 hS
  have hR1 : Rel σ1 := hR.fr f rfl rfl
  have k : ∀ c, c ≠ 34 → c ≠ 32 → c ≠ 33 → σ1.1 c = σ.1 c := fun c h1 h2 h3 => f.1 c (by simp [h1, h2, h3])
  refine ⟨hrw (σ1.1 14) (fun r => σ1.1 (10 + r)) (hrw (σ1.1 8) (fun r => σ1.1 (2 + r)) (hsm (kpv σ) (hwk S (hsm (ctv σ S n h) 17 8) n) 3) 6) 4, σ1, ?_, ?_, hR1⟩
  · unfold F_X_digest
    simp only [jn_s]
    rw [dgX6 (S := S) hR.1.2.2.2.1 hn hh e2 e3 hS, eW, dgX82 (σ := σ) _ (fun c h1 h2 => k c (by omega) (by omega) (by omega)), dgX128 _ (fun r hr => (hR1.1.1.1 r hr).2), dgX193 _ (fun r hr => (hR1.1.2.1.1 r hr).2)]
  · unfold F_M_digest
    simp only [jn_s]
    rw [dgM6 (σ := σ) (S := S) (h := h) hR.1 hn hS m1 (k 68 (by decide) (by decide) (by decide)) (k 72 (by decide) (by decide) (by decide)) (k 64 (by decide) (by decide) (by decide)) (k 66 (by decide) (by decide) (by decide)), dgM33 (S := S) _ hn (by rw [k 68 (by decide) (by decide) (by decide)]; exact hS.1) (fun i hi => (hS.2 i hi).1) (fun i hi => by rw [k 68 (by decide) (by decide) (by decide)]; exact (hS.2 i hi).2.2.2), dgM81 (σ := σ) _ hR.1.2.2.2.1 (k 72 (by decide) (by decide) (by decide)) (k 70 (by decide) (by decide) (by decide)), dgM126 _ (fun r hr => by rw [← (hR1.1.1.1 r hr).1]; exact (hR1.1.1.1 r hr).2), dgM194 _ (fun r hr => by rw [← (hR1.1.2.1.1 r hr).1]; exact (hR1.1.2.1.1 r hr).2), hrw_rows hR1.1.1, hrw_txts hR1.1.2.1]
