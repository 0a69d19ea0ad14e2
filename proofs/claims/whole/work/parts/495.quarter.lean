/-! the quarter: the crossings no farther than 4, surveyed -/
def qLit : List (List Nat) := [[], [0], [1], [2], [3], [4], [0, 1], [0, 2], [0, 3], [0, 4], [1, 2], [1, 3], [1, 4], [2, 0], [2, 3], [2, 4], [3, 0], [3, 1], [3, 4], [4, 1], [4, 2], [0, 1, 2], [0, 1, 3], [0, 1, 4], [0, 2, 0], [0, 2, 3], [0, 2, 4], [0, 3, 0], [0, 3, 1], [0, 3, 4], [0, 4, 1], [0, 4, 2], [1, 2, 0], [1, 2, 3], [1, 2, 4], [1, 3, 0], [1, 3, 1], [1, 3, 4], [1, 4, 1], [1, 4, 2], [2, 0, 2], [2, 0, 3], [2, 0, 4], [2, 3, 0], [2, 3, 1], [2, 3, 4], [2, 4, 1], [2, 4, 2], [3, 0, 1], [3, 0, 2], [3, 0, 3], [3, 0, 4], [3, 1, 3], [3, 1, 4], [3, 4, 1], [3, 4, 2], [4, 1, 2], [4, 1, 3], [4, 1, 4], [4, 2, 0], [4, 2, 4], [0, 1, 2, 0], [0, 1, 2, 3], [0, 1, 2, 4], [0, 1, 3, 0], [0, 1, 3, 1], [0, 1, 3, 4], [0, 1, 4, 1], [0, 1, 4, 2], [0, 2, 0, 2], [0, 2, 0, 3], [0, 2, 0, 4], [0, 2, 3, 0], [0, 2, 3, 1], [0, 2, 3, 4], [0, 2, 4, 1], [0, 2, 4, 2], [0, 3, 0, 1], [0, 3, 0, 2], [0, 3, 0, 3], [0, 3, 0, 4], [0, 3, 1, 3], [0, 3, 1, 4], [0, 3, 4, 1], [0, 3, 4, 2], [0, 4, 1, 2], [0, 4, 1, 3], [0, 4, 1, 4], [0, 4, 2, 0], [0, 4, 2, 4], [1, 2, 0, 2], [1, 2, 0, 3], [1, 2, 0, 4], [1, 2, 3, 0], [1, 2, 3, 1], [1, 2, 3, 4], [1, 2, 4, 1], [1, 2, 4, 2], [1, 3, 0, 1], [1, 3, 0, 2], [1, 3, 0, 3], [1, 3, 0, 4], [1, 3, 1, 3], [1, 3, 1, 4], [1, 3, 4, 1], [1, 3, 4, 2], [1, 4, 1, 2], [1, 4, 1, 3], [1, 4, 1, 4], [1, 4, 2, 0], [1, 4, 2, 4], [2, 0, 2, 0], [2, 0, 2, 3], [2, 0, 2, 4], [2, 0, 3, 0], [2, 0, 3, 1], [2, 0, 3, 4], [2, 0, 4, 1], [2, 0, 4, 2], [2, 3, 0, 1], [2, 3, 0, 2], [2, 3, 0, 3], [2, 3, 0, 4], [2, 3, 1, 3], [2, 3, 1, 4], [2, 3, 4, 1], [2, 3, 4, 2], [2, 4, 1, 2], [2, 4, 1, 3], [2, 4, 1, 4], [2, 4, 2, 0], [2, 4, 2, 4], [3, 0, 1, 2], [3, 0, 1, 3], [3, 0, 1, 4], [3, 0, 2, 0], [3, 0, 2, 3], [3, 0, 2, 4], [3, 0, 3, 0], [3, 0, 3, 1], [3, 0, 3, 4], [3, 0, 4, 1], [3, 0, 4, 2], [3, 1, 3, 0], [3, 1, 3, 1], [3, 1, 3, 4], [3, 1, 4, 1], [3, 1, 4, 2], [3, 4, 1, 2], [3, 4, 1, 3], [3, 4, 1, 4], [3, 4, 2, 0], [3, 4, 2, 4], [4, 1, 2, 0], [4, 1, 2, 3], [4, 1, 2, 4], [4, 1, 3, 0], [4, 1, 3, 1], [4, 1, 3, 4], [4, 1, 4, 1], [4, 1, 4, 2], [4, 2, 0, 2], [4, 2, 0, 3], [4, 2, 0, 4], [4, 2, 4, 1], [4, 2, 4, 2]]
def kLit : List Nat := [1, 2, 3, 4, 5, 6, 6, 7, 8, 9, 10, 10, 10, 11, 12, 13, 14, 14, 14, 15, 16, 17, 18, 18, 18, 19, 19, 20, 21, 21, 21, 21, 21, 22, 23, 24, 25, 25, 25, 26, 27, 28, 29, 29, 29, 30, 30, 31, 32, 32, 32, 33, 33, 33, 34, 35, 36, 37, 37, 37, 38, 38, 39, 40, 40, 40, 40, 40, 41, 42, 43, 44, 45, 45, 45, 46, 46, 47, 48, 48, 48, 48, 49, 50, 51, 52, 52, 52, 52, 53, 54, 54, 55, 56, 56, 56, 56, 56, 57, 58, 59, 60, 60, 60, 60, 61, 62, 62, 62, 63, 64, 65, 66, 66, 66, 67, 67, 68, 69, 69, 69, 69, 69, 70, 71, 72, 73, 74, 74, 74, 75, 75, 76, 77, 77, 77, 77, 78, 79, 80, 81, 81, 81, 81, 82, 83, 83, 84, 85, 85, 85, 85, 85, 86, 87, 88, 89, 89, 89, 89, 90, 90, 90, 91, 92, 93, 94, 95, 95, 95, 96, 96, 97, 98, 98, 98, 98, 99, 100, 101, 102, 102, 102, 102, 103, 104, 104, 105, 106, 106, 106, 106, 106, 107, 108, 109, 110, 110, 110, 110, 111, 112, 112, 112, 113, 114, 115, 116, 116, 116, 117, 117, 118, 119, 119, 119, 119, 120, 121, 122, 123, 123, 123, 123, 124, 125, 125, 126, 127, 127, 127, 127, 127, 128, 129, 130, 131, 131, 131, 131, 132, 132, 132, 133, 134, 135, 136, 136, 136, 137, 138, 139, 140, 140, 140, 141, 141, 142, 143, 143, 143, 144, 145, 145, 145, 146, 146, 147, 148, 148, 148, 148, 148, 149, 150, 151, 152, 152, 152, 152, 153, 154, 154, 154, 155, 156, 157, 158, 158, 158, 159, 159, 160, 161, 161, 161, 161, 161, 162, 163, 164, 164, 165, 166, 166, 166, 166, 166, 166, 166, 166, 166, 166, 166, 166, 166, 166, 166, 166, 166, 166, 166, 166, 166, 166, 166, 166, 166, 166, 166, 166, 166, 166, 166, 166, 166, 166, 166, 166, 166, 166, 166, 166, 166, 166, 166, 166, 166, 166, 166, 166, 166, 166, 166, 166, 166, 166, 166, 166, 166, 166, 166, 166, 166, 166, 166, 166, 166, 166, 166, 166, 166, 166, 166, 166, 166, 166, 166, 166, 166, 166, 166, 166, 166, 166, 166, 166, 166, 166, 166, 166, 166, 166, 166, 166, 166, 166, 166, 166, 166, 166, 166, 166, 166, 166, 166, 166, 166, 166, 166, 166, 166, 166, 166, 166, 166, 166, 166, 166, 166, 166, 166, 166, 166, 166, 166, 166, 166, 166, 166, 166, 166, 166, 166, 166, 166, 166, 166, 166, 166, 166, 166, 166, 166, 166, 166, 166, 166, 166, 166, 166, 166, 166, 166, 166, 166, 166, 166, 166, 166, 166, 166, 166, 166, 166, 166, 166, 166, 166, 166, 166, 166, 166, 166, 166, 166, 166, 166, 166, 166, 166, 166, 166, 166, 166, 166, 166, 166, 166, 166, 166, 166, 166, 166, 166, 166, 166, 166, 166, 166, 166, 166, 166, 166, 166, 166, 166, 166, 166, 166, 166, 166, 166, 166, 166, 166, 166, 166, 166, 166, 166, 166, 166, 166, 166, 166, 166, 166, 166, 166, 166, 166, 166, 166, 166, 166, 166, 166, 166, 166, 166, 166, 166, 166, 166, 166, 166, 166, 166, 166, 166, 166, 166, 166, 166, 166, 166, 166, 166, 166, 166, 166, 166, 166, 166, 166, 166, 166, 166, 166, 166, 166, 166, 166, 166, 166, 166, 166, 166, 166, 166, 166, 166, 166, 166, 166, 166, 166, 166, 166, 166, 166, 166, 166, 166, 166, 166, 166, 166, 166, 166, 166, 166, 166, 166, 166, 166, 166, 166, 166, 166, 166, 166, 166, 166, 166, 166, 166, 166, 166, 166, 166, 166, 166, 166, 166, 166, 166, 166, 166, 166, 166, 166, 166, 166, 166, 166, 166, 166, 166, 166, 166, 166, 166, 166, 166, 166, 166, 166, 166, 166, 166, 166, 166, 166, 166, 166, 166, 166, 166, 166, 166, 166, 166, 166, 166, 166, 166, 166, 166, 166, 166, 166, 166, 166, 166, 166, 166, 166, 166, 166, 166, 166, 166, 166, 166, 166, 166, 166, 166, 166, 166, 166, 166, 166, 166, 166, 166, 166, 166, 166, 166, 166, 166, 166, 166, 166, 166, 166, 166, 166, 166, 166, 166, 166, 166, 166, 166, 166, 166, 166, 166, 166, 166, 166, 166, 166, 166, 166, 166, 166, 166, 166, 166, 166, 166, 166, 166, 166, 166, 166, 166, 166, 166, 166, 166, 166, 166, 166, 166, 166, 166, 166, 166, 166, 166, 166, 166, 166, 166, 166, 166, 166, 166, 166, 166, 166, 166, 166, 166, 166, 166, 166, 166, 166, 166, 166, 166, 166, 166, 166, 166, 166, 166, 166, 166, 166, 166, 166, 166, 166, 166, 166, 166, 166, 166, 166, 166, 166, 166, 166, 166, 166, 166, 166, 166, 166, 166, 166, 166, 166, 166, 166, 166, 166, 166, 166, 166, 166, 166, 166, 166, 166, 166, 166, 166, 166, 166, 166, 166, 166]
theorem qL_lit : qL = qLit := by decide +kernel
def qv (c : Nat) : List Nat := qLit.getD c []
theorem qw_v (c : Nat) : qw c = qv c := by unfold qw qv; rw [qL_lit]
theorem qL_len : qL.length = 166 := by rw [qL_lit]; decide +kernel
theorem qL_nd : qL.Nodup := by rw [qL_lit]; decide +kernel
theorem mem_all5 : ∀ (n : Nat) (w : List Nat), w.length = n → wv w → w ∈ all5 n
  | 0, w, h, _ => by
    rw [List.length_eq_zero_iff.mp h]
    exact List.mem_singleton.mpr rfl
  | n + 1, [], h, _ => by cases h
  | n + 1, s :: w, h, hv => by
    have hs : s < 5 := hv s List.mem_cons_self
    refine List.mem_flatMap.mpr ⟨s, ?_, List.mem_map.mpr ⟨w, mem_all5 n w (by simpa using h) (fun x hx => hv x (List.mem_cons_of_mem _ hx)), rfl⟩⟩
    simp
    omega
theorem all5_ok : ∀ (n : Nat) (w : List Nat), w ∈ all5 n → w.length = n ∧ wv w
  | 0, w, h => by
    rw [List.mem_singleton.mp h]
    exact ⟨rfl, wv_nil⟩
  | n + 1, w, h => by
    obtain ⟨s, hs, h⟩ := List.mem_flatMap.mp h
    obtain ⟨v, hv, rfl⟩ := List.mem_map.mp h
    obtain ⟨a, b⟩ := all5_ok n v hv
    refine ⟨by rw [List.length_cons, a], fun x hx => ?_⟩
    rcases List.mem_cons.mp hx with q | q
    · simp at hs
      omega
    · exact b x q
theorem mem_qL {w : List Nat} (hg : good w) (hv : wv w) (hl : w.length ≤ 4) : w ∈ qL := by
  unfold qL
  rw [List.mem_filter]
  exact ⟨List.mem_flatMap.mpr ⟨w.length, List.mem_range.mpr (by omega), mem_all5 _ w rfl hv⟩, by rw [nf_of_good hg]; exact beq_self_eq_true _⟩
theorem qL_ok {w : List Nat} (h : w ∈ qL) : wv w ∧ good w ∧ w.length ≤ 4 := by
  unfold qL at h
  rw [List.mem_filter] at h
  obtain ⟨h1, h2⟩ := h
  obtain ⟨n, hn, h1⟩ := List.mem_flatMap.mp h1
  obtain ⟨a, b⟩ := all5_ok n w h1
  have hn := List.mem_range.mp hn
  refine ⟨b, ?_, by omega⟩
  have := good_nf w
  rw [beq_iff_eq.mp h2] at this
  exact this
theorem qw_get {c : Nat} (h : c < qL.length) : qw c = qL[c] := by
  unfold qw
  rw [List.getD_eq_getElem?_getD, List.getElem?_eq_getElem h]
  rfl
theorem qw_ok {c : Nat} (h : c < 166) : wv (qw c) ∧ good (qw c) ∧ (qw c).length ≤ 4 := by
  rw [qw_get (by rw [qL_len]; exact h)]
  exact qL_ok (List.getElem_mem _)
theorem qx_lt {w : List Nat} (hg : good w) (hv : wv w) (hl : w.length ≤ 4) : qL.idxOf w < 166 := by
  rw [← qL_len]
  exact List.idxOf_lt_length_of_mem (mem_qL hg hv hl)
theorem qw_x {w : List Nat} (hg : good w) (hv : wv w) (hl : w.length ≤ 4) : qw (qL.idxOf w) = w := by
  rw [qw_get (by rw [qL_len]; exact qx_lt hg hv hl)]
  exact List.getElem_idxOf _
theorem qx_w {c : Nat} (h : c < 166) : qL.idxOf (qw c) = c := by
  rw [qw_get (by rw [qL_len]; exact h)]
  exact qL_nd.idxOf_getElem c _
theorem qnum_snoc (l : List Nat) (s : Nat) : qnum (l ++ [s]) = qnum l * 5 + s + 1 := by unfold qnum; rw [List.foldl_append]; rfl
theorem qnum_bd : ∀ l : List Nat, wv l → 4 * qnum l + 5 ≤ 5 ^ (l.length + 1) ∧ 5 ^ l.length ≤ 4 * qnum l + 1 := by
  refine snocRec (fun _ => ⟨by decide, by decide⟩) fun l s ih hv => ?_
  obtain ⟨h1, h2⟩ := ih (wv_l hv)
  have hs : s < 5 := hv s (by simp)
  have e1 : 5 ^ (l.length + 1 + 1) = 5 ^ (l.length + 1) * 5 := Nat.pow_succ ..
  have e2 : 5 ^ (l.length + 1) = 5 ^ l.length * 5 := Nat.pow_succ ..
  rw [qnum_snoc, List.length_append, List.length_singleton]
  constructor
  · rw [e1]; omega
  · rw [e2]; omega
theorem qnum_inj : ∀ u : List Nat, ∀ v : List Nat, wv u → wv v → qnum u = qnum v → u = v := by
  refine snocRec (fun v _ hv h => ?_) fun u s ih v hu hv h => ?_
  · cases e : v.getLast? with
    | none => rw [List.getLast?_eq_none_iff.mp e]
    | some t =>
      rw [snoc_of e, qnum_snoc] at h
      have h : 0 = qnum v.dropLast * 5 + t + 1 := h
      omega
  · cases e : v.getLast? with
    | none =>
      rw [List.getLast?_eq_none_iff.mp e, qnum_snoc] at h
      have h : qnum u * 5 + s + 1 = 0 := h
      omega
    | some t =>
      have ev := snoc_of e
      rw [ev] at h hv ⊢
      rw [qnum_snoc, qnum_snoc] at h
      have hs : s < 5 := hu s (by simp)
      have ht : t < 5 := hv t (by simp)
      rw [ih v.dropLast (wv_l hu) (wv_l hv) (by omega), show s = t by omega]
theorem qnum4 {l : List Nat} (hv : wv l) (hl : l.length ≤ 4) : qnum l < 781 := by
  have h := (qnum_bd l hv).1
  have h2 : 5 ^ (l.length + 1) ≤ 5 ^ 5 := Nat.pow_le_pow_right (by decide) (by omega)
  omega
theorem qnum5 {l : List Nat} (hv : wv l) (hl : 5 ≤ l.length) : 781 ≤ qnum l := by
  have h := (qnum_bd l hv).2
  have h2 : 5 ^ 5 ≤ 5 ^ l.length := Nat.pow_le_pow_right (by decide) hl
  omega
theorem qnum9 {l : List Nat} (hv : wv l) (hl : l.length ≤ 9) : qnum l < 2 ^ 30 := by
  have h := (qnum_bd l hv).1
  have h2 : 5 ^ (l.length + 1) ≤ 5 ^ 10 := Nat.pow_le_pow_right (by decide) (by omega)
  omega
theorem numCode_loop {K : Int32 → Int32 → Int32 → Option Int32} : ∀ l : List Nat, wv l → l.length ≤ 9 → ∀ n a u : Nat, l.length < n → ∃ y, F_Qu_numberOfCode_6 K n (nI a) (nI u) (nI (cdv l)) = K (nI (a + u * qnum l)) y (nI 0) := by
  refine snocRec (fun _ _ n a u hn => ?_) fun l s ih hv hl n a u hn => ?_
  · obtain ⟨n, rfl⟩ : ∃ k, n = k + 1 := ⟨n - 1, by omega⟩
    refine ⟨nI u, ?_⟩
    rw [F_Qu_numberOfCode_6.eq_2, if_pos (by decide)]
    rfl
  · rw [List.length_append, List.length_singleton] at hl hn
    obtain ⟨n, rfl⟩ : ∃ k, n = k + 1 := ⟨n - 1, by omega⟩
    have hs : s < 5 := hv s (by simp)
    have hc := isC_le (cdv_isC hv (by rw [List.length_append, List.length_singleton]; omega))
    obtain ⟨y, e⟩ := ih (wv_l hv) (by omega) n (a + (s + 1) * u) (u * 5) (by omega)
    refine ⟨y, ?_⟩
    rw [cdv_snoc] at hc ⊢
    have h1 : u * (qnum l * 5 + s + 1) = u * 5 * qnum l + (s + 1) * u := by
      rw [Nat.mul_add, Nat.mul_add, Nat.add_mul, Nat.mul_comm (qnum l) 5, ← Nat.mul_assoc, Nat.mul_comm s u, Nat.mul_one, Nat.one_mul, Nat.add_assoc]
    rw [F_Qu_numberOfCode_6.eq_2, if_neg (nI_nle (by omega) (by omega)), rem10 (by omega), div10 (by omega), show (cdv l * 10 + s + 1) % 10 = s + 1 by omega, show (cdv l * 10 + s + 1) / 10 = cdv l by omega, pk_mul, nI_add, show nI u * (5 : Int32) = nI (u * 5) from pk_mul u 5, e, qnum_snoc, h1, show a + (s + 1) * u + u * 5 * qnum l = a + (u * 5 * qnum l + (s + 1) * u) by omega]
theorem numCode_spec {l : List Nat} (hv : wv l) (hl : l.length ≤ 9) : F_Qu_numberOfCode (nI (cdv l)) = some (nI (qnum l)) := by
  unfold F_Qu_numberOfCode
  rw [jn_s]
  obtain ⟨y, e⟩ := numCode_loop (K := fun (v1_1 : Int32) (v2_1 : Int32) (v3_1 : Int32) => some v1_1) l hv hl 50000 0 1 (by omega)
  rw [Nat.zero_add, Nat.one_mul] at e
  exact e
theorem ne_m1 {j : Nat} (h : j < 2 ^ 31) : nI j ≠ -1 := fun e => by
  have := congrArg Int32.toInt e
  rw [nI_toInt h] at this
  exact absurd this (by show ¬ ((j : Int) = -1); omega)
-- the survey so far: the first k crossings
def SQ (t : GS) (k : Nat) : Prop := t.1 54 9 = nI k ∧ (∀ j, j < k → t.1 55 j = nI (cdv (qw j)) ∧ t.1 56 j = nI (qw j).length ∧ t.1 58 (qnum (qw j)) = nI j) ∧ ∀ j, k ≤ j → j < 166 → t.1 58 (qnum (qw j)) = -1
theorem SQ.fr {t t' : GS} {k : Nat} (h : SQ t k) (f : ∀ c, c = 54 ∨ c = 55 ∨ c = 56 ∨ c = 58 → t'.1 c = t.1 c) : SQ t' k := by
  unfold SQ
  rw [f 54 (by omega), f 55 (by omega), f 56 (by omega), f 58 (by omega)]
  exact h
theorem qnum_ne {j k : Nat} (hj : j < 166) (hk : k < 166) (h : j ≠ k) : qnum (qw j) ≠ qnum (qw k) := fun e => by
  have := qnum_inj _ _ (qw_ok hj).1 (qw_ok hk).1 e
  have h1 := qx_w hj
  rw [this, qx_w hk] at h1
  exact h h1.symm
theorem numOf_old {t : GS} {k j : Nat} (h : SQ t k) (hj : j < k) (hk : k ≤ 166) (x : Int32) : F_Qu_numberOf (nI (cdv (qw j))) x t = some (nI j, t) := by
  obtain ⟨w1, w2, w3⟩ := qw_ok (c := j) (by omega)
  have hq := qnum4 w1 w3
  unfold F_Qu_numberOf
  rw [bp_s (numCode_spec w1 (by omega)), if_neg (nI_pos (by omega)), if_pos (show nI _ < (781 : Int32) from nI_lt (b := 781) hq (by decide)), gi hq (by decide), jn_s, c31 (by omega), (h.2.1 j hj).2.2, if_neg (ne_m1 (by omega))]
  dsimp only
  rw [gi hq (by decide), (h.2.1 j hj).2.2]
theorem numOf_new {t : GS} {k : Nat} (h : SQ t k) (hk : k < 166) : ∃ t', F_Qu_numberOf (nI (cdv (qw k))) (nI (qw k).length) t = some (nI k, t') ∧ SQ t' (k + 1) ∧ Fr [54, 55, 56, 58] t t' := by
  obtain ⟨w1, w2, w3⟩ := qw_ok hk
  have hq := qnum4 w1 w3
  obtain ⟨h1, h2, h3⟩ := h
  obtain ⟨X, eX⟩ : ∃ X, X = nI (cdv (qw k)) := ⟨_, rfl⟩
  obtain ⟨Y, eY⟩ : ∃ Y, Y = nI (qw k).length := ⟨_, rfl⟩
  obtain ⟨q, eq⟩ : ∃ q, q = qnum (qw k) := ⟨_, rfl⟩
  have hn : F_Qu_numberOfCode X = some (nI q) := by rw [eX, eq]; exact numCode_spec w1 (by omega)
  have h3k := h3 k (Nat.le_refl _) hk
  rw [← eq] at hq h3k
  rw [← eX, ← eY]
  have g1 : (s1 t 55 k X).1 54 9 = nI k := by rw [s1_c (by decide), h1]
  have g2 : (s1 (s1 t 55 k X) 56 k Y).1 54 9 = nI k := by rw [s1_c (by decide), g1]
  have g3 : (s1 (s1 (s1 t 55 k X) 56 k Y) 58 q (nI k)).1 54 9 = nI k := by rw [s1_c (by decide), g2]
  have g4 : (s1 (s1 (s1 (s1 t 55 k X) 56 k Y) 58 q (nI k)) 54 9 (nI (k + 1))).1 58 q = nI k := by rw [s1_c (by decide), s1_at]
  refine ⟨s1 (s1 (s1 (s1 t 55 k X) 56 k Y) 58 q (nI k)) 54 9 (nI (k + 1)), ?_, ⟨s1_at _ _ _ _, fun j hj => ?_, fun j hj hj2 => ?_⟩, Fr.trans (Fr.trans (Fr.trans (Fr.s1 (by simp)) (Fr.s1 (by simp))) (Fr.s1 (by simp))) (Fr.s1 (by simp))⟩
  · unfold F_Qu_numberOf
    rw [bp_s hn, if_neg (nI_pos (by omega)), if_pos (show nI q < (781 : Int32) from nI_lt (b := 781) hq (by decide)), gi hq (by decide), jn_s, c31 (by omega), h3k, if_pos rfl, h1, if_neg (show ¬ (166 : Int32) ≤ nI k from nI_ge (b := 166) hk (by decide)), gi hk (by decide), c31 (by omega), jn_s, g1, gi hk (by decide), c31 (by omega), jn_s, gi hq (by decide), g2, jn_s, g3, nI_1, jn_s]
    dsimp only
    rw [gi hq (by decide), g4]
  · by_cases e : j = k
    · subst e
      refine ⟨?_, ?_, ?_⟩
      · rw [s1_c (by decide), s1_c (by decide), s1_c (by decide), s1_at, eX]
      · rw [s1_c (by decide), s1_c (by decide), s1_at, eY]
      · rw [s1_c (by decide), eq, s1_at]
    · obtain ⟨a1, a2, a3⟩ := h2 j (by omega)
      have hne := qnum_ne (j := j) (k := k) (by omega) hk e
      rw [← eq] at hne
      refine ⟨?_, ?_, ?_⟩
      · rw [s1_c (by decide), s1_c (by decide), s1_c (by decide), s1_i e, a1]
      · rw [s1_c (by decide), s1_c (by decide), s1_i e, s1_c (by decide), a2]
      · rw [s1_c (by decide), s1_i hne, s1_c (by decide), s1_c (by decide), a3]
  · have hne := qnum_ne (j := j) (k := k) hj2 hk (by omega)
    rw [← eq] at hne
    rw [s1_c (by decide), s1_i hne, s1_c (by decide), s1_c (by decide), h3 j (by omega) hj2]
def kq (i : Nat) : Nat := kLit.getD i 0
def ckq (c s : Nat) : Bool := decide (c < kq (5 * c + s)) && (decide (kq (5 * c + s) ≤ 166) && (if (go (qv c) s).length ≤ 4 then (decide (qLit.idxOf (go (qv c) s) < kq (5 * c + s)) && decide (kq (5 * c + s + 1) = kq (5 * c + s))) || (decide (qLit.idxOf (go (qv c) s) = kq (5 * c + s)) && (decide (kq (5 * c + s + 1) = kq (5 * c + s) + 1) && decide (kq (5 * c + s) < 166))) else decide (kq (5 * c + s + 1) = kq (5 * c + s))))
theorem ckq_all : ∀ c, c < 166 → ∀ s, s < 5 → ckq c s = true := by decide +kernel
theorem kq_step {c s : Nat} (hc : c < 166) (hs : s < 5) : c < kq (5 * c + s) ∧ kq (5 * c + s) ≤ 166 ∧ (if (go (qw c) s).length ≤ 4 then (qL.idxOf (go (qw c) s) < kq (5 * c + s) ∧ kq (5 * c + s + 1) = kq (5 * c + s)) ∨ (qL.idxOf (go (qw c) s) = kq (5 * c + s) ∧ kq (5 * c + s + 1) = kq (5 * c + s) + 1 ∧ kq (5 * c + s) < 166) else kq (5 * c + s + 1) = kq (5 * c + s)) := by
  have h := ckq_all c hc s hs
  unfold ckq at h
  rw [← qw_v, ← qL_lit] at h
  by_cases q : (go (qw c) s).length ≤ 4
  · rw [if_pos q] at h ⊢
    simp only [Bool.and_eq_true, Bool.or_eq_true, decide_eq_true_eq] at h
    exact h
  · rw [if_neg q] at h ⊢
    simp only [Bool.and_eq_true, decide_eq_true_eq] at h
    exact h
def nxv (c s : Nat) : Int32 := if (go (qw c) s).length ≤ 4 then nI (qL.idxOf (go (qw c) s)) else -1
theorem survey_in {c : Nat} (hc : c < 166) {σ : GS} (hq : SQ σ (kq (5 * c))) : ∃ t', SQ t' (kq (5 * c + 5)) ∧ (∀ s, s < 5 → t'.1 57 (5 * c + s) = nxv c s) ∧ (∀ i, i < 5 * c → t'.1 57 i = σ.1 57 i) ∧ Fr [32, 33, 54, 55, 56, 57, 58] σ t' ∧ ∀ K : Int32 → GS → Option GS, F_Qu_survey_42 (nI c) K 50000 0 σ = K (nI 5) t' := by
  have := lpE (G := fun n s (t : GS) => fun (K : Int32 → GS → Option GS) => F_Qu_survey_42 (nI c) K n (nI s) t) (P := fun o => ∃ t', SQ t' (kq (5 * c + 5)) ∧ (∀ s, s < 5 → t'.1 57 (5 * c + s) = nxv c s) ∧ (∀ i, i < 5 * c → t'.1 57 i = σ.1 57 i) ∧ Fr [32, 33, 54, 55, 56, 57, 58] σ t' ∧ ∀ K, o K = K (nI 5) t') (Inv := fun s t => SQ t (kq (5 * c + s)) ∧ (∀ s', s' < s → t.1 57 (5 * c + s') = nxv c s') ∧ (∀ i, i < 5 * c → t.1 57 i = σ.1 57 i) ∧ Fr [32, 33, 54, 55, 56, 57, 58] σ t) (N := 5) ?_ ?_ 5 0 50000 σ (by omega) (by omega) ⟨hq, fun s' h => absurd h (Nat.not_lt_zero _), fun _ _ => rfl, Fr.refl _ _⟩
  · exact this
  · intro n s t hs ⟨i1, i2, i3, i4⟩
    obtain ⟨w1, w2, w3⟩ := qw_ok hc
    obtain ⟨k1, k2, k3⟩ := kq_step hc hs
    have e55 := (i1.2.1 c k1).1
    obtain ⟨t1, e1, r1, f1⟩ := becomes_spec (w := 32) (m := cdv (qw c)) (σ := t) (cdv_isC w1 (by omega))
    rw [wd_cdv w1 (by omega), nf_of_good w2] at r1
    obtain ⟨t2, e2, r2, f2⟩ := go_spec r1 (s := s) (by omega) hs
    have f12 : Fr [32, 33] t t2 := f1.trans f2
    have q2 : SQ t2 (kq (5 * c + s)) := i1.fr fun z hz => f12.1 z (by simp; omega)
    have hgl := len_go_le (qw c) s
    have ei : nI c * (5 : Int32) + nI s = nI (5 * c + s) := by rw [show nI c * (5 : Int32) = nI (c * 5) from pk_mul c 5, nI_add, Nat.mul_comm c 5]
    have fin : ∀ (t3 : GS) (v : Int32), SQ t3 (kq (5 * c + (s + 1))) → Fr [54, 55, 56, 58] t2 t3 → v = nxv c s → SQ (s1 t3 57 (5 * c + s) v) (kq (5 * c + (s + 1))) ∧ (∀ s', s' < s + 1 → (s1 t3 57 (5 * c + s) v).1 57 (5 * c + s') = nxv c s') ∧ (∀ i, i < 5 * c → (s1 t3 57 (5 * c + s) v).1 57 i = σ.1 57 i) ∧ Fr [32, 33, 54, 55, 56, 57, 58] σ (s1 t3 57 (5 * c + s) v) := fun t3 v q3 f3 hv => by
      have k57 : t3.1 57 = t.1 57 := by rw [f3.1 57 (by simp), f12.1 57 (by simp)]
      refine ⟨q3.fr fun z hz => s1_c (by omega), fun s' hs' => ?_, fun i hi => ?_, (i4.trans ((f12.mono (by simp)).trans (f3.mono (by simp)))).trans (Fr.s1 (by simp))⟩
      · by_cases z : s' = s
        · rw [z, s1_at, hv]
        · rw [s1_i (by omega), k57, i2 s' (by omega)]
      · rw [s1_i (by omega), k57, i3 i hi]
    by_cases hg : (go (qw c) s).length ≤ 4
    · rw [if_pos hg] at k3
      have hgood := good_go w2 s
      have hwv := wv_go w1 hs
      have hx := qx_lt hgood hwv hg
      have hxw := qw_x hgood hwv hg
      obtain ⟨t3, e3, q3, f3⟩ : ∃ t3, F_Qu_numberOf (nI (cdv (go (qw c) s))) (nI (go (qw c) s).length) t2 = some (nI (qL.idxOf (go (qw c) s)), t3) ∧ SQ t3 (kq (5 * c + (s + 1))) ∧ Fr [54, 55, 56, 58] t2 t3 := by
        obtain ⟨j, hj⟩ : ∃ j, j = qL.idxOf (go (qw c) s) := ⟨_, rfl⟩
        rw [← hj] at k3 hxw ⊢
        rw [← hxw]
        rcases k3 with ⟨a, b⟩ | ⟨a, b, d⟩
        · exact ⟨t2, numOf_old q2 a k2 _, by rw [← Nat.add_assoc, b]; exact q2, Fr.refl _ _⟩
        · obtain ⟨t3, e3, q3, f3⟩ := numOf_new q2 d
          rw [← a] at e3 q3
          exact ⟨t3, e3, by rw [← Nat.add_assoc, b, ← a]; exact q3, f3⟩
      refine Or.inr ⟨s1 t3 57 (5 * c + s) (nI (qL.idxOf (go (qw c) s))), ?_, fin t3 _ q3 f3 (by unfold nxv; rw [if_pos hg])⟩
      funext K
      show F_Qu_survey_42 (nI c) K (n + 1) (nI s) t = F_Qu_survey_42 (nI c) K n (nI (s + 1)) _
      rw [F_Qu_survey_42.eq_2, if_neg (show ¬ (5 : Int32) ≤ nI s from nI_ge (b := 5) hs (by decide)), gi hc (by decide), c31 (by omega), e55, bv_s e1, bv_s e2, r2.1, if_pos (show nI _ ≤ (4 : Int32) from nI_le (b := 4) hg (by decide)), bp_s (code_spec r2), if_pos (by omega), bc_s e3, ei, gi (by omega) (by decide), c31 (by omega), jn_s, nI_1]
    · rw [if_neg hg] at k3
      refine Or.inr ⟨s1 t2 57 (5 * c + s) (-1), ?_, fin t2 _ (by rw [← Nat.add_assoc, k3]; exact q2) (Fr.refl _ _) (by unfold nxv; rw [if_neg hg])⟩
      funext K
      show F_Qu_survey_42 (nI c) K (n + 1) (nI s) t = F_Qu_survey_42 (nI c) K n (nI (s + 1)) _
      rw [F_Qu_survey_42.eq_2, if_neg (show ¬ (5 : Int32) ≤ nI s from nI_ge (b := 5) hs (by decide)), gi hc (by decide), c31 (by omega), e55, bv_s e1, bv_s e2, r2.1, if_neg (show ¬ nI _ ≤ (4 : Int32) from nI_ge (a := 4) (by omega) (by omega)), ei, gi (by omega) (by decide), c31 (by omega), jn_s, nI_1]
  · intro n t ⟨i1, i2, i3, i4⟩
    refine ⟨t, i1, i2, i3, i4, fun K => ?_⟩
    show F_Qu_survey_42 (nI c) K (n + 1) (nI 5) t = _
    rw [F_Qu_survey_42.eq_2, if_pos (by decide)]
theorem kq_end : kq 830 = 166 ∧ kq 0 = 1 := by decide +kernel
theorem qw_0 : qw 0 = [] := by rw [qw_v]; rfl
theorem survey_spec {σ : GS} (hR : RQ σ) : ∃ σ', F_Qu_survey σ = some σ' ∧ QT σ' ∧ Fr [32, 33, 54, 55, 56, 57, 58] σ σ' := by
  unfold F_Qu_survey
  rcases hR with h0 | hQ
  · obtain ⟨σ1, e1, x1, f1⟩ := fillI_spec (q := 58) (N := 781) (by decide) (-1) σ
    have h1 : SQ σ1 0 := ⟨by rw [f1.1 54 (by simp), h0]; rfl, fun j hj => absurd hj (Nat.not_lt_zero _), fun j _ hj => by rw [x1, if_pos (qnum4 (qw_ok hj).1 (qw_ok hj).2.2)]⟩
    obtain ⟨σ2, e2, q2, f2⟩ := numOf_new h1 (by decide)
    rw [qw_0] at e2
    have e2 : F_Qu_numberOf 0 0 σ1 = some (nI 0, σ2) := e2
    rw [if_pos (by rw [h0]; decide), bv_s e1, bc_s e2, jn_s]
    have f12 : Fr [32, 33, 54, 55, 56, 57, 58] σ σ2 := (f1.mono (by simp)).trans (f2.mono (by simp))
    refine lpE (G := fun n c (t : GS) => F_Qu_survey_25 (fun (v2_6 : Int32) (σL6 : GS) => some σL6) n (nI c) t) (P := fun o => ∃ σ', o = some σ' ∧ QT σ' ∧ Fr [32, 33, 54, 55, 56, 57, 58] σ σ') (Inv := fun c t => SQ t (kq (5 * c)) ∧ (∀ c' s, c' < c → s < 5 → t.1 57 (5 * c' + s) = nxv c' s) ∧ Fr [32, 33, 54, 55, 56, 57, 58] σ t) (N := 166) ?_ ?_ 166 0 50000 σ2 (by omega) (by omega) ⟨by rw [show 5 * 0 = 0 from rfl, kq_end.2]; exact q2, fun c' s h => absurd h (Nat.not_lt_zero _), f12⟩
    · intro n c t hc ⟨i1, i2, i3⟩
      obtain ⟨t', a1, a2, a3, a4, a5⟩ := survey_in hc i1
      have hk := (kq_step (s := 0) hc (by decide)).1
      have hk2 := (kq_step (s := 0) hc (by decide)).2.1
      rw [Nat.add_zero] at hk hk2
      refine Or.inr ⟨t', ?_, a1, fun c' s hc' hs => ?_, i3.trans a4⟩
      · show F_Qu_survey_25 _ (n + 1) (nI c) t = F_Qu_survey_25 _ n (nI (c + 1)) t'
        rw [F_Qu_survey_25.eq_2, if_neg (show ¬ (166 : Int32) ≤ nI c from nI_ge (b := 166) hc (by decide)), i1.1, if_neg (nI_ge hk (by omega)), jn_s, a5, nI_1]
      · by_cases z : c' = c
        · rw [z, a2 s hs]
        · rw [a3 _ (by omega), i2 c' s (by omega) hs]
    · intro n t ⟨i1, i2, i3⟩
      have i1 : SQ t (kq 830) := i1
      rw [kq_end.1] at i1
      refine ⟨t, ?_, ⟨i1.1, i1.2.1, fun c hc s hs => i2 c s hc hs⟩, i3⟩
      show F_Qu_survey_25 _ (n + 1) (nI 166) t = _
      rw [F_Qu_survey_25.eq_2, if_pos (show (166 : Int32) ≤ nI 166 from nI_le (a := 166) (Nat.le_refl _) (by decide))]
  · exact ⟨σ, by rw [if_neg (by rw [hQ.1]; decide)], hQ, Fr.refl _ _⟩
theorem QT.fr {σ σ' : GS} (h : QT σ) (h9 : σ'.1 54 9 = σ.1 54 9) (f : ∀ c, 55 ≤ c ∧ c ≤ 58 → σ'.1 c = σ.1 c) : QT σ' := by
  unfold QT
  rw [h9, f 55 (by omega), f 56 (by omega), f 57 (by omega), f 58 (by omega)]
  exact h
/-- surveyed, the rest as it was -/
theorem Rel.qt {σ σ' : GS} (hR : Rel σ) (f : Fr [32, 33, 54, 55, 56, 57, 58, 59, 60, 61] σ σ') (hq : QT σ') : Rel σ' := by
  have k : ∀ c, ¬ (c = 32 ∨ c = 33 ∨ (54 ≤ c ∧ c ≤ 61)) → σ'.1 c = σ.1 c := fun c hc => f.1 c (by simp; omega)
  obtain ⟨⟨h1, h2, h3, h4, h5, h6⟩, hL⟩ := hR
  refine ⟨⟨h1.fr fun c hc => k c (by omega), h2.fr fun c hc => k c (by omega), h3.fr fun c hc => k c (by omega), h4.fr fun c hc => k c (by omega), ?_, Or.inr hq⟩, hL.fr2 (fun c hc => k c (by omega)) f.2⟩
  unfold RI
  rw [k 36 (by omega)]
  exact h5
