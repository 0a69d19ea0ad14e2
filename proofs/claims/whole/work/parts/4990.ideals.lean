/-! ideals of a word: sets of places told by bits -/
def zfl (m p : Nat) : Nat := m ^^^ 2 ^ p
theorem zfl_bit (m p i : Nat) : (zfl m p).testBit i = if i = p then !(m.testBit p) else m.testBit i := by
  unfold zfl
  rw [Nat.testBit_xor]
  by_cases h : i = p
  · subst h
    rw [if_pos rfl, Nat.testBit_two_pow_self, Bool.xor_true]
  · rw [if_neg h, Nat.testBit_two_pow_of_ne (Ne.symm h), Bool.xor_false]
theorem zfl_p (m p : Nat) : (zfl m p).testBit p = !(m.testBit p) := by rw [zfl_bit, if_pos rfl]
theorem zfl_o {m p i : Nat} (h : i ≠ p) : (zfl m p).testBit i = m.testBit i := by rw [zfl_bit, if_neg h]
theorem zfl_zfl (m p : Nat) : zfl (zfl m p) p = m := by
  refine Nat.eq_of_testBit_eq fun i => ?_
  by_cases h : i = p
  · rw [h, zfl_p, zfl_p, Bool.not_not]
  · rw [zfl_o h, zfl_o h]
theorem zfl_lt {m p L : Nat} (hm : m < 2 ^ L) (hp : p < L) : zfl m p < 2 ^ L := Nat.xor_lt_two_pow hm (Nat.pow_lt_pow_right (by decide) hp)
theorem zfl_inj {m p q : Nat} (h : zfl m p = zfl m q) : p = q := by
  by_cases e : p = q
  · exact e
  · have h1 := zfl_p m p
    rw [h, zfl_o e] at h1
    cases hb : m.testBit p <;> rw [hb] at h1 <;> cases h1
def zpc (m : Nat) : Nat → Nat
  | 0 => 0
  | n + 1 => zpc m n + if m.testBit n = true then 1 else 0
theorem zpc_s (m n : Nat) : zpc m (n + 1) = zpc m n + if m.testBit n = true then 1 else 0 := rfl
theorem zpc_on {m p : Nat} (h : m.testBit p = false) : ∀ n, zpc (zfl m p) n = zpc m n + if p < n then 1 else 0
  | 0 => by rw [if_neg (Nat.not_lt_zero p)]; rfl
  | n + 1 => by
    rw [zpc_s, zpc_s, zpc_on h n]
    by_cases e : n = p
    · subst e
      rw [zfl_p, h, if_neg (Nat.lt_irrefl n), if_pos (show n < n + 1 by omega), if_neg (show ¬ (false = true) by decide)]
      rfl
    · rw [zfl_o e]
      by_cases q : p < n
      · rw [if_pos q, if_pos (show p < n + 1 by omega), Nat.add_right_comm]
      · rw [if_neg q, if_neg (show ¬ p < n + 1 by omega), Nat.add_right_comm]
theorem zpc_off {m p n : Nat} (h : m.testBit p = true) (hp : p < n) : zpc (zfl m p) n + 1 = zpc m n := by
  have h2 : (zfl m p).testBit p = false := by rw [zfl_p, h]; rfl
  have := zpc_on h2 n
  rw [zfl_zfl, if_pos hp] at this
  exact this.symm
theorem zpc_le (m : Nat) : ∀ n, zpc m n ≤ n
  | 0 => Nat.le_refl _
  | n + 1 => by
    rw [zpc_s]
    have := zpc_le m n
    split <;> omega
theorem zpc_ge {m q : Nat} (h : ∀ i, i < q → m.testBit i = true) : ∀ n, q ≤ n → q ≤ zpc m n
  | 0, hn => by omega
  | n + 1, hn => by
    rw [zpc_s]
    by_cases e : q = n + 1
    · have ih := zpc_ge (q := n) (m := m) (fun i hi => h i (by omega)) n (Nat.le_refl _)
      rw [if_pos (h n (by omega))]
      omega
    · exact Nat.le_trans (zpc_ge h n (by omega)) (Nat.le_add_right _ _)
theorem zpc_bd {m q : Nat} : ∀ n, (∀ i, q < i → i < n → m.testBit i = false) → zpc m n ≤ q + 1
  | 0, _ => Nat.zero_le _
  | n + 1, h => by
    by_cases e : q < n
    · rw [zpc_s, if_neg (by rw [h n e (by omega)]; decide)]
      exact zpc_bd n fun i h1 h2 => h i h1 (by omega)
    · exact Nat.le_trans (zpc_le m (n + 1)) (by omega)
theorem zpc_0 {m : Nat} : ∀ n, zpc m n = 0 → ∀ i, i < n → m.testBit i = false
  | 0, _, i, hi => absurd hi (Nat.not_lt_zero _)
  | n + 1, h, i, hi => by
    rw [zpc_s] at h
    by_cases b : m.testBit n = true
    · rw [if_pos b] at h
      omega
    · by_cases e : i = n
      · rw [e]; exact Bool.eq_false_iff.mpr b
      · exact zpc_0 n (by omega) i (by omega)
theorem zpc_full {m : Nat} : ∀ n, zpc m n = n → ∀ i, i < n → m.testBit i = true
  | 0, _, i, hi => absurd hi (Nat.not_lt_zero _)
  | n + 1, h, i, hi => by
    have hle := zpc_le m n
    rw [zpc_s] at h
    by_cases b : m.testBit n = true
    · rw [if_pos b] at h
      by_cases e : i = n
      · rw [e]; exact b
      · exact zpc_full n (by omega) i (by omega)
    · rw [if_neg b] at h
      omega
theorem zpc_mono {a b : Nat} : ∀ n, (∀ i, i < n → a.testBit i = true → b.testBit i = true) → zpc a n ≤ zpc b n
  | 0, _ => Nat.le_refl _
  | n + 1, h => by
    have ih := zpc_mono n fun i hi => h i (by omega)
    rw [zpc_s, zpc_s]
    by_cases x : a.testBit n = true
    · rw [if_pos x, if_pos (h n (by omega) x)]
      omega
    · rw [if_neg x]
      exact Nat.le_trans ih (Nat.le_add_right _ _)
theorem zpc_sub {a b : Nat} : ∀ n, (∀ i, i < n → a.testBit i = true → b.testBit i = true) → zpc a n = zpc b n → ∀ i, i < n → a.testBit i = b.testBit i
  | 0, _, _, i, hi => absurd hi (Nat.not_lt_zero _)
  | n + 1, h, e, i, hi => by
    have hm := zpc_mono n fun i hi => h i (by omega)
    rw [zpc_s, zpc_s] at e
    by_cases x : a.testBit n = true
    · have y := h n (by omega) x
      rw [if_pos x, if_pos y] at e
      by_cases q : i = n
      · rw [q, x, y]
      · exact zpc_sub n (fun i hi => h i (by omega)) (by omega) i (by omega)
    · by_cases y : b.testBit n = true
      · rw [if_neg x, if_pos y] at e
        omega
      · rw [if_neg x, if_neg y] at e
        by_cases q : i = n
        · rw [q, Bool.eq_false_iff.mpr x, Bool.eq_false_iff.mpr y]
        · exact zpc_sub n (fun i hi => h i (by omega)) (by omega) i (by omega)
theorem zhi {m L i : Nat} (hm : m < 2 ^ L) (hi : L ≤ i) : m.testBit i = false := Nat.testBit_lt_two_pow (Nat.lt_of_lt_of_le hm (Nat.pow_le_pow_right (by decide) hi))
theorem zext {a b L : Nat} (ha : a < 2 ^ L) (hb : b < 2 ^ L) (h : ∀ i, i < L → a.testBit i = b.testBit i) : a = b := by
  refine Nat.eq_of_testBit_eq fun i => ?_
  by_cases hi : i < L
  · exact h i hi
  · rw [zhi ha (by omega), zhi hb (by omega)]
-- ideals
def Idl (w : List Nat) (m : Nat) : Prop := m < 2 ^ w.length ∧ ∀ i j, i < j → j < w.length → m.testBit j = true → nb (w.getD i 0) (w.getD j 0) = false → m.testBit i = true
def zlas (w : List Nat) (m p : Nat) : Bool := m.testBit p && cbl w p (fun i => m.testBit i) (p + 1) (w.length - (p + 1))
theorem cbl_iff {l : List Nat} {p : Nat} {f : Nat → Bool} : ∀ (d i : Nat), cbl l p f i d = true ↔ ∀ j, i ≤ j → j < i + d → f j = true → nb (l.getD p 0) (l.getD j 0) = true
  | 0, i => ⟨fun _ j h1 h2 => by omega, fun _ => rfl⟩
  | d + 1, i => by
    have ih := cbl_iff (l := l) (p := p) (f := f) d (i + 1)
    show ((!f i || nb (l.getD p 0) (l.getD i 0)) && cbl l p f (i + 1) d) = true ↔ _
    rw [Bool.and_eq_true, ih]
    constructor
    · rintro ⟨h1, h2⟩ j hj1 hj2 hf
      by_cases e : j = i
      · subst e
        rw [hf] at h1
        simpa using h1
      · exact h2 j (by omega) (by omega) hf
    · intro h
      refine ⟨?_, fun j h1 h2 hf => h j (by omega) (by omega) hf⟩
      cases hf : f i with
      | false => rfl
      | true => rw [h i (Nat.le_refl _) (by omega) hf]; rfl
theorem zlas_iff {w : List Nat} {m p : Nat} (hp : p < w.length) : zlas w m p = true ↔ m.testBit p = true ∧ ∀ j, p < j → j < w.length → m.testBit j = true → nb (w.getD p 0) (w.getD j 0) = true := by
  unfold zlas
  rw [Bool.and_eq_true, cbl_iff]
  exact and_congr Iff.rfl ⟨fun h j h1 h2 hf => h j (by omega) (by omega) hf, fun h j h1 h2 hf => h j (by omega) (by omega) hf⟩
theorem idl_las {w : List Nat} {m p : Nat} (hI : Idl w m) (hp : p < w.length) (h : zlas w m p = true) : Idl w (zfl m p) := by
  obtain ⟨h1, h2⟩ := (zlas_iff hp).mp h
  refine ⟨zfl_lt hI.1 hp, fun i j hij hj hb hn => ?_⟩
  have hjp : j ≠ p := fun e => by rw [e, zfl_p, h1] at hb; cases hb
  rw [zfl_o hjp] at hb
  have := hI.2 i j hij hj hb hn
  by_cases e : i = p
  · subst e
    rw [h2 j hij hj hb] at hn
    cases hn
  · rw [zfl_o e]; exact this
/-- a place that may come next -/
def zad (w : List Nat) (m p : Nat) : Prop := m.testBit p = false ∧ ∀ i, i < p → m.testBit i = true ∨ nb (w.getD i 0) (w.getD p 0) = true
theorem idl_ad {w : List Nat} {m p : Nat} (hI : Idl w m) (hp : p < w.length) (h : zad w m p) : Idl w (zfl m p) := by
  refine ⟨zfl_lt hI.1 hp, fun i j hij hj hb hn => ?_⟩
  by_cases ej : j = p
  · subst ej
    rcases h.2 i hij with q | q
    · rw [zfl_o (by omega)]; exact q
    · rw [q] at hn; cases hn
  · rw [zfl_o ej] at hb
    have := hI.2 i j hij hj hb hn
    by_cases ei : i = p
    · rw [ei, zfl_p, h.1]; rfl
    · rw [zfl_o ei]; exact this
theorem zad_of {w : List Nat} {m p : Nat} (hp : p < w.length) (h0 : m.testBit p = false) (hI : Idl w (zfl m p)) : zad w m p := by
  refine ⟨h0, fun i hi => ?_⟩
  cases hn : nb (w.getD i 0) (w.getD p 0) with
  | true => exact Or.inr rfl
  | false =>
    have := hI.2 i p hi hp (by rw [zfl_p, h0]; rfl) hn
    rw [zfl_o (by omega)] at this
    exact Or.inl this
theorem zlas_of {w : List Nat} {m p : Nat} (hp : p < w.length) (h0 : m.testBit p = false) (hI : Idl w m) : zlas w (zfl m p) p = true := by
  refine (zlas_iff hp).mpr ⟨by rw [zfl_p, h0]; rfl, fun j h1 h2 hb => ?_⟩
  rw [zfl_o (by omega)] at hb
  cases hn : nb (w.getD p 0) (w.getD j 0) with
  | true => rfl
  | false =>
    have := hI.2 p j h1 h2 hb hn
    rw [h0] at this
    cases this
def zlp (m : Nat) : Nat → Nat
  | 0 => 0
  | n + 1 => if m.testBit n = true then n else zlp m n
theorem zlp_s (m n : Nat) : zlp m (n + 1) = if m.testBit n = true then n else zlp m n := rfl
theorem zlp_spec {m : Nat} : ∀ n, zpc m n ≠ 0 → zlp m n < n ∧ m.testBit (zlp m n) = true ∧ ∀ j, zlp m n < j → j < n → m.testBit j = false
  | 0, h => absurd rfl h
  | n + 1, h => by
    rw [zlp_s]
    by_cases b : m.testBit n = true
    · rw [if_pos b]
      exact ⟨by omega, b, fun j h1 h2 => by omega⟩
    · rw [zpc_s, if_neg b] at h
      rw [if_neg b]
      obtain ⟨h1, h2, h3⟩ := zlp_spec n (by simpa using h)
      refine ⟨by omega, h2, fun j g1 g2 => ?_⟩
      by_cases e : j = n
      · rw [e]; exact Bool.eq_false_iff.mpr b
      · exact h3 j g1 (by omega)
theorem ex_las {w : List Nat} {m : Nat} (h : zpc m w.length ≠ 0) : ∃ p, p < w.length ∧ zlas w m p = true := by
  obtain ⟨h1, h2, h3⟩ := zlp_spec w.length h
  exact ⟨_, h1, (zlas_iff h1).mpr ⟨h2, fun j g1 g2 hb => by rw [h3 j g1 g2] at hb; cases hb⟩⟩
def zfi (m : Nat) : Nat → Nat → Nat
  | 0, i => i
  | f + 1, i => if m.testBit i = true then zfi m f (i + 1) else i
theorem zfi_s (m f i : Nat) : zfi m (f + 1) i = if m.testBit i = true then zfi m f (i + 1) else i := rfl
theorem zfi_spec (m : Nat) : ∀ f i, (∀ j, j < i → m.testBit j = true) → (∀ j, j < zfi m f i → m.testBit j = true) ∧ zfi m f i ≤ i + f ∧ (zfi m f i < i + f → m.testBit (zfi m f i) = false)
  | 0, i, h => ⟨h, Nat.le_refl _, fun q => absurd q (Nat.lt_irrefl _)⟩
  | f + 1, i, h => by
    rw [zfi_s]
    by_cases b : m.testBit i = true
    · rw [if_pos b]
      obtain ⟨a1, a2, a3⟩ := zfi_spec m f (i + 1) (fun j hj => by
        by_cases e : j = i
        · rw [e]; exact b
        · exact h j (by omega))
      exact ⟨a1, by omega, fun q => a3 (by omega)⟩
    · rw [if_neg b]
      exact ⟨h, by omega, fun _ => Bool.eq_false_iff.mpr b⟩
def zfm (w : List Nat) (m : Nat) : Nat := zfi m w.length 0
theorem zfm_spec (w : List Nat) (m : Nat) : (∀ j, j < zfm w m → m.testBit j = true) ∧ zfm w m ≤ w.length ∧ (zfm w m < w.length → m.testBit (zfm w m) = false) := by
  have := zfi_spec m w.length 0 (fun j hj => absurd hj (Nat.not_lt_zero _))
  rw [Nat.zero_add] at this
  exact this
theorem ex_ad {w : List Nat} {m : Nat} (hI : Idl w m) (h : zpc m w.length < w.length) : ∃ p, p < w.length ∧ m.testBit p = false ∧ Idl w (zfl m p) := by
  obtain ⟨h1, h2, h3⟩ := zfm_spec w m
  have hlt : zfm w m < w.length := by
    refine Nat.lt_of_not_le fun q => ?_
    have := zpc_ge (q := w.length) (fun i hi => h1 i (by omega)) w.length (Nat.le_refl _)
    omega
  exact ⟨_, hlt, h3 hlt, idl_ad hI hlt ⟨h3 hlt, fun i hi => Or.inl (h1 i hi)⟩⟩
-- sums
def zsm (f : Nat → Nat) : Nat → Nat
  | 0 => 0
  | n + 1 => zsm f n + f n
theorem zsm_s (f : Nat → Nat) (n : Nat) : zsm f (n + 1) = zsm f n + f n := rfl
theorem zsm_congr {f g : Nat → Nat} : ∀ n, (∀ i, i < n → f i = g i) → zsm f n = zsm g n
  | 0, _ => rfl
  | n + 1, h => by rw [zsm_s, zsm_s, zsm_congr n fun i hi => h i (by omega), h n (by omega)]
theorem zsm_upd {f g : Nat → Nat} {d j : Nat} : ∀ n, j < n → g j = f j + d → (∀ i, i < n → i ≠ j → g i = f i) → zsm g n = zsm f n + d
  | 0, h, _, _ => absurd h (Nat.not_lt_zero _)
  | n + 1, h, h1, h2 => by
    rw [zsm_s, zsm_s]
    by_cases e : j = n
    · subst e
      rw [zsm_congr (f := g) (g := f) j fun i hi => h2 i (by omega) (by omega), h1]
      omega
    · rw [zsm_upd n (by omega) h1 fun i hi => h2 i (by omega), h2 n (by omega) (fun q => e q.symm)]
      omega
/-- in how many orders its places can be taken off -/
def zT (w : List Nat) : Nat → Nat → Nat
  | 0, _ => 1
  | n + 1, m => zsm (fun p => if zlas w m p = true then zT w n (zfl m p) else 0) w.length
theorem zT_s (w : List Nat) (n m : Nat) : zT w (n + 1) m = zsm (fun p => if zlas w m p = true then zT w n (zfl m p) else 0) w.length := rfl
-- neighbours changed
def ztau (P i : Nat) : Nat := if i = P then P + 1 else if i = P + 1 then P else i
theorem ztau_P (P : Nat) : ztau P P = P + 1 := if_pos rfl
theorem ztau_Q (P : Nat) : ztau P (P + 1) = P := by unfold ztau; rw [if_neg (by omega), if_pos rfl]
theorem ztau_o {P i : Nat} (h1 : i ≠ P) (h2 : i ≠ P + 1) : ztau P i = i := by unfold ztau; rw [if_neg h1, if_neg h2]
theorem ztau_c (P i : Nat) : (i = P ∧ ztau P i = P + 1) ∨ (i = P + 1 ∧ ztau P i = P) ∨ (i ≠ P ∧ i ≠ P + 1 ∧ ztau P i = i) := by
  by_cases h1 : i = P
  · exact Or.inl ⟨h1, by rw [h1, ztau_P]⟩
  · by_cases h2 : i = P + 1
    · exact Or.inr (Or.inl ⟨h2, by rw [h2, ztau_Q]⟩)
    · exact Or.inr (Or.inr ⟨h1, h2, ztau_o h1 h2⟩)
theorem ztau_tau (P i : Nat) : ztau P (ztau P i) = i := by
  rcases ztau_c P i with ⟨h, e⟩ | ⟨h, e⟩ | ⟨h1, h2, e⟩
  · rw [e, ztau_Q, h]
  · rw [e, ztau_P, h]
  · rw [e, e]
theorem ztau_lt {P i L : Nat} (h : P + 1 < L) (hi : i < L) : ztau P i < L := by
  rcases ztau_c P i with ⟨h, e⟩ | ⟨h, e⟩ | ⟨h1, h2, e⟩ <;> omega
def zsw (P m : Nat) : Nat := if m.testBit P = m.testBit (P + 1) then m else zfl (zfl m P) (P + 1)
theorem zsw_bit (P m i : Nat) : (zsw P m).testBit i = m.testBit (ztau P i) := by
  unfold zsw
  by_cases h : m.testBit P = m.testBit (P + 1)
  · rw [if_pos h]
    rcases ztau_c P i with ⟨h', e⟩ | ⟨h', e⟩ | ⟨h1, h2, e⟩
    · rw [e, h', h]
    · rw [e, h', h]
    · rw [e]
  · rw [if_neg h]
    have hx : m.testBit (P + 1) = !(m.testBit P) := by
      cases a : m.testBit P <;> cases b : m.testBit (P + 1) <;> rw [a, b] at h <;> first | rfl | exact absurd rfl h
    rcases ztau_c P i with ⟨h', e⟩ | ⟨h', e⟩ | ⟨h1, h2, e⟩
    · rw [e, h', zfl_o (by omega), zfl_p, hx]
    · rw [e, h', zfl_p, zfl_o (by omega), hx, Bool.not_not]
    · rw [e, zfl_o h2, zfl_o h1]
theorem zsw_sw (P m : Nat) : zsw P (zsw P m) = m := Nat.eq_of_testBit_eq fun i => by rw [zsw_bit, zsw_bit, ztau_tau]
theorem zsw_lt {P m L : Nat} (hP : P + 1 < L) (hm : m < 2 ^ L) : zsw P m < 2 ^ L := Nat.lt_pow_two_of_testBit _ fun i hi => by
  rw [zsw_bit, ztau_o (by omega) (by omega)]
  exact zhi hm hi
theorem zsw_get (x : List Nat) (a b : Nat) (y : List Nat) (i : Nat) : (x ++ b :: a :: y).getD i 0 = (x ++ a :: b :: y).getD (ztau x.length i) 0 := by
  by_cases h : i < x.length
  · rw [ztau_o (by omega) (by omega), getD_l h, getD_l h]
  · obtain ⟨j, rfl⟩ : ∃ j, i = x.length + j := ⟨i - x.length, by omega⟩
    have g : ∀ (c d k : Nat), (x ++ c :: d :: y).getD (x.length + k) 0 = (c :: d :: y).getD k 0 := fun c d k => getD_r
    match j with
    | 0 =>
      have e : ztau x.length (x.length + 0) = x.length + 1 := ztau_P _
      rw [e, g, g]
      rfl
    | 1 =>
      have e : ztau x.length (x.length + 1) = x.length + 0 := ztau_Q _
      rw [e, g, g]
      rfl
    | j + 2 =>
      rw [ztau_o (by omega) (by omega), g, g]
      rfl
theorem zsw_len (x : List Nat) (a b : Nat) (y : List Nat) : (x ++ a :: b :: y).length = x.length + y.length + 2 := by
  rw [List.length_append, List.length_cons, List.length_cons]
  omega
theorem idl_sw {x : List Nat} {a b : Nat} {y : List Nat} {m : Nat} (h : nb a b = true) (hI : Idl (x ++ a :: b :: y) m) : Idl (x ++ b :: a :: y) (zsw x.length m) := by
  have hl := zsw_len x a b y
  have hl2 := zsw_len x b a y
  refine ⟨?_, fun i j hij hj hb hn => ?_⟩
  · rw [hl2, ← hl]
    exact zsw_lt (by omega) hI.1
  · rw [zsw_bit] at hb ⊢
    rw [zsw_get x a b y i, zsw_get x a b y j] at hn
    by_cases lt : ztau x.length i < ztau x.length j
    · exact hI.2 _ _ lt (ztau_lt (by omega) (by omega)) hb hn
    · exfalso
      have hij' : i = x.length ∧ j = x.length + 1 := by
        rcases ztau_c x.length i with ⟨h, e⟩ | ⟨h, e⟩ | ⟨h1, h2, e⟩ <;> rcases ztau_c x.length j with ⟨h', e'⟩ | ⟨h', e'⟩ | ⟨h1', h2', e'⟩ <;> omega
      rw [hij'.1, hij'.2, ztau_P, ztau_Q] at hn
      have g1 : (x ++ a :: b :: y).getD (x.length + 1) 0 = b := getD_r
      have g0 : (x ++ a :: b :: y).getD (x.length + 0) 0 = a := getD_r
      rw [Nat.add_zero] at g0
      rw [g1, g0, nb_comm, h] at hn
      cases hn
theorem las_sw1 {x : List Nat} {a b : Nat} {y : List Nat} {m p : Nat} (h : nb a b = true) (hp : p < (x ++ a :: b :: y).length) (hz : zlas (x ++ a :: b :: y) m p = true) : zlas (x ++ b :: a :: y) (zsw x.length m) (ztau x.length p) = true := by
  have hl := zsw_len x a b y
  have hl2 := zsw_len x b a y
  obtain ⟨h1, h2⟩ := (zlas_iff hp).mp hz
  refine (zlas_iff (by rw [hl2, ← hl]; exact ztau_lt (by omega) hp)).mpr ⟨by rw [zsw_bit, ztau_tau]; exact h1, fun j g1 g2 hb => ?_⟩
  rw [zsw_bit] at hb
  rw [zsw_get x a b y (ztau x.length p), zsw_get x a b y j, ztau_tau]
  by_cases lt : p < ztau x.length j
  · exact h2 _ lt (ztau_lt (by omega) (by omega)) hb
  · have hpj : p = x.length + 1 ∧ ztau x.length j = x.length := by
      rcases ztau_c x.length p with ⟨h, e⟩ | ⟨h, e⟩ | ⟨h1, h2, e⟩ <;> rcases ztau_c x.length j with ⟨h', e'⟩ | ⟨h', e'⟩ | ⟨h1', h2', e'⟩ <;> omega
    have g1 : (x ++ a :: b :: y).getD (x.length + 1) 0 = b := getD_r
    have g0 : (x ++ a :: b :: y).getD (x.length + 0) 0 = a := getD_r
    rw [Nat.add_zero] at g0
    rw [hpj.1, hpj.2, g1, g0, nb_comm]
    exact h
theorem las_sw {x : List Nat} {a b : Nat} {y : List Nat} {m p : Nat} (h : nb a b = true) (hp : p < (x ++ a :: b :: y).length) : zlas (x ++ b :: a :: y) (zsw x.length m) (ztau x.length p) = zlas (x ++ a :: b :: y) m p := by
  have hl := zsw_len x a b y
  have hl2 := zsw_len x b a y
  rw [Bool.eq_iff_iff]
  constructor
  · intro q
    have := las_sw1 (x := x) (a := b) (b := a) (y := y) (by rw [nb_comm]; exact h) (by rw [hl2, ← hl]; exact ztau_lt (by omega) hp) q
    rw [zsw_sw, ztau_tau] at this
    exact this
  · exact las_sw1 h hp
theorem zsm_tau {f g : Nat → Nat} {P L : Nat} (hP : P + 1 < L) (h : ∀ p, p < L → g (ztau P p) = f p) : zsm g L = zsm f L := by
  have key : ∀ n, P + 2 + n ≤ L → zsm g (P + 2 + n) = zsm f (P + 2 + n) := by
    intro n
    induction n with
    | zero =>
      intro hn
      have e1 : g (P + 1) = f P := by
        have := h P (by omega)
        rw [ztau_P] at this
        exact this
      have e2 : g P = f (P + 1) := by
        have := h (P + 1) (by omega)
        rw [ztau_Q] at this
        exact this
      have e3 : zsm g P = zsm f P := zsm_congr P fun i hi => by
        have := h i (by omega)
        rw [ztau_o (by omega) (by omega)] at this
        exact this
      show zsm g P + g P + g (P + 1) = zsm f P + f P + f (P + 1)
      omega
    | succ n ih =>
      intro hn
      have := h (P + 2 + n) (by omega)
      rw [ztau_o (by omega) (by omega)] at this
      show zsm g (P + 2 + n) + g (P + 2 + n) = zsm f (P + 2 + n) + f (P + 2 + n)
      rw [ih (by omega), this]
  have := key (L - (P + 2)) (by omega)
  rw [show P + 2 + (L - (P + 2)) = L by omega] at this
  exact this
theorem zT_sw {x : List Nat} {a b : Nat} {y : List Nat} (h : nb a b = true) : ∀ n m, zT (x ++ b :: a :: y) n (zsw x.length m) = zT (x ++ a :: b :: y) n m
  | 0, _ => rfl
  | n + 1, m => by
    have hl := zsw_len x a b y
    have hl2 := zsw_len x b a y
    rw [zT_s, zT_s, hl2, ← hl]
    refine zsm_tau (P := x.length) (by omega) fun p hp => ?_
    rw [las_sw h hp]
    have e : zfl (zsw x.length m) (ztau x.length p) = zsw x.length (zfl m p) := Nat.eq_of_testBit_eq fun i => by
      rw [zfl_bit, zsw_bit, zsw_bit, zsw_bit, zfl_bit, ztau_tau]
      by_cases q : i = ztau x.length p
      · rw [if_pos q, q, ztau_tau, if_pos rfl]
      · rw [if_neg q, if_neg (fun z => q (by rw [← z, ztau_tau]))]
    rw [e, zT_sw h n]
-- how many ideals
noncomputable def idls (w : List Nat) : List Nat := (List.range (2 ^ w.length)).filter (fun m => @decide (Idl w m) (Classical.propDecidable _))
noncomputable def nId (w : List Nat) : Nat := (idls w).length
theorem mem_idls {w : List Nat} {m : Nat} : m ∈ idls w ↔ Idl w m := by
  unfold idls
  rw [List.mem_filter, List.mem_range]
  exact ⟨fun h => @of_decide_eq_true _ (Classical.propDecidable _) h.2, fun h => ⟨h.1, @decide_eq_true _ (Classical.propDecidable _) h⟩⟩
theorem nd_idls (w : List Nat) : (idls w).Nodup := List.Pairwise.filter _ List.nodup_range
theorem nId_of {w A : List Nat} (hn : A.Nodup) (h : ∀ m, m ∈ A ↔ Idl w m) : A.length = nId w := ((List.perm_ext_iff_of_nodup hn (nd_idls w)).mpr fun m => by rw [h, mem_idls]).length_eq
theorem nd_map {l : List Nat} {f : Nat → Nat} (hn : l.Nodup) (hi : ∀ a, a ∈ l → ∀ b, b ∈ l → f a = f b → a = b) : (l.map f).Nodup := List.pairwise_map.mpr (List.Pairwise.imp_of_mem (fun {a b} ha hb hne e => hne (hi a ha b hb e)) hn)
theorem nId_sw1 {x : List Nat} {a b : Nat} {y : List Nat} (h : nb a b = true) : nId (x ++ a :: b :: y) ≤ nId (x ++ b :: a :: y) := by
  have h1 : ((idls (x ++ a :: b :: y)).map (zsw x.length)).Nodup := nd_map (nd_idls _) fun u _ v _ e => by
    rw [← zsw_sw x.length u, e, zsw_sw]
  have h2 := h1.length_le_of_subset (l₂ := idls (x ++ b :: a :: y)) fun m hm => by
    obtain ⟨u, hu, rfl⟩ := List.mem_map.mp hm
    exact mem_idls.mpr (idl_sw h (mem_idls.mp hu))
  rw [List.length_map] at h2
  exact h2
theorem zsw_all {x : List Nat} {a b : Nat} {y : List Nat} (h : nb a b = true) : (x ++ a :: b :: y).length = (x ++ b :: a :: y).length ∧ nId (x ++ a :: b :: y) = nId (x ++ b :: a :: y) ∧ zT (x ++ a :: b :: y) (x ++ a :: b :: y).length (2 ^ (x ++ a :: b :: y).length - 1) = zT (x ++ b :: a :: y) (x ++ b :: a :: y).length (2 ^ (x ++ b :: a :: y).length - 1) := by
  have hl := zsw_len x a b y
  have hl2 := zsw_len x b a y
  have h' : nb b a = true := by rw [nb_comm]; exact h
  refine ⟨by omega, Nat.le_antisymm (nId_sw1 h) (nId_sw1 h'), ?_⟩
  have hf : zsw x.length (2 ^ (x ++ a :: b :: y).length - 1) = 2 ^ (x ++ a :: b :: y).length - 1 := by
    unfold zsw
    rw [if_pos]
    rw [Nat.testBit_two_pow_sub_one, Nat.testBit_two_pow_sub_one, decide_eq_true (by omega), decide_eq_true (by omega)]
  rw [hl2, ← hl, ← zT_sw h, hf]
/-- words of one kind come of each other by changing neighbours in succession -/
theorem eqv_ind {P : List Nat → List Nat → Prop} (hr : ∀ u, P u u) (ht : ∀ u v w, P u v → P v w → P u w) (hs : ∀ x a b y, nb a b = true → P (x ++ a :: b :: y) (x ++ b :: a :: y)) : ∀ (u v : List Nat), eqv u v → ∀ pre, P (pre ++ u) (pre ++ v)
  | [], [], _, pre => hr _
  | [], b :: v, h, pre => by
    have := h b b (nb_self b)
    simp [pr] at this
  | a :: u, v, h, pre => by
    obtain ⟨x, y, rfl, hx⟩ := fst_eqv h (fst_head a u)
    have ih := eqv_ind hr ht hs u (x ++ y) (eqv_tail h hx) (pre ++ [a])
    rw [List.append_assoc, List.append_assoc] at ih
    have mv : ∀ (x pre : List Nat), (∀ z ∈ x, nb z a = true) → P (pre ++ a :: (x ++ y)) (pre ++ (x ++ a :: y)) := by
      intro x
      induction x with
      | nil => intro pre _; exact hr _
      | cons c x ihx =>
        intro pre hx
        have h1 := hs pre a c (x ++ y) (by rw [nb_comm]; exact hx c List.mem_cons_self)
        have h2 := ihx (pre ++ [c]) (fun z hz => hx z (List.mem_cons_of_mem _ hz))
        rw [List.append_assoc, List.append_assoc] at h2
        exact ht _ _ _ h1 h2
    exact ht _ _ _ ih (mv x pre hx)
theorem eqv_ideals {u v : List Nat} (h : eqv u v) : u.length = v.length ∧ nId u = nId v ∧ zT u u.length (2 ^ u.length - 1) = zT v v.length (2 ^ v.length - 1) := 
  eqv_ind (P := fun u v => u.length = v.length ∧ nId u = nId v ∧ zT u u.length (2 ^ u.length - 1) = zT v v.length (2 ^ v.length - 1)) (fun u => ⟨rfl, rfl, rfl⟩) (fun u v w a b => ⟨a.1.trans b.1, a.2.1.trans b.2.1, a.2.2.trans b.2.2⟩) (fun x a b y q => zsw_all q) u v h []
-- bounds: no three streets are neighbours of each other
theorem nb3 : ∀ x, x < 5 → ∀ y, y < 5 → ∀ z, z < 5 → ¬ (nb x y = true ∧ nb x z = true ∧ nb y z = true) := by decide +kernel
theorem zsep {w : List Nat} {a b : Nat} (ha : Idl w a) (hb : Idl w b) (hpc : zpc a w.length = zpc b w.length) (hab : a ≠ b) : ∃ i, i < w.length ∧ a.testBit i = true ∧ b.testBit i = false := 
  Classical.byContradiction fun hne => hab (zext ha.1 hb.1 (zpc_sub w.length (fun i hi h => by
    cases hx : b.testBit i with
    | true => rfl
    | false => exact absurd ⟨i, hi, h, hx⟩ hne) hpc))
theorem zinj1 {w : List Nat} {a b : Nat} (hv : wv w) (ha : Idl w a) (hb : Idl w b) (hpc : zpc a w.length = zpc b w.length) (hf : zfm w a = zfm w b) : a = b := by
  by_cases e : a = b
  · exact e
  · exfalso
    obtain ⟨i, hi, ai, bi⟩ := zsep ha hb hpc e
    obtain ⟨j, hj, bj, aj⟩ := zsep hb ha hpc.symm (fun q => e q.symm)
    obtain ⟨f1, f2, f3⟩ := zfm_spec w a
    obtain ⟨g1, g2, g3⟩ := zfm_spec w b
    rw [← hf] at g1 g2 g3
    have hiq : ¬ i < zfm w a := fun q => by rw [g1 i q] at bi; cases bi
    have hjq : ¬ j < zfm w a := fun q => by rw [f1 j q] at aj; cases aj
    have hq : zfm w a < w.length := by omega
    have fa := f3 hq
    have fb := g3 hq
    have hi1 : i ≠ zfm w a := fun q => by rw [q, fa] at ai; cases ai
    have hj1 : j ≠ zfm w a := fun q => by rw [q, fb] at bj; cases bj
    have n1 : nb (w.getD (zfm w a) 0) (w.getD i 0) = true := by
      cases hn : nb (w.getD (zfm w a) 0) (w.getD i 0) with
      | true => rfl
      | false => have := ha.2 _ i (by omega) hi ai hn; rw [fa] at this; cases this
    have n2 : nb (w.getD (zfm w a) 0) (w.getD j 0) = true := by
      cases hn : nb (w.getD (zfm w a) 0) (w.getD j 0) with
      | true => rfl
      | false => have := hb.2 _ j (by omega) hj bj hn; rw [fb] at this; cases this
    have hij : i ≠ j := fun q => by rw [q, aj] at ai; cases ai
    have n3 : nb (w.getD i 0) (w.getD j 0) = true := by
      cases hn : nb (w.getD i 0) (w.getD j 0) with
      | true => rfl
      | false =>
        by_cases lt : i < j
        · have := hb.2 i j lt hj bj hn
          rw [bi] at this; cases this
        · have := ha.2 j i (by omega) hi ai (by rw [nb_comm]; exact hn)
          rw [aj] at this; cases this
    exact nb3 _ (getD_lt hv hq) _ (getD_lt hv hi) _ (getD_lt hv hj) ⟨n1, n2, n3⟩
theorem zinj2 {w : List Nat} {a b : Nat} (hv : wv w) (ha : Idl w a) (hb : Idl w b) (hpc : zpc a w.length = zpc b w.length) (h0 : zpc a w.length ≠ 0) (hf : zlp a w.length = zlp b w.length) : a = b := by
  by_cases e : a = b
  · exact e
  · exfalso
    obtain ⟨i, hi, ai, bi⟩ := zsep ha hb hpc e
    obtain ⟨j, hj, bj, aj⟩ := zsep hb ha hpc.symm (fun q => e q.symm)
    obtain ⟨f1, f2, f3⟩ := zlp_spec w.length h0
    obtain ⟨g1, g2, g3⟩ := zlp_spec (m := b) w.length (by rw [← hpc]; exact h0)
    rw [← hf] at g1 g2 g3
    have hiq : ¬ zlp a w.length < i := fun q => by rw [f3 i q hi] at ai; cases ai
    have hjq : ¬ zlp a w.length < j := fun q => by rw [g3 j q hj] at bj; cases bj
    have hi1 : i ≠ zlp a w.length := fun q => by rw [q, g2] at bi; cases bi
    have hj1 : j ≠ zlp a w.length := fun q => by rw [q, f2] at aj; cases aj
    have n1 : nb (w.getD i 0) (w.getD (zlp a w.length) 0) = true := by
      cases hn : nb (w.getD i 0) (w.getD (zlp a w.length) 0) with
      | true => rfl
      | false => have := hb.2 i _ (by omega) f1 g2 hn; rw [bi] at this; cases this
    have n2 : nb (w.getD j 0) (w.getD (zlp a w.length) 0) = true := by
      cases hn : nb (w.getD j 0) (w.getD (zlp a w.length) 0) with
      | true => rfl
      | false => have := ha.2 j _ (by omega) f1 f2 hn; rw [aj] at this; cases this
    have hij : i ≠ j := fun q => by rw [q, aj] at ai; cases ai
    have n3 : nb (w.getD i 0) (w.getD j 0) = true := by
      cases hn : nb (w.getD i 0) (w.getD j 0) with
      | true => rfl
      | false =>
        by_cases lt : i < j
        · have := hb.2 i j lt hj bj hn
          rw [bi] at this; cases this
        · have := ha.2 j i (by omega) hi ai (by rw [nb_comm]; exact hn)
          rw [aj] at this; cases this
    rw [nb_comm] at n1 n2
    exact nb3 _ (getD_lt hv f1) _ (getD_lt hv hi) _ (getD_lt hv hj) ⟨n1, n2, n3⟩
theorem zlay_le {w : List Nat} {e : Nat} {A : List Nat} (hv : wv w) (hn : A.Nodup) (h : ∀ m ∈ A, Idl w m ∧ zpc m w.length = e) : A.length ≤ e + 1 := by
  have h1 : (A.map (zfm w)).Nodup := nd_map hn fun a ha b hb q => zinj1 hv (h a ha).1 (h b hb).1 (by rw [(h a ha).2, (h b hb).2]) q
  have h2 := h1.length_le_of_subset (l₂ := List.range (e + 1)) fun c hc => by
    obtain ⟨m, hm, rfl⟩ := List.mem_map.mp hc
    obtain ⟨f1, f2, f3⟩ := zfm_spec w m
    have := zpc_ge f1 w.length f2
    rw [(h m hm).2] at this
    exact List.mem_range.mpr (by omega)
  rw [List.length_map, List.length_range] at h2
  exact h2
def zcd (w : List Nat) (m : Nat) : Nat := if zpc m w.length ≤ 9 then zpc m w.length * 10 + zfm w m else zpc m w.length * 10 + (17 - zlp m w.length)
def zcl : List Nat := (List.range 190).filter (fun c => decide (c % 10 ≤ c / 10 ∧ c % 10 ≤ 18 - c / 10))
theorem zcl_len : zcl.length = 100 := by decide +kernel
theorem ztot_le {w A : List Nat} (hv : wv w) (hl : w.length ≤ 18) (hn : A.Nodup) (h : ∀ m ∈ A, Idl w m) : A.length ≤ 100 := by
  have hq : ∀ m, zpc m w.length ≤ 9 → zfm w m ≤ zpc m w.length := fun m _ => by
    obtain ⟨f1, f2, f3⟩ := zfm_spec w m
    exact zpc_ge f1 w.length f2
  have hp : ∀ m, ¬ zpc m w.length ≤ 9 → zlp m w.length < w.length ∧ zpc m w.length ≤ zlp m w.length + 1 := fun m hm => by
    obtain ⟨f1, f2, f3⟩ := zlp_spec (m := m) w.length (by omega)
    exact ⟨f1, zpc_bd w.length f3⟩
  have hle : ∀ m, zpc m w.length ≤ 18 := fun m => Nat.le_trans (zpc_le m _) hl
  have h1 : (A.map (zcd w)).Nodup := nd_map hn fun a ha b hb q => by
    unfold zcd at q
    have hla := hle a
    have hlb := hle b
    by_cases ea : zpc a w.length ≤ 9
    · have qa := hq a ea
      rw [if_pos ea] at q
      by_cases eb : zpc b w.length ≤ 9
      · have qb := hq b eb
        rw [if_pos eb] at q
        exact zinj1 hv (h a ha) (h b hb) (by omega) (by omega)
      · have pb := hp b eb
        rw [if_neg eb] at q
        omega
    · have pa := hp a ea
      rw [if_neg ea] at q
      by_cases eb : zpc b w.length ≤ 9
      · have qb := hq b eb
        rw [if_pos eb] at q
        omega
      · have pb := hp b eb
        rw [if_neg eb] at q
        exact zinj2 hv (h a ha) (h b hb) (by omega) (by omega) (by omega)
  have h2 := h1.length_le_of_subset (l₂ := zcl) fun c hc => by
    obtain ⟨m, hm, rfl⟩ := List.mem_map.mp hc
    have hlm := hle m
    unfold zcl zcd
    rw [List.mem_filter, List.mem_range]
    by_cases em : zpc m w.length ≤ 9
    · have qm := hq m em
      rw [if_pos em]
      exact ⟨by omega, decide_eq_true ⟨by omega, by omega⟩⟩
    · have pm := hp m em
      rw [if_neg em]
      exact ⟨by omega, decide_eq_true ⟨by omega, by omega⟩⟩
  rw [List.length_map, zcl_len] at h2
  exact h2
