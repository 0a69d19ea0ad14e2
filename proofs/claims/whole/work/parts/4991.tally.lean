/-! ways, between: the class's tally -/
theorem smod32 : ∀ p, p < 32 → ((nI p).toBitVec.smod 32).toNat = p := by decide +kernel
theorem shl18 : ∀ p, p < 19 → (1 : Int32) <<< (nI p &&& 31) = nI (2 ^ p) := by decide +kernel
theorem full18 : ∀ p, p < 19 → (1 : Int32) <<< (nI p &&& 31) - 1 = nI (2 ^ p - 1) := by decide +kernel
theorem bitI {m p : Nat} (hm : m < 2 ^ 31) (hp : p < 32) : ((nI m >>> (nI p &&& 31)) &&& 1 = 1) ↔ m.testBit p = true := by
  have h1 : nI p &&& 31 = nI p := by
    rw [pk_andN (n := p) (by omega) 5 (by decide), Nat.mod_eq_of_lt (by omega)]
  have h2 : nI (m / 2 ^ p) &&& 1 = nI (m / 2 ^ p % 2) := pk_andN (n := m / 2 ^ p) (Nat.lt_of_le_of_lt (Nat.div_le_self _ _) (by omega)) 1 (by decide)
  rw [h1, pk_shrN hm (nI p) p (smod32 p hp), h2, Nat.testBit_eq_decide_div_mod_eq, decide_eq_true_eq]
  exact nI_eq (b := 1) (by omega) (by decide)
theorem andI {m p : Nat} (hp : p < 19) (h : m.testBit p = true) : nI m &&& (((1 : Int32) <<< (nI p &&& 31)) ^^^ (-1 : Int32)) = nI (zfl m p) := by
  rw [shl18 p hp]
  apply Int32.toBitVec_inj.1
  have hneg : (-1 : Int32).toBitVec = BitVec.allOnes 32 := by decide
  show BitVec.ofNat 32 m &&& (BitVec.ofNat 32 (2 ^ p) ^^^ (-1 : Int32).toBitVec) = BitVec.ofNat 32 (zfl m p)
  rw [hneg]
  apply BitVec.eq_of_getLsbD_eq
  intro i hi
  rw [BitVec.getLsbD_and, BitVec.getLsbD_xor, BitVec.getLsbD_allOnes, BitVec.getLsbD_ofNat, BitVec.getLsbD_ofNat, BitVec.getLsbD_ofNat, zfl_bit, Nat.testBit_two_pow]
  by_cases e : i = p
  · subst e
    simp [h, hi]
  · simp [e, Ne.symm e, hi]
theorem orI {m p : Nat} (hp : p < 19) (h : m.testBit p = false) : nI m ||| ((1 : Int32) <<< (nI p &&& 31)) = nI (zfl m p) := by
  rw [shl18 p hp, or_nI]
  congr 1
  refine Nat.eq_of_testBit_eq fun i => ?_
  rw [Nat.testBit_or, Nat.testBit_two_pow, zfl_bit]
  by_cases e : i = p
  · subst e
    simp [h]
  · simp [e, Ne.symm e]
def zab (a b : Nat) : Prop := (a = 37 ∧ b = 38) ∨ (a = 38 ∧ b = 37)
def zcc (c d : Nat) : Prop := (c = 39 ∧ d = 40) ∨ (c = 40 ∧ d = 39)
theorem idI_g {α : Type} {a b : Nat} {x : Option α} (h : zab a b) : gd (idI (nI a)) x = x := gd_t (by rcases h with ⟨rfl, -⟩ | ⟨rfl, -⟩ <;> decide)
theorem idJ_g {α : Type} {a b : Nat} {x : Option α} (h : zcc a b) : gd (idJ (nI a)) x = x := gd_t (by rcases h with ⟨rfl, -⟩ | ⟨rfl, -⟩ <;> decide)
theorem zab.sw {a b : Nat} (h : zab a b) : zab b a := h.elim (fun q => Or.inr ⟨q.2, q.1⟩) (fun q => Or.inl ⟨q.2, q.1⟩)
theorem zcc.sw {a b : Nat} (h : zcc a b) : zcc b a := h.elim (fun q => Or.inr ⟨q.2, q.1⟩) (fun q => Or.inl ⟨q.2, q.1⟩)
theorem zab.bd {a b : Nat} (h : zab a b) : 37 ≤ a ∧ a ≤ 38 ∧ 37 ≤ b ∧ b ≤ 38 ∧ a ≠ b := by rcases h with ⟨rfl, rfl⟩ | ⟨rfl, rfl⟩ <;> decide
theorem zcc.bd {a b : Nat} (h : zcc a b) : 39 ≤ a ∧ a ≤ 40 ∧ 39 ≤ b ∧ b ≤ 40 ∧ a ≠ b := by rcases h with ⟨rfl, rfl⟩ | ⟨rfl, rfl⟩ <;> decide
def IS (t : GS) (a b c d : Nat) : Prop := t.1 36 0 = nI a ∧ t.1 36 1 = nI b ∧ t.1 36 2 = nI c ∧ t.1 36 3 = nI d
/-- nothing but the next layer, and how many it has, was written -/
def F4 (b d : Nat) (t t' : GS) : Prop := (∀ q, q ≠ 36 → q ≠ b → t'.1 q = t.1 q) ∧ (∀ j, j ≠ 4 → t'.1 36 j = t.1 36 j) ∧ ∀ q, q ≠ d → t'.2 q = t.2 q
theorem F4.refl (b d : Nat) (t : GS) : F4 b d t t := ⟨fun _ _ _ => rfl, fun _ _ => rfl, fun _ _ => rfl⟩
theorem F4.trans {b d : Nat} {t u v : GS} (h : F4 b d t u) (h2 : F4 b d u v) : F4 b d t v := ⟨fun q h0 h1 => (h2.1 q h0 h1).trans (h.1 q h0 h1), fun j hj => (h2.2.1 j hj).trans (h.2.1 j hj), fun q hq => (h2.2.2 q hq).trans (h.2.2 q hq)⟩
theorem IS.f4 {a b c d : Nat} {t t' : GS} (h : IS t a b c d) (f : F4 b d t t') : IS t' a b c d := by
  unfold IS
  rw [f.2.1 0 (by decide), f.2.1 1 (by decide), f.2.1 2 (by decide), f.2.1 3 (by decide)]
  exact h
def NX (t : GS) (b d : Nat) (N : List Nat) (Nc : Nat → Nat) : Prop := t.1 36 4 = nI N.length ∧ ∀ k, k < N.length → t.1 b k = nI (N.getD k 0) ∧ t.2 d k = lN (Nc k)
theorem getD_mem {l : List Nat} {i : Nat} (h : i < l.length) : l.getD i 0 ∈ l := by
  rw [List.getD_eq_getElem?_getD, List.getElem?_eq_getElem h]
  exact List.getElem_mem h
theorem mem_getD {l : List Nat} {x : Nat} (h : x ∈ l) : ∃ i, i < l.length ∧ l.getD i 0 = x := by
  obtain ⟨i, hi, e⟩ := List.mem_iff_getElem.mp h
  refine ⟨i, hi, ?_⟩
  rw [List.getD_eq_getElem?_getD, List.getElem?_eq_getElem hi]
  exact e
theorem getD_last {l : List Nat} {x : Nat} : (l ++ [x]).getD l.length 0 = x := by
  have := getD_r (u := l) (v := [x]) (i := 0)
  rw [Nat.add_zero] at this
  rw [this]
  rfl
def zins (N : List Nat) (m : Nat) : List Nat := if m ∈ N then N else N ++ [m]
theorem addX {t : GS} {a b c d m v : Nat} {N : List Nat} {Nc : Nat → Nat} (hI : IS t a b c d) (hab : zab a b) (hcd : zcc c d) (hN : NX t b d N Nc) (hlen : m ∉ N → N.length < 40) (hl40 : N.length ≤ 40) (hm : m < 2 ^ 31) (hN31 : ∀ x ∈ N, x < 2 ^ 31) : ∃ t' Nc', F_Id_add (nI m) (lN v) t = some t' ∧ NX t' b d (zins N m) Nc' ∧ F4 b d t t' ∧ ∀ g : Nat → Nat, zsm (fun k => Nc' k * g ((zins N m).getD k 0)) (zins N m).length = zsm (fun k => Nc k * g (N.getD k 0)) N.length + v * g m := by
  obtain ⟨b1, b2, b3, b4, b5⟩ := hab.bd
  obtain ⟨d1, d2, d3, d4, d5⟩ := hcd.bd
  obtain ⟨i0, i1, i2, i3⟩ := hI
  unfold F_Id_add
  rw [jn_s]
  refine lpE (G := fun n i (_ : Unit) => F_Id_add_3 (nI m) (lN v) (fun (v4_1 : Int32) (σL1 : GS) => if (40 : Int32) ≤ (σL1.1 36 4) then some σL1 else gd (idI (σL1.1 36 1)) (gd (iB (σL1.1 36 4) 40) (jn (s1 σL1 ((σL1.1 36 1).toNatClampNeg) ((σL1.1 36 4).toNatClampNeg) (nI m)) (fun (σ4 : GS) => gd (idJ (σ4.1 36 3)) (gd (iB (σ4.1 36 4) 40) (jn (s2 σ4 ((σ4.1 36 3).toNatClampNeg) ((σ4.1 36 4).toNatClampNeg) (lN v)) (fun (σ7 : GS) => jn (s1 σ7 36 4 ((σ7.1 36 4) + (1 : Int32))) (fun (σ8 : GS) => some σ8)))))))) n (nI i) t) (P := fun o => ∃ t' Nc', o = some t' ∧ NX t' b d (zins N m) Nc' ∧ F4 b d t t' ∧ ∀ g : Nat → Nat, zsm (fun k => Nc' k * g ((zins N m).getD k 0)) (zins N m).length = zsm (fun k => Nc k * g (N.getD k 0)) N.length + v * g m) (Inv := fun i _ => ∀ k, k < i → N.getD k 0 ≠ m) (N := N.length) ?_ ?_ N.length 0 50000 () (by omega) (by omega) (fun k hk => absurd hk (Nat.not_lt_zero _))
  · intro n i _ hi h
    obtain ⟨x1, x2⟩ := hN.2 i hi
    have hx := hN31 _ (getD_mem hi)
    by_cases e : N.getD i 0 = m
    · have hmem : m ∈ N := by rw [← e]; exact getD_mem hi
      have ez : zins N m = N := if_pos hmem
      refine Or.inl ⟨s2 t d i (lN (Nc i + v)), fun k => if k = i then Nc i + v else Nc k, ?_, ?_, ?_, fun g => ?_⟩
      · show F_Id_add_3 (nI m) (lN v) _ (n + 1) (nI i) t = _
        rw [F_Id_add_3.eq_2, hN.1, if_neg (nI_ge hi (by omega)), i1, idI_g hab.sw, gi (by omega) (by decide), c31 (n := b) (by omega), c31 (n := i) (by omega), x1, e, if_pos rfl, i3, idJ_g hcd.sw, gi (by omega) (by decide), idJ_g hcd.sw, gi (by omega) (by decide), c31 (n := d) (by omega), x2, lN_add, jn_s]
      · rw [ez]
        refine ⟨hN.1, fun k hk => ⟨(hN.2 k hk).1, ?_⟩⟩
        rw [s2_get]
        dsimp only
        by_cases q : k = i
        · rw [if_pos ⟨rfl, q⟩, if_pos q]
        · rw [if_neg (fun z => q z.2), if_neg q]
          exact (hN.2 k hk).2
      · exact ⟨fun _ _ _ => rfl, fun _ _ => rfl, fun q hq => s2_c hq⟩
      · rw [ez]
        refine zsm_upd (j := i) N.length hi ?_ fun k hk hne => ?_
        · show (if i = i then Nc i + v else Nc i) * g (N.getD i 0) = Nc i * g (N.getD i 0) + v * g m
          rw [if_pos rfl, Nat.add_mul, e]
        · show (if k = i then Nc i + v else Nc k) * g (N.getD k 0) = Nc k * g (N.getD k 0)
          rw [if_neg hne]
    · refine Or.inr ⟨(), ?_, fun k hk => ?_⟩
      · show F_Id_add_3 (nI m) (lN v) _ (n + 1) (nI i) t = F_Id_add_3 (nI m) (lN v) _ n (nI (i + 1)) t
        rw [F_Id_add_3.eq_2, hN.1, if_neg (nI_ge hi (by omega)), i1, idI_g hab.sw, gi (by omega) (by decide), c31 (n := b) (by omega), c31 (n := i) (by omega), x1, if_neg (fun q => e ((nI_eq (by omega) (by omega)).mp q)), nI_1]
      · by_cases q : k = i
        · rw [q]; exact e
        · exact h k (by omega)
  · intro n _ h
    have hmem : m ∉ N := fun q => by
      obtain ⟨i, hi, e⟩ := mem_getD q
      exact h i hi e
    have hl := hlen hmem
    have ez : zins N m = N ++ [m] := if_neg hmem
    have g1 : (s1 t b N.length (nI m)).1 36 4 = nI N.length := by rw [s1_c (by omega), hN.1]
    have g3 : (s1 t b N.length (nI m)).1 36 3 = nI d := by rw [s1_c (by omega), i3]
    refine ⟨s1 (s2 (s1 t b N.length (nI m)) d N.length (lN v)) 36 4 (nI (N.length + 1)), fun k => if k = N.length then v else Nc k, ?_, ?_, ⟨fun q q0 q1 => ?_, fun j hj => ?_, fun q hq => ?_⟩, fun g => ?_⟩
    · show F_Id_add_3 (nI m) (lN v) _ (n + 1) (nI N.length) t = _
      rw [F_Id_add_3.eq_2, hN.1, if_pos (nI_le (Nat.le_refl _) (by omega)), if_neg (show ¬ (40 : Int32) ≤ nI N.length from nI_ge (b := 40) hl (by decide)), i1, idI_g hab.sw, gi hl (by decide), c31 (n := b) (by omega), c31 (n := N.length) (by omega), jn_s, g3, idJ_g hcd.sw, g1, gi hl (by decide), c31 (n := d) (by omega), c31 (n := N.length) (by omega), jn_s, s2_i, g1, nI_1, jn_s]
    · rw [ez]
      refine ⟨by rw [s1_at, List.length_append]; rfl, fun k hk => ?_⟩
      rw [List.length_append, List.length_singleton] at hk
      rw [s1_c (by omega), s2_i, s1_l, s2_get, s1_l]
      by_cases q : k = N.length
      · rw [q, s1_at, getD_last, if_pos ⟨rfl, rfl⟩]
        exact ⟨rfl, by show lN v = lN (if N.length = N.length then v else Nc N.length); rw [if_pos rfl]⟩
      · rw [s1_i q, getD_l (by omega), if_neg (fun z => q z.2)]
        refine ⟨(hN.2 k (by omega)).1, ?_⟩
        show t.2 d k = lN (if k = N.length then v else Nc k)
        rw [if_neg q]
        exact (hN.2 k (by omega)).2
    · rw [s1_c q0, s2_i, s1_c q1]
    · rw [s1_i hj, s2_i, s1_c (by omega)]
    · rw [s1_l, s2_c hq, s1_l]
    · rw [ez, List.length_append, List.length_singleton, zsm_s]
      have e1 : zsm (fun k => (if k = N.length then v else Nc k) * g ((N ++ [m]).getD k 0)) N.length = zsm (fun k => Nc k * g (N.getD k 0)) N.length := zsm_congr _ fun k hk => by
        show (if k = N.length then v else Nc k) * g ((N ++ [m]).getD k 0) = Nc k * g (N.getD k 0)
        rw [if_neg (by omega), getD_l hk]
      rw [e1]
      show _ + (if N.length = N.length then v else Nc N.length) * g ((N ++ [m]).getD N.length 0) = _
      rw [if_pos rfl, getD_last]
theorem zins_sub {N : List Nat} {m x : Nat} (h : x ∈ N) : x ∈ zins N m := by
  unfold zins
  split
  · exact h
  · exact List.mem_append_left _ h
theorem zins_mem (N : List Nat) (m : Nat) : m ∈ zins N m := by
  unfold zins
  split
  · assumption
  · simp
theorem zins_of {N : List Nat} {m x : Nat} (h : x ∈ zins N m) : x ∈ N ∨ x = m := by
  unfold zins at h
  split at h
  · exact Or.inl h
  · exact (List.mem_append.mp h).imp id List.mem_singleton.mp
theorem zins_nd {N : List Nat} {m : Nat} (h : N.Nodup) : (zins N m).Nodup := by
  unfold zins
  by_cases q : m ∈ N
  · rw [if_pos q]; exact h
  · rw [if_neg q]
    exact List.nodup_append.mpr ⟨h, by simp, fun a ha b hb => by
      rw [List.mem_singleton.mp hb]
      exact fun e => q (e ▸ ha)⟩
/-- a set of the layer, its last places taken off -/
theorem takeInX {W N : List Nat} {n k m cv a b c d : Nat} {Nc : Nat → Nat} {σ : GS} {x2 : Int32} (hW : Rep σ 32 W) (hL : W.length ≤ 18) (hI : IS σ a b c d) (hab : zab a b) (hcd : zcc c d) (hk : k < 40) (ha : σ.1 a k = nI m) (hc : σ.2 c k = lN cv) (hm : Idl W m) (hpc : zpc m W.length = n + 1) (hN : NX σ b d N Nc) (hnd : N.Nodup) (hok : ∀ x ∈ N, Idl W x ∧ zpc x W.length = n) : ∃ t' N' Nc', NX t' b d N' Nc' ∧ N'.Nodup ∧ (∀ x ∈ N', Idl W x ∧ zpc x W.length = n) ∧ (∀ x ∈ N, x ∈ N') ∧ (∀ p, p < W.length → zlas W m p = true → zfl m p ∈ N') ∧ F4 b d σ t' ∧ zsm (fun j => Nc' j * zT W n (N'.getD j 0)) N'.length = zsm (fun j => Nc j * zT W n (N.getD j 0)) N.length + cv * zT W (n + 1) m ∧ ∀ K : Int32 → GS → Option GS, F_Id_takeOff_17 x2 (nI W.length) (nI k) K 50000 0 σ = K (nI W.length) t' := by
  obtain ⟨b1, b2, b3, b4, b5⟩ := hab.bd
  obtain ⟨d1, d2, d3, d4, d5⟩ := hcd.bd
  have hpow : (2 : Nat) ^ W.length ≤ 2 ^ 18 := Nat.pow_le_pow_right (by decide) hL
  have hm31 := hm.1
  have := lpE (G := fun f p (t : GS) => fun (K : Int32 → GS → Option GS) => F_Id_takeOff_17 x2 (nI W.length) (nI k) K f (nI p) t) (P := fun o => ∃ t' N' Nc', NX t' b d N' Nc' ∧ N'.Nodup ∧ (∀ x ∈ N', Idl W x ∧ zpc x W.length = n) ∧ (∀ x ∈ N, x ∈ N') ∧ (∀ p, p < W.length → zlas W m p = true → zfl m p ∈ N') ∧ F4 b d σ t' ∧ zsm (fun j => Nc' j * zT W n (N'.getD j 0)) N'.length = zsm (fun j => Nc j * zT W n (N.getD j 0)) N.length + cv * zT W (n + 1) m ∧ ∀ K, o K = K (nI W.length) t') (Inv := fun p t => ∃ N' Nc', NX t b d N' Nc' ∧ N'.Nodup ∧ (∀ x ∈ N', Idl W x ∧ zpc x W.length = n) ∧ (∀ x ∈ N, x ∈ N') ∧ (∀ p', p' < p → zlas W m p' = true → zfl m p' ∈ N') ∧ F4 b d σ t ∧ zsm (fun j => Nc' j * zT W n (N'.getD j 0)) N'.length = zsm (fun j => Nc j * zT W n (N.getD j 0)) N.length + cv * zsm (fun p => if zlas W m p = true then zT W n (zfl m p) else 0) p) (N := W.length) ?_ ?_ W.length 0 50000 σ (by omega) (by omega) ⟨N, Nc, hN, hnd, hok, fun x hx => hx, fun p' hp' => absurd hp' (Nat.not_lt_zero _), F4.refl _ _ _, rfl⟩
  · exact this
  · rintro f p t hp ⟨N1, Nc1, g1, g2, g3, g4, g5, g6, g7⟩
    have hI1 := hI.f4 g6
    have ea : t.1 a k = nI m := by rw [g6.1 a (by omega) (by omega)]; exact ha
    have ec : t.2 c k = lN cv := by rw [g6.2.2 c (by omega)]; exact hc
    have hW1 : Rep t 32 W := by
      unfold Rep
      rw [g6.1 32 (by omega) (by omega), g6.1 (32 + 1) (by omega) (by omega)]
      exact hW
    have hcb := cbl_spec (w := 32) (p := p) (M := nI m) (f := fun i => m.testBit i) hW1 hp (fun i hi => bitI (by omega) (by omega))
    have hz : zlas W m p = (m.testBit p && cbl W p (fun i => m.testBit i) (p + 1) (W.length - (p + 1))) := rfl
    have skip : zlas W m p = false → (∀ K, F_Id_takeOff_17 x2 (nI W.length) (nI k) K (f + 1) (nI p) t = F_Id_takeOff_17 x2 (nI W.length) (nI k) K f (nI (p + 1)) t) → ∃ t' : GS, (fun (K : Int32 → GS → Option GS) => F_Id_takeOff_17 x2 (nI W.length) (nI k) K (f + 1) (nI p) t) = (fun (K : Int32 → GS → Option GS) => F_Id_takeOff_17 x2 (nI W.length) (nI k) K f (nI (p + 1)) t') ∧ ∃ N' Nc', NX t' b d N' Nc' ∧ N'.Nodup ∧ (∀ x ∈ N', Idl W x ∧ zpc x W.length = n) ∧ (∀ x ∈ N, x ∈ N') ∧ (∀ p', p' < p + 1 → zlas W m p' = true → zfl m p' ∈ N') ∧ F4 b d σ t' ∧ zsm (fun j => Nc' j * zT W n (N'.getD j 0)) N'.length = zsm (fun j => Nc j * zT W n (N.getD j 0)) N.length + cv * zsm (fun p => if zlas W m p = true then zT W n (zfl m p) else 0) (p + 1) := fun hz0 he => by
      refine ⟨t, funext he, N1, Nc1, g1, g2, g3, g4, fun p' hp' hl => ?_, g6, ?_⟩
      · by_cases e : p' = p
        · rw [e, hz0] at hl; cases hl
        · exact g5 p' (by omega) hl
      · rw [zsm_s, hz0, if_neg (by decide), Nat.add_zero]
        exact g7
    by_cases hb : m.testBit p = true
    · have eb : (nI m >>> (nI p &&& 31)) &&& 1 = 1 := (bitI (by omega) (by omega)).mpr hb
      by_cases hcl : cbl W p (fun i => m.testBit i) (p + 1) (W.length - (p + 1)) = true
      · have hl : zlas W m p = true := by rw [hz, hb, hcl]; rfl
        have hid := idl_las hm hp hl
        have hpc2 : zpc (zfl m p) W.length = n := by
          have := zpc_off hb hp
          omega
        have hok2 : ∀ x ∈ zins N1 (zfl m p), Idl W x ∧ zpc x W.length = n := fun x hx => (zins_of hx).elim (g3 x) fun e => by rw [e]; exact ⟨hid, hpc2⟩
        have hle2 := zlay_le hW.2.2.2 (zins_nd (m := zfl m p) g2) hok2
        have hle1 := zlay_le hW.2.2.2 g2 g3
        have hn18 : n + 1 ≤ W.length := by rw [← hpc]; exact zpc_le _ _
        obtain ⟨t2, Nc2, e2, n2, f2, s2'⟩ := addX (m := zfl m p) (v := cv) hI1 hab hcd g1 (fun q => by
          unfold zins at hle2
          rw [if_neg q, List.length_append, List.length_singleton] at hle2
          omega) (by omega) (by have := hid.1; omega) (fun x hx => by have := (g3 x hx).1.1; omega)
        refine Or.inr ⟨t2, ?_, zins N1 (zfl m p), Nc2, n2, zins_nd g2, hok2, fun x hx => zins_sub (g4 x hx), fun p' hp' hl' => ?_, g6.trans f2, ?_⟩
        · funext K
          show F_Id_takeOff_17 x2 (nI W.length) (nI k) K (f + 1) (nI p) t = F_Id_takeOff_17 x2 (nI W.length) (nI k) K f (nI (p + 1)) t2
          rw [F_Id_takeOff_17.eq_2, if_neg (nI_ge hp (by omega)), hI1.1, idI_g hab, gi hk (by decide), c31 (n := a) (by omega), c31 (n := k) (by omega), ea, if_pos eb, idI_g hab, gi hk (by decide), bp_s hcb, if_pos hcl, if_neg (by decide), idI_g hab, gi hk (by decide), hI1.2.2.1, idJ_g hcd, gi hk (by decide), c31 (n := c) (by omega), ec, andI (by omega) hb, bv_s e2, nI_1]
        · by_cases e : p' = p
          · rw [e]; exact zins_mem _ _
          · exact zins_sub (g5 p' (by omega) hl')
        · rw [s2' (zT W n), g7, zsm_s, hl, if_pos rfl, Nat.mul_add, Nat.add_assoc]
      · refine Or.inr (skip (by rw [hz, Bool.eq_false_iff.mpr hcl, Bool.and_false]) fun K => ?_)
        rw [F_Id_takeOff_17.eq_2, if_neg (nI_ge hp (by omega)), hI1.1, idI_g hab, gi hk (by decide), c31 (n := a) (by omega), c31 (n := k) (by omega), ea, if_pos eb, idI_g hab, gi hk (by decide), bp_s hcb, if_neg hcl, if_pos rfl, nI_1]
    · refine Or.inr (skip (by rw [hz, Bool.eq_false_iff.mpr hb, Bool.false_and]) fun K => ?_)
      rw [F_Id_takeOff_17.eq_2, if_neg (nI_ge hp (by omega)), hI1.1, idI_g hab, gi hk (by decide), c31 (n := a) (by omega), c31 (n := k) (by omega), ea, if_neg (fun q => hb ((bitI (by omega) (by omega)).mp q)), nI_1]
  · rintro f t ⟨N1, Nc1, g1, g2, g3, g4, g5, g6, g7⟩
    refine ⟨t, N1, Nc1, g1, g2, g3, g4, g5, g6, g7, fun K => ?_⟩
    show F_Id_takeOff_17 x2 (nI W.length) (nI k) K (f + 1) (nI W.length) t = _
    rw [F_Id_takeOff_17.eq_2, if_pos (nI_le (Nat.le_refl _) (by omega))]
theorem takeOffX {W Ms : List Nat} {n a b c d : Nat} {Cs : Nat → Nat} {σ : GS} (hW : Rep σ 32 W) (hL : W.length ≤ 18) (hI : IS σ a b c d) (hab : zab a b) (hcd : zcc c d) (hMl : Ms.length ≤ 40) (hMs : ∀ k, k < Ms.length → σ.1 a k = nI (Ms.getD k 0) ∧ σ.2 c k = lN (Cs k)) (hok : ∀ m ∈ Ms, Idl W m ∧ zpc m W.length = n + 1) : ∃ t' N Nc, F_Id_takeOff (nI Ms.length) (nI W.length) σ = some t' ∧ NX t' b d N Nc ∧ N.Nodup ∧ (∀ x ∈ N, Idl W x ∧ zpc x W.length = n) ∧ (∀ m ∈ Ms, ∀ p, p < W.length → zlas W m p = true → zfl m p ∈ N) ∧ F4 b d σ t' ∧ zsm (fun j => Nc j * zT W n (N.getD j 0)) N.length = zsm (fun k => Cs k * zT W (n + 1) (Ms.getD k 0)) Ms.length := by
  obtain ⟨b1, b2, b3, b4, b5⟩ := hab.bd
  obtain ⟨d1, d2, d3, d4, d5⟩ := hcd.bd
  unfold F_Id_takeOff
  rw [jn_s, jn_s]
  have f0 : F4 b d σ (s1 σ 36 4 0) := ⟨fun q h0 _ => s1_c h0, fun j hj => s1_i hj, fun _ _ => rfl⟩
  have fin : ∀ m ∈ Ms, ∃ k, k < Ms.length ∧ Ms.getD k 0 = m := fun m hm => mem_getD hm
  have := lpE (G := fun f k (t : GS) => F_Id_takeOff_8 (nI Ms.length) (nI W.length) (fun (v4_2 : Int32) (σL2 : GS) => some σL2) f (nI k) t) (P := fun o => ∃ t' N Nc, o = some t' ∧ NX t' b d N Nc ∧ N.Nodup ∧ (∀ x ∈ N, Idl W x ∧ zpc x W.length = n) ∧ (∀ k, k < Ms.length → ∀ p, p < W.length → zlas W (Ms.getD k 0) p = true → zfl (Ms.getD k 0) p ∈ N) ∧ F4 b d σ t' ∧ zsm (fun j => Nc j * zT W n (N.getD j 0)) N.length = zsm (fun k => Cs k * zT W (n + 1) (Ms.getD k 0)) Ms.length) (Inv := fun k t => ∃ N Nc, NX t b d N Nc ∧ N.Nodup ∧ (∀ x ∈ N, Idl W x ∧ zpc x W.length = n) ∧ (∀ k', k' < k → ∀ p, p < W.length → zlas W (Ms.getD k' 0) p = true → zfl (Ms.getD k' 0) p ∈ N) ∧ F4 b d σ t ∧ zsm (fun j => Nc j * zT W n (N.getD j 0)) N.length = zsm (fun k => Cs k * zT W (n + 1) (Ms.getD k 0)) k) (N := Ms.length) ?_ ?_ Ms.length 0 50000 (s1 σ 36 4 0) (by omega) (by omega) ⟨[], fun _ => 0, ⟨s1_at _ _ _ _, fun k hk => absurd hk (Nat.not_lt_zero _)⟩, List.nodup_nil, fun x hx => (by cases hx), fun k hk => absurd hk (Nat.not_lt_zero _), f0, rfl⟩
  · obtain ⟨t', N, Nc, g1, g2, g3, g4, g5, g6, g7⟩ := this
    refine ⟨t', N, Nc, g1, g2, g3, g4, fun m hm p hp hl => ?_, g6, g7⟩
    obtain ⟨k, hk, rfl⟩ := mem_getD hm
    exact g5 k hk p hp hl
  · rintro f k t hk ⟨N, Nc, g1, g2, g3, g4, g5, g6⟩
    obtain ⟨o1, o2⟩ := hok _ (getD_mem hk)
    obtain ⟨x1, x2⟩ := hMs k hk
    have hW1 : Rep t 32 W := by
      unfold Rep
      rw [g5.1 32 (by omega) (by omega), g5.1 (32 + 1) (by omega) (by omega)]
      exact hW
    obtain ⟨t', N', Nc', q1, q2, q3, q4, q5, q6, q7, q8⟩ := takeInX (x2 := nI Ms.length) (k := k) (m := Ms.getD k 0) (cv := Cs k) hW1 hL (hI.f4 g5) hab hcd (by omega) (by rw [g5.1 a (by omega) (by omega)]; exact x1) (by rw [g5.2.2 c (by omega)]; exact x2) o1 o2 g1 g2 g3
    refine Or.inr ⟨t', ?_, N', Nc', q1, q2, q3, fun k' hk' p hp hl => ?_, g5.trans q6, by rw [q7, g6, zsm_s]⟩
    · show F_Id_takeOff_8 (nI Ms.length) (nI W.length) _ (f + 1) (nI k) t = F_Id_takeOff_8 (nI Ms.length) (nI W.length) _ f (nI (k + 1)) t'
      rw [F_Id_takeOff_8.eq_2, if_neg (nI_ge hk (by omega)), jn_s, q8, nI_1]
    · by_cases e : k' = k
      · rw [e] at hl ⊢
        exact q5 p hp hl
      · exact q4 _ (g4 k' (by omega) p hp hl)
  · rintro f t ⟨N, Nc, g1, g2, g3, g4, g5, g6⟩
    refine ⟨t, N, Nc, ?_, g1, g2, g3, g4, g5, g6⟩
    show F_Id_takeOff_8 (nI Ms.length) (nI W.length) _ (f + 1) (nI Ms.length) t = _
    rw [F_Id_takeOff_8.eq_2, if_pos (nI_le (Nat.le_refl _) (by omega))]
