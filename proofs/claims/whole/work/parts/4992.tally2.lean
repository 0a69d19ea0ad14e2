theorem idl_full (w : List Nat) : Idl w (2 ^ w.length - 1) := ⟨Nat.sub_lt (Nat.two_pow_pos _) (by decide), fun i j hij hj _ _ => by rw [Nat.testBit_two_pow_sub_one]; exact decide_eq_true (by omega)⟩
theorem zpc_fv (L : Nat) : zpc (2 ^ L - 1) L = L := Nat.le_antisymm (zpc_le _ _) (zpc_ge (fun i hi => by rw [Nat.testBit_two_pow_sub_one]; exact decide_eq_true hi) L (Nat.le_refl _))
theorem full_of {w : List Nat} {m : Nat} (hI : Idl w m) (h : zpc m w.length = w.length) : m = 2 ^ w.length - 1 := zext hI.1 (idl_full w).1 fun i hi => by rw [zpc_full w.length h i hi, Nat.testBit_two_pow_sub_one, decide_eq_true hi]
theorem idl_0 (w : List Nat) : Idl w 0 := ⟨Nat.two_pow_pos _, fun i j _ _ hb _ => by rw [Nat.zero_testBit] at hb; cases hb⟩
theorem zpc_zero : ∀ n, zpc 0 n = 0
  | 0 => rfl
  | n + 1 => by rw [zpc_s, zpc_zero n, Nat.zero_testBit]; rfl
theorem zero_of {w : List Nat} {m : Nat} (hI : Idl w m) (h : zpc m w.length = 0) : m = 0 := zext hI.1 (idl_0 w).1 fun i hi => by rw [zpc_0 _ h i hi, Nat.zero_testBit]
def FI (a b : GS) : Prop := (∀ q, q ≠ 36 → q ≠ 37 → q ≠ 38 → b.1 q = a.1 q) ∧ ∀ q, q ≠ 36 → q ≠ 39 → q ≠ 40 → b.2 q = a.2 q
theorem FI.trans {a b c : GS} (h : FI a b) (h2 : FI b c) : FI a c := ⟨fun q q0 q1 q2 => (h2.1 q q0 q1 q2).trans (h.1 q q0 q1 q2), fun q q0 q1 q2 => (h2.2 q q0 q1 q2).trans (h.2 q q0 q1 q2)⟩
def TI (W : List Nat) (σ : GS) (s : Nat) (t : Int32 × GS) : Prop := ∃ (a b c d : Nat) (Ms : List Nat) (Cs : Nat → Nat) (All : List Nat), zab a b ∧ zcc c d ∧ IS t.2 a b c d ∧ t.1 = nI Ms.length ∧ (∀ k, k < Ms.length → t.2.1 a k = nI (Ms.getD k 0) ∧ t.2.2 c k = lN (Cs k)) ∧ Ms.Nodup ∧ (∀ m, m ∈ Ms ↔ Idl W m ∧ zpc m W.length = W.length - s) ∧ zsm (fun k => Cs k * zT W (W.length - s) (Ms.getD k 0)) Ms.length = zT W W.length (2 ^ W.length - 1) ∧ t.2.1 36 6 = nI All.length ∧ All.Nodup ∧ (∀ m, m ∈ All ↔ Idl W m ∧ W.length - s ≤ zpc m W.length) ∧ FI σ t.2
theorem TI_init {W : List Nat} {σ : GS} {a b c d : Nat} (hab : zab a b) (hcd : zcc c d) (ea : σ.1 36 0 = nI a) (eb : σ.1 36 1 = nI b) (ec : σ.1 36 2 = nI c) (ed : σ.1 36 3 = nI d) : TI W σ 0 (1, s1 (s2 (s1 σ a 0 (nI (2 ^ W.length - 1))) c 0 1) 36 6 1) := by
  obtain ⟨b1, b2, b3, b4, b5⟩ := hab.bd
  obtain ⟨d1, d2, d3, d4, d5⟩ := hcd.bd
  have hfm : ∀ m, m ∈ [2 ^ W.length - 1] ↔ Idl W m ∧ zpc m W.length = W.length := fun m => by
    rw [List.mem_singleton]
    exact ⟨fun e => by rw [e]; exact ⟨idl_full W, zpc_fv _⟩, fun h => full_of h.1 h.2⟩
  refine ⟨a, b, c, d, [2 ^ W.length - 1], fun _ => 1, [2 ^ W.length - 1], hab, hcd, ⟨?_, ?_, ?_, ?_⟩, rfl, fun k hk => ?_, by simp, hfm, ?_, s1_at _ _ _ _, by simp, fun m => ?_, fun q q0 q1 q2 => ?_, fun q q0 q1 q2 => ?_⟩
  · show (s1 (s2 (s1 σ a 0 (nI (2 ^ W.length - 1))) c 0 1) 36 6 1).1 36 0 = nI a
    rw [s1_i (by decide), s2_i, s1_c (by omega), ea]
  · show (s1 (s2 (s1 σ a 0 (nI (2 ^ W.length - 1))) c 0 1) 36 6 1).1 36 1 = nI b
    rw [s1_i (by decide), s2_i, s1_c (by omega), eb]
  · show (s1 (s2 (s1 σ a 0 (nI (2 ^ W.length - 1))) c 0 1) 36 6 1).1 36 2 = nI c
    rw [s1_i (by decide), s2_i, s1_c (by omega), ec]
  · show (s1 (s2 (s1 σ a 0 (nI (2 ^ W.length - 1))) c 0 1) 36 6 1).1 36 3 = nI d
    rw [s1_i (by decide), s2_i, s1_c (by omega), ed]
  · have hk : k < 1 := hk
    have e : k = 0 := by omega
    subst e
    show (s1 (s2 (s1 σ a 0 (nI (2 ^ W.length - 1))) c 0 1) 36 6 1).1 a 0 = nI (2 ^ W.length - 1) ∧ (s1 (s2 (s1 σ a 0 (nI (2 ^ W.length - 1))) c 0 1) 36 6 1).2 c 0 = lN 1
    rw [s1_c (by omega), s2_i, s1_at, s1_l, s2_get, if_pos ⟨rfl, rfl⟩]
    exact ⟨rfl, rfl⟩
  · show 0 + 1 * zT W W.length (2 ^ W.length - 1) = _
    rw [Nat.zero_add, Nat.one_mul]
  · rw [hfm]
    have := zpc_le m W.length
    exact ⟨fun h => ⟨h.1, by omega⟩, fun h => ⟨h.1, by omega⟩⟩
  · show (s1 (s2 (s1 σ a 0 (nI (2 ^ W.length - 1))) c 0 1) 36 6 1).1 q = σ.1 q
    rw [s1_c q0, s2_i, s1_c (by omega)]
  · show (s1 (s2 (s1 σ a 0 (nI (2 ^ W.length - 1))) c 0 1) 36 6 1).2 q = σ.2 q
    rw [s1_l, s2_c (by omega), s1_l]
theorem TI_step {W : List Nat} {σ : GS} (hW : Rep σ 32 W) (hL : W.length ≤ 18) : ∀ (f s : Nat) (t : Int32 × GS), s < W.length → TI W σ s t → ∃ t' : Int32 × GS, F_Id_tally_38 (nI W.length) (fun (v3_7 : Int32) (v4_7 : Int32) (σL7 : GS) => gd (idJ (σL7.1 36 2)) (jn (s2 σL7 36 5 (σL7.2 ((σL7.1 36 2).toNatClampNeg) 0)) (fun (σ9 : GS) => some σ9))) (f + 1) t.1 (nI s) t.2 = F_Id_tally_38 (nI W.length) (fun (v3_7 : Int32) (v4_7 : Int32) (σL7 : GS) => gd (idJ (σL7.1 36 2)) (jn (s2 σL7 36 5 (σL7.2 ((σL7.1 36 2).toNatClampNeg) 0)) (fun (σ9 : GS) => some σ9))) f t'.1 (nI (s + 1)) t'.2 ∧ TI W σ (s + 1) t' := by
  rintro f s ⟨t1, t⟩ hs ⟨a, b, c, d, Ms, Cs, All, hab, hcd, hI, h1, hMs, hnd, hmem, hsum, h6, hAn, hAm, hF⟩
  obtain ⟨b1, b2, b3, b4, b5⟩ := hab.bd
  obtain ⟨d1, d2, d3, d4, d5⟩ := hcd.bd
  have hI : IS t a b c d := hI
  have h1 : t1 = nI Ms.length := h1
  have h6 : t.1 36 6 = nI All.length := h6
  have hF : FI σ t := hF
  obtain ⟨n, hn⟩ : ∃ n, W.length - s = n + 1 := ⟨W.length - s - 1, by omega⟩
  rw [hn] at hmem hsum hAm
  have hok : ∀ m ∈ Ms, Idl W m ∧ zpc m W.length = n + 1 := fun m hm => (hmem m).mp hm
  have hMl := zlay_le hW.2.2.2 hnd hok
  have hW1 : Rep t 32 W := by
    unfold Rep
    rw [hF.1 32 (by omega) (by omega) (by omega), hF.1 (32 + 1) (by omega) (by omega) (by omega)]
    exact hW
  obtain ⟨t2, N, Nc, e2, nx, nnd, nok, ncl, f4, nsum⟩ := takeOffX (n := n) hW1 hL hI hab hcd (by omega) hMs hok
  have J := hI.f4 f4
  have k3 : (s1 (s1 t2 36 0 (nI b)) 36 1 (nI a)).1 36 3 = nI d := by rw [s1_i (by decide), s1_i (by decide), J.2.2.2]
  have k2 : (s1 (s1 t2 36 0 (nI b)) 36 1 (nI a)).1 36 2 = nI c := by rw [s1_i (by decide), s1_i (by decide), J.2.2.1]
  obtain ⟨t3, et3⟩ : ∃ t3, t3 = s1 (s1 (s1 (s1 t2 36 0 (nI b)) 36 1 (nI a)) 36 2 (nI d)) 36 3 (nI c) := ⟨_, rfl⟩
  have e3 : F_Id_swap t2 = some t3 := by
    unfold F_Id_swap
    rw [J.2.1, J.1, jn_s, jn_s, k3, jn_s, k2, jn_s, et3]
  have c36 : ∀ j, 4 ≤ j → t3.1 36 j = t2.1 36 j := fun j hj => by rw [et3, s1_i (by omega), s1_i (by omega), s1_i (by omega), s1_i (by omega)]
  have co : ∀ q, q ≠ 36 → t3.1 q = t2.1 q := fun q hq => by rw [et3, s1_c hq, s1_c hq, s1_c hq, s1_c hq]
  have cl : t3.2 = t2.2 := by rw [et3]; rfl
  have g6 : t3.1 36 6 = nI All.length := by rw [c36 6 (by omega), f4.2.1 6 (by decide), h6]
  have g4 : t3.1 36 4 = nI N.length := by rw [c36 4 (by omega), nx.1]
  have hNmem : ∀ m, m ∈ N ↔ Idl W m ∧ zpc m W.length = n := fun m => by
    refine ⟨nok m, fun ⟨hi, hp⟩ => ?_⟩
    obtain ⟨p, p1, p2, p3⟩ := ex_ad hi (by omega)
    have h2 := ncl _ ((hmem (zfl m p)).mpr ⟨p3, by rw [zpc_on p2, if_pos p1, hp]⟩) p p1 (zlas_of p1 p2 hi)
    rw [zfl_zfl] at h2
    exact h2
  refine ⟨(nI N.length, s1 t3 36 6 (nI (All ++ N).length)), ?_, b, a, d, c, N, Nc, All ++ N, hab.sw, hcd.sw, ⟨?_, ?_, ?_, ?_⟩, rfl, fun k hk => ?_, nnd, ?_, ?_, s1_at _ _ _ _, ?_, fun m => ?_, ?_⟩
  · show F_Id_tally_38 (nI W.length) _ (f + 1) t1 (nI s) t = F_Id_tally_38 (nI W.length) _ f (nI N.length) (nI (s + 1)) (s1 t3 36 6 (nI (All ++ N).length))
    rw [F_Id_tally_38.eq_2, if_neg (nI_ge hs (by omega)), h1, bv_s e2, bv_s e3, g6, g4, nI_add, ← List.length_append, jn_s, nI_1]
  · show (s1 t3 36 6 (nI (All ++ N).length)).1 36 0 = nI b
    rw [s1_i (by decide), et3, s1_i (by decide), s1_i (by decide), s1_i (by decide), s1_at]
  · show (s1 t3 36 6 (nI (All ++ N).length)).1 36 1 = nI a
    rw [s1_i (by decide), et3, s1_i (by decide), s1_i (by decide), s1_at]
  · show (s1 t3 36 6 (nI (All ++ N).length)).1 36 2 = nI d
    rw [s1_i (by decide), et3, s1_i (by decide), s1_at]
  · show (s1 t3 36 6 (nI (All ++ N).length)).1 36 3 = nI c
    rw [s1_i (by decide), et3, s1_at]
  · show (s1 t3 36 6 (nI (All ++ N).length)).1 b k = nI (N.getD k 0) ∧ (s1 t3 36 6 (nI (All ++ N).length)).2 d k = lN (Nc k)
    rw [s1_c (by omega), co b (by omega), s1_l, cl]
    exact nx.2 k hk
  · rw [show W.length - (s + 1) = n by omega]
    exact hNmem
  · rw [show W.length - (s + 1) = n by omega, nsum]
    exact hsum
  · refine List.nodup_append.mpr ⟨hAn, nnd, fun x hx y hy e => ?_⟩
    have h1 := ((hAm x).mp hx).2
    have h2 := ((hNmem y).mp hy).2
    rw [e] at h1
    omega
  · rw [List.mem_append, hAm, hNmem, show W.length - (s + 1) = n by omega]
    constructor
    · rintro (⟨x, y⟩ | ⟨x, y⟩)
      · exact ⟨x, by omega⟩
      · exact ⟨x, by omega⟩
    · rintro ⟨x, y⟩
      by_cases z : n + 1 ≤ zpc m W.length
      · exact Or.inl ⟨x, z⟩
      · exact Or.inr ⟨x, by omega⟩
  · refine ⟨fun q q0 q1 q2 => ?_, fun q q0 q1 q2 => ?_⟩
    · show (s1 t3 36 6 (nI (All ++ N).length)).1 q = σ.1 q
      rw [s1_c q0, co q q0, f4.1 q q0 (by omega), hF.1 q q0 q1 q2]
    · show (s1 t3 36 6 (nI (All ++ N).length)).2 q = σ.2 q
      rw [s1_l, cl, f4.2.2 q (by omega), hF.2 q q0 q1 q2]
theorem TI_end {W : List Nat} {σ : GS} (hW : Rep σ 32 W) (hL : W.length ≤ 18) : ∀ (f : Nat) (t : Int32 × GS), TI W σ W.length t → ∃ σ', F_Id_tally_38 (nI W.length) (fun (v3_7 : Int32) (v4_7 : Int32) (σL7 : GS) => gd (idJ (σL7.1 36 2)) (jn (s2 σL7 36 5 (σL7.2 ((σL7.1 36 2).toNatClampNeg) 0)) (fun (σ9 : GS) => some σ9))) (f + 1) t.1 (nI W.length) t.2 = some σ' ∧ σ'.2 36 5 = lN (zT W W.length (2 ^ W.length - 1)) ∧ σ'.1 36 6 = nI (nId W) ∧ RI σ' ∧ FI σ σ' := by
  rintro f ⟨t1, t⟩ ⟨a, b, c, d, Ms, Cs, All, hab, hcd, hI, h1, hMs, hnd, hmem, hsum, h6, hAn, hAm, hF⟩
  obtain ⟨b1, b2, b3, b4, b5⟩ := hab.bd
  obtain ⟨d1, d2, d3, d4, d5⟩ := hcd.bd
  have hI : IS t a b c d := hI
  have h6 : t.1 36 6 = nI All.length := h6
  have hF : FI σ t := hF
  rw [Nat.sub_self] at hmem hsum hAm
  have hMl := zlay_le hW.2.2.2 hnd (fun m hm => (hmem m).mp hm)
  have h0 : 0 ∈ Ms := (hmem 0).mpr ⟨idl_0 W, zpc_zero _⟩
  have hl1 : Ms.length = 1 := by
    have : Ms.length ≠ 0 := fun q => by rw [List.length_eq_zero_iff.mp q] at h0; cases h0
    omega
  rw [hl1] at hsum
  have hsum : 0 + Cs 0 * 1 = zT W W.length (2 ^ W.length - 1) := hsum
  have ec0 : t.2 c 0 = lN (Cs 0) := (hMs 0 (by omega)).2
  have hA := nId_of hAn (fun m => by rw [hAm]; exact ⟨fun h => h.1, fun h => ⟨h, Nat.zero_le _⟩⟩)
  refine ⟨s2 t 36 5 (lN (Cs 0)), ?_, ?_, ?_, ?_, fun q q0 q1 q2 => hF.1 q q0 q1 q2, fun q q0 q1 q2 => ?_⟩
  · show F_Id_tally_38 (nI W.length) _ (f + 1) t1 (nI W.length) t = _
    rw [F_Id_tally_38.eq_2, if_pos (nI_le (Nat.le_refl _) (by omega)), hI.2.2.1, idJ_g hcd, c31 (n := c) (by omega), ec0, jn_s]
  · rw [s2_get, if_pos ⟨rfl, rfl⟩, ← hsum, Nat.zero_add, Nat.mul_one]
  · rw [s2_i, h6, hA]
  · unfold RI
    rw [s2_i, hI.1, hI.2.1, hI.2.2.1, hI.2.2.2]
    refine ⟨hab.imp (fun h => ?_) (fun h => ?_), hcd.imp (fun h => ?_) (fun h => ?_)⟩ <;> rw [h.1, h.2] <;> exact ⟨rfl, rfl⟩
  · rw [s2_c q0, hF.2 q q0 q1 q2]
theorem tallyX {W : List Nat} {σ : GS} (hW : Rep σ 32 W) (hL : W.length ≤ 18) (hRI : RI σ) : ∃ σ', F_Id_tally σ = some σ' ∧ σ'.2 36 5 = lN (zT W W.length (2 ^ W.length - 1)) ∧ σ'.1 36 6 = nI (nId W) ∧ RI σ' ∧ FI σ σ' := by
  obtain ⟨a, b, hab, ea, eb⟩ : ∃ a b, zab a b ∧ σ.1 36 0 = nI a ∧ σ.1 36 1 = nI b := hRI.1.elim (fun h => ⟨37, 38, Or.inl ⟨rfl, rfl⟩, h.1, h.2⟩) (fun h => ⟨38, 37, Or.inr ⟨rfl, rfl⟩, h.1, h.2⟩)
  obtain ⟨c, d, hcd, ec, ed⟩ : ∃ c d, zcc c d ∧ σ.1 36 2 = nI c ∧ σ.1 36 3 = nI d := hRI.2.elim (fun h => ⟨39, 40, Or.inl ⟨rfl, rfl⟩, h.1, h.2⟩) (fun h => ⟨40, 39, Or.inr ⟨rfl, rfl⟩, h.1, h.2⟩)
  obtain ⟨b1, b2, b3, b4, b5⟩ := hab.bd
  obtain ⟨d1, d2, d3, d4, d5⟩ := hcd.bd
  have eL : (if (18 : Int32) < (σ.1 32 1) then (18 : Int32) else (σ.1 32 1)) = nI W.length := by rw [hW.1, if_neg (show ¬ (18 : Int32) < nI W.length from nI_nlt (a := 18) hL (by decide))]
  unfold F_Id_tally
  rw [eL, ea, idI_g hab, c31 (n := a) (by omega), full18 W.length (by omega), jn_s]
  have g2 : (s1 σ a 0 (nI (2 ^ W.length - 1))).1 36 2 = nI c := by rw [s1_c (by omega), ec]
  rw [g2, idJ_g hcd, c31 (n := c) (by omega), jn_s, jn_s, jn_s, jn_s]
  exact lpE (G := fun n s (t : Int32 × GS) => F_Id_tally_38 (nI W.length) (fun (v3_7 : Int32) (v4_7 : Int32) (σL7 : GS) => gd (idJ (σL7.1 36 2)) (jn (s2 σL7 36 5 (σL7.2 ((σL7.1 36 2).toNatClampNeg) 0)) (fun (σ9 : GS) => some σ9))) n t.1 (nI s) t.2) (P := fun o => ∃ σ', o = some σ' ∧ σ'.2 36 5 = lN (zT W W.length (2 ^ W.length - 1)) ∧ σ'.1 36 6 = nI (nId W) ∧ RI σ' ∧ FI σ σ') (Inv := TI W σ) (N := W.length) (fun f s t hs h => Or.inr (TI_step hW hL f s t hs h)) (fun f t h => TI_end hW hL f t h) W.length 0 50000 (1, s1 (s2 (s1 σ a 0 (nI (2 ^ W.length - 1))) c 0 1) 36 6 1) (by omega) (by omega) (TI_init hab hcd ea eb ec ed)
