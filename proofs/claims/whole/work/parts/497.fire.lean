/-! fires: lists of words -/
theorem take_snocL {l : List (List Nat)} {i : Nat} (h : i < l.length) : l.take (i + 1) = l.take i ++ [l.getD i []] := by
  rw [List.take_succ, List.getElem?_eq_getElem h, List.getD_eq_getElem?_getD, List.getElem?_eq_getElem h]
  rfl
theorem getD_memL {l : List (List Nat)} {i : Nat} (h : i < l.length) : l.getD i [] ∈ l := by
  rw [List.getD_eq_getElem?_getD, List.getElem?_eq_getElem h]
  exact List.getElem_mem h
theorem getD_pre {F G : List (List Nat)} (h : F <+: G) {i : Nat} (hi : i < F.length) : G.getD i [] = F.getD i [] := by
  obtain ⟨t, rfl⟩ := h
  rw [List.getD_eq_getElem?_getD, List.getD_eq_getElem?_getD, List.getElem?_append_left hi]
def fs1 (B : List Nat → Bool) (F : List (List Nat)) (v : List Nat) : List (List Nat) := if v ∈ F ∨ B v = true then F else F ++ [v]
def fsp (B : List Nat → Bool) (w : List Nat) (F : List (List Nat)) : Nat → List (List Nat)
  | 0 => F
  | s + 1 => fs1 B (fsp B w F s) (go w s)
theorem fsp_s (B : List Nat → Bool) (w : List Nat) (F : List (List Nat)) (s : Nat) : fsp B w F (s + 1) = fs1 B (fsp B w F s) (go w s) := rfl
def fho (B : List Nat → Bool) (ws F : List (List Nat)) : List (List Nat) := ws.foldl (fun F w => fsp B w F 5) F
theorem fho_snoc (B : List Nat → Bool) (ws F : List (List Nat)) (w : List Nat) : fho B (ws ++ [w]) F = fsp B w (fho B ws F) 5 := by unfold fho; rw [List.foldl_append]; rfl
theorem fho_app (B : List Nat → Bool) (us ws F : List (List Nat)) : fho B (us ++ ws) F = fho B ws (fho B us F) := List.foldl_append ..
theorem fho_cons (B : List Nat → Bool) (w : List Nat) (ws F : List (List Nat)) : fho B (w :: ws) F = fho B ws (fsp B w F 5) := rfl
theorem fs1_pre (B : List Nat → Bool) (F : List (List Nat)) (v : List Nat) : F <+: fs1 B F v := by
  unfold fs1
  split
  · exact ⟨[], List.append_nil _⟩
  · exact ⟨[v], rfl⟩
theorem fsp_pre (B : List Nat → Bool) (w : List Nat) (F : List (List Nat)) : ∀ s, F <+: fsp B w F s
  | 0 => ⟨[], List.append_nil _⟩
  | s + 1 => (fsp_pre B w F s).trans (fs1_pre B _ _)
theorem fho_pre (B : List Nat → Bool) : ∀ (ws F : List (List Nat)), F <+: fho B ws F
  | [], F => ⟨[], List.append_nil _⟩
  | w :: ws, F => (fsp_pre B w F 5).trans (fho_pre B ws _)
theorem pre_mem {F G : List (List Nat)} (h : F <+: G) {v : List Nat} (hv : v ∈ F) : v ∈ G := by
  obtain ⟨t, rfl⟩ := h
  exact List.mem_append_left _ hv
theorem fs1_mem (B : List Nat → Bool) (F : List (List Nat)) (v : List Nat) : v ∈ fs1 B F v ∨ B v = true := by
  unfold fs1
  by_cases h : v ∈ F ∨ B v = true
  · rw [if_pos h]; exact h
  · rw [if_neg h]; exact Or.inl (by simp)
theorem fsp_mem (B : List Nat → Bool) (w : List Nat) (F : List (List Nat)) {s' : Nat} : ∀ s, s' < s → go w s' ∈ fsp B w F s ∨ B (go w s') = true
  | 0, h => absurd h (Nat.not_lt_zero _)
  | s + 1, h => by
    by_cases e : s' = s
    · rw [e, fsp_s]
      exact fs1_mem B _ _
    · exact (fsp_mem B w F s (by omega)).imp (pre_mem (fs1_pre B _ _)) id
theorem fsp_id {B : List Nat → Bool} {w : List Nat} {F : List (List Nat)} (h : ∀ s, s < 5 → go w s ∈ F ∨ B (go w s) = true) : ∀ s, s ≤ 5 → fsp B w F s = F
  | 0, _ => rfl
  | s + 1, hs => by
    rw [fsp_s, fsp_id h s (by omega)]
    unfold fs1
    rw [if_pos (h s (by omega))]
theorem fho_id {B : List Nat → Bool} : ∀ {ws F : List (List Nat)}, (∀ w ∈ ws, ∀ s, s < 5 → go w s ∈ F ∨ B (go w s) = true) → fho B ws F = F
  | [], _, _ => rfl
  | w :: ws, F, h => by
    rw [fho_cons, fsp_id (h w List.mem_cons_self) 5 (Nat.le_refl _)]
    exact fho_id fun v hv => h v (List.mem_cons_of_mem _ hv)
theorem fho_cl (B : List Nat → Bool) : ∀ (ws F : List (List Nat)), ∀ w ∈ ws, ∀ s, s < 5 → go w s ∈ fho B ws F ∨ B (go w s) = true
  | [], _, w, hw, _, _ => by cases hw
  | v :: ws, F, w, hw, s, hs => by
    rw [fho_cons]
    rcases List.mem_cons.mp hw with e | q
    · rw [e]
      exact (fsp_mem B v F 5 hs).imp (pre_mem (fho_pre B _ _)) id
    · exact fho_cl B ws _ w q s hs
def FV (L : Nat) (F : List (List Nat)) : Prop := F.Nodup ∧ ∀ v ∈ F, wv v ∧ good v ∧ v.length ≤ L
theorem FV.mono {L M : Nat} {F : List (List Nat)} (h : FV L F) (hL : L ≤ M) : FV M F := ⟨h.1, fun v hv => ⟨(h.2 v hv).1, (h.2 v hv).2.1, Nat.le_trans (h.2 v hv).2.2 hL⟩⟩
theorem FV.len {F : List (List Nat)} (h : FV 4 F) : F.length ≤ 166 := by
  rw [← qL_len]
  exact h.1.length_le_of_subset fun v hv => mem_qL (h.2 v hv).2.1 (h.2 v hv).1 (h.2 v hv).2.2
theorem FV.st1 {B : List Nat → Bool} {L : Nat} {F : List (List Nat)} (h : FV L F) {v : List Nat} (h1 : wv v) (h2 : good v) (h3 : v.length ≤ L) : FV L (fs1 B F v) := by
  unfold fs1
  by_cases q : v ∈ F ∨ B v = true
  · rw [if_pos q]; exact h
  · rw [if_neg q]
    refine ⟨List.nodup_append.mpr ⟨h.1, by simp, fun a ha b hb => ?_⟩, fun u hu => ?_⟩
    · rw [List.mem_singleton.mp hb]
      exact fun e => q (Or.inl (e ▸ ha))
    · rcases List.mem_append.mp hu with z | z
      · exact h.2 u z
      · rw [List.mem_singleton.mp z]; exact ⟨h1, h2, h3⟩
theorem FV.stS {B : List Nat → Bool} {L : Nat} {F : List (List Nat)} (h : FV L F) {w : List Nat} (h1 : wv w) (h2 : good w) (h3 : w.length < L) : ∀ s, s ≤ 5 → FV L (fsp B w F s)
  | 0, _ => h
  | s + 1, hs => by
    have := len_go_le w s
    exact FV.st1 (FV.stS h h1 h2 h3 s (by omega)) (wv_go h1 (by omega)) (good_go h2 s) (by omega)
theorem FV.stH {B : List Nat → Bool} {L : Nat} : ∀ {ws F : List (List Nat)}, FV L F → (∀ w ∈ ws, wv w ∧ good w ∧ w.length < L) → FV L (fho B ws F)
  | [], _, h, _ => h
  | w :: ws, F, h, hw => by
    obtain ⟨a, b, c⟩ := hw w List.mem_cons_self
    rw [fho_cons]
    exact FV.stH (FV.stS h a b c 5 (Nat.le_refl _)) fun v hv => hw v (List.mem_cons_of_mem _ hv)
/-- the fire behind some hours, and from where on it is new -/
def fNF (B : List Nat → Bool) : Nat → List (List Nat) × Nat
  | 0 => ([[]], 0)
  | h + 1 => (fho B ((fNF B h).1.drop (fNF B h).2) (fNF B h).1, (fNF B h).1.length)
theorem fNF_s (B : List Nat → Bool) (h : Nat) : fNF B (h + 1) = (fho B ((fNF B h).1.drop (fNF B h).2) (fNF B h).1, (fNF B h).1.length) := rfl
theorem fNF_FV (B : List Nat → Bool) : ∀ h, FV h (fNF B h).1
  | 0 => ⟨by show List.Nodup [([] : List Nat)]; simp, fun v hv => by
      rw [List.mem_singleton.mp hv]
      exact ⟨wv_nil, good_nil, Nat.le_refl _⟩⟩
  | h + 1 => by
    have ih := fNF_FV B h
    rw [fNF_s]
    refine FV.stH (ih.mono (by omega)) fun w hw => ?_
    obtain ⟨a, b, c⟩ := ih.2 w (List.mem_of_mem_drop hw)
    exact ⟨a, b, by omega⟩
theorem fNF_le (B : List Nat → Bool) : ∀ h, (fNF B h).2 ≤ (fNF B h).1.length
  | 0 => Nat.zero_le _
  | h + 1 => by
    rw [fNF_s]
    exact (fho_pre B _ _).length_le
theorem fNF_home (B : List Nat → Bool) : ∀ h, [] ∈ (fNF B h).1
  | 0 => List.mem_singleton.mpr rfl
  | h + 1 => by
    rw [fNF_s]
    exact pre_mem (fho_pre B _ _) (fNF_home B h)
theorem fNF_cl (B : List Nat → Bool) : ∀ h, ∀ w ∈ (fNF B h).1.take (fNF B h).2, ∀ s, s < 5 → go w s ∈ (fNF B h).1 ∨ B (go w s) = true
  | 0, w, hw, _, _ => by cases hw
  | h + 1, w, hw, s, hs => by
    have ih := fNF_cl B h
    rw [fNF_s] at hw ⊢
    obtain ⟨t, et⟩ := fho_pre B ((fNF B h).1.drop (fNF B h).2) (fNF B h).1
    have hw : w ∈ (fho B ((fNF B h).1.drop (fNF B h).2) (fNF B h).1).take (fNF B h).1.length := hw
    rw [← et, List.take_left' rfl, ← List.take_append_drop (fNF B h).2 (fNF B h).1] at hw
    rcases List.mem_append.mp hw with q | q
    · exact (ih w q s hs).imp (pre_mem (fho_pre B _ _)) id
    · exact fho_cl B _ _ w q s hs
/-- that all burning ones spread it, or the new ones alone, is one -/
theorem fNF_M (B : List Nat → Bool) (h : Nat) : fho B (fNF B h).1 (fNF B h).1 = (fNF B (h + 1)).1 := by
  rw [fNF_s]
  show fho B (fNF B h).1 (fNF B h).1 = fho B ((fNF B h).1.drop (fNF B h).2) (fNF B h).1
  have e : fho B ((fNF B h).1.take (fNF B h).2 ++ (fNF B h).1.drop (fNF B h).2) (fNF B h).1 = fho B ((fNF B h).1.drop (fNF B h).2) (fNF B h).1 := by
    rw [fho_app, fho_id (fNF_cl B h)]
  rw [List.take_append_drop] at e
  exact e
-- guards
def gdw (cs : List Nat) (i : Nat) : List Nat := nf (wd (cs.getD i 0))
theorem gdw_ok {cs : List Nat} {i : Nat} (h : isC (cs.getD i 0) = true) : wv (gdw cs i) ∧ good (gdw cs i) ∧ (gdw cs i).length ≤ 9 := ⟨wv_nf (wd_wv h), good_nf _, Nat.le_trans (len_nf_le _) (wd_le h)⟩
def blP (cs : List Nat) (x : Int32) (g : Nat) (v : List Nat) : Bool := (List.range g).any (fun i => decide (nI i ≠ x) && (gdw cs i == v))
theorem blP_s (cs : List Nat) (x : Int32) (g : Nat) (v : List Nat) : blP cs x (g + 1) v = (blP cs x g v || (decide (nI g ≠ x) && (gdw cs g == v))) := by
  unfold blP
  rw [List.range_succ, List.any_append, List.any_cons, List.any_nil, Bool.or_false]
theorem cdv_inj {u v : List Nat} (hu : wv u) (hv : wv v) (lu : u.length ≤ 9) (lv : v.length ≤ 9) (h : cdv u = cdv v) : u = v := by
  rw [← wd_cdv hu lu, ← wd_cdv hv lv, h]
theorem cdv_eqI {u v : List Nat} (hu : wv u) (hv : wv v) (lu : u.length ≤ 9) (lv : v.length ≤ 9) : nI (cdv u) = nI (cdv v) ↔ u = v := by
  have h1 := isC_le (cdv_isC hu lu)
  have h2 := isC_le (cdv_isC hv lv)
  rw [nI_eq (by omega) (by omega)]
  exact ⟨cdv_inj hu hv lu lv, fun e => by rw [e]⟩
def gv (w : List Nat) : Int32 := if w.length ≤ 4 then nI (qL.idxOf w) else -1
def GX (t : GS) (cs : List Nat) : Prop := t.1 54 8 = nI cs.length ∧ ∀ i, i < cs.length → t.1 61 i = gv (gdw cs i)
theorem addG {t : GS} {k : Nat} {w : List Nat} (hq : QT t) (hk : k < 20) (h8 : t.1 54 8 = nI k) (hv : wv w) (hg : good w) (hl : w.length ≤ 9) : F_Qu_addGuard (nI (cdv w)) t = some (s1 (s1 t 61 k (gv w)) 54 8 (nI (k + 1))) := by
  unfold F_Qu_addGuard
  have h9 := qnum9 hv hl
  have g1 : ∀ v, (s1 t 61 k v).1 54 8 = nI k := fun v => by rw [s1_c (by decide), h8]
  rw [h8, if_pos (show nI k < (20 : Int32) from nI_lt (b := 20) hk (by decide)), bp_s (numCode_spec hv hl), jn_s, jn_s, if_neg (nI_pos (by omega))]
  by_cases h4 : w.length ≤ 4
  · have hq4 := qnum4 hv h4
    have hx := qx_lt hg hv h4
    have e58 := (hq.2.1 _ hx).2.2
    rw [qw_x hg hv h4] at e58
    rw [if_neg (show ¬ (781 : Int32) ≤ nI _ from nI_ge (b := 781) hq4 (by decide)), gi hq4 (by decide), c31 (n := qnum w) (by omega), e58]
    dsimp only
    rw [gi hk (by decide), c31 (n := k) (by omega), jn_s, g1, nI_1, jn_s]
    unfold gv
    rw [if_pos h4]
  · rw [if_pos (show (781 : Int32) ≤ nI _ from nI_le (a := 781) (qnum5 hv (by omega)) (by omega))]
    dsimp only
    rw [gi hk (by decide), c31 (n := k) (by omega), jn_s, g1, nI_1, jn_s]
    unfold gv
    rw [if_neg h4]
theorem guards_spec {r : Nat} {cs : List Nat} {σ : GS} (hR : RQ σ) (hr : r < 6) (hl : cs.length ≤ 20) (hcs : ∀ i, i < cs.length → isC (cs.getD i 0) = true) (h8 : σ.1 8 r = nI cs.length) (ha : arr (σ.1 (2 + r)) cs) : ∃ σ', F_X_postGuards (nI r) σ = some σ' ∧ QT σ' ∧ GX σ' cs ∧ Fr [32, 33, 54, 55, 56, 57, 58, 61] σ σ' := by
  obtain ⟨σs, es, qs, fs⟩ := survey_spec hR
  unfold F_X_postGuards
  rw [bv_s es, jn_s, jn_s]
  have q0 : QT (s1 σs 54 8 0) := qs.fr (s1_i (by decide)) fun c hc => s1_c (by omega)
  have f0 : Fr [32, 33, 54, 55, 56, 57, 58, 61] σ (s1 σs 54 8 0) := (fs.mono (by simp)).trans (Fr.s1 (by simp))
  refine lpE (G := fun n i (t : GS) => F_X_postGuards_21 (nI r) (fun (v2_4 : Int32) (σL4 : GS) => some σL4) n (nI i) t) (P := fun o => ∃ σ', o = some σ' ∧ QT σ' ∧ GX σ' cs ∧ Fr [32, 33, 54, 55, 56, 57, 58, 61] σ σ') (Inv := fun i t => t.1 54 8 = nI i ∧ (∀ j, j < i → t.1 61 j = gv (gdw cs j)) ∧ QT t ∧ Fr [32, 33, 54, 55, 56, 57, 58, 61] σ t) (N := cs.length) ?_ ?_ cs.length 0 50000 _ (by omega) (by omega) ⟨s1_at _ _ _ _, fun j hj => absurd hj (Nat.not_lt_zero _), q0, f0⟩
  · intro n i t hi ⟨i1, i2, i3, i4⟩
    obtain ⟨w1, w2, w3⟩ := gdw_ok (hcs i hi)
    obtain ⟨t1, e1, -, f1⟩ := plainOfX_spec (σ := t) (hcs i hi)
    have e1 : F_X_plainOf (nI (cs.getD i 0)) t = some (nI (cdv (gdw cs i)), t1) := e1
    have q1 : QT t1 := i3.fr (by rw [f1.1 54 (by simp)]) fun c hc => f1.1 c (by simp; omega)
    have e2 := addG q1 (k := i) (by omega) (by rw [f1.1 54 (by simp)]; exact i1) w1 w2 w3
    refine Or.inr ⟨s1 (s1 t1 61 i (gv (gdw cs i))) 54 8 (nI (i + 1)), ?_, s1_at _ _ _ _, fun j hj => ?_, ?_, ?_⟩
    · show F_X_postGuards_21 (nI r) _ (n + 1) (nI i) t = F_X_postGuards_21 (nI r) _ n (nI (i + 1)) _
      rw [F_X_postGuards_21.eq_2, gi hr (by decide), c31 (by omega), i4.1 8 (by simp), h8, if_neg (nI_ge hi (by omega)), gi hr (by decide), gi (by omega) (by decide), c31 (by omega), i4.1 (2 + r) (by simp; omega), ha i hi, bc_s e1, bv_s e2, nI_1]
    · rw [s1_c (by decide)]
      by_cases z : j = i
      · rw [z, s1_at]
      · rw [s1_i z, f1.1 61 (by simp), i2 j (by omega)]
    · exact q1.fr (by rw [s1_i (by decide), s1_c (by decide)]) fun c hc => by rw [s1_c (by omega), s1_c (by omega)]
    · exact i4.trans ((f1.mono (by simp)).trans (Fr.trans (Fr.s1 (by simp)) (Fr.s1 (by simp))))
  · intro n t ⟨i1, i2, i3, i4⟩
    refine ⟨t, ?_, i3, ⟨i1, i2⟩, i4⟩
    show F_X_postGuards_21 (nI r) _ (n + 1) (nI cs.length) t = _
    rw [F_X_postGuards_21.eq_2, gi hr (by decide), c31 (by omega), i4.1 8 (by simp), h8, if_pos (nI_le (Nat.le_refl _) (by omega))]
-- the class's fire
def FQb (a b : GS) : Prop := Fr [54, 59, 60] a b ∧ ∀ j, j ≠ 7 → b.1 54 j = a.1 54 j
theorem FQb.refl (a : GS) : FQb a a := ⟨Fr.refl _ _, fun _ _ => rfl⟩
theorem FQb.trans {a b c : GS} (h : FQb a b) (h2 : FQb b c) : FQb a c := ⟨h.1.trans h2.1, fun j hj => (h2.2 j hj).trans (h.2 j hj)⟩
theorem FQb.c1 {σ : GS} {k i : Nat} {v : Int32} (h : k ∈ [59, 60]) : FQb σ (s1 σ k i v) := ⟨Fr.s1 (by simp at h ⊢; omega), fun j _ => by rw [s1_c (by simp at h; omega)]⟩
theorem FQb.s7 {σ : GS} {v : Int32} : FQb σ (s1 σ 54 7 v) := ⟨Fr.s1 (by simp), fun j hj => s1_i hj⟩
theorem QT.fq {a b : GS} (h : QT a) (f : FQb a b) : QT b := h.fr (f.2 9 (by decide)) fun c hc => f.1.1 c (by simp; omega)
theorem GX.fq {a b : GS} {cs : List Nat} (h : GX a cs) (f : FQb a b) : GX b cs := by
  unfold GX
  rw [f.2 8 (by decide), f.1.1 61 (by simp)]
  exact h
def XF (B : List Nat → Bool) (t : GS) (F : List (List Nat)) : Prop := t.1 54 7 = nI F.length ∧ (∀ k, k < F.length → t.1 60 k = nI (qL.idxOf (F.getD k []))) ∧ ∀ j, j < 166 → t.1 59 j = if qw j ∈ F ∨ B (qw j) = true then 1 else 0
theorem getD_snocL {F : List (List Nat)} {v : List Nat} {k : Nat} (h : k ≤ F.length) : (F ++ [v]).getD k [] = if k = F.length then v else F.getD k [] := by
  by_cases e : k = F.length
  · subst e
    rw [if_pos rfl, List.getD_eq_getElem?_getD, List.getElem?_append_right (Nat.le_refl _), Nat.sub_self]
    rfl
  · rw [if_neg e, List.getD_eq_getElem?_getD, List.getD_eq_getElem?_getD, List.getElem?_append_left (by omega)]
theorem catchX {B : List Nat → Bool} {t : GS} {F : List (List Nat)} {v : List Nat} (hl : F.length < 166) (h7 : t.1 54 7 = nI F.length) (h60 : ∀ k, k < F.length → t.1 60 k = nI (qL.idxOf (F.getD k []))) (h59 : ∀ j, j < 166 → t.1 59 j = if qw j ∈ F ∨ B (qw j) = true then 1 else 0) (h1 : wv v) (h2 : good v) (h3 : v.length ≤ 4) : ∃ t', F_Qu_catchFire (nI (qL.idxOf v)) t = some t' ∧ XF B t' (F ++ [v]) ∧ FQb t t' := by
  have hx := qx_lt h2 h1 h3
  have hxw := qw_x h2 h1 h3
  have g1 : (s1 t 60 F.length (nI (qL.idxOf v))).1 54 7 = nI F.length := by rw [s1_c (by decide), h7]
  refine ⟨s1 (s1 (s1 t 60 F.length (nI (qL.idxOf v))) 54 7 (nI (F.length + 1))) 59 (qL.idxOf v) 1, ?_, ⟨?_, fun k hk => ?_, fun j hj => ?_⟩, ((FQb.c1 (k := 60) (by simp)).trans FQb.s7).trans (FQb.c1 (k := 59) (by simp))⟩
  · unfold F_Qu_catchFire
    rw [h7, if_neg (show ¬ (166 : Int32) ≤ nI F.length from nI_ge (b := 166) hl (by decide)), gi hl (by decide), c31 (n := F.length) (by omega), jn_s, g1, nI_1, jn_s, gi hx (by decide), c31 (n := qL.idxOf v) (by omega), jn_s]
  · rw [s1_c (by decide), s1_at, List.length_append]
    rfl
  · rw [List.length_append, List.length_singleton] at hk
    rw [s1_c (by decide), s1_c (by decide), getD_snocL (by omega)]
    by_cases e : k = F.length
    · rw [e, s1_at, if_pos rfl]
    · rw [s1_i e, if_neg e, h60 k (by omega)]
  · by_cases e : j = qL.idxOf v
    · rw [e, s1_at, hxw, if_pos (Or.inl (by simp))]
    · rw [s1_i e, s1_c (by decide), s1_c (by decide), h59 j hj]
      have hne : qw j ≠ v := fun q => e (by rw [← q, qx_w hj])
      have : (qw j ∈ F ++ [v] ∨ B (qw j) = true) ↔ (qw j ∈ F ∨ B (qw j) = true) := by simp [hne]
      by_cases z : qw j ∈ F ∨ B (qw j) = true
      · rw [if_pos z, if_pos (this.mpr z)]
      · rw [if_neg z, if_neg (fun y => z (this.mp y))]
theorem spreadX {B : List Nat → Bool} {t : GS} {F : List (List Nat)} {w : List Nat} (hX : XF B t F) (hq : QT t) (hF : FV 4 F) (h1 : wv w) (h2 : good w) (h3 : w.length ≤ 3) : ∃ t', F_Qu_spread (nI (qL.idxOf w)) t = some t' ∧ XF B t' (fsp B w F 5) ∧ FQb t t' := by
  have hx := qx_lt h2 h1 (by omega)
  have hxw := qw_x h2 h1 (by omega)
  unfold F_Qu_spread
  rw [jn_s]
  refine lpE (G := fun n s (t' : GS) => F_Qu_spread_2 (nI (qL.idxOf w)) (fun (v2_1 : Int32) (σL1 : GS) => some σL1) n (nI s) t') (P := fun o => ∃ t', o = some t' ∧ XF B t' (fsp B w F 5) ∧ FQb t t') (Inv := fun s t' => XF B t' (fsp B w F s) ∧ FQb t t') (N := 5) ?_ ?_ 5 0 50000 t (by omega) (by omega) ⟨hX, FQb.refl _⟩
  · intro n s t1 hs ⟨i1, i2⟩
    have hFs := hF.stS (B := B) h1 h2 (by omega) s (by omega)
    have hFs1 := hF.stS (B := B) h1 h2 (by omega) (s + 1) (by omega)
    have hgl := len_go_le w s
    have v1 := wv_go h1 hs
    have v2 := good_go h2 s
    have hj := qx_lt v2 v1 (by omega)
    have hjw := qw_x v2 v1 (by omega)
    have e57 : t1.1 57 (5 * qL.idxOf w + s) = nI (qL.idxOf (go w s)) := by
      rw [i2.1.1 57 (by simp), hq.2.2 _ hx s hs, hxw, if_pos (by omega)]
    have ei : nI (qL.idxOf w) * (5 : Int32) + nI s = nI (5 * qL.idxOf w + s) := by rw [show nI (qL.idxOf w) * (5 : Int32) = nI (qL.idxOf w * 5) from pk_mul _ 5, nI_add, Nat.mul_comm]
    have e59 := i1.2.2 _ hj
    rw [hjw] at e59
    by_cases z : go w s ∈ fsp B w F s ∨ B (go w s) = true
    · rw [if_pos z] at e59
      refine Or.inr ⟨t1, ?_, ?_, i2⟩
      · show F_Qu_spread_2 (nI (qL.idxOf w)) _ (n + 1) (nI s) t1 = F_Qu_spread_2 (nI (qL.idxOf w)) _ n (nI (s + 1)) t1
        rw [F_Qu_spread_2.eq_2, if_neg (show ¬ (5 : Int32) ≤ nI s from nI_ge (b := 5) hs (by decide)), ei, gi (by omega) (by decide), c31 (n := 5 * qL.idxOf w + s) (by omega), e57, if_neg (ne_m1 (by omega)), gi hj (by decide), c31 (n := qL.idxOf (go w s)) (by omega), e59, if_neg (by decide), nI_1]
      · rw [fsp_s]
        unfold fs1
        rw [if_pos z]
        exact i1
    · rw [if_neg z] at e59
      have eF : fsp B w F (s + 1) = fsp B w F s ++ [go w s] := by
        rw [fsp_s]
        unfold fs1
        rw [if_neg z]
      have hlen := hFs1.len
      rw [eF, List.length_append, List.length_singleton] at hlen
      obtain ⟨t2, e2, x2, f2⟩ := catchX (B := B) (v := go w s) (by omega) i1.1 i1.2.1 i1.2.2 v1 v2 (by omega)
      refine Or.inr ⟨t2, ?_, by rw [eF]; exact x2, i2.trans f2⟩
      show F_Qu_spread_2 (nI (qL.idxOf w)) _ (n + 1) (nI s) t1 = F_Qu_spread_2 (nI (qL.idxOf w)) _ n (nI (s + 1)) t2
      rw [F_Qu_spread_2.eq_2, if_neg (show ¬ (5 : Int32) ≤ nI s from nI_ge (b := 5) hs (by decide)), ei, gi (by omega) (by decide), c31 (n := 5 * qL.idxOf w + s) (by omega), e57, if_neg (ne_m1 (by omega)), gi hj (by decide), c31 (n := qL.idxOf (go w s)) (by omega), e59, if_pos rfl, bv_s e2, nI_1]
  · intro n t1 ⟨i1, i2⟩
    refine ⟨t1, ?_, i1, i2⟩
    show F_Qu_spread_2 (nI (qL.idxOf w)) _ (n + 1) (nI 5) t1 = _
    rw [F_Qu_spread_2.eq_2, if_pos (by decide)]
theorem fhourX {B : List Nat → Bool} {t : GS} {F : List (List Nat)} {p : Nat} {x2 v4 : Int32} (hX : XF B t F) (hq : QT t) (hF : FV 3 F) (hp : p ≤ F.length) : ∃ t', XF B t' (fho B (F.drop p) F) ∧ FQb t t' ∧ ∀ K : Int32 → GS → Option (Int32 × GS), F_Qu_burn_81 x2 v4 (nI F.length) K 50000 (nI p) t = K (nI F.length) t' := by
  have hl := (hF.mono (by omega) : FV 4 F).len
  have hdl : (F.drop p).length = F.length - p := List.length_drop
  have hg : ∀ i, (F.drop p).getD i [] = F.getD (p + i) [] := fun i => by rw [List.getD_eq_getElem?_getD, List.getD_eq_getElem?_getD, List.getElem?_drop]
  have := lpE (G := fun n i (t' : GS) => fun (K : Int32 → GS → Option (Int32 × GS)) => F_Qu_burn_81 x2 v4 (nI F.length) K n (nI (p + i)) t') (P := fun o => ∃ t', XF B t' (fho B (F.drop p) F) ∧ FQb t t' ∧ ∀ K, o K = K (nI F.length) t') (Inv := fun i t' => XF B t' (fho B ((F.drop p).take i) F) ∧ FQb t t') (N := F.length - p) ?_ ?_ (F.length - p) 0 50000 t (by omega) (by omega) ⟨hX, FQb.refl _⟩
  · exact this
  · intro n i t1 hi ⟨i1, i2⟩
    have hmem := getD_memL (l := F) (i := p + i) (by omega)
    obtain ⟨w1, w2, w3⟩ := hF.2 _ hmem
    have hFi : FV 4 (fho B ((F.drop p).take i) F) := FV.stH (hF.mono (by omega)) fun w hw => by
      obtain ⟨a, b, c⟩ := hF.2 w (List.mem_of_mem_drop (List.mem_of_mem_take hw))
      exact ⟨a, b, by omega⟩
    obtain ⟨t2, e2, x2', f2⟩ := spreadX i1 (hq.fq i2) hFi w1 w2 w3
    have hpl := (fho_pre B ((F.drop p).take i) F).length_le
    have e60 := i1.2.1 (p + i) (by omega)
    rw [getD_pre (fho_pre B _ F) (by omega)] at e60
    refine Or.inr ⟨t2, ?_, ?_, i2.trans f2⟩
    · funext K
      show F_Qu_burn_81 x2 v4 (nI F.length) K (n + 1) (nI (p + i)) t1 = F_Qu_burn_81 x2 v4 (nI F.length) K n (nI (p + (i + 1))) t2
      rw [F_Qu_burn_81.eq_2, if_neg (nI_ge (by omega) (by omega)), gi (by omega) (by decide), c31 (by omega), e60, bv_s e2, nI_1, Nat.add_assoc]
    · rw [take_snocL (by omega), hg, fho_snoc]
      exact x2'
  · intro n t1 ⟨i1, i2⟩
    rw [List.take_of_length_le (by omega)] at i1
    refine ⟨t1, i1, i2, fun K => ?_⟩
    show F_Qu_burn_81 x2 v4 (nI F.length) K (n + 1) (nI (p + (F.length - p))) t1 = _
    rw [F_Qu_burn_81.eq_2, if_pos (nI_le (by omega) (by omega)), show p + (F.length - p) = F.length by omega]
theorem blockX {x x2 : Int32} {cs : List Nat} {σ : GS} (hl : cs.length ≤ 20) (hcs : ∀ i, i < cs.length → isC (cs.getD i 0) = true) (hg : GX σ cs) (h0 : ∀ j, j < 166 → σ.1 59 j = 0) : ∃ t', (∀ j, j < 166 → t'.1 59 j = if blP cs x cs.length (qw j) = true then 1 else 0) ∧ FQb σ t' ∧ ∀ K : Int32 → GS → Option (Int32 × GS), F_Qu_burn_10 x x2 K 50000 0 σ = K (nI cs.length) t' := by
  have := lpE (G := fun n i (t' : GS) => fun (K : Int32 → GS → Option (Int32 × GS)) => F_Qu_burn_10 x x2 K n (nI i) t') (P := fun o => ∃ t', (∀ j, j < 166 → t'.1 59 j = if blP cs x cs.length (qw j) = true then 1 else 0) ∧ FQb σ t' ∧ ∀ K, o K = K (nI cs.length) t') (Inv := fun i t' => (∀ j, j < 166 → t'.1 59 j = if blP cs x i (qw j) = true then 1 else 0) ∧ FQb σ t') (N := cs.length) ?_ ?_ cs.length 0 50000 σ (by omega) (by omega) ⟨fun j hj => by rw [h0 j hj]; rfl, FQb.refl _⟩
  · exact this
  · intro n i t hi ⟨i1, i2⟩
    have g2 := hg.fq i2
    have e8 : (t.1 54 8 ≤ nI i) = (nI cs.length ≤ nI i) := by rw [g2.1]
    have e61 := g2.2 i hi
    obtain ⟨w1, w2, w3⟩ := gdw_ok (hcs i hi)
    by_cases ex : nI i = x
    · refine Or.inr ⟨t, ?_, fun j hj => ?_, i2⟩
      · funext K
        show F_Qu_burn_10 x x2 K (n + 1) (nI i) t = F_Qu_burn_10 x x2 K n (nI (i + 1)) t
        rw [F_Qu_burn_10.eq_2, g2.1, if_neg (nI_ge hi (by omega)), if_pos ex, nI_1]
      · rw [i1 j hj, blP_s, decide_eq_false (fun q => q ex), Bool.false_and, Bool.or_false]
    · by_cases h4 : (gdw cs i).length ≤ 4
      · have hx := qx_lt w2 w1 h4
        have hxw := qw_x w2 w1 h4
        have eg : gv (gdw cs i) = nI (qL.idxOf (gdw cs i)) := by unfold gv; rw [if_pos h4]
        rw [eg] at e61
        refine Or.inr ⟨s1 t 59 (qL.idxOf (gdw cs i)) 1, ?_, fun j hj => ?_, i2.trans (FQb.c1 (k := 59) (by simp))⟩
        · funext K
          show F_Qu_burn_10 x x2 K (n + 1) (nI i) t = F_Qu_burn_10 x x2 K n (nI (i + 1)) _
          rw [F_Qu_burn_10.eq_2, g2.1, if_neg (nI_ge hi (by omega)), if_neg ex, gi (by omega) (by decide), c31 (n := i) (by omega), e61, if_neg (ne_m1 (by omega)), gi (by omega) (by decide), gi hx (by decide), c31 (n := qL.idxOf (gdw cs i)) (by omega), jn_s, nI_1]
        · rw [blP_s, decide_eq_true ex, Bool.true_and]
          by_cases e : j = qL.idxOf (gdw cs i)
          · rw [e, s1_at, hxw, beq_self_eq_true, Bool.or_true, if_pos rfl]
          · have hne : gdw cs i ≠ qw j := fun q => e (by rw [q, qx_w hj])
            rw [s1_i e, i1 j hj, beq_eq_false_iff_ne.mpr hne, Bool.or_false]
      · have eg : gv (gdw cs i) = -1 := by unfold gv; rw [if_neg h4]
        rw [eg] at e61
        refine Or.inr ⟨t, ?_, fun j hj => ?_, i2⟩
        · funext K
          show F_Qu_burn_10 x x2 K (n + 1) (nI i) t = F_Qu_burn_10 x x2 K n (nI (i + 1)) t
          rw [F_Qu_burn_10.eq_2, g2.1, if_neg (nI_ge hi (by omega)), if_neg ex, gi (by omega) (by decide), c31 (n := i) (by omega), e61, if_pos rfl, nI_1]
        · have hne : gdw cs i ≠ qw j := fun q => h4 (by rw [q]; exact (qw_ok hj).2.2)
          rw [i1 j hj, blP_s, beq_eq_false_iff_ne.mpr hne, Bool.and_false, Bool.or_false]
  · intro n t ⟨i1, i2⟩
    have g2 := hg.fq i2
    refine ⟨t, i1, i2, fun K => ?_⟩
    show F_Qu_burn_10 x x2 K (n + 1) (nI cs.length) t = _
    rw [F_Qu_burn_10.eq_2, g2.1, if_pos (nI_le (Nat.le_refl _) (by omega))]
theorem burnX {x : Int32} {h : Nat} {cs : List Nat} {σ : GS} (hl : cs.length ≤ 20) (hcs : ∀ i, i < cs.length → isC (cs.getD i 0) = true) (hq : QT σ) (hg : GX σ cs) (hh : h ≤ 4) : ∃ σ', F_Qu_burn x (nI h) σ = some (nI (fNF (blP cs x cs.length) h).1.length, σ') ∧ XF (blP cs x cs.length) σ' (fNF (blP cs x cs.length) h).1 ∧ FQb σ σ' := by
  unfold F_Qu_burn
  obtain ⟨t1, e1, x1, f1⟩ := fillI_spec (q := 59) (N := 166) (by decide) 0 σ
  have fq1 : FQb σ t1 := ⟨f1.mono (by simp), fun j _ => by rw [f1.1 54 (by simp)]⟩
  obtain ⟨t2, x2, f2, e2⟩ := blockX (x := x) (x2 := nI h) hl hcs (hg.fq fq1) (fun j hj => by rw [x1, if_pos hj])
  have e0 : qL.idxOf [] = 0 := by
    have := qx_w (c := 0) (by decide)
    rw [qw_0] at this
    exact this
  have hB : ∀ j, j < 166 → (s1 t2 54 7 0).1 59 j = if qw j ∈ ([] : List (List Nat)) ∨ blP cs x cs.length (qw j) = true then 1 else 0 := fun j hj => by
    rw [s1_c (by decide), x2 j hj]
    simp
  obtain ⟨t3, e3, x3, f3⟩ := catchX (B := blP cs x cs.length) (t := s1 t2 54 7 0) (F := []) (v := []) (by decide) (s1_at _ _ _ _) (fun k hk => absurd hk (Nat.not_lt_zero _)) hB wv_nil good_nil (Nat.zero_le _)
  rw [e0] at e3
  have e3 : F_Qu_catchFire 0 (s1 t2 54 7 0) = some t3 := e3
  rw [bv_s e1, jn_s, e2, jn_s, bv_s e3, jn_s]
  have f03 : FQb σ t3 := ((fq1.trans f2).trans FQb.s7).trans f3
  refine lpE (G := fun n k (t : Int32 × GS) => F_Qu_burn_66 (nI h) (fun (v3_7 : Int32) (v4_7 : Int32) (σL7 : GS) => some (σL7.1 54 7, σL7)) n t.1 (nI k) t.2) (P := fun o => ∃ σ', o = some (nI (fNF (blP cs x cs.length) h).1.length, σ') ∧ XF (blP cs x cs.length) σ' (fNF (blP cs x cs.length) h).1 ∧ FQb σ σ') (Inv := fun k t => t.1 = nI (fNF (blP cs x cs.length) k).2 ∧ XF (blP cs x cs.length) t.2 (fNF (blP cs x cs.length) k).1 ∧ FQb σ t.2) (N := h) ?_ ?_ h 0 50000 (0, t3) (by omega) (by omega) ⟨rfl, x3, f03⟩
  · rintro n k ⟨t1, t⟩ hk ⟨h1, h2, h3⟩
    have h1 : t1 = nI (fNF (blP cs x cs.length) k).2 := h1
    have h2 : XF (blP cs x cs.length) t (fNF (blP cs x cs.length) k).1 := h2
    have h3 : FQb σ t := h3
    obtain ⟨t', x', f', e'⟩ := fhourX (x2 := nI h) (v4 := nI k) h2 (hq.fq h3) ((fNF_FV (blP cs x cs.length) k).mono (by omega)) (fNF_le _ k)
    refine Or.inr ⟨(nI (fNF (blP cs x cs.length) (k + 1)).2, t'), ?_, rfl, x', h3.trans f'⟩
    show F_Qu_burn_66 (nI h) _ (n + 1) t1 (nI k) t = F_Qu_burn_66 (nI h) _ n (nI (fNF (blP cs x cs.length) (k + 1)).2) (nI (k + 1)) t'
    rw [F_Qu_burn_66.eq_2, if_neg (nI_ge hk (by omega)), jn_s, jn_s, h2.1, h1, e', nI_1]
    rfl
  · rintro n ⟨t1, t⟩ ⟨h1, h2, h3⟩
    have h2 : XF (blP cs x cs.length) t (fNF (blP cs x cs.length) h).1 := h2
    refine ⟨t, ?_, h2, h3⟩
    show F_Qu_burn_66 (nI h) _ (n + 1) t1 (nI h) t = _
    rw [F_Qu_burn_66.eq_2, if_pos (nI_le (Nat.le_refl _) (by omega)), h2.1]
