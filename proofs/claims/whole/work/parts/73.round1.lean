/-! round: the orders -/
def pV : Nat → List Nat
  | 0 => [0]
  | 1 => [0]
  | 2 => [1, 6]
  | 3 => [8, 13, 38, 48, 73, 78]
  | 4 => [51, 56, 81, 91, 116, 121, 231, 236, 291, 306, 326, 336, 441, 451, 471, 486, 541, 546, 656, 661, 686, 696, 721, 726]
  | 5 => [310, 315, 340, 350, 375, 380, 490, 495, 550, 565, 585, 595, 700, 710, 730, 745, 800, 805, 915, 920, 945, 955, 980, 985, 1390, 1395, 1420, 1430, 1455, 1460, 1750, 1755, 1840, 1860, 1875, 1890, 1960, 1970, 2020, 2040, 2090, 2100, 2175, 2180, 2235, 2250, 2270, 2280, 2650, 2655, 2710, 2725, 2745, 2755, 2830, 2835, 2920, 2940, 2955, 2970, 3250, 3265, 3280, 3300, 3385, 3390, 3465, 3475, 3495, 3510, 3565, 3570, 3940, 3950, 3970, 3985, 4040, 4045, 4120, 4130, 4180, 4200, 4250, 4260, 4330, 4345, 4360, 4380, 4465, 4470, 4760, 4765, 4790, 4800, 4825, 4830, 5235, 5240, 5265, 5275, 5300, 5305, 5415, 5420, 5475, 5490, 5510, 5520, 5625, 5635, 5655, 5670, 5725, 5730, 5840, 5845, 5870, 5880, 5905, 5910]
  | 6 => [1865, 1870, 1895, 1905, 1930, 1935, 2045, 2050, 2105, 2120, 2140, 2150, 2255, 2265, 2285, 2300, 2355, 2360, 2470, 2475, 2500, 2510, 2535, 2540, 2945, 2950, 2975, 2985, 3010, 3015, 3305, 3310, 3395, 3415, 3430, 3445, 3515, 3525, 3575, 3595, 3645, 3655, 3730, 3735, 3790, 3805, 3825, 3835, 4205, 4210, 4265, 4280, 4300, 4310, 4385, 4390, 4475, 4495, 4510, 4525, 4805, 4820, 4835, 4855, 4940, 4945, 5020, 5030, 5050, 5065, 5120, 5125, 5495, 5505, 5525, 5540, 5595, 5600, 5675, 5685, 5735, 5755, 5805, 5815, 5885, 5900, 5915, 5935, 6020, 6025, 6315, 6320, 6345, 6355, 6380, 6385, 6790, 6795, 6820, 6830, 6855, 6860, 6970, 6975, 7030, 7045, 7065, 7075, 7180, 7190, 7210, 7225, 7280, 7285, 7395, 7400, 7425, 7435, 7460, 7465, 8345, 8350, 8375, 8385, 8410, 8415, 8525, 8530, 8585, 8600, 8620, 8630, 8735, 8745, 8765, 8780, 8835, 8840, 8950, 8955, 8980, 8990, 9015, 9020, 10505, 10510, 10535, 10545, 10570, 10575, 11045, 11050, 11165, 11190, 11200, 11220, 11255, 11265, 11345, 11370, 11415, 11430, 11470, 11475, 11560, 11580, 11595, 11610, 11765, 11770, 11825, 11840, 11860, 11870, 12125, 12130, 12245, 12270, 12280, 12300, 12545, 12560, 12605, 12630, 12710, 12720, 12760, 12770, 12820, 12840, 12890, 12900, 13055, 13065, 13085, 13100, 13155, 13160, 13415, 13425, 13505, 13530, 13575, 13590, 13625, 13640, 13685, 13710, 13790, 13800, 14055, 14060, 14115, 14130, 14150, 14160, 14350, 14355, 14380, 14390, 14415, 14420, 14710, 14715, 14800, 14820, 14835, 14850, 14920, 14930, 14980, 15000, 15050, 15060, 15135, 15140, 15195, 15210, 15230, 15240, 15905, 15910, 15935, 15945, 15970, 15975, 16265, 16270, 16355, 16375, 16390, 16405, 16475, 16485, 16535, 16555, 16605, 16615, 16690, 16695, 16750, 16765, 16785, 16795, 16985, 16990, 17015, 17025, 17050, 17055, 17525, 17530, 17645, 17670, 17680, 17700, 17735, 17745, 17825, 17850, 17895, 17910, 17950, 17955, 18040, 18060, 18075, 18090, 19505, 19510, 19595, 19615, 19630, 19645, 19685, 19690, 19805, 19830, 19840, 19860, 20315, 20335, 20345, 20370, 20485, 20490, 20530, 20545, 20560, 20580, 20665, 20670, 20795, 20805, 20855, 20875, 20925, 20935, 20975, 20985, 21065, 21090, 21135, 21150, 21395, 21415, 21425, 21450, 21565, 21570, 21825, 21835, 21855, 21870, 21925, 21930, 22090, 22095, 22150, 22165, 22185, 22195, 22270, 22275, 22360, 22380, 22395, 22410, 22690, 22705, 22720, 22740, 22825, 22830, 22905, 22915, 22935, 22950, 23005, 23010, 23645, 23650, 23705, 23720, 23740, 23750, 23825, 23830, 23915, 23935, 23950, 23965, 24245, 24260, 24275, 24295, 24380, 24385, 24460, 24470, 24490, 24505, 24560, 24565, 24725, 24730, 24785, 24800, 24820, 24830, 25085, 25090, 25205, 25230, 25240, 25260, 25505, 25520, 25565, 25590, 25670, 25680, 25720, 25730, 25780, 25800, 25850, 25860, 25985, 25990, 26075, 26095, 26110, 26125, 26165, 26170, 26285, 26310, 26320, 26340, 26795, 26815, 26825, 26850, 26965, 26970, 27010, 27025, 27040, 27060, 27145, 27150, 28565, 28580, 28595, 28615, 28700, 28705, 28745, 28760, 28805, 28830, 28910, 28920, 28955, 28975, 28985, 29010, 29125, 29130, 29600, 29605, 29630, 29640, 29665, 29670, 29860, 29870, 29890, 29905, 29960, 29965, 30040, 30050, 30100, 30120, 30170, 30180, 30250, 30265, 30280, 30300, 30385, 30390, 30680, 30685, 30710, 30720, 30745, 30750, 31415, 31425, 31445, 31460, 31515, 31520, 31595, 31605, 31655, 31675, 31725, 31735, 31805, 31820, 31835, 31855, 31940, 31945, 32235, 32240, 32265, 32275, 32300, 32305, 32495, 32505, 32525, 32540, 32595, 32600, 32855, 32865, 32945, 32970, 33015, 33030, 33065, 33080, 33125, 33150, 33230, 33240, 33495, 33500, 33555, 33570, 33590, 33600, 33755, 33765, 33815, 33835, 33885, 33895, 33935, 33945, 34025, 34050, 34095, 34110, 34355, 34375, 34385, 34410, 34525, 34530, 34785, 34795, 34815, 34830, 34885, 34890, 35045, 35060, 35075, 35095, 35180, 35185, 35225, 35240, 35285, 35310, 35390, 35400, 35435, 35455, 35465, 35490, 35605, 35610, 36080, 36085, 36110, 36120, 36145, 36150, 37635, 37640, 37665, 37675, 37700, 37705, 37815, 37820, 37875, 37890, 37910, 37920, 38025, 38035, 38055, 38070, 38125, 38130, 38240, 38245, 38270, 38280, 38305, 38310, 39190, 39195, 39220, 39230, 39255, 39260, 39370, 39375, 39430, 39445, 39465, 39475, 39580, 39590, 39610, 39625, 39680, 39685, 39795, 39800, 39825, 39835, 39860, 39865, 40270, 40275, 40300, 40310, 40335, 40340, 40630, 40635, 40720, 40740, 40755, 40770, 40840, 40850, 40900, 40920, 40970, 40980, 41055, 41060, 41115, 41130, 41150, 41160, 41530, 41535, 41590, 41605, 41625, 41635, 41710, 41715, 41800, 41820, 41835, 41850, 42130, 42145, 42160, 42180, 42265, 42270, 42345, 42355, 42375, 42390, 42445, 42450, 42820, 42830, 42850, 42865, 42920, 42925, 43000, 43010, 43060, 43080, 43130, 43140, 43210, 43225, 43240, 43260, 43345, 43350, 43640, 43645, 43670, 43680, 43705, 43710, 44115, 44120, 44145, 44155, 44180, 44185, 44295, 44300, 44355, 44370, 44390, 44400, 44505, 44515, 44535, 44550, 44605, 44610, 44720, 44725, 44750, 44760, 44785, 44790]
  | _ => []
/-- the figures (by 6) of a number, n of them -/
def pdg (n v : Nat) : List Nat := (List.range n).map (fun k => v / 6 ^ (n - 1 - k) % 6)
def pus (v : Nat) : Nat → Nat
  | 0 => 0
  | d + 1 => pus v d ||| 2 ^ (v / 6 ^ d % 6)
def pB (n v : Nat) : Bool := pus v n == 2 ^ n - 1
def pTs (n : Nat) : List (List Nat) := (pV n).map (pdg n)
-- the next order
def pfa (o : List Nat) : Nat → Nat
  | 0 => 0
  | i + 1 => if o.getD i 0 ≤ o.getD (i + 1) 0 then i + 1 else pfa o i
def pgr (o : List Nat) (f : Nat) : Nat → Nat
  | 0 => 0
  | i + 1 => if i + 1 ≤ f then i + 1 else if o.getD f 0 ≤ o.getD (i + 1) 0 then i + 1 else pgr o f i
def psw (o : List Nat) (i j : Nat) : List Nat := (o.set i (o.getD j 0)).set j (o.getD i 0)
def prv (o : List Nat) (i j : Nat) : Nat → List Nat
  | 0 => o
  | d + 1 => if j ≤ i then o else prv (psw o i j) (i + 1) (j - 1) d
def pnx (o : List Nat) : Option (List Nat) := if pfa o (o.length - 1) = 0 then none else some (prv (psw o (pfa o (o.length - 1) - 1) (pgr o (pfa o (o.length - 1) - 1) (o.length - 1))) (pfa o (o.length - 1)) (o.length - 1) 6)
def pch : List (List Nat) → Bool
  | [] => false
  | [o] => pnx o == none
  | o :: o' :: r => pnx o == some o' && pch (o' :: r)
theorem pch_all : ∀ n, n < 7 → pch (pTs n) = true := by decide +kernel
theorem pT_ok : ∀ n, n < 7 → (pTs n).length ≤ 720 ∧ (pTs n).getD 0 [] = List.range n ∧ (pTs n).all (fun o => decide (o.length = n) && o.all (fun d => decide (d < n))) = true := by decide +kernel
theorem pV_ok : ∀ n, n < 7 → (pV n).all (fun v => decide (v < 6 ^ n) && pB n v) = true := by decide +kernel
def srt : List Nat → Bool
  | [] => true
  | [_] => true
  | a :: b :: r => decide (a < b) && srt (b :: r)
theorem pV_srt : ∀ n, n < 7 → srt (pV n) = true := by decide +kernel
theorem pV_all0 : ∀ n, n < 4 → ∀ v, v < 6 ^ n → pB n v = true → v ∈ pV n := by decide +kernel
theorem pV_all4 : ∀ a, a < 36 → ∀ b, b < 36 → pB 4 (a * 36 + b) = true → a * 36 + b ∈ pV 4 := by decide +kernel
theorem pV_all5 : ∀ a, a < 36 → ∀ b, b < 216 → pB 5 (a * 216 + b) = true → a * 216 + b ∈ pV 5 := by decide +kernel
def pm (x : Nat) : Bool := x == 62 || x == 61 || x == 59 || x == 55 || x == 47 || x == 31 || x == 63
theorem pm_of : ∀ x, x < 64 → ∀ d, d < 6 → x ||| 2 ^ d = 63 → pm x = true := by decide +kernel
def pk6 (r : Nat) : Bool := !(pm (pus r 5)) || (List.range 6).all (fun d => !(pus r 5 ||| 2 ^ d == 63) || (pV 6).contains (d * 7776 + r))
theorem pk6_all : ∀ a, a < 36 → ∀ b, b < 216 → pk6 (a * 216 + b) = true := by decide +kernel
theorem pV_chk6 (a : Nat) (ha : a < 36) (b : Nat) (hb : b < 216) (h1 : pm (pus (a * 216 + b) 5) = true) (d : Nat) (hd : d < 6) (h2 : pus (a * 216 + b) 5 ||| 2 ^ d = 63) : d * 7776 + (a * 216 + b) ∈ pV 6 := by
  have h := pk6_all a ha b hb
  unfold pk6 at h
  rw [h1, Bool.not_true, Bool.false_or] at h
  have h := List.all_eq_true.mp h d (List.mem_range.mpr hd)
  rw [h2, show ((63 : Nat) == 63) = true from rfl, Bool.not_true, Bool.false_or] at h
  exact List.contains_iff_mem.mp h
theorem pus_lt (v : Nat) : ∀ n, pus v n < 64
  | 0 => by show (0 : Nat) < 64; decide
  | n + 1 => Nat.or_lt_two_pow (n := 6) (pus_lt v n) (Nat.pow_lt_pow_right (by decide) (Nat.mod_lt _ (by decide)))
theorem pus_eq {u v : Nat} : ∀ n, (∀ k, k < n → u / 6 ^ k % 6 = v / 6 ^ k % 6) → pus u n = pus v n
  | 0, _ => rfl
  | n + 1, h => by
    show pus u n ||| 2 ^ (u / 6 ^ n % 6) = pus v n ||| 2 ^ (v / 6 ^ n % 6)
    rw [pus_eq n fun k hk => h k (by omega), h n (by omega)]
theorem pV_all6 {v : Nat} (hv : v < 46656) (h : pB 6 v = true) : v ∈ pV 6 := by
  have h : pus v 5 ||| 2 ^ (v / 6 ^ 5 % 6) = 63 := beq_iff_eq.mp h
  have e1 : pus v 5 = pus (v % 7776) 5 := pus_eq 5 fun k hk => by
    match k, hk with
    | 0, _ => omega
    | 1, _ => omega
    | 2, _ => omega
    | 3, _ => omega
    | 4, _ => omega
  have e2 : v / 6 ^ 5 % 6 = v / 7776 := by omega
  rw [e1, e2] at h
  have e3 : v % 7776 = v % 7776 / 216 * 216 + v % 7776 % 216 := by omega
  have e4 : v = v / 7776 * 7776 + (v % 7776 / 216 * 216 + v % 7776 % 216) := by omega
  rw [e3] at h
  have := pV_chk6 (v % 7776 / 216) (by omega) (v % 7776 % 216) (by omega) (pm_of _ (pus_lt _ _) _ (by omega) h) (v / 7776) (by omega) h
  rw [← e4] at this
  exact this
theorem pV_all {n v : Nat} (hn : n < 7) (hv : v < 6 ^ n) (h : pB n v = true) : v ∈ pV n := by
  by_cases h4 : n < 4
  · exact pV_all0 n h4 v hv h
  · have hd : ∀ k, v = v / k * k + v % k := fun k => by rw [Nat.mul_comm]; exact (Nat.div_add_mod v k).symm
    match n, hn, h4 with
    | 4, _, _ =>
      have hv : v < 1296 := hv
      rw [hd 36] at h ⊢
      exact pV_all4 (v / 36) (by omega) (v % 36) (by omega) h
    | 5, _, _ =>
      have hv : v < 7776 := hv
      rw [hd 216] at h ⊢
      exact pV_all5 (v / 216) (by omega) (v % 216) (by omega) h
    | 6, _, _ =>
      exact pV_all6 hv h
theorem srt_lt : ∀ {a : Nat} {l : List Nat}, srt (a :: l) = true → srt l = true ∧ ∀ x ∈ l, a < x
  | a, [], _ => ⟨rfl, fun x hx => by cases hx⟩
  | a, b :: r, h => by
    have h : (decide (a < b) && srt (b :: r)) = true := h
    rw [Bool.and_eq_true] at h
    obtain ⟨h1, h2⟩ := h
    have h1 := of_decide_eq_true h1
    obtain ⟨h3, h4⟩ := srt_lt h2
    refine ⟨h2, fun x hx => ?_⟩
    rcases List.mem_cons.mp hx with e | e
    · omega
    · have := h4 x e
      omega
theorem srt_eq : ∀ {l m : List Nat}, srt l = true → srt m = true → (∀ x, x ∈ l ↔ x ∈ m) → l = m
  | [], [], _, _, _ => rfl
  | [], b :: m, _, _, h => by
    have := (h b).mpr List.mem_cons_self
    cases this
  | a :: l, [], _, _, h => by
    have := (h a).mp List.mem_cons_self
    cases this
  | a :: l, b :: m, h1, h2, h => by
    obtain ⟨s1', g1⟩ := srt_lt h1
    obtain ⟨s2', g2⟩ := srt_lt h2
    have e : a = b := by
      have x1 := (h a).mp List.mem_cons_self
      have x2 := (h b).mpr List.mem_cons_self
      rcases List.mem_cons.mp x1 with e | e
      · exact e
      · rcases List.mem_cons.mp x2 with e' | e'
        · exact e'.symm
        · have := g2 a e
          have := g1 b e'
          omega
    subst e
    rw [srt_eq s1' s2' fun x => ?_]
    constructor
    · intro hx
      rcases List.mem_cons.mp ((h x).mp (List.mem_cons_of_mem _ hx)) with q | q
      · have := g1 x hx
        omega
      · exact q
    · intro hx
      rcases List.mem_cons.mp ((h x).mpr (List.mem_cons_of_mem _ hx)) with q | q
      · have := g2 x hx
        omega
      · exact q
theorem pw_srt : ∀ {l : List Nat}, l.Pairwise (· < ·) → srt l = true
  | [], _ => rfl
  | [_], _ => rfl
  | a :: b :: r, h => by
    rw [List.pairwise_cons] at h
    show (decide (a < b) && srt (b :: r)) = true
    rw [decide_eq_true (h.1 b List.mem_cons_self), Bool.true_and]
    exact pw_srt h.2
/-- the orders up to a number, in their order -/
def pL (n v : Nat) : List (List Nat) := ((List.range v).filter (pB n)).map (pdg n)
theorem pL_s (n v : Nat) : pL n (v + 1) = if pB n v = true then pL n v ++ [pdg n v] else pL n v := by
  unfold pL
  rw [List.range_succ, List.filter_append, List.filter_cons, List.filter_nil]
  by_cases h : pB n v = true
  · rw [if_pos h, if_pos h, List.map_append]
    rfl
  · rw [if_neg h, if_neg h, List.append_nil]
theorem pL_end {n : Nat} (hn : n < 7) : pL n (6 ^ n) = pTs n := by
  unfold pL pTs
  rw [srt_eq (l := (List.range (6 ^ n)).filter (pB n)) (m := pV n) (pw_srt (List.Pairwise.filter _ List.pairwise_lt_range)) (pV_srt n hn) fun x => ?_]
  rw [List.mem_filter, List.mem_range]
  constructor
  · rintro ⟨h1, h2⟩
    exact pV_all hn h1 h2
  · intro h
    have := List.all_eq_true.mp (pV_ok n hn) x h
    rw [Bool.and_eq_true] at this
    exact ⟨of_decide_eq_true this.1, this.2⟩
theorem pT_mem {n : Nat} (hn : n < 7) {o : List Nat} (h : o ∈ pTs n) : o.length = n ∧ ∀ i, i < n → o.getD i 0 < n := by
  have := List.all_eq_true.mp (pT_ok n hn).2.2 o h
  rw [Bool.and_eq_true] at this
  have hl := of_decide_eq_true this.1
  refine ⟨hl, fun i hi => ?_⟩
  exact of_decide_eq_true (List.all_eq_true.mp this.2 _ (getD_mem (by omega)))
theorem pch_at : ∀ {P : List (List Nat)}, pch P = true → ∀ k, k < P.length → pnx (P.getD k []) = if k + 1 < P.length then some (P.getD (k + 1) []) else none
  | [], h, k, hk => by cases h
  | [o], h, k, hk => by
    have hk : k < 1 := hk
    have e : k = 0 := by omega
    subst e
    have h : (pnx o == none) = true := h
    rw [if_neg (by show ¬ 0 + 1 < 1; omega)]
    exact beq_iff_eq.mp h
  | o :: o' :: r, h, k, hk => by
    have h : (pnx o == some o' && pch (o' :: r)) = true := h
    rw [Bool.and_eq_true] at h
    cases k with
    | zero =>
      rw [if_pos (by show 0 + 1 < r.length + 1 + 1; omega)]
      exact beq_iff_eq.mp h.1
    | succ k =>
      have hk : k < (o' :: r).length := by
        have : k + 1 < (o' :: r).length + 1 := hk
        omega
      have := pch_at h.2 k hk
      rw [List.getD_cons_succ, List.getD_cons_succ, this]
      have e : (k + 1 < (o' :: r).length) ↔ (k + 1 + 1 < (o :: o' :: r).length) := by
        show _ ↔ k + 1 + 1 < (o' :: r).length + 1
        omega
      simp only [e]
theorem pT_pos {n : Nat} (hn : n < 7) : 0 < (pTs n).length := by
  cases h : pTs n with
  | nil =>
    have := pch_all n hn
    rw [h] at this
    cases this
  | cons a b => exact Nat.succ_pos _
-- the best order
def rst (f : List Nat → Nat) (B : Nat) (os : List (List Nat)) : Nat × List Nat := os.foldl (fun st o => if st.1 ≤ f o then st else (f o, o)) (B, [])
theorem rst_snoc (f : List Nat → Nat) (B : Nat) (os : List (List Nat)) (o : List Nat) : rst f B (os ++ [o]) = if (rst f B os).1 ≤ f o then rst f B os else (f o, o) := by unfold rst; rw [List.foldl_append]; rfl
theorem rst_B {f : List Nat → Nat} {A B : Nat} {os : List (List Nat)} (h : ∀ o ∈ os, f o < A ∧ f o < B) (h0 : 0 < os.length) : rst f A os = rst f B os := by
  cases os with
  | nil => exact absurd h0 (Nat.lt_irrefl _)
  | cons o os =>
    have := h o List.mem_cons_self
    unfold rst
    rw [List.foldl_cons, List.foldl_cons]
    show os.foldl _ (if A ≤ f o then (A, []) else (f o, o)) = os.foldl _ (if B ≤ f o then (B, []) else (f o, o))
    rw [if_neg (by omega), if_neg (by omega)]
theorem snocRecL {P : List (List Nat) → Prop} (h0 : P []) (hs : ∀ l x, P l → P (l ++ [x])) : ∀ l, P l := snocRec h0 hs
theorem rst_le {f : List Nat → Nat} {B : Nat} : ∀ os : List (List Nat), (rst f B os).1 ≤ B := by
  refine snocRecL (Nat.le_refl _) fun os o ih => ?_
  rw [rst_snoc]
  split
  · exact ih
  · show f o ≤ B
    omega
theorem rst_mem {f : List Nat → Nat} {B : Nat} : ∀ os : List (List Nat), (∀ o ∈ os, f o < B) → 0 < os.length → (rst f B os).2 ∈ os := by
  have : ∀ os : List (List Nat), (∀ o ∈ os, f o < B) → ((rst f B os).2 ∈ os ∨ (os = [] ∧ (rst f B os).1 = B)) := by
    refine snocRecL (fun _ => Or.inr ⟨rfl, rfl⟩) fun os o ih h => ?_
    rw [rst_snoc]
    have ih := ih fun x hx => h x (List.mem_append_left _ hx)
    by_cases q : (rst f B os).1 ≤ f o
    · rw [if_pos q]
      rcases ih with z | ⟨z1, z2⟩
      · exact Or.inl (List.mem_append_left _ z)
      · have := h o (by simp)
        omega
    · rw [if_neg q]
      exact Or.inl (by simp)
  intro os h h0
  rcases this os h with z | ⟨z, -⟩
  · exact z
  · rw [z] at h0
    exact absurd h0 (Nat.lt_irrefl _)
