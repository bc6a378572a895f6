/-! longs: Euclid, tens; the hours that are forgotten -/
theorem lg_z {y : Nat} (h : y < 2 ^ 63) : lg_cmp (lN y) 0 = 0 ↔ y = 0 := by
  have e0 : (0 : Int64) = lN 0 := rfl
  unfold lg_cmp
  rw [e0]
  simp only [gt_iff_lt, pk_lLT (show 0 < 2 ^ 63 by omega) h, pk_lEQ h (show 0 < 2 ^ 63 by omega)]
  by_cases c : y = 0
  · rw [if_neg (by omega), if_pos c]; exact ⟨fun _ => c, fun _ => rfl⟩
  · rw [if_pos (by omega)]
    exact ⟨fun q => absurd q (by decide), fun q => absurd q c⟩
theorem lg_p {y : Nat} (h : y < 2 ^ 63) (h0 : 0 < y) : 0 < lg_cmp (lN y) 0 := by
  have e0 : (0 : Int64) = lN 0 := rfl
  unfold lg_cmp
  rw [e0]
  simp only [gt_iff_lt, pk_lLT (show 0 < 2 ^ 63 by omega) h]
  rw [if_pos h0]
  decide
theorem lz_n {y : Nat} (h : y < 2 ^ 63) (h0 : 0 < y) : ¬ lN y = 0 := by
  intro e
  have := (pk_lEQ h (show 0 < 2 ^ 63 by omega)).mp (e.trans (show (0 : Int64) = lN 0 from rfl))
  omega
theorem gl_k {α : Type} {n : Nat} {E : Option α} (h : n ≠ 0) (hN : n < 2 ^ 63) : gz_l (lN n) E = E := if_neg (lz_n hN (by omega))
theorem eu_h {x y r : Nat} (hr : r = x % y) (h0 : 0 < r) (hy : 0 < y) : y % r < (y + 1) / 2 := by
  have h1 : r < y := by rw [hr]; exact Nat.mod_lt _ hy
  have h2 : y % r < r := Nat.mod_lt _ h0
  by_cases c : r ≤ y / 2
  · omega
  · have : y % r = y - r := by
      rw [Nat.mod_eq_sub_mod (by omega), Nat.mod_eq_of_lt (by omega)]
    omega
theorem eu_s {x y : Nat} (hy : 0 < y) : Nat.gcd x y = Nat.gcd y (x % y) := by
  rw [Nat.gcd_comm x y, Nat.gcd_rec y x, Nat.gcd_comm]
theorem rf_c1 {x y f : Nat} (hx : x < 2 ^ 63) (hy : y < 2 ^ 63) : M_X7_common_6 (f + 1) (lN x) (lN y) = if y = 0 then some (lN x) else M_X7_common_6 f (lN y) (lN (x % y)) := by
  show B_X7_common_6 _ _ _ _ = _
  unfold B_X7_common_6
  by_cases c : y = 0
  · rw [if_pos ((lg_z hy).mpr c), if_pos c]
  · rw [if_neg (fun q => c ((lg_z hy).mp q)), if_neg c, gl_k c hy, nm_s, pk_lRem hx (by omega) hy]
theorem rf_cm : ∀ (k f x y : Nat), y < 2 ^ k → k ≤ 62 → x < 2 ^ 63 → 2 * k + 1 < f → M_X7_common_6 f (lN x) (lN y) = some (lN (Nat.gcd x y)) := by
  intro k
  induction k with
  | zero =>
    intro f x y hy hk hx hf
    obtain ⟨f, rfl⟩ : ∃ g, f = g + 1 := ⟨f - 1, by omega⟩
    have : y = 0 := by omega
    subst this
    rw [rf_c1 hx (by omega), if_pos rfl, Nat.gcd_zero_right]
  | succ k ih =>
    intro f x y hy hk hx hf
    obtain ⟨f, rfl⟩ : ∃ g, f = g + 1 + 1 := ⟨f - 2, by omega⟩
    have h62 : 2 ^ (k + 1) ≤ 2 ^ 62 := Nat.pow_le_pow_right (by omega) hk
    have hps : 2 ^ (k + 1) = 2 * 2 ^ k := by rw [Nat.pow_succ, Nat.mul_comm]
    rw [rf_c1 hx (by omega)]
    by_cases c : y = 0
    · rw [if_pos c, c, Nat.gcd_zero_right]
    · have hm : x % y < y := Nat.mod_lt _ (by omega)
      rw [if_neg c, rf_c1 (by omega) (by omega)]
      by_cases c2 : x % y = 0
      · rw [if_pos c2, eu_s (by omega), c2, Nat.gcd_zero_right]
      · have hh := eu_h (x := x) (y := y) rfl (by omega) (by omega)
        rw [if_neg c2, ih f _ _ (by omega) (by omega) (by omega) (by omega), ← eu_s (by omega), ← eu_s (by omega)]
theorem cf_c1 {x y f i : Nat} (hx : x < 2 ^ 63) (hy : y < 2 ^ 63) (hi : i < 130) : M_X6_divisor_9 (f + 1) (lN x) (lN y) (nI i) = if y = 0 then some (lN x) else M_X6_divisor_9 f (lN y) (lN (x % y)) (nI (i + 1)) := by
  show B_X6_divisor_9 _ _ _ _ _ = _
  unfold B_X6_divisor_9
  simp (disch := omega) only [show (130 : Int32) = nI 130 from rfl, nI_leI]
  rw [if_neg (by omega)]
  by_cases c : y = 0
  · rw [if_pos ((lg_z hy).mpr c), if_pos c]
  · rw [if_neg (fun q => c ((lg_z hy).mp q)), if_neg c, gl_k c hy, nm_s, pk_lRem hx (by omega) hy, nI_1]
theorem cf_cm : ∀ (k f x y i : Nat), y < 2 ^ k → k ≤ 62 → x < 2 ^ 63 → 2 * k + 1 < f → i + 2 * k + 1 ≤ 129 → M_X6_divisor_9 f (lN x) (lN y) (nI i) = some (lN (Nat.gcd x y)) := by
  intro k
  induction k with
  | zero =>
    intro f x y i hy hk hx hf hi
    obtain ⟨f, rfl⟩ : ∃ g, f = g + 1 := ⟨f - 1, by omega⟩
    have : y = 0 := by omega
    subst this
    rw [cf_c1 hx (by omega) (by omega), if_pos rfl, Nat.gcd_zero_right]
  | succ k ih =>
    intro f x y i hy hk hx hf hi
    obtain ⟨f, rfl⟩ : ∃ g, f = g + 1 + 1 := ⟨f - 2, by omega⟩
    have h62 : 2 ^ (k + 1) ≤ 2 ^ 62 := Nat.pow_le_pow_right (by omega) hk
    have hps : 2 ^ (k + 1) = 2 * 2 ^ k := by rw [Nat.pow_succ, Nat.mul_comm]
    rw [cf_c1 hx (by omega) (by omega)]
    by_cases c : y = 0
    · rw [if_pos c, c, Nat.gcd_zero_right]
    · have hm : x % y < y := Nat.mod_lt _ (by omega)
      rw [if_neg c, cf_c1 (by omega) (by omega) (by omega)]
      by_cases c2 : x % y = 0
      · rw [if_pos c2, eu_s (by omega), c2, Nat.gcd_zero_right]
      · have hh := eu_h (x := x) (y := y) rfl (by omega) (by omega)
        rw [if_neg c2, ih f _ _ (i + 1 + 1) (by omega) (by omega) (by omega) (by omega) (by omega), ← eu_s (by omega), ← eu_s (by omega)]
/-- one part of a fraction in its lowest terms -/
def td_r (x y : Nat) (z : Int32) : Int64 := if z = 0 then lN x / lN (Nat.gcd x y) else lN y / lN (Nat.gcd x y)
theorem rf_td {x y f : Nat} {z : Int32} (hx : x < 2 ^ 60) (hy : y < 2 ^ 60) (h0 : 0 < y) (hf : 200 < f) : M_X7_told f (lN x) (lN y) z = some (td_r x y z) := by
  have hg : 0 < Nat.gcd x y := Nat.gcd_pos_of_pos_right _ h0
  have hl : Nat.gcd x y ≤ y := Nat.gcd_le_right _ h0
  have e2 : M_X7_common f (lN y) (lN x) = some (lN (Nat.gcd x y)) := by
    rw [Nat.gcd_comm]
    exact rf_cm 60 f y x hx (by omega) (by omega) (by omega)
  unfold M_X7_told B_X7_told_0 td_r
  rw [e2]
  simp only [bn_s]
  rw [gl_k (by omega) (by omega), gl_k (by omega) (by omega)]
  split <;> rfl
theorem cf_fr {x y f : Nat} {z : Int32} (hx : x < 2 ^ 60) (hy : y < 2 ^ 60) (h0 : 0 < y) (hf : 200 < f) : M_X6_fraction f (lN x) (lN y) z = some (td_r x y z) := by
  have hg : 0 < Nat.gcd x y := Nat.gcd_pos_of_pos_right _ h0
  have hl : Nat.gcd x y ≤ y := Nat.gcd_le_right _ h0
  have e1 : M_X6_divisor f (lN x) (lN y) = some (lN (Nat.gcd x y)) := cf_cm 60 f x y 0 hy (by omega) (by omega) (by omega) (by omega)
  unfold M_X6_fraction B_X6_fraction_0 td_r
  rw [e1]
  simp only [bn_s]
  rw [if_pos (lg_p (by omega) hg), gl_k (by omega) (by omega), gl_k (by omega) (by omega)]
  split <;> rfl
theorem cf_te {n : Nat} (hn : n ≤ 8) : ∀ (k f i : Nat), i + k = n → k < f → M_X6_tens_4 f (nI n) (lN (10 ^ i)) (nI i) = some (lN (10 ^ n)) := by
  intro k
  induction k with
  | zero =>
    intro f i hi hf
    obtain ⟨f, rfl⟩ : ∃ g, f = g + 1 := ⟨f - 1, by omega⟩
    show B_X6_tens_4 _ _ _ _ _ = _
    simp (disch := omega) only [B_X6_tens_4, nI_leI]
    rw [if_pos (by omega), show i = n by omega]
  | succ k ih =>
    intro f i hi hf
    obtain ⟨f, rfl⟩ : ∃ g, f = g + 1 := ⟨f - 1, by omega⟩
    show B_X6_tens_4 _ _ _ _ _ = _
    simp (disch := omega) only [B_X6_tens_4, nI_leI, nm_s, nI_1]
    rw [if_neg (by omega), show (10 : Int64) = lN 10 from rfl, lN_mul, ← Nat.pow_succ]
    exact ih f (i + 1) (by omega) (by omega)
theorem sl_p {n : Nat} (h : n ≤ 8) : (1 : Int32) <<< (nI n &&& 31) = nI (2 ^ n) := by
  have : n = 0 ∨ n = 1 ∨ n = 2 ∨ n = 3 ∨ n = 4 ∨ n = 5 ∨ n = 6 ∨ n = 7 ∨ n = 8 := by omega
  rcases this with rfl | rfl | rfl | rfl | rfl | rfl | rfl | rfl | rfl <;> decide
theorem p2_l {n : Nat} (h : n ≤ 8) : 2 ^ n ≤ 256 ∧ 10 ^ n ≤ 100000000 ∧ 0 < 10 ^ n := by
  have : n = 0 ∨ n = 1 ∨ n = 2 ∨ n = 3 ∨ n = 4 ∨ n = 5 ∨ n = 6 ∨ n = 7 ∨ n = 8 := by omega
  rcases this with rfl | rfl | rfl | rfl | rfl | rfl | rfl | rfl | rfl <;> decide
section
variable {pe f : Nat} {S N : Nat → Nat} {w t : s_W} {v : s_V} {x y : Int32}
theorem od_i {n d : Nat} {mask wq : Int32} {st : Nat → Int32} {ls wt aw : Int64} {K B R : Nat → Int32} {k45 : Int32 → Int32 → Int64 → Int64 → Int64 → (Nat → Int32) → Int32 → Int32 → Int32 → Int32 → Option (Int32 × Int32 × Int64 × Int64 × Int64 × (Nat → Int32))} (hn : n ≤ 8) (hd : d ≤ 10) : ∀ (k f e j he sp om : Nat) (a : Nat → Nat) (G : Nat → Int32), j + k = n → k + 300 < f → k + 300 < e → om ≤ 10 ^ j → gd_s pe a → a 26 + k ≤ 2000 → pt_w pe a K G B R →
    ∃ (om2 he2 sp2 : Nat) (a2 : Nat → Nat) (G2 : Nat → Int32), om2 ≤ 10 ^ n ∧ gd_s pe a2 ∧ pt_w pe a2 K G2 B R ∧ M_X6_passForgetting_17 w f (mk_w pe a he sp K G B R) mask (nI d) (nI n) (lN om) (nI j) = some (lN om2, mk_w pe a2 he2 sp2 K G2 B R) ∧
      M_X7_findOdds_63 k45 (nI pe) st e (nI he) (nI sp) ls wt aw (nf_a a) (nI d) (nI n) wq mask (lN om) (nI j) = k45 (nI he2) (nI sp2) (ls + (if wq < nI (al_n pe a2) then 0 else lN om2)) (wt + lN om2 * (nI (al_n pe a2)).toInt64) aw (nf_a a2) (nI d) (nI n) wq (mask + 1) := by
  intro k
  induction k with
  | zero =>
    intro f e j he sp om a G hj hf hf2 ho g h26 pt
    obtain ⟨f, rfl⟩ : ∃ g, f = g + 1 := ⟨f - 1, by omega⟩
    obtain ⟨e, rfl⟩ : ∃ g, e = g + 1 := ⟨e - 1, by omega⟩
    refine ⟨om, he, sp, a, G, by rw [show n = j by omega]; exact ho, g, pt, ?_, ?_⟩
    · show B_X6_passForgetting_17 _ _ _ _ _ _ _ _ _ = _
      simp (disch := omega) only [B_X6_passForgetting_17, nI_leI]
      rw [if_pos (by omega)]
    · show B_X7_findOdds_63 _ _ _ _ _ _ _ _ _ _ _ _ _ _ _ _ _ = _
      unfold B_X7_findOdds_63
      rw [rf_al g.1 (by omega)]
      simp (disch := omega) only [nI_leI, bn_s, B_X7_findOdds_159, nm_s]
      rw [if_pos (by omega)]
      by_cases c : wq < nI (al_n pe a)
      · rw [if_pos c, if_pos c]
      · rw [if_neg c, if_neg c]
  | succ k ih =>
    intro f e j he sp om a G hj hf hf2 ho g h26 pt
    obtain ⟨f, rfl⟩ : ∃ g, f = g + 1 := ⟨f - 1, by omega⟩
    obtain ⟨e, rfl⟩ : ∃ g, e = g + 1 := ⟨e - 1, by omega⟩
    have hp1 : 10 ^ (j + 1) = 10 * 10 ^ j := by rw [Nat.pow_succ, Nat.mul_comm]
    have e10 : (10 : Int32) - nI d = nI (10 - d) := pk_sub (a := 10) (by omega)
    by_cases c : ((mask >>> (nI j &&& 31)) &&& 1) = 1
    · have g26 := gd_26 (v := a 26 + 1) g (by omega)
      have p26 : pt_w pe (up_n a 26 (a 26 + 1)) K G B R := by
        have h17 := g.2.2.2.1
        have h5 := g.1
        refine ⟨fun q hq => ?_, fun i hi => ?_⟩
        · simp (disch := omega) only [up_o]; exact pt.1 q hq
        · rw [up_o (by omega)] at hi
          rw [up_o (by omega)]; exact pt.2 i hi
      have hom : om * d ≤ 10 ^ (j + 1) := by
        rw [hp1]
        have := Nat.mul_le_mul ho hd
        omega
      obtain ⟨om2, he2, sp2, a2, G2, q1, q2, q3, q4, q5⟩ := ih f e (j + 1) he sp (om * d) (up_n a 26 (a 26 + 1)) G (by omega) (by omega) (by omega) hom g26 (by rw [up_s]; omega) p26
      refine ⟨om2, he2, sp2, a2, G2, q1, q2, q3, ?_, ?_⟩
      · rw [← q4]
        show B_X6_passForgetting_17 _ _ _ _ _ _ _ _ _ = _
        unfold B_X6_passForgetting_17 B_X6_passForgetting_73
        simp (disch := omega) only [nI_leI, nm_s, nI_1, nI_l, lN_mul]
        rw [if_neg (by omega), if_pos c]
        simp (disch := omega) only [mk_w, up_o, up_s]
      · rw [← q5]
        show B_X7_findOdds_63 _ _ _ _ _ _ _ _ _ _ _ _ _ _ _ _ _ = _
        unfold B_X7_findOdds_63 B_X7_findOdds_85 B_X7_findOdds_104 B_X7_findOdds_130
        simp (disch := omega) only [nI_leI, nm_s, nI_1, nI_l, lN_mul]
        rw [if_neg (by omega), if_pos c]
        simp (disch := omega) only [i1_0, show (26 : Int32) = nI 26 from rfl, gi_k, nI_clamp, nf_e, nI_1, nf_u]
    · obtain ⟨g1, g2, g3, g4, g5⟩ := gd_hr (he := he) (sp := sp) g (by omega)
      obtain ⟨G2, e3, p3⟩ := cf_hr (f := f) (he := he) (sp := sp) g (by omega) pt
      have e4 := rf_hr (f := e) (he := he) (sp := sp) g (by omega)
      have hom : om * (10 - d) ≤ 10 ^ (j + 1) := by
        rw [hp1]
        have := Nat.mul_le_mul ho (show 10 - d ≤ 10 by omega)
        omega
      obtain ⟨om2, he2, sp2, a2, G3, q1, q2, q3, q4, q5⟩ := ih f e (j + 1) _ _ (om * (10 - d)) _ G2 (by omega) (by omega) (by omega) hom g1 (by omega) p3
      refine ⟨om2, he2, sp2, a2, G3, q1, q2, q3, ?_, ?_⟩
      · rw [← q4]
        show B_X6_passForgetting_17 _ _ _ _ _ _ _ _ _ = _
        unfold B_X6_passForgetting_17 B_X6_passForgetting_73
        rw [e3, e10]
        simp (disch := omega) only [nI_leI, nm_s, nI_1, nI_l, lN_mul, bn_s]
        rw [if_neg (by omega), if_neg c]
      · rw [← q5]
        show B_X7_findOdds_63 _ _ _ _ _ _ _ _ _ _ _ _ _ _ _ _ _ = _
        unfold B_X7_findOdds_63 B_X7_findOdds_85 B_X7_findOdds_104 B_X7_findOdds_130
        rw [e4, e10]
        simp (disch := omega) only [nI_leI, nm_s, nI_1, nI_l, lN_mul, bn_s]
        rw [if_neg (by omega), if_neg c]
        simp only [if_true]
theorem od_s {n d m om2 al ls wt : Nat} {q : Int32} (hn : n ≤ 8) (ho : om2 ≤ 10 ^ n) (hal : al ≤ 594) (hl : ls ≤ m * 100000000) (hw : wt ≤ m * 100000000 * 600) : (∃ ls2, ls2 ≤ (m + 1) * 100000000 ∧ lN ls + (if q < nI al then 0 else lN om2) = lN ls2) ∧ (wt + om2 * al ≤ (m + 1) * 100000000 * 600 ∧ lN wt + lN om2 * (nI al).toInt64 = lN (wt + om2 * al)) := by
  obtain ⟨-, h8, -⟩ := p2_l hn
  refine ⟨?_, ?_, ?_⟩
  · by_cases c : q < nI al
    · rw [if_pos c, show (0 : Int64) = lN 0 from rfl, lN_add]
      exact ⟨ls, Nat.le_trans hl (Nat.mul_le_mul_right _ (Nat.le_succ m)), by rw [Nat.add_zero]⟩
    · rw [if_neg c, lN_add]
      exact ⟨ls + om2, by omega, rfl⟩
  · have := Nat.mul_le_mul (Nat.le_trans ho h8) hal
    omega
  · rw [nI_l (by omega), lN_mul, lN_add]
theorem lu_g {n d q : Nat} {z : Int32} (h : bk_s pe S w v) (hn : n ≤ 8) (hd : d ≤ 10) : ∀ (k f e m ls wt : Nat) (t : s_W) (x y : Int32) (N : Nat → Nat), m + k = 2 ^ n → k + 400 < f → k + 400 < e → ls ≤ m * 100000000 → wt ≤ m * 100000000 * 600 →
    ∃ (ls2 wt2 : Nat) (t2 : s_W) (p : Int32 × Int32 × (Nat → Int32)), ls2 < 2 ^ 60 ∧ wt2 < 2 ^ 60 ∧ M_X6_luck_31 w f t (nI d) (nI n) (nI q) z (lN ls) (nI m) = some (td_r ls2 (10 ^ n) z, t2) ∧ M_X7_findOdds_45 (nI pe) (nf_a S) e x y (lN ls) (lN wt) (lN (10 ^ n)) (nf_a N) (nI d) (nI n) (nI q) (nI m) = some (p.1, p.2.1, lN ls2, lN wt2, lN (10 ^ n), p.2.2) := by
  obtain ⟨p2, p10, p0⟩ := p2_l hn
  intro k
  induction k with
  | zero =>
    intro f e m ls wt t x y N hm hf hf2 hl hw
    obtain ⟨f, rfl⟩ : ∃ g, f = g + 1 := ⟨f - 1, by omega⟩
    obtain ⟨e, rfl⟩ : ∃ g, e = g + 1 := ⟨e - 1, by omega⟩
    refine ⟨ls, wt, t, (x, y, nf_a N), by omega, by omega, ?_, ?_⟩
    · show B_X6_luck_31 _ _ _ _ _ _ _ _ _ _ = _
      unfold B_X6_luck_31
      rw [sl_p hn, show M_X6_tens f (nI n) = some (lN (10 ^ n)) from cf_te hn n f 0 (by omega) (by omega)]
      simp (disch := omega) only [nI_leI, bn_s]
      rw [if_pos (by omega), cf_fr (by omega) (by omega) p0 (by omega)]
      rfl
    · show B_X7_findOdds_45 _ _ _ _ _ _ _ _ _ _ _ _ _ _ = _
      unfold B_X7_findOdds_45
      rw [sl_p hn]
      simp (disch := omega) only [nI_leI]
      rw [if_pos (by omega)]
  | succ k ih =>
    intro f e m ls wt t x y N hm hf hf2 hl hw
    obtain ⟨f, rfl⟩ : ∃ g, f = g + 1 := ⟨f - 1, by omega⟩
    obtain ⟨e, rfl⟩ : ∃ g, e = g + 1 := ⟨e - 1, by omega⟩
    obtain ⟨K, G, B, R, eb, pt, g, g26, hw1⟩ := sb_s h N t
    obtain ⟨om2, he2, sp2, a2, G2, q1, q2, q3, q4, q5⟩ := od_i (pe := pe) (w := w) (n := n) (d := d) (mask := nI m) (wq := nI q) (st := nf_a S) (ls := lN ls) (wt := lN wt) (aw := lN (10 ^ n)) (K := K) (B := B) (R := R) (k45 := M_X7_findOdds_45 (nI pe) (nf_a S) e) hn hd n f e 0 0 0 1 (cp_n S N) G (by omega) (by omega) (by omega) (by simp) g (by omega) pt
    have bal := al_b q2
    obtain ⟨⟨ls2, b1, b2⟩, b3, b4⟩ := od_s (q := nI q) (d := 0) hn q1 bal hl hw
    obtain ⟨ls3, wt3, t3, p3, r1, r2, r3, r4⟩ := ih f e (m + 1) ls2 (wt + om2 * al_n pe a2) (mk_w pe a2 he2 sp2 K G2 B R) (nI he2) (nI sp2) a2 (by omega) (by omega) (by omega) b1 b3
    refine ⟨ls3, wt3, t3, p3, r1, r2, ?_, ?_⟩
    · rw [← r3]
      show B_X6_luck_31 _ _ _ _ _ _ _ _ _ _ = _
      unfold B_X6_luck_31 M_X6_passForgetting B_X6_passForgetting_0
      rw [sl_p hn, eb]
      simp only [bn_s]
      rw [show M_X6_passForgetting_17 w f (mk_w pe (cp_n S N) 0 0 K G B R) (nI m) (nI d) (nI n) 1 0 = _ from q4]
      simp only [bn_s]
      rw [cf_al g.1 (by omega) q3]
      simp (disch := omega) only [nI_leI, bn_s, nm_s, B_X6_luck_67, nI_1]
      rw [if_neg (by omega)]
      by_cases c : nI q < nI (al_n pe a2)
      · rw [if_pos c] at b2
        rw [if_pos c]
        have : lN ls = lN ls2 := by
          rw [← b2, show (0 : Int64) = lN 0 from rfl, lN_add]; rfl
        rw [this]
      · rw [if_neg c] at b2
        rw [if_neg c, b2]
    · rw [← r4]
      show B_X7_findOdds_45 _ _ _ _ _ _ _ _ _ _ _ _ _ _ = _
      unfold B_X7_findOdds_45
      rw [sl_p hn, rf_st (by omega)]
      simp (disch := omega) only [nI_leI, bn_s]
      rw [if_neg (by omega), show M_X7_findOdds_63 (M_X7_findOdds_45 (nI pe) (nf_a S) e) (nI pe) (nf_a S) e 0 0 (lN ls) (lN wt) (lN (10 ^ n)) (nf_a (cp_n S N)) (nI d) (nI n) (nI q) (nI m) 1 0 = _ from q5, b2, b4, nI_1]
theorem me_g {n d q : Nat} {z : Int32} (h : bk_s pe S w v) (hn : n ≤ 8) (hd : d ≤ 10) : ∀ (k f e m ls wt : Nat) (t : s_W) (x y : Int32) (N : Nat → Nat), m + k = 2 ^ n → k + 400 < f → k + 400 < e → ls ≤ m * 100000000 → wt ≤ m * 100000000 * 600 →
    ∃ (ls2 wt2 : Nat) (t2 : s_W) (p : Int32 × Int32 × (Nat → Int32)), ls2 < 2 ^ 60 ∧ wt2 < 2 ^ 60 ∧ M_X6_mean_19 w f t (nI d) (nI n) z (lN wt) (nI m) = some (td_r wt2 (10 ^ n) z, t2) ∧ M_X7_findOdds_45 (nI pe) (nf_a S) e x y (lN ls) (lN wt) (lN (10 ^ n)) (nf_a N) (nI d) (nI n) (nI q) (nI m) = some (p.1, p.2.1, lN ls2, lN wt2, lN (10 ^ n), p.2.2) := by
  obtain ⟨p2, p10, p0⟩ := p2_l hn
  intro k
  induction k with
  | zero =>
    intro f e m ls wt t x y N hm hf hf2 hl hw
    obtain ⟨f, rfl⟩ : ∃ g, f = g + 1 := ⟨f - 1, by omega⟩
    obtain ⟨e, rfl⟩ : ∃ g, e = g + 1 := ⟨e - 1, by omega⟩
    refine ⟨ls, wt, t, (x, y, nf_a N), by omega, by omega, ?_, ?_⟩
    · show B_X6_mean_19 _ _ _ _ _ _ _ _ _ = _
      unfold B_X6_mean_19
      rw [sl_p hn, show M_X6_tens f (nI n) = some (lN (10 ^ n)) from cf_te hn n f 0 (by omega) (by omega)]
      simp (disch := omega) only [nI_leI, bn_s]
      rw [if_pos (by omega), cf_fr (by omega) (by omega) p0 (by omega)]
      rfl
    · show B_X7_findOdds_45 _ _ _ _ _ _ _ _ _ _ _ _ _ _ = _
      unfold B_X7_findOdds_45
      rw [sl_p hn]
      simp (disch := omega) only [nI_leI]
      rw [if_pos (by omega)]
  | succ k ih =>
    intro f e m ls wt t x y N hm hf hf2 hl hw
    obtain ⟨f, rfl⟩ : ∃ g, f = g + 1 := ⟨f - 1, by omega⟩
    obtain ⟨e, rfl⟩ : ∃ g, e = g + 1 := ⟨e - 1, by omega⟩
    obtain ⟨K, G, B, R, eb, pt, g, g26, hw1⟩ := sb_s h N t
    obtain ⟨om2, he2, sp2, a2, G2, q1, q2, q3, q4, q5⟩ := od_i (pe := pe) (w := w) (n := n) (d := d) (mask := nI m) (wq := nI q) (st := nf_a S) (ls := lN ls) (wt := lN wt) (aw := lN (10 ^ n)) (K := K) (B := B) (R := R) (k45 := M_X7_findOdds_45 (nI pe) (nf_a S) e) hn hd n f e 0 0 0 1 (cp_n S N) G (by omega) (by omega) (by omega) (by simp) g (by omega) pt
    have bal := al_b q2
    obtain ⟨⟨ls2, b1, b2⟩, b3, b4⟩ := od_s (q := nI q) (d := 0) hn q1 bal hl hw
    obtain ⟨ls3, wt3, t3, p3, r1, r2, r3, r4⟩ := ih f e (m + 1) ls2 (wt + om2 * al_n pe a2) (mk_w pe a2 he2 sp2 K G2 B R) (nI he2) (nI sp2) a2 (by omega) (by omega) (by omega) b1 b3
    refine ⟨ls3, wt3, t3, p3, r1, r2, ?_, ?_⟩
    · rw [← r3]
      show B_X6_mean_19 _ _ _ _ _ _ _ _ _ = _
      unfold B_X6_mean_19 M_X6_passForgetting B_X6_passForgetting_0
      rw [sl_p hn, eb]
      simp only [bn_s]
      rw [show M_X6_passForgetting_17 w f (mk_w pe (cp_n S N) 0 0 K G B R) (nI m) (nI d) (nI n) 1 0 = _ from q4]
      simp only [bn_s]
      rw [cf_al g.1 (by omega) q3]
      simp (disch := omega) only [nI_leI, bn_s, nm_s, nI_1, b4]
      rw [if_neg (by omega)]
    · rw [← r4]
      show B_X7_findOdds_45 _ _ _ _ _ _ _ _ _ _ _ _ _ _ = _
      unfold B_X7_findOdds_45
      rw [sl_p hn, rf_st (by omega)]
      simp (disch := omega) only [nI_leI, bn_s]
      rw [if_neg (by omega), show M_X7_findOdds_63 (M_X7_findOdds_45 (nI pe) (nf_a S) e) (nI pe) (nf_a S) e 0 0 (lN ls) (lN wt) (lN (10 ^ n)) (nf_a (cp_n S N)) (nI d) (nI n) (nI q) (nI m) 1 0 = _ from q5, b2, b4, nI_1]
theorem fo_l {n d : Nat} {q : Int32} {ls wt : Int64} (hn : n ≤ 8) : ∀ (k f i : Nat), i + k = n → k + 800 < f → ∃ f2, 700 < f2 ∧ M_X7_findOdds_18 (nI pe) (nf_a S) f x y ls wt (lN (10 ^ i)) (nf_a N) (nI d) (nI n) q (nI i) = M_X7_findOdds_45 (nI pe) (nf_a S) f2 x y ls wt (lN (10 ^ n)) (nf_a N) (nI d) (nI n) q 0 := by
  intro k
  induction k with
  | zero =>
    intro f i hi hf
    obtain ⟨f, rfl⟩ : ∃ g, f = g + 1 := ⟨f - 1, by omega⟩
    refine ⟨f, by omega, ?_⟩
    show B_X7_findOdds_18 _ _ _ _ _ _ _ _ _ _ _ _ _ _ = _
    simp (disch := omega) only [B_X7_findOdds_18, nI_leI]
    rw [if_pos (by omega), show i = n by omega]
  | succ k ih =>
    intro f i hi hf
    obtain ⟨f, rfl⟩ : ∃ g, f = g + 1 := ⟨f - 1, by omega⟩
    obtain ⟨f2, h1, h2⟩ := ih f (i + 1) (by omega) (by omega)
    refine ⟨f2, h1, ?_⟩
    rw [← h2]
    show B_X7_findOdds_18 _ _ _ _ _ _ _ _ _ _ _ _ _ _ = _
    simp (disch := omega) only [B_X7_findOdds_18, nI_leI, nm_s, nI_1]
    rw [if_neg (by omega), show (10 : Int64) = lN 10 from rfl, lN_mul, ← Nat.pow_succ]
theorem op_luck {l1 l2 l3 : Int64} (h : bk_s pe S w v) (hf : 2000 < f) (z1 z2 z3 z4 : Int32) : ∃ r t2 q, M_X6_luck w f t z1 z2 z3 z4 = some (r, t2) ∧ M_X7_luck (nI pe) (nf_a S) f x y l1 l2 l3 (nf_a N) z1 z2 z3 z4 = some (r, q) := by
  unfold M_X6_luck B_X6_luck_0 M_X6_oddsAreTold B_X6_oddsAreTold_0 M_X7_luck B_X7_luck_0
  rw [in_k z1 0 10 0 10 (by decide) (by decide), in_k z2 0 8 0 8 (by decide) (by decide), in_k z3 0 999 0 999 (by decide) (by decide), pa_e]
  rcases wi_c z1 0 10 0 10 rfl rfl (by omega) (by omega) with ⟨d, d1, d2, rfl, e1⟩ | e1
  · rcases wi_c z2 0 8 0 8 rfl rfl (by omega) (by omega) with ⟨n, n1, n2, rfl, e2⟩ | e2
    · rcases wi_c z4 0 1 0 1 rfl rfl (by omega) (by omega) with ⟨m, m1, m2, rfl, e4⟩ | e4
      · rcases wi_c z3 0 999 0 999 rfl rfl (by omega) (by omega) with ⟨q, q1, q2, rfl, e3⟩ | e3
        · rw [e1, e2, e3, e4]
          simp only [bn_s, i1_0]
          obtain ⟨p2, p10, p0⟩ := p2_l n2
          obtain ⟨f2, hf2, ef⟩ := fo_l (pe := pe) (S := S) (N := N) (x := x) (y := y) (n := n) (d := d) (q := nI q) (ls := 0) (wt := 0) n2 n f 0 (by omega) (by omega)
          obtain ⟨ls2, wt2, t2, p, r1, r2, r3, r4⟩ := lu_g (z := nI m) (q := q) h n2 d2 (2 ^ n) f f2 0 0 0 t x y N (by omega) (by omega) (by omega) (Nat.zero_le _) (Nat.zero_le _)
          refine ⟨_, t2, (p.1, p.2.1, lN ls2, lN wt2, lN (10 ^ n), p.2.2), r3, ?_⟩
          have e5 : M_X7_findOdds (nI pe) (nf_a S) f x y l1 l2 l3 (nf_a N) (nI d) (nI n) (nI q) = some (p.1, p.2.1, lN ls2, lN wt2, lN (10 ^ n), p.2.2) := ef.trans r4
          rw [e5]
          simp only [bn_s]
          rw [rf_td r1 (by omega) p0 (by omega)]
          rfl
        · rw [e1, e2, e3, e4]
          exact ⟨_, _, _, rfl, rfl⟩
      · rw [e1, e2, e4, wi_e z3]
        refine ⟨-1, t, (x, y, l1, l2, l3, nf_a N), rfl, ?_⟩
        simp only [bn_s, i1_0, i0_0]
        split <;> rfl
    · rw [e1, e2]
      exact ⟨_, _, _, rfl, rfl⟩
  · rw [e1]
    exact ⟨_, _, _, rfl, rfl⟩
theorem op_mean {l1 l2 l3 : Int64} (h : bk_s pe S w v) (hf : 2000 < f) (z1 z2 z3 : Int32) : ∃ r t2 q, M_X6_mean w f t z1 z2 z3 = some (r, t2) ∧ M_X7_mean (nI pe) (nf_a S) f x y l1 l2 l3 (nf_a N) z1 z2 z3 = some (r, q) := by
  unfold M_X6_mean B_X6_mean_0 M_X6_oddsAreTold B_X6_oddsAreTold_0 M_X7_mean B_X7_mean_0
  rw [in_k z1 0 10 0 10 (by decide) (by decide), in_k z2 0 8 0 8 (by decide) (by decide), pa_e]
  rcases wi_c z1 0 10 0 10 rfl rfl (by omega) (by omega) with ⟨d, d1, d2, rfl, e1⟩ | e1
  · rcases wi_c z2 0 8 0 8 rfl rfl (by omega) (by omega) with ⟨n, n1, n2, rfl, e2⟩ | e2
    · rcases wi_c z3 0 1 0 1 rfl rfl (by omega) (by omega) with ⟨m, m1, m2, rfl, e4⟩ | e4
      · rw [e1, e2, e4]
        simp only [bn_s, i1_0]
        obtain ⟨p2, p10, p0⟩ := p2_l n2
        obtain ⟨f2, hf2, ef⟩ := fo_l (pe := pe) (S := S) (N := N) (x := x) (y := y) (n := n) (d := d) (q := 0) (ls := 0) (wt := 0) n2 n f 0 (by omega) (by omega)
        obtain ⟨ls2, wt2, t2, p, r1, r2, r3, r4⟩ := me_g (z := nI m) (q := 0) h n2 d2 (2 ^ n) f f2 0 0 0 t x y N (by omega) (by omega) (by omega) (Nat.zero_le _) (Nat.zero_le _)
        refine ⟨_, t2, (p.1, p.2.1, lN ls2, lN wt2, lN (10 ^ n), p.2.2), r3, ?_⟩
        have e5 : M_X7_findOdds (nI pe) (nf_a S) f x y l1 l2 l3 (nf_a N) (nI d) (nI n) 0 = some (p.1, p.2.1, lN ls2, lN wt2, lN (10 ^ n), p.2.2) := ef.trans r4
        rw [e5]
        simp only [bn_s]
        rw [rf_td r2 (by omega) p0 (by omega)]
        rfl
      · rw [e1, e2, e4]
        exact ⟨_, _, _, rfl, rfl⟩
    · rw [e1, e2]
      exact ⟨_, _, _, rfl, rfl⟩
  · rw [e1]
    exact ⟨_, _, _, rfl, rfl⟩
end
