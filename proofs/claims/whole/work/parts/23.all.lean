/-! hours in a row, the weight of all -/
theorem gd_wh {pe p he sp : Nat} {a : Nat → Nat} (g : gd_s pe a) (hp : p < pe) : gd_s pe (wh_n pe p (he, sp, a)).2.2 ∧ (wh_n pe p (he, sp, a)).2.2 26 = a 26 ∧ (wh_n pe p (he, sp, a)).2.2 17 = a 17 ∧ (wh_n pe p (he, sp, a)).2.1 ≤ sp + 99 ∧ (wh_n pe p (he, sp, a)).1 ≤ he + 99 := by
  obtain ⟨h5, ⟨h15, h15'⟩, h16, h17, h26, hq, hr⟩ := g
  obtain ⟨q0, q1, q2, q3⟩ := hq p hp
  have el := hl_le (a (3 * p)) (a 16 + min (min (hd_n (a (3 * p))) (a (3 * p + 1))) (a 15 - a 16))
  have ep : min (min (hd_n (a (3 * p))) (a (3 * p + 1))) (a 15 - a 16) ≤ a 15 - a 16 := by omega
  have ep2 : min (min (hd_n (a (3 * p))) (a (3 * p + 1))) (a 15 - a 16) ≤ a (3 * p + 1) := by omega
  simp only [wh_n]
  generalize min (min (hd_n (a (3 * p))) (a (3 * p + 1))) (a 15 - a 16) = put at *
  generalize hl_n (a (3 * p)) (a 16 + put) = much at *
  have oth : ∀ i, i ≠ 16 → (∀ q, q < pe → i ≠ 3 * q + 1) → sl_n pe (a 16 + put - much - a (3 * p + 2)) p (up_n (up_n a (3 * p + 1) (a (3 * p + 1) - put)) 16 (a 16 + put - much)) i = a i := fun i h1 h2 => by
    rw [sl_o pe (by omega) _ _ _ _ h1 h2, up_o h1, up_o (h2 p hp)]
  have g99 := sl_99 pe h5 (by omega) (a 16 + put - much - a (3 * p + 2)) p (up_n (up_n a (3 * p + 1) (a (3 * p + 1) - put)) 16 (a 16 + put - much)) (fun q hq2 => by
    rw [up_o (by omega)]
    by_cases e : q = p
    · rw [e, up_s]; omega
    · rw [up_o (by omega)]; exact (hq q hq2).2.1)
  have e16 := sl_16 pe h5 (by omega) (a 16 + put - much - a (3 * p + 2)) p (up_n (up_n a (3 * p + 1) (a (3 * p + 1) - put)) 16 (a 16 + put - much))
  rw [up_s] at e16
  refine ⟨⟨h5, ?_, ?_, ?_, ?_, fun q hq2 => ⟨?_, g99 q hq2, ?_⟩, fun i hi => ?_⟩, ?_, ?_, ?_, ?_⟩
  · rw [oth 15 (by omega) (by omega)]; exact ⟨h15, h15'⟩
  · rw [e16]; omega
  · rw [oth 17 (by omega) (by omega)]; exact h17
  · rw [oth 26 (by omega) (by omega)]; exact h26
  · rw [oth _ (by omega) (by omega)]; exact (hq q hq2).1
  · rw [oth _ (by omega) (by omega)]; exact (hq q hq2).2.2
  · rw [oth 17 (by omega) (by omega)] at hi
    rw [oth _ (by omega) (by omega)]; exact hr i hi
  · exact oth 26 (by omega) (by omega)
  · exact oth 17 (by omega) (by omega)
  · omega
  · omega
/-- an hour -/
def hr_y (pe : Nat) (x : Nat × Nat × (Nat → Nat)) : Nat × Nat × (Nat → Nat) := if x.2.2 17 = 0 then x else wh_n pe (x.2.2 (18 + x.2.2 26 % x.2.2 17)) x
def hr_n (pe : Nat) (x : Nat × Nat × (Nat → Nat)) : Nat × Nat × (Nat → Nat) := ((hr_y pe x).1, (hr_y pe x).2.1, up_n (hr_y pe x).2.2 26 ((hr_y pe x).2.2 26 + 1))
theorem gd_26 {pe v : Nat} {a : Nat → Nat} (g : gd_s pe a) (hv : v ≤ 2000) : gd_s pe (up_n a 26 v) := by
  obtain ⟨h5, h15, h16, h17, h26, hq, hr⟩ := g
  refine ⟨h5, ?_, ?_, ?_, ?_, fun q hq2 => ?_, fun i hi => ?_⟩
  · rw [up_o (by omega)]; exact h15
  · rw [up_o (by omega)]; exact h16
  · rw [up_o (by omega)]; exact h17
  · rw [up_s]; exact hv
  · rw [up_o (by omega), up_o (by omega), up_o (by omega)]; exact hq q hq2
  · rw [up_o (by omega)] at hi
    rw [up_o (by omega)]; exact hr i hi
theorem gd_hy {pe he sp : Nat} {a : Nat → Nat} (g : gd_s pe a) : gd_s pe (hr_y pe (he, sp, a)).2.2 ∧ (hr_y pe (he, sp, a)).2.2 26 = a 26 ∧ (hr_y pe (he, sp, a)).2.2 17 = a 17 ∧ (hr_y pe (he, sp, a)).2.1 ≤ sp + 99 ∧ (hr_y pe (he, sp, a)).1 ≤ he + 99 := by
  unfold hr_y
  by_cases h : a 17 = 0
  · simp only [h, if_true]
    exact ⟨g, trivial, trivial, by omega, by omega⟩
  · simp only [h, if_false]
    exact gd_wh g (g.2.2.2.2.2.2 _ (Nat.mod_lt _ (by omega)))
theorem gd_hr {pe he sp : Nat} {a : Nat → Nat} (g : gd_s pe a) (h : a 26 < 2000) : gd_s pe (hr_n pe (he, sp, a)).2.2 ∧ (hr_n pe (he, sp, a)).2.2 26 = a 26 + 1 ∧ (hr_n pe (he, sp, a)).2.2 17 = a 17 ∧ (hr_n pe (he, sp, a)).2.1 ≤ sp + 99 ∧ (hr_n pe (he, sp, a)).1 ≤ he + 99 := by
  obtain ⟨g1, g2, g3, g4, g5⟩ := gd_hy (he := he) (sp := sp) g
  unfold hr_n
  refine ⟨gd_26 g1 (by omega), ?_, ?_, g4, g5⟩
  · simp only [up_s]; omega
  · simp only [up_o (show (17 : Nat) ≠ 26 by omega)]; exact g3
theorem rf_tn {pe : Nat} {a : Nat → Nat} (g : gd_s pe a) : M_X7_turnNow (nf_a a) = some (if a 17 = 0 then (-4) else nI (a (18 + a 26 % a 17))) := by
  obtain ⟨h5, h15, h16, h17, h26, hq, hr⟩ := g
  simp (disch := omega) only [M_X7_turnNow, B_X7_turnNow_0, nl_l, gi_k, nf_e, nI_clamp, nI_eq]
  by_cases h : a 17 = 0
  · rw [if_pos h, if_pos h]
  · have hm : a 26 % a 17 < a 17 := Nat.mod_lt _ (by omega)
    rw [if_neg h, if_neg h]
    simp (disch := omega) only [gz_k, pk_rem, nI_add, gi_k, nI_clamp]
theorem n4_ne {n : Nat} (h : n < 2 ^ 30) : ¬ nI n = -4 := by
  intro e
  have e2 := congrArg Int32.toInt e
  rw [nI_toInt (by omega)] at e2
  have e3 : (-4 : Int32).toInt = -4 := by decide
  omega
theorem rf_hr {pe f he sp : Nat} {a : Nat → Nat} (g : gd_s pe a) (hf : 200 < f) : M_X7_hourGoes (nI pe) f (nI he) (nI sp) (nf_a a) = some (nI (hr_n pe (he, sp, a)).1, nI (hr_n pe (he, sp, a)).2.1, nf_a (hr_n pe (he, sp, a)).2.2) := by
  have g0 := g
  obtain ⟨h5, h15, h16, h17, h26, hq, hr⟩ := g0
  rw [M_X7_hourGoes, B_X7_hourGoes_0, rf_tn g, bn_s]
  unfold hr_n hr_y
  by_cases h : a 17 = 0
  · simp (disch := omega) only [h, if_true, nl_l, gi_k, nm_s, nf_e, nI_clamp, nI_add, nf_u]
  · have hm := hr _ (Nat.mod_lt (a 26) (show 0 < a 17 by omega))
    rw [if_neg h, if_neg (n4_ne (by omega)), rf_wh g hm hf, bn_s]
    simp (disch := omega) only [h, if_false, nl_l, gi_k, nm_s, nf_e, nI_clamp, nI_add, nf_u]
theorem cf_ws {pe he sp : Nat} {a : Nat → Nat} {K G B R : Nat → Int32} (g : gd_s pe a) (pt : pt_w pe a K G B R) : M_X5_whose (mk_w pe a he sp K G B R) = some (if a 17 = 0 then (-4) else nI (a (18 + a 26 % a 17))) := by
  obtain ⟨h5, h15, h16, h17, h26, hq, hr⟩ := g
  simp (disch := omega) only [M_X5_whose, B_X5_whose_0, nl_l, nI_leI]
  by_cases h : a 17 = 0
  · rw [if_pos (by omega), if_pos h]
  · have hm : a 26 % a 17 < a 17 := Nat.mod_lt _ (by omega)
    rw [if_neg (by omega), if_neg h]
    simp (disch := omega) only [gz_k, pk_rem, gi_k, nI_clamp, pt.2 _ hm]
theorem cf_hr {pe f he sp : Nat} {a : Nat → Nat} {K G B R : Nat → Int32} (g : gd_s pe a) (hf : 200 < f) (pt : pt_w pe a K G B R) : ∃ G2 : Nat → Int32, M_X5_passOne f (mk_w pe a he sp K G B R) = some (mk_w pe (hr_n pe (he, sp, a)).2.2 (hr_n pe (he, sp, a)).1 (hr_n pe (he, sp, a)).2.1 K G2 B R) ∧ pt_w pe (hr_n pe (he, sp, a)).2.2 K G2 B R := by
  have g0 := g
  obtain ⟨h5, h15, h16, h17, h26, hq, hr⟩ := g0
  rw [M_X5_passOne, B_X5_passOne_0, cf_ws g pt, bn_s]
  have key : ∀ (y : Nat × Nat × (Nat → Nat)) (G2 : Nat → Int32), y.2.2 17 ≤ 8 → pt_w pe y.2.2 K G2 B R → pt_w pe (up_n y.2.2 26 (y.2.2 26 + 1)) K G2 B R := by
    intro y G2 h8 h
    refine ⟨fun q hq2 => ?_, fun i hi => ?_⟩
    · rw [up_o (by omega), up_o (by omega), up_o (by omega)]; exact h.1 q hq2
    · rw [up_o (by omega)] at hi
      rw [up_o (by omega)]; exact h.2 i hi
  obtain ⟨g1, g2, g3, -, -⟩ := gd_hy (he := he) (sp := sp) g
  have e8 : (hr_y pe (he, sp, a)).2.2 17 ≤ 8 := by omega
  have fin : ∀ G2 : Nat → Int32, pt_w pe (hr_y pe (he, sp, a)).2.2 K G2 B R → ∃ G3 : Nat → Int32, (some (mk_w pe (hr_y pe (he, sp, a)).2.2 (hr_y pe (he, sp, a)).1 (hr_y pe (he, sp, a)).2.1 K G2 B R)).bind (fun u5 => nm_v (u5.2.2.2.2.1 + 1) (fun z15 => some (u5.1, u5.2.1, u5.2.2.1, u5.2.2.2.1, z15, u5.2.2.2.2.2.1, u5.2.2.2.2.2.2.1, u5.2.2.2.2.2.2.2.1, u5.2.2.2.2.2.2.2.2.1, u5.2.2.2.2.2.2.2.2.2.1, u5.2.2.2.2.2.2.2.2.2.2))) = some (mk_w pe (hr_n pe (he, sp, a)).2.2 (hr_n pe (he, sp, a)).1 (hr_n pe (he, sp, a)).2.1 K G3 B R) ∧ pt_w pe (hr_n pe (he, sp, a)).2.2 K G3 B R := by
    intro G2 h
    refine ⟨G2, ?_, key _ _ e8 h⟩
    unfold hr_n
    simp (disch := omega) only [bn_s, nm_s, nI_1, mk_w, up_o, up_s]
  by_cases h : a 17 = 0
  · have hy : hr_y pe (he, sp, a) = (he, sp, a) := by unfold hr_y; simp only [h, if_true]
    have hw : M_X5_wheel f (mk_w pe a he sp K G B R) (-4) = some (mk_w pe a he sp K G B R) := by
      unfold M_X5_wheel B_X5_wheel_0 M_X5_has B_X5_has_0
      rfl
    rw [if_pos h, hw]
    have := fin G (by rw [hy]; exact pt)
    rw [hy] at this
    exact this
  · have hy : hr_y pe (he, sp, a) = wh_n pe (a (18 + a 26 % a 17)) (he, sp, a) := by unfold hr_y; simp only [h, if_false]
    have hm := hr _ (Nat.mod_lt (a 26) (show 0 < a 17 by omega))
    obtain ⟨G2, e2, p2⟩ := cf_wh (he := he) (sp := sp) g hm hf pt
    rw [if_neg h, e2]
    have := fin G2 (by rw [hy]; exact p2)
    rw [hy] at this
    exact this
/-- hours in a row -/
def hs_n (pe : Nat) : Nat → Nat × Nat × (Nat → Nat) → Nat × Nat × (Nat → Nat)
  | 0, x => x
  | n + 1, x => hs_n pe n (hr_n pe x)
theorem gd_hs {pe : Nat} : ∀ (n he sp : Nat) (a : Nat → Nat), gd_s pe a → a 26 + n ≤ 2000 → gd_s pe (hs_n pe n (he, sp, a)).2.2 ∧ (hs_n pe n (he, sp, a)).2.2 26 = a 26 + n ∧ (hs_n pe n (he, sp, a)).2.2 17 = a 17 ∧ (hs_n pe n (he, sp, a)).2.1 ≤ sp + 99 * n ∧ (hs_n pe n (he, sp, a)).1 ≤ he + 99 * n := by
  intro n
  induction n with
  | zero => intro he sp a g h; exact ⟨g, rfl, rfl, by simp [hs_n], by simp [hs_n]⟩
  | succ n ih =>
    intro he sp a g h
    obtain ⟨g1, g2, g3, g4, g5⟩ := gd_hr (he := he) (sp := sp) g (by omega)
    obtain ⟨i1, i2, i3, i4, i5⟩ := ih (hr_n pe (he, sp, a)).1 (hr_n pe (he, sp, a)).2.1 (hr_n pe (he, sp, a)).2.2 g1 (by omega)
    rw [hs_n]
    exact ⟨i1, i2.trans (by omega), i3.trans g3, Nat.le_trans i4 (by omega), Nat.le_trans i5 (by omega)⟩
theorem rf_hs {pe m : Nat} (hm : m < 2 ^ 30) : ∀ (n f i he sp : Nat) (a : Nat → Nat), gd_s pe a → a 26 + n ≤ 2000 → n + 200 < f → i + n = m → M_X7_hoursGo_2 (nI pe) f (nI he) (nI sp) (nf_a a) (nI m) (nI i) = some (nI (hs_n pe n (he, sp, a)).1, nI (hs_n pe n (he, sp, a)).2.1, nf_a (hs_n pe n (he, sp, a)).2.2) := by
  intro n
  induction n with
  | zero =>
    intro f i he sp a g h hf hi
    obtain ⟨f, rfl⟩ : ∃ g, f = g + 1 := ⟨f - 1, by omega⟩
    show B_X7_hoursGo_2 _ _ _ _ _ _ _ _ = _
    simp (disch := omega) only [B_X7_hoursGo_2, nI_leI]
    rw [if_pos (by omega)]
    rfl
  | succ n ih =>
    intro f i he sp a g h hf hi
    obtain ⟨f, rfl⟩ : ∃ g, f = g + 1 := ⟨f - 1, by omega⟩
    obtain ⟨g1, g2, g3, g4, g5⟩ := gd_hr (he := he) (sp := sp) g (by omega)
    show B_X7_hoursGo_2 _ _ _ _ _ _ _ _ = _
    simp (disch := omega) only [B_X7_hoursGo_2, nI_leI]
    rw [if_neg (by omega), rf_hr g (by omega), bn_s, nI_1, ih f (i + 1) _ _ _ g1 (by omega) (by omega) (by omega)]
    rfl
theorem rf_hg {pe n f he sp : Nat} {a : Nat → Nat} (g : gd_s pe a) (h : a 26 + n ≤ 2000) (hf : n + 200 < f) : M_X7_hoursGo (nI pe) f (nI he) (nI sp) (nf_a a) (nI n) = some (nI (hs_n pe n (he, sp, a)).1, nI (hs_n pe n (he, sp, a)).2.1, nf_a (hs_n pe n (he, sp, a)).2.2) := rf_hs (by omega) n f 0 he sp a g h hf (by omega)
theorem cf_hs {pe m : Nat} {K B R : Nat → Int32} (hm : m < 2 ^ 30) : ∀ (n f i he sp : Nat) (a : Nat → Nat) (G : Nat → Int32), gd_s pe a → a 26 + n ≤ 2000 → n + 200 < f → i + n = m → pt_w pe a K G B R → ∃ G2 : Nat → Int32, M_X5_pass_12 f (mk_w pe a he sp K G B R) (nI m) (nI i) = some (mk_w pe (hs_n pe n (he, sp, a)).2.2 (hs_n pe n (he, sp, a)).1 (hs_n pe n (he, sp, a)).2.1 K G2 B R) ∧ pt_w pe (hs_n pe n (he, sp, a)).2.2 K G2 B R := by
  intro n
  induction n with
  | zero =>
    intro f i he sp a G g h hf hi pt
    obtain ⟨f, rfl⟩ : ∃ g, f = g + 1 := ⟨f - 1, by omega⟩
    refine ⟨G, ?_, pt⟩
    show B_X5_pass_12 _ _ _ _ _ = _
    simp (disch := omega) only [B_X5_pass_12, nI_leI]
    rw [if_pos (by omega)]
    rfl
  | succ n ih =>
    intro f i he sp a G g h hf hi pt
    obtain ⟨f, rfl⟩ : ∃ g, f = g + 1 := ⟨f - 1, by omega⟩
    obtain ⟨g1, g2, g3, g4, g5⟩ := gd_hr (he := he) (sp := sp) g (by omega)
    obtain ⟨G2, e2, p2⟩ := cf_hr (f := f) (he := he) (sp := sp) g (by omega) pt
    obtain ⟨G3, e3, p3⟩ := ih f (i + 1) _ _ _ G2 g1 (by omega) (by omega) (by omega) p2
    refine ⟨G3, ?_, p3⟩
    show B_X5_pass_12 _ _ _ _ _ = _
    simp (disch := omega) only [B_X5_pass_12, nI_leI]
    rw [if_neg (by omega), e2, bn_s, nI_1]
    exact e3
theorem cf_pa {pe n f he sp : Nat} {a : Nat → Nat} {K G B R : Nat → Int32} (g : gd_s pe a) (h : a 26 + n ≤ 2000) (hf : n + 200 < f) (pt : pt_w pe a K G B R) : ∃ G2 : Nat → Int32, M_X5_pass f (mk_w pe a he sp K G B R) (nI n) = some (mk_w pe (hs_n pe n (0, 0, a)).2.2 (hs_n pe n (0, 0, a)).1 (hs_n pe n (0, 0, a)).2.1 K G2 B R) ∧ pt_w pe (hs_n pe n (0, 0, a)).2.2 K G2 B R := cf_hs (by omega) n f 0 0 0 a G g h hf (by omega) pt
/-- a sum -/
def sr_n (g : Nat → Nat) : Nat → Nat → Nat
  | _, 0 => 0
  | i, n + 1 => g i + sr_n g (i + 1) n
def al_n (pe : Nat) (a : Nat → Nat) : Nat := sr_n (fun q => a (3 * q + 1)) 0 pe + a 16
theorem sr_le {g : Nat → Nat} {m : Nat} : ∀ (n i : Nat), (∀ q, q < i + n → g q ≤ m) → sr_n g i n ≤ m * n := by
  intro n
  induction n with
  | zero => intro i h; simp [sr_n]
  | succ n ih =>
    intro i h
    have h1 := ih (i + 1) (fun q hq => h q (by omega))
    have h2 := h i (by omega)
    rw [sr_n, Nat.mul_succ]; omega
theorem cf_sm {N n : Nat} {A : Nat → Int32} {g : Nat → Nat} (hn : n ≤ N) (hN : N < 1000) (hA : ∀ q, q < n → A q = nI (g q)) : ∀ (k f i s : Nat), i + k = n → k < f → M_X5_sum_4 N A f (nI n) (nI s) (nI i) = some (nI (s + sr_n g i k)) := by
  intro k
  induction k with
  | zero =>
    intro f i s hi hf
    obtain ⟨f, rfl⟩ : ∃ g, f = g + 1 := ⟨f - 1, by omega⟩
    show B_X5_sum_4 _ _ _ _ _ _ _ = _
    simp (disch := omega) only [B_X5_sum_4, nI_leI]
    rw [if_pos (by omega)]
    rfl
  | succ k ih =>
    intro f i s hi hf
    obtain ⟨f, rfl⟩ : ∃ g, f = g + 1 := ⟨f - 1, by omega⟩
    show B_X5_sum_4 _ _ _ _ _ _ _ = _
    simp (disch := omega) only [B_X5_sum_4, nI_leI, gi_k, nI_clamp, hA, nI_add, nm_s, nI_1]
    rw [if_neg (by omega), ih f (i + 1) _ (by omega) (by omega), sr_n, Nat.add_assoc]
theorem cf_al {pe f he sp : Nat} {a : Nat → Nat} {K G B R : Nat → Int32} (h5 : pe ≤ 5) (hf : 200 < f) (pt : pt_w pe a K G B R) : M_X5_all (mk_w pe a he sp K G B R) f = some (nI (al_n pe a)) := by
  rw [M_X5_all, B_X5_all_0, M_X5_sum, B_X5_sum_0]
  have e := cf_sm (N := 5) (n := pe) (A := G) (g := fun q => a (3 * q + 1)) h5 (by omega) (fun q hq => (pt.1 q hq).2.1) pe f 0 0 (by omega) (by omega)
  simp only [nl_l] at *
  rw [e, bn_s, nI_add, Nat.zero_add]
  rfl
theorem rf_aw {pe : Nat} {a : Nat → Nat} (h5 : pe ≤ 5) : ∀ (k f i s : Nat), i + k = pe → k < f → M_X7_weightOfAll_10 (nI pe) (nf_a a) f (nI s) (nI i) = some (nI (s + sr_n (fun q => a (3 * q + 1)) i k)) := by
  intro k
  induction k with
  | zero =>
    intro f i s hi hf
    obtain ⟨f, rfl⟩ : ∃ g, f = g + 1 := ⟨f - 1, by omega⟩
    show B_X7_weightOfAll_10 _ _ _ _ _ _ = _
    simp (disch := omega) only [B_X7_weightOfAll_10, nI_leI]
    rw [if_pos (by omega)]
    rfl
  | succ k ih =>
    intro f i s hi hf
    obtain ⟨f, rfl⟩ : ∃ g, f = g + 1 := ⟨f - 1, by omega⟩
    show B_X7_weightOfAll_10 _ _ _ _ _ _ = _
    simp (disch := omega) only [B_X7_weightOfAll_10, nI_leI, nl_l, rf_of, bn_s, nI_add, nm_s]
    rw [if_neg (by omega), ih f (i + 1) _ (by omega) (by omega), sr_n, Nat.add_assoc]
theorem rf_al {pe f : Nat} {a : Nat → Nat} (h5 : pe ≤ 5) (hf : 200 < f) : M_X7_weightOfAll (nI pe) (nf_a a) f = some (nI (al_n pe a)) := by
  have e := rf_aw (a := a) h5 pe f 0 (a 16) (by omega) (by omega)
  simp (disch := omega) only [M_X7_weightOfAll, B_X7_weightOfAll_0, nl_l, gi_k, nm_s, nf_e, nI_clamp]
  rw [e, Nat.add_comm]
  rfl
theorem al_b {pe : Nat} {a : Nat → Nat} (g : gd_s pe a) : al_n pe a ≤ 594 := by
  obtain ⟨h5, h15, h16, h17, h26, hq, hr⟩ := g
  have := sr_le (g := fun q => a (3 * q + 1)) (m := 99) pe 0 (fun q hq2 => (hq q (by omega)).2.1)
  unfold al_n
  omega
