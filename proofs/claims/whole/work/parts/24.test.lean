/-! tests of arguments; what is copied -/
theorem wi_e (v lo hi : Int32) : M_X6_within v lo hi = some (if lo ≤ v ∧ v ≤ hi then 1 else 0) := by
  unfold M_X6_within B_X6_within_0
  by_cases h1 : v < lo
  · rw [if_pos h1, if_neg (fun h => by
      have := h.1
      simp only [Int32.lt_iff_toInt_lt, Int32.le_iff_toInt_le] at *
      omega)]
  · rw [if_neg h1]
    by_cases h2 : hi < v
    · rw [if_pos h2, if_neg (fun h => by
        have := h.2
        simp only [Int32.lt_iff_toInt_lt, Int32.le_iff_toInt_le] at *
        omega)]
    · rw [if_neg h2, if_pos (by
        simp only [Int32.lt_iff_toInt_lt, Int32.le_iff_toInt_le] at *
        omega)]
theorem lg_lt (x y : Int32) : lg_cmp x.toInt64 y.toInt64 < 0 ↔ x < y := by
  have h : ¬ (0 ≤ lg_cmp x.toInt64 y.toInt64) ↔ ¬ y.toInt64 ≤ x.toInt64 := not_congr (lg_cmp_ge _ _)
  simp only [Int32.lt_iff_toInt_lt, Int32.le_iff_toInt_le, Int64.le_iff_toInt_le, Int32.toInt_toInt64] at *
  omega
theorem lg_gt (x y : Int32) : 0 < lg_cmp x.toInt64 y.toInt64 ↔ y < x := by
  unfold lg_cmp
  simp only [gt_iff_lt, Int64.lt_iff_toInt_lt, ← Int64.toInt_inj, Int32.toInt_toInt64, Int32.lt_iff_toInt_lt]
  by_cases h : y.toInt < x.toInt
  · rw [if_pos h]; exact ⟨fun _ => h, fun _ => by decide⟩
  · rw [if_neg h]
    refine ⟨fun q => ?_, fun q => absurd q h⟩
    exfalso
    split at q
    · exact absurd q (by decide)
    · exact absurd q (by decide)
theorem in_e (v lo hi : Int32) : M_X7_in v.toInt64 lo.toInt64 hi.toInt64 = M_X6_within v lo hi := by
  unfold M_X7_in B_X7_in_0 M_X6_within B_X6_within_0
  simp only [lg_lt, lg_gt]
theorem in_k (v : Int32) (lo hi : Int32) (lo2 hi2 : Int64) (h1 : lo2 = lo.toInt64) (h2 : hi2 = hi.toInt64) : M_X7_in v.toInt64 lo2 hi2 = M_X6_within v lo hi := by rw [h1, h2, in_e]
/-- an argument between two naturals, or not -/
theorem wi_c (v lo hi : Int32) (a b : Nat) (h1 : lo = nI a) (h2 : hi = nI b) (hb : b < 2 ^ 31) (ha : a < 2 ^ 31) : (∃ n, a ≤ n ∧ n ≤ b ∧ v = nI n ∧ M_X6_within v lo hi = some 1) ∨ M_X6_within v lo hi = some 0 := by
  rw [wi_e]
  by_cases h : lo ≤ v ∧ v ≤ hi
  · left
    obtain ⟨x, hx, rfl⟩ : ∃ j : Nat, j < 2 ^ 31 ∧ v = nI j := nI_of (fun q => by
      have hh := h.1
      rw [h1] at hh
      have h0 := nI_pos' ha
      simp only [Int32.lt_iff_toInt_lt, Int32.le_iff_toInt_le] at *
      omega)
    rw [h1, h2, nI_leI ha hx, nI_leI hx hb] at h
    exact ⟨x, h.1, h.2, rfl, by rw [if_pos]; rw [h1, h2, nI_leI ha hx, nI_leI hx hb]; exact h⟩
  · right; rw [if_neg h]
theorem gq_1 {α : Type} (E : Option α) : gq_b 1 E = E := rfl
theorem gq_0 {α : Type} (E : Option α) : gq_b 0 E = E := rfl
/-- a one, or not -/
theorem on_c (v : Int32) {pe : Nat} (h5 : pe ≤ 5) : (∃ p, p < pe ∧ v = nI p ∧ (∀ w : s_W, w.1 = nI pe → M_X5_has w v = some 1) ∧ M_X7_isOne (nI pe) v = some 1) ∨ ((∀ w : s_W, w.1 = nI pe → M_X5_has w v = some 0) ∧ M_X7_isOne (nI pe) v = some 0) := by
  have hin : M_X7_isOne (nI pe) v = (M_X6_within v 0 (nI pe - 1)).bind (fun u10 => gq_b u10 (some u10)) := by
    unfold M_X7_isOne B_X7_isOne_0
    rw [in_k v 0 (nI pe - 1) 0 _ (by decide) rfl]
  rcases pk_ix v (n := pe) (by omega) with h | h | ⟨j, hj, rfl⟩
  · right
    refine ⟨fun w hw => ?_, ?_⟩
    · unfold M_X5_has B_X5_has_0
      rw [if_pos h]
    · rw [hin, wi_e, if_neg (fun q => by
        have := q.1
        simp only [Int32.lt_iff_toInt_lt, Int32.le_iff_toInt_le] at *
        omega)]
      rfl
  · right
    refine ⟨fun w hw => ?_, ?_⟩
    · unfold M_X5_has B_X5_has_0
      rw [hw, if_pos h]
      split <;> rfl
    · rw [hin, wi_e, if_neg (fun q => by
        have q2 := q.2
        have hp : (nI pe - 1).toInt = (pe : Int) - 1 := by
          have := pk_sub_toInt (a := pe) (b := 1) (by omega) (by omega)
          exact this
        have hn := nI_toInt (n := pe) (by omega)
        simp only [Int32.lt_iff_toInt_lt, Int32.le_iff_toInt_le] at *
        omega)]
      rfl
  · left
    refine ⟨j, hj, rfl, fun w hw => ?_, ?_⟩
    · rw [cf_has hw h5 (by omega), if_pos hj]
    · rw [hin, show (1 : Int32) = nI 1 from rfl, pk_sub (by omega), wi_e, if_pos ⟨nI_pos' (by omega), (nI_leI (by omega) (by omega)).mpr (by omega)⟩]
      rfl
theorem pa_e (v : Int32) : M_X7_isPart v = M_X6_within v 0 1 := by
  unfold M_X7_isPart B_X7_isPart_0
  rw [in_k v 0 1 0 1 (by decide) (by decide), wi_e]
  split <;> rfl
theorem fa_e (v : Int32) : M_X7_isFar v = M_X6_within v 0 60 := by
  unfold M_X7_isFar B_X7_isFar_0
  rw [in_k v 0 60 0 60 (by decide) (by decide), wi_e]
  split <;> rfl
/-- every int is a natural's; every row of ints a row of naturals' -/
theorem nI_ex (x : Int32) : ∃ n : Nat, x = nI n := ⟨x.toBitVec.toNat, by
  apply Int32.toBitVec_inj.mp
  simp [nI, Int32.toBitVec_ofNat]⟩
theorem nf_ex (f : Nat → Int32) : ∃ a : Nat → Nat, f = nf_a a := ⟨fun i => (f i).toBitVec.toNat, by
  funext i
  apply Int32.toBitVec_inj.mp
  simp [nf_a, nI, Int32.toBitVec_ofNat]⟩
/-- the first 46 of a row, the rest of another -/
def cp_n (a b : Nat → Nat) : Nat → Nat := fun k => if k < 46 then a k else b k
theorem cp_i {a b : Nat → Nat} {i : Nat} (h : i < 46) : cp_n a b i = a i := if_pos h
theorem cp_o {a b : Nat → Nat} {i : Nat} (h : 46 ≤ i) : cp_n a b i = b i := if_neg (by omega)
theorem rf_s2 {S : Nat → Nat} {x y : Int32} : ∀ (k f i : Nat) (N : Nat → Nat), i + k = 46 → k < f → M_X7_starts_2 (nf_a S) f x y (nf_a N) (nI i) = some (0, 0, nf_a (fun j => if i ≤ j ∧ j < 46 then S j else N j)) := by
  intro k
  induction k with
  | zero =>
    intro f i N hi hf
    obtain ⟨f, rfl⟩ : ∃ g, f = g + 1 := ⟨f - 1, by omega⟩
    show B_X7_starts_2 _ _ _ _ _ _ _ = _
    simp (disch := omega) only [B_X7_starts_2, nl_l, nI_leI]
    rw [if_pos (by omega)]
    congr 4
    funext j
    rw [if_neg (by omega)]
  | succ k ih =>
    intro f i N hi hf
    obtain ⟨f, rfl⟩ : ∃ g, f = g + 1 := ⟨f - 1, by omega⟩
    show B_X7_starts_2 _ _ _ _ _ _ _ = _
    simp (disch := omega) only [B_X7_starts_2, nl_l, nI_leI, gi_k, nI_clamp, nm_s, nf_e, nf_u, nI_add]
    rw [if_neg (by omega), ih f (i + 1) _ (by omega) (by omega)]
    congr 4
    funext j
    by_cases e : j = i
    · subst e
      rw [if_neg (by omega), up_s, if_pos (by omega)]
    · rw [up_o e]
      by_cases e2 : i + 1 ≤ j ∧ j < 46
      · rw [if_pos e2, if_pos (by omega)]
      · rw [if_neg e2, if_neg (by omega)]
theorem rf_st {S N : Nat → Nat} {x y : Int32} {f : Nat} (hf : 50 < f) : M_X7_starts (nf_a S) f x y (nf_a N) = some (0, 0, nf_a (cp_n S N)) := by
  have e := rf_s2 (S := S) (x := x) (y := y) 46 f 0 N (by omega) (by omega)
  unfold M_X7_starts B_X7_starts_0
  rw [show (0 : Int32) = nI 0 from rfl, e]
  congr 4
  funext j
  unfold cp_n
  by_cases h : j < 46
  · rw [if_pos h, if_pos ⟨by omega, h⟩]
  · rw [if_neg h, if_neg (by omega)]
theorem rf_t2 {N : Nat → Nat} : ∀ (k f i : Nat) (S : Nat → Nat), i + k = 46 → k < f → M_X7_settles_2 (nf_a N) f (nf_a S) (nI i) = some (nf_a (fun j => if i ≤ j ∧ j < 46 then N j else S j)) := by
  intro k
  induction k with
  | zero =>
    intro f i N hi hf
    obtain ⟨f, rfl⟩ : ∃ g, f = g + 1 := ⟨f - 1, by omega⟩
    show B_X7_settles_2 _ _ _ _ _ = _
    simp (disch := omega) only [B_X7_settles_2, nl_l, nI_leI]
    rw [if_pos (by omega)]
    congr 2
    funext j
    rw [if_neg (by omega)]
  | succ k ih =>
    intro f i S hi hf
    obtain ⟨f, rfl⟩ : ∃ g, f = g + 1 := ⟨f - 1, by omega⟩
    show B_X7_settles_2 _ _ _ _ _ = _
    simp (disch := omega) only [B_X7_settles_2, nl_l, nI_leI, gi_k, nI_clamp, nm_s, nf_e, nf_u, nI_add]
    rw [if_neg (by omega), ih f (i + 1) _ (by omega) (by omega)]
    congr 2
    funext j
    by_cases e : j = i
    · subst e
      rw [if_neg (by omega), up_s, if_pos (by omega)]
    · rw [up_o e]
      by_cases e2 : i + 1 ≤ j ∧ j < 46
      · rw [if_pos e2, if_pos (by omega)]
      · rw [if_neg e2, if_neg (by omega)]
theorem rf_tl {S N : Nat → Nat} {f : Nat} (hf : 50 < f) : M_X7_settles (nf_a N) f (nf_a S) = some (nf_a (cp_n N S)) := by
  have e := rf_t2 (N := N) 46 f 0 S (by omega) (by omega)
  unfold M_X7_settles B_X7_settles_0
  rw [show (0 : Int32) = nI 0 from rfl, e]
  congr 2
  funext j
  unfold cp_n
  by_cases h : j < 46
  · rw [if_pos h, if_pos ⟨by omega, h⟩]
  · rw [if_neg h, if_neg (by omega)]
/-- what holds of a state holds of one that is the same in its first 46 -/
theorem gd_cg {pe : Nat} {a b : Nat → Nat} (h : ∀ i, i < 46 → b i = a i) (g : gd_s pe a) : gd_s pe b := by
  obtain ⟨h5, h15, h16, h17, h26, hq, hr⟩ := g
  refine ⟨h5, ?_, ?_, ?_, ?_, fun q hq2 => ?_, fun i hi => ?_⟩
  · rw [h 15 (by omega)]; exact h15
  · rw [h 16 (by omega)]; exact h16
  · rw [h 17 (by omega)]; exact h17
  · rw [h 26 (by omega)]; exact h26
  · rw [h (3 * q) (by omega), h (3 * q + 1) (by omega), h (3 * q + 2) (by omega)]; exact hq q hq2
  · rw [h 17 (by omega)] at hi
    rw [h (18 + i) (by omega)]; exact hr i hi
theorem pt_cg {pe : Nat} {a b : Nat → Nat} {K G B R : Nat → Int32} (g : gd_s pe a) (h : ∀ i, i < 46 → b i = a i) (pt : pt_w pe a K G B R) : pt_w pe b K G B R := by
  obtain ⟨h5, h15, h16, h17, h26, hq, hr⟩ := g
  refine ⟨fun q hq2 => ?_, fun i hi => ?_⟩
  · rw [h (3 * q) (by omega), h (3 * q + 1) (by omega), h (3 * q + 2) (by omega)]; exact pt.1 q hq2
  · rw [h 17 (by omega)] at hi
    rw [h (18 + i) (by omega)]; exact pt.2 i hi
theorem mk_cg {pe he sp : Nat} {a b : Nat → Nat} {K G B R : Nat → Int32} (h : ∀ i, i < 46 → b i = a i) : mk_w pe b he sp K G B R = mk_w pe a he sp K G B R := by
  unfold mk_w
  rw [h 17 (by omega), h 15 (by omega), h 16 (by omega), h 26 (by omega)]
theorem cf_bc {pe he sp : Nat} {a : Nat → Nat} {K G B R : Nat → Int32} (g : gd_s pe a) (pt : pt_w pe a K G B R) (t : s_W) : ∃ K2 G2 B2 R2 : Nat → Int32, M_X5_become (mk_w pe a he sp K G B R) t = some (mk_w pe a 0 0 K2 G2 B2 R2) ∧ pt_w pe a K2 G2 B2 R2 := by
  obtain ⟨h5, h15, h16, h17, h26, hq, hr⟩ := g
  refine ⟨_, _, _, _, rfl, fun q hq2 => ?_, fun i hi => ?_⟩
  · have e0 : (0 : Int32).toNatClampNeg = 0 := rfl
    have e5 : (5 : Int32).toNatClampNeg = 5 := rfl
    simp only [e0, e5]
    rw [pk_cpy_in (by omega) (by omega), pk_cpy_in (by omega) (by omega), pk_cpy_in (by omega) (by omega)]
    simp only [Nat.zero_add, Nat.sub_zero]
    exact pt.1 q hq2
  · have e0 : (0 : Int32).toNatClampNeg = 0 := rfl
    have e8 : (8 : Int32).toNatClampNeg = 8 := rfl
    simp only [e0, e8]
    rw [pk_cpy_in (by omega) (by omega)]
    simp only [Nat.zero_add, Nat.sub_zero]
    exact pt.2 i hi
/-- hours leave what is behind the hour -/
theorem fr_wh {pe p he sp i : Nat} {a : Nat → Nat} (h5 : pe ≤ 5) (hp : p < pe) (hi : 17 ≤ i) : (wh_n pe p (he, sp, a)).2.2 i = a i := by
  simp only [wh_n]
  rw [sl_o pe (by omega) _ _ _ _ (by omega) (by omega), up_o (by omega), up_o (by omega)]
theorem fr_hr {pe he sp i : Nat} {a : Nat → Nat} (g : gd_s pe a) (hi : 17 ≤ i) (h : i ≠ 26) : (hr_n pe (he, sp, a)).2.2 i = a i := by
  unfold hr_n hr_y
  simp only [up_o h]
  by_cases c : a 17 = 0
  · simp only [c, if_true]
  · simp only [c, if_false]
    exact fr_wh g.1 (g.2.2.2.2.2.2 _ (Nat.mod_lt _ (by omega))) hi
theorem fr_hs {pe i : Nat} (hi : 17 ≤ i) (h : i ≠ 26) : ∀ (n he sp : Nat) (a : Nat → Nat), gd_s pe a → a 26 + n ≤ 2000 → (hs_n pe n (he, sp, a)).2.2 i = a i := by
  intro n
  induction n with
  | zero => intro he sp a _ _; rfl
  | succ n ih =>
    intro he sp a g hb
    obtain ⟨g1, g2, g3, g4, g5⟩ := gd_hr (he := he) (sp := sp) g (by omega)
    have e := ih (hr_n pe (he, sp, a)).1 (hr_n pe (he, sp, a)).2.1 (hr_n pe (he, sp, a)).2.2 g1 (by omega)
    rw [hs_n]
    exact e.trans (fr_hr g hi h)
theorem i1_0 {α : Sort _} (E F : α) : (if (1 : Int32) = 0 then E else F) = F := if_neg (by decide)
theorem i0_0 {α : Sort _} (E F : α) : (if (0 : Int32) = 0 then E else F) = E := if_pos rfl
