/-! what is the same in its first 46 goes on so; the fits counted -/
theorem up_cg {a b : Nat → Nat} {k v : Nat} (h : ∀ i, i < 46 → b i = a i) : ∀ i, i < 46 → up_n b k v i = up_n a k v i := by
  intro i hi
  unfold up_n
  by_cases c : i = k
  · rw [if_pos c, if_pos c]
  · rw [if_neg c, if_neg c]; exact h i hi
theorem sl_cg {pe : Nat} (h5 : pe ≤ 5) (h0 : 0 < pe) : ∀ (n nx : Nat) (a b : Nat → Nat), (∀ i, i < 46 → b i = a i) → ∀ i, i < 46 → sl_n pe n nx b i = sl_n pe n nx a i := by
  intro n
  induction n with
  | zero => intro nx a b h; exact h
  | succ n ih =>
    intro nx a b h
    have hm : (nx + 1) % pe < pe := Nat.mod_lt _ h0
    rw [sl_n, sl_n, h (3 * ((nx + 1) % pe) + 1) (by omega), h 16 (by omega)]
    exact ih _ _ _ (up_cg (up_cg h))
theorem wh_cg {pe p he sp : Nat} (h5 : pe ≤ 5) (hp : p < pe) {a b : Nat → Nat} (h : ∀ i, i < 46 → b i = a i) : (wh_n pe p (he, sp, b)).1 = (wh_n pe p (he, sp, a)).1 ∧ (wh_n pe p (he, sp, b)).2.1 = (wh_n pe p (he, sp, a)).2.1 ∧ ∀ i, i < 46 → (wh_n pe p (he, sp, b)).2.2 i = (wh_n pe p (he, sp, a)).2.2 i := by
  simp only [wh_n]
  rw [h (3 * p) (by omega), h (3 * p + 1) (by omega), h (3 * p + 2) (by omega), h 16 (by omega), h 15 (by omega)]
  exact ⟨rfl, rfl, sl_cg h5 (by omega) _ _ _ _ (up_cg (up_cg h))⟩
theorem hr_cg {pe he sp : Nat} {a b : Nat → Nat} (g : gd_s pe a) (h : ∀ i, i < 46 → b i = a i) : (hr_n pe (he, sp, b)).1 = (hr_n pe (he, sp, a)).1 ∧ (hr_n pe (he, sp, b)).2.1 = (hr_n pe (he, sp, a)).2.1 ∧ ∀ i, i < 46 → (hr_n pe (he, sp, b)).2.2 i = (hr_n pe (he, sp, a)).2.2 i := by
  have hy : (hr_y pe (he, sp, b)).1 = (hr_y pe (he, sp, a)).1 ∧ (hr_y pe (he, sp, b)).2.1 = (hr_y pe (he, sp, a)).2.1 ∧ ∀ i, i < 46 → (hr_y pe (he, sp, b)).2.2 i = (hr_y pe (he, sp, a)).2.2 i := by
    unfold hr_y
    simp only
    rw [h 17 (by omega), h 26 (by omega)]
    by_cases c : a 17 = 0
    · rw [if_pos c, if_pos c]; exact ⟨rfl, rfl, h⟩
    · have hm := Nat.mod_lt (a 26) (show 0 < a 17 by omega)
      have h17 := g.2.2.2.1
      rw [if_neg c, if_neg c, h (18 + a 26 % a 17) (by omega)]
      exact wh_cg g.1 (g.2.2.2.2.2.2 _ hm) h
  unfold hr_n
  refine ⟨hy.1, hy.2.1, ?_⟩
  simp only
  rw [hy.2.2 26 (by omega)]
  exact up_cg hy.2.2
theorem hs_cg {pe : Nat} : ∀ (n he sp : Nat) (a b : Nat → Nat), gd_s pe a → a 26 + n ≤ 2000 → (∀ i, i < 46 → b i = a i) → (hs_n pe n (he, sp, b)).1 = (hs_n pe n (he, sp, a)).1 ∧ (hs_n pe n (he, sp, b)).2.1 = (hs_n pe n (he, sp, a)).2.1 ∧ ∀ i, i < 46 → (hs_n pe n (he, sp, b)).2.2 i = (hs_n pe n (he, sp, a)).2.2 i := by
  intro n
  induction n with
  | zero => intro he sp a b _ _ h; exact ⟨rfl, rfl, h⟩
  | succ n ih =>
    intro he sp a b g hb h
    obtain ⟨g1, g2, -, -, -⟩ := gd_hr (he := he) (sp := sp) g (by omega)
    obtain ⟨c1, c2, c3⟩ := hr_cg (he := he) (sp := sp) g h
    have e := ih (hr_n pe (he, sp, a)).1 (hr_n pe (he, sp, a)).2.1 (hr_n pe (he, sp, a)).2.2 (hr_n pe (he, sp, b)).2.2 g1 (by omega) c3
    rw [hs_n, hs_n]
    have e2 : hr_n pe (he, sp, b) = ((hr_n pe (he, sp, a)).1, (hr_n pe (he, sp, a)).2.1, (hr_n pe (he, sp, b)).2.2) := by rw [← c1, ← c2]
    rw [e2]
    exact e
theorem so_cg {pe : Nat} {S a b : Nat → Nat} {v : s_V} (sg : sg_v pe S v) (g : gd_s pe a) (h26 : a 26 ≤ 1100) (h : ∀ i, i < 46 → b i = a i) : so_p pe S b ↔ so_p pe S a := by
  have h5 := g.1
  unfold so_p
  constructor
  · intro q i hi
    obtain ⟨-, -, -, a4, a5, -⟩ := sg.2.2 i hi
    rw [← (hs_cg (S (28 + 3 * i)) 0 0 a b g (by omega) h).2.2 _ (by omega)]
    exact q i hi
  · intro q i hi
    obtain ⟨-, -, -, a4, a5, -⟩ := sg.2.2 i hi
    rw [(hs_cg (S (28 + 3 * i)) 0 0 a b g (by omega) h).2.2 _ (by omega)]
    exact q i hi
theorem hv_cg {pe : Nat} {a b : Nat → Nat} {H : Nat → Int32} (g : gd_s pe a) (h26 : a 26 ≤ 1100) (h : ∀ i, i < 46 → b i = a i) (hv : hv_p pe b H 25) : hv_p pe a H 25 := by
  have h5 := g.1
  intro j hj q hq
  rw [hv j hj q hq, (hs_cg j 0 0 a b g (by omega) h).2.2 _ (by omega)]
/-- how many fit; their bits; how many are alike; the most alike -/
def fc_n (F : Nat → Bool) : Nat → Nat
  | 0 => 0
  | n + 1 => fc_n F n + (if F n = true then 1 else 0)
def lb_n (F : Nat → Bool) : Nat → Int32
  | 0 => 0
  | n + 1 => if F n = true then lb_n F n ||| (1 <<< (nI n &&& 31)) else lb_n F n
def cn_n (F : Nat → Bool) (g : Nat → Int32) (x : Int32) : Nat → Nat
  | 0 => 0
  | n + 1 => cn_n F g x n + (if F n = true ∧ x = g n then 1 else 0)
def mx_n (F : Nat → Bool) (g : Nat → Int32) : Nat → Nat
  | 0 => 0
  | n + 1 => max (mx_n F g n) (if F n = true then cn_n F g (g n) 4 else 0)
theorem fc_le (F : Nat → Bool) : ∀ n, fc_n F n ≤ n := by
  intro n
  induction n with
  | zero => exact Nat.le_refl _
  | succ n ih => rw [fc_n]; split <;> omega
theorem fc_mo (F : Nat → Bool) : ∀ n k, fc_n F k ≤ fc_n F (k + n) := by
  intro n
  induction n with
  | zero => intro k; exact Nat.le_refl _
  | succ n ih => intro k; rw [← Nat.add_assoc, fc_n]; have := ih k; omega
theorem cn_le (F : Nat → Bool) (g : Nat → Int32) (x : Int32) : ∀ n, cn_n F g x n ≤ n := by
  intro n
  induction n with
  | zero => exact Nat.le_refl _
  | succ n ih => rw [cn_n]; split <;> omega
theorem mx_le (F : Nat → Bool) (g : Nat → Int32) : ∀ n, mx_n F g n ≤ 4 := by
  intro n
  induction n with
  | zero => exact Nat.zero_le _
  | succ n ih => rw [mx_n]; have := cn_le F g (g n) 4; split <;> omega
theorem lb_c (F : Nat → Bool) : M_J6_bitCount_0f7a4 (lb_n F 4) = some (nI (fc_n F 4)) := by
  simp only [lb_n, fc_n]
  cases F 0 <;> cases F 1 <;> cases F 2 <;> cases F 3 <;> decide +kernel
theorem lb_t (F : Nat → Bool) : ∀ i j, i < 4 → j < 4 → (((((lb_n F 4) >>> (nI i &&& 31)) &&& ((lb_n F 4) >>> (nI j &&& 31))) &&& 1) = 1 ↔ F i = true ∧ F j = true) := by
  intro i j hi hj
  have hi2 : i = 0 ∨ i = 1 ∨ i = 2 ∨ i = 3 := by omega
  have hj2 : j = 0 ∨ j = 1 ∨ j = 2 ∨ j = 3 := by omega
  simp only [lb_n]
  rcases hi2 with rfl | rfl | rfl | rfl <;> rcases hj2 with rfl | rfl | rfl | rfl <;> cases F 0 <;> cases F 1 <;> cases F 2 <;> cases F 3 <;> decide +kernel
