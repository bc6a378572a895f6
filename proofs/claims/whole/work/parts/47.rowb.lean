/-! what was checked of rows, in words -/
theorem ck_1 {n c : Nat} (hn : n ≤ 5) (hc : c < 5 ^ n) : c1_b n c = true ∧ c2_b n c = true ∧ c3_b n c = true ∧ c4_b n c = true := by
  have h : n = 0 ∨ n = 1 ∨ n = 2 ∨ n = 3 ∨ n = 4 ∨ n = 5 := by omega
  rcases h with rfl | rfl | rfl | rfl | rfl | rfl
  · exact ⟨al_e k1_0 c hc, al_e k2_0 c hc, al_e k3_0 c hc, al_e k4_0 c hc⟩
  · exact ⟨al_e k1_1 c hc, al_e k2_1 c hc, al_e k3_1 c hc, al_e k4_1 c hc⟩
  · exact ⟨al_e k1_2 c hc, al_e k2_2 c hc, al_e k3_2 c hc, al_e k4_2 c hc⟩
  · exact ⟨al_e k1_3 c hc, al_e k2_3 c hc, al_e k3_3 c hc, al_e k4_3 c hc⟩
  · exact ⟨al_e k1_4 c hc, al_e k2_4 c hc, al_e k3_4 c hc, al_e k4_4 c hc⟩
  · exact ⟨al_e k1_5 c hc, al_e k2_5 c hc, al_e k3_5 c hc, al_e k4_5 c hc⟩
/-- a row's number has the row's digits -/
theorem dg_c {n : Nat} {r : Nat → Nat} (hn : n ≤ 5) (hr : ∀ i, i < n → r i < 5) : cd_n r n < 5 ^ n ∧ ∀ i, i < n → dg_n n (cd_n r n) i = r i := by
  have h : n = 0 ∨ n = 1 ∨ n = 2 ∨ n = 3 ∨ n = 4 ∨ n = 5 := by omega
  rcases h with rfl | rfl | rfl | rfl | rfl | rfl
  · exact ⟨by show 0 < 5 ^ 0; decide, fun i hi => absurd hi (by omega)⟩
  · have h0 := hr 0 (by omega)
    refine ⟨by simp only [cd_n]; omega, fun i hi => ?_⟩
    obtain rfl : i = 0 := by omega
    simp only [dg_n, cd_n]; omega
  · have h0 := hr 0 (by omega)
    have h1 := hr 1 (by omega)
    refine ⟨by simp only [cd_n]; omega, fun i hi => ?_⟩
    have q : i = 0 ∨ i = 1 := by omega
    rcases q with rfl | rfl <;> simp only [dg_n, cd_n] <;> omega
  · have h0 := hr 0 (by omega)
    have h1 := hr 1 (by omega)
    have h2 := hr 2 (by omega)
    refine ⟨by simp only [cd_n]; omega, fun i hi => ?_⟩
    have q : i = 0 ∨ i = 1 ∨ i = 2 := by omega
    rcases q with rfl | rfl | rfl <;> simp only [dg_n, cd_n] <;> omega
  · have h0 := hr 0 (by omega)
    have h1 := hr 1 (by omega)
    have h2 := hr 2 (by omega)
    have h3 := hr 3 (by omega)
    refine ⟨by simp only [cd_n]; omega, fun i hi => ?_⟩
    have q : i = 0 ∨ i = 1 ∨ i = 2 ∨ i = 3 := by omega
    rcases q with rfl | rfl | rfl | rfl <;> simp only [dg_n, cd_n] <;> omega
  · have h0 := hr 0 (by omega)
    have h1 := hr 1 (by omega)
    have h2 := hr 2 (by omega)
    have h3 := hr 3 (by omega)
    have h4 := hr 4 (by omega)
    refine ⟨by simp only [cd_n]; omega, fun i hi => ?_⟩
    have q : i = 0 ∨ i = 1 ∨ i = 2 ∨ i = 3 ∨ i = 4 := by omega
    rcases q with rfl | rfl | rfl | rfl | rfl <;> simp only [dg_n, cd_n] <;> omega
theorem dg_5 (n c i : Nat) : dg_n n c i < 5 := Nat.mod_lt _ (by omega)
theorem cw_cg {r r2 : Nat → Nat} {w : Nat} : ∀ n, (∀ i, i < n → r2 i = r i) → cw_n r2 w n = cw_n r w n := by
  intro n
  induction n with
  | zero => intro _; rfl
  | succ n ih => intro h; rw [cw_n, cw_n, ih (fun i hi => h i (by omega)), h n (by omega)]
theorem cw_le {r : Nat → Nat} {w : Nat} : ∀ n, cw_n r w n ≤ n := by
  intro n
  induction n with
  | zero => exact Nat.le_refl _
  | succ n ih => rw [cw_n]; split <;> omega
theorem cw_ps {r : Nat → Nat} {w : Nat} : ∀ n, (∃ i, i < n ∧ r i = w) ↔ 1 ≤ cw_n r w n := by
  intro n
  induction n with
  | zero => exact ⟨fun ⟨i, hi, _⟩ => absurd hi (by omega), fun h => absurd h (by show ¬ 1 ≤ 0; omega)⟩
  | succ n ih =>
    rw [cw_n]
    constructor
    · rintro ⟨i, hi, e⟩
      by_cases c : i = n
      · subst c; rw [if_pos e]; omega
      · have := ih.mp ⟨i, by omega, e⟩; omega
    · intro h
      by_cases c : r n = w
      · exact ⟨n, by omega, c⟩
      · rw [if_neg c] at h
        obtain ⟨i, hi, e⟩ := ih.mpr (by omega)
        exact ⟨i, by omega, e⟩
theorem ke_cg {n : Nat} {r r2 : Nat → Nat} (h : ∀ i, i < n → r2 i = r i) : ke_n n r2 = ke_n n r := by
  unfold ke_n
  rw [cw_cg n h, cw_cg n h, cw_cg n h, cw_cg n h, cw_cg n h]
theorem ke_i {n : Nat} {r r2 : Nat → Nat} (hn : n ≤ 5) : ke_n n r2 = ke_n n r ↔ ∀ w, w < 5 → cw_n r2 w n = cw_n r w n := by
  unfold ke_n
  have a0 := cw_le (r := r) (w := 0) n
  have a1 := cw_le (r := r) (w := 1) n
  have a2 := cw_le (r := r) (w := 2) n
  have a3 := cw_le (r := r) (w := 3) n
  have a4 := cw_le (r := r) (w := 4) n
  have b0 := cw_le (r := r2) (w := 0) n
  have b1 := cw_le (r := r2) (w := 1) n
  have b2 := cw_le (r := r2) (w := 2) n
  have b3 := cw_le (r := r2) (w := 3) n
  have b4 := cw_le (r := r2) (w := 4) n
  constructor
  · intro h w hw
    have q : w = 0 ∨ w = 1 ∨ w = 2 ∨ w = 3 ∨ w = 4 := by omega
    rcases q with rfl | rfl | rfl | rfl | rfl <;> omega
  · intro h
    rw [h 0 (by omega), h 1 (by omega), h 2 (by omega), h 3 (by omega), h 4 (by omega)]
/-- every row of a key is reached from its first -/
theorem rx_1 {n : Nat} (hn : n ≤ 5) : ∀ (m c : Nat), c < m → c < 5 ^ n → rx_p n (fk_n (ke_n n (dg_n n c))) c ∧ fk_n (ke_n n (dg_n n c)) ≤ c ∧ ke_n n (dg_n n (fk_n (ke_n n (dg_n n c)))) = ke_n n (dg_n n c) := by
  intro m
  induction m with
  | zero => intro c hc; exact absurd hc (by omega)
  | succ m ih =>
    intro c hc h5
    have h := (ck_1 hn h5).2.1
    unfold c2_b at h
    rw [Bool.or_eq_true] at h
    rcases h with h | h
    · have e : c = fk_n (ke_n n (dg_n n c)) := by simpa using h
      refine ⟨⟨0, ?_⟩, by omega, ?_⟩
      · show some _ = some _
        rw [← e]
      · rw [← e]
    · generalize hd : nc_n n (5 ^ n - 1 - c) = o at h
      cases o with
      | none => exact absurd h (by simp)
      | some d =>
        simp only [Bool.and_eq_true, beq_iff_eq, Nat.blt_eq] at h
        obtain ⟨⟨h1, h2⟩, h3⟩ := h
        obtain ⟨⟨k, r1⟩, r2, r3⟩ := ih (5 ^ n - 1 - d) (by omega) (by omega)
        rw [h3] at r1 r2 r3
        refine ⟨⟨k + 1, ?_⟩, by omega, r3⟩
        show (ic_n n _ k).bind (nc_n n) = _
        rw [r1]
        exact h2
theorem nc_3 {n c : Nat} {r : Nat → Nat} (hn : n ≤ 5) (hc : c < 5 ^ n) (h : nx_n n (dg_n n c) = some r) : c < cd_n r n ∧ cd_n r n < 5 ^ n ∧ ke_n n (dg_n n (cd_n r n)) = ke_n n (dg_n n c) ∧ (∀ i, i < n → dg_n n (cd_n r n) i = r i) ∧ nc_n n c = some (cd_n r n) := by
  have q := (ck_1 hn hc).2.2.1
  unfold c3_b at q
  rw [h] at q
  simp only [Bool.and_eq_true, beq_iff_eq, Nat.blt_eq] at q
  refine ⟨q.1.1.1, q.1.1.2, q.1.2, fun i hi => by simpa using al_e q.2 i hi, ?_⟩
  unfold nc_n
  rw [h]
  rfl
theorem nc_l {n c d : Nat} (hn : n ≤ 5) (hc : c < 5 ^ n) (h : nc_n n c = some d) : c < d ∧ d < 5 ^ n ∧ ke_n n (dg_n n d) = ke_n n (dg_n n c) := by
  unfold nc_n at h
  cases hx : nx_n n (dg_n n c) with
  | none => rw [hx] at h; exact absurd h (by simp)
  | some r =>
    rw [hx] at h
    simp only [Option.map_some, Option.some.injEq] at h
    obtain ⟨a, b, c3, -, -⟩ := nc_3 hn hc hx
    rw [h] at a b c3
    exact ⟨a, b, c3⟩
theorem nc_s {n c : Nat} (hn : n ≤ 5) (hc : c < 5 ^ n) : cd_n (sn_n n n (dg_n n c) 0) n = fk_n (ke_n n (dg_n n c)) ∧ ∀ i, i < n → dg_n n (fk_n (ke_n n (dg_n n c))) i = sn_n n n (dg_n n c) 0 i := by
  have q := (ck_1 hn hc).1
  unfold c1_b at q
  simp only [Bool.and_eq_true, beq_iff_eq] at q
  refine ⟨q.1, fun i hi => ?_⟩
  have := al_e q.2 i hi
  rw [q.1] at this
  simpa using this
theorem nc_4 {n c : Nat} (hn : n ≤ 5) (hc : c < 5 ^ n) (h : c = fk_n (ke_n n (dg_n n c))) : ed_n n 120 c = true := by
  have q := (ck_1 hn hc).2.2.2
  unfold c4_b at q
  rw [Bool.or_eq_true] at q
  rcases q with q | q
  · simp [← h] at q
  · exact q
theorem ic_m {n s : Nat} (hn : n ≤ 5) (hs : s < 5 ^ n) : ∀ (k c : Nat), ic_n n s k = some c → c < 5 ^ n ∧ ke_n n (dg_n n c) = ke_n n (dg_n n s) ∧ s ≤ c := by
  intro k
  induction k with
  | zero =>
    intro c h
    have : s = c := by simpa [ic_n] using h
    subst this
    exact ⟨hs, rfl, Nat.le_refl _⟩
  | succ k ih =>
    intro c h
    cases hx : ic_n n s k with
    | none => rw [ic_n, hx] at h; exact absurd h (by simp)
    | some d =>
      rw [ic_n, hx] at h
      obtain ⟨a1, a2, a3⟩ := ih d hx
      obtain ⟨b1, b2, b3⟩ := nc_l hn a1 h
      exact ⟨b2, b3.trans a2, by omega⟩
theorem ic_n0 {n s : Nat} {k : Nat} (h : ic_n n s k = none) : ∀ j, ic_n n s (k + j) = none := by
  intro j
  induction j with
  | zero => exact h
  | succ j ih => rw [← Nat.add_assoc, ic_n, ih]; rfl
theorem ic_lt {n s : Nat} (hn : n ≤ 5) (hs : s < 5 ^ n) {k c : Nat} (hk : ic_n n s k = some c) : ∀ (j d : Nat), ic_n n s (k + j + 1) = some d → c < d := by
  intro j
  induction j with
  | zero =>
    intro d h
    rw [Nat.add_zero, ic_n, hk] at h
    exact (nc_l hn (ic_m hn hs k c hk).1 h).1
  | succ j ih =>
    intro d h
    rw [ic_n] at h
    cases hx : ic_n n s (k + (j + 1)) with
    | none => rw [hx] at h; exact absurd h (by simp)
    | some e =>
      rw [hx] at h
      have h1 := ih e hx
      have h2 := (nc_l hn (ic_m hn hs _ e hx).1 h).1
      omega
/-- the least, the first that has it -/
def mn_p (T : Nat → Prop) (W : Nat → Nat) (m b : Nat) : Prop := T b ∧ W b = m ∧ ∀ c, T c → m ≤ W c ∧ (W c = m → b ≤ c)
theorem mn_u {T T2 : Nat → Prop} {W : Nat → Nat} {m b m2 b2 : Nat} (h : mn_p T W m b) (h2 : mn_p T2 W m2 b2) (e : ∀ c, T c ↔ T2 c) : m = m2 ∧ b = b2 := by
  obtain ⟨a1, a2, a3⟩ := h
  obtain ⟨c1, c2, c3⟩ := h2
  have x1 := a3 b2 ((e b2).mpr c1)
  have x2 := c3 b ((e b).mp a1)
  have hm : m = m2 := by omega
  exact ⟨hm, by have := x1.2 (by omega); have := x2.2 (by omega); omega⟩
