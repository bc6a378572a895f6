/-! the class's rows: exchange, sort, step -/
def ar_p (n : Nat) (A : Nat → Int32) (r : Nat → Nat) : Prop := ∀ i, i < n → A i = nI (r i) ∧ r i < 5
theorem gy_k {α : Type} {n N M : Nat} {E : Option α} (h : n ≤ N) (h2 : n ≤ M) (hN : n < 2 ^ 31) : gy_c (nI n) N M E = E := by
  unfold gy_c
  rw [nI_clamp hN, if_neg]
  intro q
  rcases q with q | q | q
  · have := nI_pos' hN
    simp only [Int32.lt_iff_toInt_lt, Int32.le_iff_toInt_le] at *
    omega
  · omega
  · omega
theorem xc_r {n i j : Nat} {A : Nat → Int32} {r : Nat → Nat} (hn : n ≤ 5) (a : ar_p n A r) (hi : i < n) (hj : j < n) : ∃ A2, M_X6_exchange 8 A (nI i) (nI j) = some A2 ∧ ar_p n A2 (ex_n r i j) := by
  refine ⟨upd (upd A i (A j)) j (A i), ?_, fun k hk => ?_⟩
  · unfold M_X6_exchange B_X6_exchange_0
    simp (disch := omega) only [gi_k, nI_clamp, nm_s]
  · unfold ex_n
    by_cases e1 : k = j
    · subst e1; rw [pk_us, up_s]; exact a i hi
    · rw [pk_un e1, up_o e1]
      by_cases e2 : k = i
      · subst e2; rw [pk_us, up_s]; exact a j hj
      · rw [pk_un e2, up_o e2]; exact a k hk
theorem sw_71 {n : Nat} (hn : n ≤ 5) : ∀ (k f lo hi : Nat) (A : Nat → Int32) (r : Nat → Nat), hi < n → hi ≤ lo + 2 * k → lo ≤ 8 → k < f → ar_p n A r → ∃ A2, M_X6_stepRow_71 8 f A (nI lo) (nI hi) = some (1, A2) ∧ ar_p n A2 (rw_v k r lo hi) := by
  intro k
  induction k with
  | zero =>
    intro f lo hi A r h1 h2 h3 hf a
    obtain ⟨f, rfl⟩ : ∃ g, f = g + 1 := ⟨f - 1, by omega⟩
    refine ⟨A, ?_, a⟩
    show B_X6_stepRow_71 _ _ _ _ _ _ = _
    unfold B_X6_stepRow_71
    rw [if_pos ((nI_leI (by omega) (by omega)).mpr (by omega))]
  | succ k ih =>
    intro f lo hi A r h1 h2 h3 hf a
    obtain ⟨f, rfl⟩ : ∃ g, f = g + 1 := ⟨f - 1, by omega⟩
    by_cases c : hi ≤ lo
    · refine ⟨A, ?_, ?_⟩
      · show B_X6_stepRow_71 _ _ _ _ _ _ = _
        unfold B_X6_stepRow_71
        rw [if_pos ((nI_leI (by omega) (by omega)).mpr c)]
      · rw [rw_v, if_pos c]; exact a
    · obtain ⟨A2, e2, p2⟩ := xc_r hn a (show lo < n by omega) h1
      obtain ⟨A3, e3, p3⟩ := ih f (lo + 1) (hi - 1) A2 _ (by omega) (by omega) (by omega) (by omega) p2
      refine ⟨A3, ?_, ?_⟩
      · show B_X6_stepRow_71 _ _ _ _ _ _ = _
        unfold B_X6_stepRow_71
        rw [e2, if_neg (fun q => c ((nI_leI (by omega) (by omega)).mp q))]
        simp only [bn_s, nI_1]
        obtain ⟨m, rfl⟩ : ∃ m, hi = m + 1 := ⟨hi - 1, by omega⟩
        rw [pk_m1]
        exact e3
      · rw [rw_v, if_neg c]; exact p3
theorem sw_35 {n i : Nat} {A : Nat → Int32} {r : Nat → Nat} (hn : n ≤ 5) (a : ar_p n A r) : ∀ (d f : Nat), i + d < n → d + 20 < f → ∃ A2, M_X6_stepRow_35 8 f A (nI n) (nI i) (nI (i + d)) = some (1, A2) ∧ ar_p n A2 (rw_v 5 (ex_n r i (jd_n r i d)) (i + 1) (n - 1)) := by
  intro d
  have fin : ∀ (f j : Nat), i < n → j < n → 10 < f → ∃ A2, B_X6_stepRow_55 8 f A (nI n) (nI i) (nI j) = some (1, A2) ∧ ar_p n A2 (rw_v 5 (ex_n r i j) (i + 1) (n - 1)) := by
    intro f j hi hj hf
    obtain ⟨A2, e2, p2⟩ := xc_r hn a hi hj
    obtain ⟨A3, e3, p3⟩ := sw_71 hn 5 f (i + 1) (n - 1) A2 _ (by omega) (by omega) (by omega) (by omega) p2
    refine ⟨A3, ?_, p3⟩
    unfold B_X6_stepRow_55
    rw [e2]
    simp (disch := omega) only [bn_s, nm_s, show (1 : Int32) = nI 1 from rfl, nI_add, pk_sub]
    exact e3
  induction d with
  | zero =>
    intro f hd hf
    obtain ⟨f, rfl⟩ : ∃ g, f = g + 1 := ⟨f - 1, by omega⟩
    obtain ⟨A2, e2, p2⟩ := fin f i (by omega) (by omega) (by omega)
    refine ⟨A2, ?_, p2⟩
    show B_X6_stepRow_35 _ _ _ _ _ _ _ = _
    unfold B_X6_stepRow_35
    rw [Nat.add_zero, if_pos ((nI_leI (by omega) (by omega)).mpr (by omega))]
    exact e2
  | succ d ih =>
    intro f hd hf
    obtain ⟨f, rfl⟩ : ∃ g, f = g + 1 := ⟨f - 1, by omega⟩
    have hA := a i (by omega)
    have hB := a (i + (d + 1)) (by omega)
    by_cases c : r i < r (i + (d + 1))
    · obtain ⟨A2, e2, p2⟩ := fin f (i + (d + 1)) (by omega) (by omega) (by omega)
      refine ⟨A2, ?_, ?_⟩
      · show B_X6_stepRow_35 _ _ _ _ _ _ _ = _
        unfold B_X6_stepRow_35
        simp (disch := omega) only [gi_k, nI_clamp, nI_leI, hA.1, hB.1, nI_ltI]
        rw [if_neg (by omega), if_pos c]
        exact e2
      · rw [jd_n, if_pos c]; exact p2
    · obtain ⟨A2, e2, p2⟩ := ih f (by omega) (by omega)
      refine ⟨A2, ?_, ?_⟩
      · show B_X6_stepRow_35 _ _ _ _ _ _ _ = _
        unfold B_X6_stepRow_35
        simp (disch := omega) only [gi_k, nI_clamp, nI_leI, hA.1, hB.1, nI_ltI]
        rw [if_neg (by omega), if_neg c, show i + (d + 1) = (i + d) + 1 by omega, pk_m1]
        exact e2
      · rw [jd_n, if_neg c]; exact p2
theorem sw_4 {n : Nat} {A : Nat → Int32} {r : Nat → Nat} (hn : n ≤ 5) (a : ar_p n A r) : ∀ (k f : Nat), k + 1 ≤ n → k + 40 < f → (la_n r k = none ∧ M_X6_stepRow_4 8 f A (nI n) (nI k - 1) = some (0, A)) ∨ (∃ i A2, la_n r k = some i ∧ M_X6_stepRow_4 8 f A (nI n) (nI k - 1) = some (1, A2) ∧ ar_p n A2 (rw_v 5 (ex_n r i (jd_n r i (n - 1 - i))) (i + 1) (n - 1))) := by
  intro k
  induction k with
  | zero =>
    intro f hk hf
    obtain ⟨f, rfl⟩ : ∃ g, f = g + 1 := ⟨f - 1, by omega⟩
    refine Or.inl ⟨rfl, ?_⟩
    show B_X6_stepRow_4 _ _ _ _ _ _ = _
    unfold B_X6_stepRow_4 B_X6_stepRow_25
    rw [if_pos (by decide), if_neg (by decide)]
  | succ k ih =>
    intro f hk hf
    obtain ⟨f, rfl⟩ : ∃ g, f = g + 1 := ⟨f - 1, by omega⟩
    have hA := a k (by omega)
    have hB := a (k + 1) (by omega)
    have n0 : ¬ nI k < 0 := nI_nlt (a := k) (b := 0) (by omega) (by omega) |> fun h => h
    rw [nI_pred]
    by_cases c : r k < r (k + 1)
    · obtain ⟨A2, e2, p2⟩ := sw_35 (i := k) hn a (n - 1 - k) f (by omega) (by omega)
      refine Or.inr ⟨k, A2, ?_, ?_, p2⟩
      · rw [la_n, if_pos c]
      · show B_X6_stepRow_4 _ _ _ _ _ _ = _
        unfold B_X6_stepRow_4 B_X6_stepRow_25
        rw [if_neg n0, nI_1]
        simp (disch := omega) only [gi_k, nI_clamp, hA.1, hB.1, nI_ltI, nm_s]
        rw [if_pos c, if_pos (nI_pos' (by omega)), show (1 : Int32) = nI 1 from rfl, pk_sub (by omega)]
        rw [show k + (n - 1 - k) = n - 1 by omega] at e2
        exact e2
    · have e1 : M_X6_stepRow_4 8 (f + 1) A (nI n) (nI k) = M_X6_stepRow_4 8 f A (nI n) (nI k - 1) := by
        show B_X6_stepRow_4 _ _ _ _ _ _ = _
        unfold B_X6_stepRow_4
        rw [if_neg n0, nI_1]
        simp (disch := omega) only [gi_k, nI_clamp, hA.1, hB.1, nI_ltI]
        rw [if_neg c, Int32.sub_eq_add_neg]
      rw [e1, la_n, if_neg c]
      exact ih f (by omega) (by omega)
theorem sw_r {n f : Nat} {A : Nat → Int32} {r : Nat → Nat} (hn : n ≤ 5) (a : ar_p n A r) (hf : 100 < f) : (nx_n n r = none ∧ M_X6_stepRow 8 f A (nI n) = some (0, A)) ∨ (∃ r2 A2, nx_n n r = some r2 ∧ M_X6_stepRow 8 f A (nI n) = some (1, A2) ∧ ar_p n A2 r2) := by
  unfold M_X6_stepRow B_X6_stepRow_0 nx_n
  simp only [nm_s]
  by_cases h0 : n = 0
  · subst h0
    refine Or.inl ⟨rfl, ?_⟩
    obtain ⟨f, rfl⟩ : ∃ g, f = g + 1 := ⟨f - 1, by omega⟩
    show B_X6_stepRow_4 _ _ _ _ _ _ = _
    unfold B_X6_stepRow_4 B_X6_stepRow_25
    rw [if_pos (by decide), if_neg (by decide)]
  · obtain ⟨m, rfl⟩ : ∃ m, n = m + 1 := ⟨n - 1, by omega⟩
    have e : nI (m + 1) - 2 = nI m - 1 := by
      rw [← nI_pred m, Int32.sub_eq_add_neg, Int32.sub_eq_add_neg, Int32.sub_eq_add_neg, Int32.add_assoc]
      rfl
    rw [e]
    rcases sw_4 hn a m f (by omega) (by omega) with ⟨c1, c2⟩ | ⟨i, A2, c1, c2, c3⟩
    · exact Or.inl ⟨by rw [show m + 1 - 1 = m by omega, c1]; rfl, c2⟩
    · exact Or.inr ⟨_, A2, by rw [show m + 1 - 1 = m by omega, c1]; rfl, c2, c3⟩
theorem so_11 {n i : Nat} {k2 : (Nat → Int32) → Int32 → Int32 → Option (Nat → Int32)} (hn : n ≤ 5) (hi : i < n) : ∀ (k f j : Nat) (A : Nat → Int32) (r : Nat → Nat), j + k = n → k < f → ar_p n A r → ∃ A2, M_X6_sort_11 k2 8 f A (nI n) (nI i) (nI j) = k2 A2 (nI n) (nI (i + 1)) ∧ ar_p n A2 (sj_n k r i j) := by
  intro k
  induction k with
  | zero =>
    intro f j A r hj hf a
    obtain ⟨f, rfl⟩ : ∃ g, f = g + 1 := ⟨f - 1, by omega⟩
    refine ⟨A, ?_, a⟩
    show B_X6_sort_11 _ _ _ _ _ _ _ _ = _
    unfold B_X6_sort_11
    rw [if_pos ((nI_leI (by omega) (by omega)).mpr (by omega)), nI_1]
  | succ k ih =>
    intro f j A r hj hf a
    obtain ⟨f, rfl⟩ : ∃ g, f = g + 1 := ⟨f - 1, by omega⟩
    have hA := a i hi
    have hB := a j (by omega)
    by_cases c : r j < r i
    · obtain ⟨A2, e2, p2⟩ := xc_r hn a hi (show j < n by omega)
      obtain ⟨A3, e3, p3⟩ := ih f (j + 1) A2 _ (by omega) (by omega) p2
      refine ⟨A3, ?_, ?_⟩
      · rw [← e3]
        show B_X6_sort_11 _ _ _ _ _ _ _ _ = _
        unfold B_X6_sort_11 B_X6_sort_31
        rw [e2]
        simp (disch := omega) only [gi_k, nI_clamp, nI_leI, hA.1, hB.1, bn_s, nI_1]
        rw [if_neg (by omega), if_neg (by omega)]
      · rw [sj_n, if_pos c]; exact p3
    · obtain ⟨A3, e3, p3⟩ := ih f (j + 1) A _ (by omega) (by omega) a
      refine ⟨A3, ?_, ?_⟩
      · rw [← e3]
        show B_X6_sort_11 _ _ _ _ _ _ _ _ = _
        unfold B_X6_sort_11 B_X6_sort_31
        simp (disch := omega) only [gi_k, nI_clamp, nI_leI, hA.1, hB.1, nI_1]
        rw [if_neg (by omega), if_pos (by omega)]
      · rw [sj_n, if_neg c]; exact p3
theorem so_2 {n : Nat} (hn : n ≤ 5) : ∀ (k f i : Nat) (A : Nat → Int32) (r : Nat → Nat), i + k = n → k + 20 < f → ar_p n A r → ∃ A2, M_X6_sort_2 8 f A (nI n) (nI i) = some A2 ∧ ar_p n A2 (sn_n n k r i) := by
  intro k
  induction k with
  | zero =>
    intro f i A r hj hf a
    obtain ⟨f, rfl⟩ : ∃ g, f = g + 1 := ⟨f - 1, by omega⟩
    refine ⟨A, ?_, a⟩
    show B_X6_sort_2 _ _ _ _ _ _ = _
    unfold B_X6_sort_2
    rw [if_pos ((nI_leI (by omega) (by omega)).mpr (by omega))]
  | succ k ih =>
    intro f i A r hj hf a
    obtain ⟨f, rfl⟩ : ∃ g, f = g + 1 := ⟨f - 1, by omega⟩
    obtain ⟨A2, e2, p2⟩ := so_11 (k2 := M_X6_sort_2 8 f) hn (show i < n by omega) (n - (i + 1)) f (i + 1) A r (by omega) (by omega) a
    obtain ⟨A3, e3, p3⟩ := ih f (i + 1) A2 _ (by omega) (by omega) p2
    refine ⟨A3, ?_, p3⟩
    rw [← e3, ← e2]
    show B_X6_sort_2 _ _ _ _ _ _ = _
    unfold B_X6_sort_2
    rw [if_neg (fun q => by have := (nI_leI (by omega) (by omega)).mp q; omega), nI_1]
    rfl
theorem so_r {n f : Nat} {A : Nat → Int32} {r : Nat → Nat} (hn : n ≤ 5) (a : ar_p n A r) (hf : 100 < f) : ∃ A2, M_X6_sort 8 f A (nI n) = some A2 ∧ ar_p n A2 (sn_n n n r 0) := so_2 hn n f 0 A r (by omega) (by omega) a
