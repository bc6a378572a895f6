/-! tokens: the class's and the reference's -/
def tb_p (n : Nat) (b : Nat → Nat) (B T : Nat → Int32) : Prop := n ≤ 160 ∧ ∀ i, i < n → B i = nI (b i) ∧ T i = nI (b i) ∧ b i ≤ 127
theorem iw_n {c x y : Nat} (hc : c ≤ 127) (hx : x ≤ 127) (hy : y ≤ 127) : M_X6_within (nI c) (nI x) (nI y) = some (if x ≤ c ∧ c ≤ y then 1 else 0) := by
  rw [wi_e]
  simp (disch := omega) only [nI_leI]
theorem ba_n {n a : Nat} {b : Nat → Nat} {B T : Nat → Int32} (h : tb_p n b B T) (ha : a ≤ 160) : M_X7_byteAt (nI n) T (nI a) = some (if a < n then nI (b a) else -1) := by
  have hn := h.1
  unfold M_X7_byteAt B_X7_byteAt_0
  by_cases c : a < n
  · rw [if_neg (fun q => by have := (nI_leI (by omega) (by omega)).mp q; omega), if_pos c, gi_k (by omega) (by omega), nI_clamp (by omega), (h.2 a c).2.1]
  · rw [if_pos ((nI_leI (by omega) (by omega)).mpr (by omega)), if_neg c]
section
variable {n : Nat} {b : Nat → Nat} {B T : Nat → Int32}
theorem nm_l {tk pl nu bg va fa wr : Int32} (h : tb_p n b B T) : ∀ (k f e a : Nat), a + k = n → k < f → k < e → ∃ a2, a ≤ a2 ∧ a2 ≤ n ∧ M_X4_endName_0 f (nI n, nI a, tk, pl, nu, B) = some (nI n, nI a2, 1, pl, nu, B) ∧ M_X7_reads_82 (nI n) T e (nI a) bg 1 va fa wr = some (nI a2, bg, 1, va, fa, wr) := by
  have hn := h.1
  intro k
  induction k with
  | zero =>
    intro f e a ha hf he
    obtain ⟨f, rfl⟩ : ∃ g, f = g + 1 := ⟨f - 1, by omega⟩
    obtain ⟨e, rfl⟩ : ∃ g, e = g + 1 := ⟨e - 1, by omega⟩
    refine ⟨a, Nat.le_refl _, by omega, ?_, ?_⟩
    · show B_X4_endName_0 _ _ _ = _
      unfold B_X4_endName_0
      simp (disch := omega) only [nI_leI]
      rw [if_pos (by omega)]
    · show B_X7_reads_82 _ _ _ _ _ _ _ _ _ _ = _
      unfold B_X7_reads_82
      rw [ba_n h (by omega), if_neg (by omega)]
      rfl
  | succ k ih =>
    intro f e a ha hf he
    obtain ⟨f, rfl⟩ : ∃ g, f = g + 1 := ⟨f - 1, by omega⟩
    obtain ⟨e, rfl⟩ : ∃ g, e = g + 1 := ⟨e - 1, by omega⟩
    obtain ⟨h1, h2, h3⟩ := h.2 a (by omega)
    have e1 : M_X4_endName_0 (f + 1) (nI n, nI a, tk, pl, nu, B) = if 97 ≤ b a ∧ b a ≤ 122 then M_X4_endName_0 f (nI n, nI (a + 1), tk, pl, nu, B) else some (nI n, nI a, 1, pl, nu, B) := by
      show B_X4_endName_0 _ _ _ = _
      unfold B_X4_endName_0
      simp (disch := omega) only [nI_leI, gi_k, nI_clamp, h1, show (97 : Int32) = nI 97 from rfl, show (122 : Int32) = nI 122 from rfl, nI_ltI, nm_s, nI_1]
      rw [if_neg (by omega)]
      by_cases c : 97 ≤ b a ∧ b a ≤ 122
      · rw [if_pos c, if_neg (by omega), if_neg (by omega)]
      · rw [if_neg c]
        by_cases c2 : b a < 97
        · rw [if_pos c2]
        · rw [if_neg c2, if_pos (by omega)]
    have e2 : M_X7_reads_82 (nI n) T (e + 1) (nI a) bg 1 va fa wr = if 97 ≤ b a ∧ b a ≤ 122 then M_X7_reads_82 (nI n) T e (nI (a + 1)) bg 1 va fa wr else some (nI a, bg, 1, va, fa, wr) := by
      show B_X7_reads_82 _ _ _ _ _ _ _ _ _ _ = _
      unfold B_X7_reads_82
      rw [ba_n h (by omega), if_pos (by omega)]
      simp only [bn_s]
      rw [in_k (nI (b a)) (nI 97) (nI 122) 97 122 (by decide) (by decide), iw_n h3 (by omega) (by omega)]
      simp only [bn_s, nm_s, nI_1]
      by_cases c : 97 ≤ b a ∧ b a ≤ 122
      · rw [if_pos c, if_pos c, i1_0]
      · rw [if_neg c, if_neg c, i0_0]
    rw [e1, e2]
    by_cases c : 97 ≤ b a ∧ b a ≤ 122
    · rw [if_pos c, if_pos c]
      obtain ⟨a2, r1, r2, r3, r4⟩ := ih f e (a + 1) (by omega) (by omega) (by omega)
      exact ⟨a2, by omega, r2, r3, r4⟩
    · rw [if_neg c, if_neg c]
      exact ⟨a, Nat.le_refl _, by omega, rfl, rfl⟩
theorem du_l {tk wr : Int32} {p : Nat} (h : tb_p n b B T) : ∀ (k f e a : Nat) (nu va : Int32), a + k = n → k < f → k < e → p + 1 ≤ a → (a ≤ p + 2 → ∃ v, v ≤ 99 ∧ nu = nI v ∧ va = nI v ∧ (a = p + 1 → v ≤ 9)) → ∃ a2, a ≤ a2 ∧ a2 ≤ n ∧ ((∃ nu2 va2, M_X4_endNumber_5 f (nI n, nI a, tk, nI p, nu, B) = some (nI n, nI a2, 4, nI p, nu2, B) ∧ M_X7_reads_140 (nI n) T e (nI a) (nI p) 2 va 0 wr = some (nI a2, nI p, 2, va2, 1, nI p)) ∨ (∃ v, v ≤ 99 ∧ M_X4_endNumber_5 f (nI n, nI a, tk, nI p, nu, B) = some (nI n, nI a2, 2, nI p, nI v, B) ∧ M_X7_reads_140 (nI n) T e (nI a) (nI p) 2 va 0 wr = some (nI a2, nI p, 2, nI v, 0, wr))) := by
  have hn := h.1
  have fin : ∀ (f a : Nat) (nu va : Int32), a ≤ n → p + 1 ≤ a → (a ≤ p + 2 → ∃ v, v ≤ 99 ∧ nu = nI v ∧ va = nI v ∧ (a = p + 1 → v ≤ 9)) → ((∃ nu2 va2, B_X4_endNumber_81 f (nI n, nI a, tk, nI p, nu, B) = some (nI n, nI a, 4, nI p, nu2, B) ∧ (if 2 < (nI a - nI p) then B_X7_reads_236 (nI n) T f (nI a) (nI p) 2 va 0 wr 0 else B_X7_reads_236 (nI n) T f (nI a) (nI p) 2 va 0 wr 1) = some (nI a, nI p, 2, va2, 1, nI p)) ∨ (∃ v, v ≤ 99 ∧ B_X4_endNumber_81 f (nI n, nI a, tk, nI p, nu, B) = some (nI n, nI a, 2, nI p, nI v, B) ∧ (if 2 < (nI a - nI p) then B_X7_reads_236 (nI n) T f (nI a) (nI p) 2 va 0 wr 0 else B_X7_reads_236 (nI n) T f (nI a) (nI p) 2 va 0 wr 1) = some (nI a, nI p, 2, nI v, 0, wr))) := by
    intro f a nu va ha hp hv
    unfold B_X4_endNumber_81
    simp only
    rw [pk_sub (show p ≤ a by omega)]
    by_cases c : 2 < a - p
    · left
      rw [if_pos (show (2 : Int32) < nI (a - p) from (nI_ltI (a := 2) (b := a - p) (by omega) (by omega)).mpr c), if_pos (show (2 : Int32) < nI (a - p) from (nI_ltI (a := 2) (b := a - p) (by omega) (by omega)).mpr c)]
      exact ⟨nu, va, rfl, rfl⟩
    · right
      obtain ⟨v, v1, rfl, rfl, -⟩ := hv (by omega)
      rw [if_neg (show ¬ (2 : Int32) < nI (a - p) from fun q => c ((nI_ltI (a := 2) (b := a - p) (by omega) (by omega)).mp q)), if_neg (show ¬ (2 : Int32) < nI (a - p) from fun q => c ((nI_ltI (a := 2) (b := a - p) (by omega) (by omega)).mp q))]
      exact ⟨v, v1, rfl, rfl⟩
  intro k
  induction k with
  | zero =>
    intro f e a nu va ha hf he hp hv
    obtain ⟨f, rfl⟩ : ∃ g, f = g + 1 := ⟨f - 1, by omega⟩
    obtain ⟨e, rfl⟩ : ∃ g, e = g + 1 := ⟨e - 1, by omega⟩
    have e1 : M_X4_endNumber_5 (f + 1) (nI n, nI a, tk, nI p, nu, B) = B_X4_endNumber_81 f (nI n, nI a, tk, nI p, nu, B) := by
      show B_X4_endNumber_5 _ _ _ = _
      unfold B_X4_endNumber_5
      simp (disch := omega) only [nI_leI]
      rw [if_pos (by omega)]
    have e2 : M_X7_reads_140 (nI n) T (e + 1) (nI a) (nI p) 2 va 0 wr = (if 2 < (nI a - nI p) then B_X7_reads_236 (nI n) T e (nI a) (nI p) 2 va 0 wr 0 else B_X7_reads_236 (nI n) T e (nI a) (nI p) 2 va 0 wr 1) := by
      show B_X7_reads_140 _ _ _ _ _ _ _ _ _ _ = _
      unfold B_X7_reads_140
      rw [ba_n h (by omega), if_neg (by omega)]
      rfl
    rw [e1, e2]
    exact ⟨a, Nat.le_refl _, by omega, fin f a nu va (by omega) hp hv⟩
  | succ k ih =>
    intro f e a nu va ha hf he hp hv
    obtain ⟨f, rfl⟩ : ∃ g, f = g + 1 := ⟨f - 1, by omega⟩
    obtain ⟨e, rfl⟩ : ∃ g, e = g + 1 := ⟨e - 1, by omega⟩
    obtain ⟨h1, h2, h3⟩ := h.2 a (by omega)
    by_cases c : 48 ≤ b a ∧ b a ≤ 57
    · have e1 : M_X4_endNumber_5 (f + 1) (nI n, nI a, tk, nI p, nu, B) = M_X4_endNumber_5 f (nI n, nI (a + 1), tk, nI p, nu * 10 + nI (b a) - 48, B) := by
        show B_X4_endNumber_5 _ _ _ = _
        unfold B_X4_endNumber_5
        rw [if_neg (fun q => by have := (nI_leI (by omega) (by omega)).mp q; omega)]
        simp (disch := omega) only [gi_k, nI_clamp, h1, nm_s, nI_1]
        rw [if_neg (fun q => by have := (nI_ltI (a := b a) (b := 48) (by omega) (by omega)).mp q; omega), if_neg (fun q => by have := (nI_ltI (a := 57) (b := b a) (by omega) (by omega)).mp q; omega)]
      have e2 : M_X7_reads_140 (nI n) T (e + 1) (nI a) (nI p) 2 va 0 wr = M_X7_reads_140 (nI n) T e (nI (a + 1)) (nI p) 2 (if p + 2 ≤ a then va else 10 * va + nI (b a) - 48) 0 wr := by
        show B_X7_reads_140 _ _ _ _ _ _ _ _ _ _ = _
        unfold B_X7_reads_140 B_X7_reads_201
        rw [ba_n h (by omega), if_pos (by omega)]
        simp only [bn_s]
        rw [in_k (nI (b a)) (nI 48) (nI 57) 48 57 (by decide) (by decide), iw_n h3 (by omega) (by omega), if_pos c]
        simp only [bn_s, i1_0, nm_s, nI_1]
        rw [pk_sub (show p ≤ a by omega)]
        by_cases c2 : p + 2 ≤ a
        · rw [if_pos c2, if_pos (show (2 : Int32) ≤ nI (a - p) from (nI_leI (a := 2) (b := a - p) (by omega) (by omega)).mpr (by omega))]
        · rw [if_neg c2, if_neg (show ¬ (2 : Int32) ≤ nI (a - p) from fun q => c2 (by have := (nI_leI (a := 2) (b := a - p) (by omega) (by omega)).mp q; omega))]
      rw [e1, e2]
      obtain ⟨a2, r1, r2, r3⟩ := ih f e (a + 1) (nu * 10 + nI (b a) - 48) (if p + 2 ≤ a then va else 10 * va + nI (b a) - 48) (by omega) (by omega) (by omega) (by omega) (fun q => by
        obtain ⟨v, v1, rfl, rfl, v2⟩ := hv (by omega)
        have v3 := v2 (by omega)
        refine ⟨10 * v + b a - 48, by omega, ?_, ?_, fun z => absurd z (by omega)⟩
        · rw [show (10 : Int32) = nI 10 from rfl, show (48 : Int32) = nI 48 from rfl, pk_mul, nI_add, pk_sub (by omega)]
          congr 1
          omega
        · rw [if_neg (by omega), show (10 : Int32) = nI 10 from rfl, show (48 : Int32) = nI 48 from rfl, pk_mul, nI_add, pk_sub (by omega)])
      exact ⟨a2, by omega, r2, r3⟩
    · have e1 : M_X4_endNumber_5 (f + 1) (nI n, nI a, tk, nI p, nu, B) = B_X4_endNumber_81 f (nI n, nI a, tk, nI p, nu, B) := by
        show B_X4_endNumber_5 _ _ _ = _
        unfold B_X4_endNumber_5
        rw [if_neg (fun q => by have := (nI_leI (by omega) (by omega)).mp q; omega)]
        simp (disch := omega) only [gi_k, nI_clamp, h1, nm_s, nI_1, show (48 : Int32) = nI 48 from rfl, show (57 : Int32) = nI 57 from rfl, nI_ltI]
        by_cases c2 : b a < 48
        · rw [if_pos c2]
        · rw [if_neg c2, if_pos (by omega)]
      have e2 : M_X7_reads_140 (nI n) T (e + 1) (nI a) (nI p) 2 va 0 wr = (if 2 < (nI a - nI p) then B_X7_reads_236 (nI n) T e (nI a) (nI p) 2 va 0 wr 0 else B_X7_reads_236 (nI n) T e (nI a) (nI p) 2 va 0 wr 1) := by
        show B_X7_reads_140 _ _ _ _ _ _ _ _ _ _ = _
        unfold B_X7_reads_140
        rw [ba_n h (by omega), if_pos (by omega)]
        simp only [bn_s]
        rw [in_k (nI (b a)) (nI 48) (nI 57) 48 57 (by decide) (by decide), iw_n h3 (by omega) (by omega), if_neg c]
        rfl
      rw [e1, e2]
      exact ⟨a, Nat.le_refl _, by omega, fin f a nu va (by omega) hp hv⟩
end
