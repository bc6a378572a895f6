/-! a number that is asked for -/
section
variable {n : Nat} {b : Nat → Nat} {B T : Nat → Int32}
theorem ex_4 {t : s_T} {R : s_R} {k : Int32} (h : t.2.2.1 = 4) : M_X1_expect t R k = some (0, (R.1, R.2.1, 1)) := by
  unfold M_X1_expect B_X1_expect_0
  rw [if_pos h]
  rfl
theorem ex_k {t : s_T} {R : s_R} {k : Int32} (h : t.2.2.1 = k) (h4 : ¬ k = 4) : M_X1_expect t R k = some (1, R) := by
  unfold M_X1_expect B_X1_expect_0
  rw [if_neg (by rw [h]; exact h4), if_pos h]
theorem ex_n2 {t : s_T} {R : s_R} {k : Int32} (h : ¬ t.2.2.1 = k) (h4 : ¬ t.2.2.1 = 4) : M_X1_expect t R k = some (0, (R.1, R.2.1, 2)) := by
  unfold M_X1_expect B_X1_expect_0
  rw [if_neg h4, if_neg h]
  rfl
/-- both found a fault, the same, at the same place -/
def fx_p (R : s_R) (t : s_T) (fa wr : Int32) : Prop := ∃ x, 1 ≤ x ∧ x ≤ 6 ∧ R.2.2 = nI x ∧ fa = nI x ∧ wr = t.2.2.2.1
theorem lk_r {f lo : Nat} {wr0 so bg va fa wr ps : Int32} {t0 t : s_T} {R : s_R} (hlo : lo ≤ 1) (hadv : M_X4_advance f t0 = some t) (al : tk_p n B wr0 t (ps, bg, so, va, fa, wr)) : ∃ ok R' v fa' wr', M_X1_readNumber f R t0 (nI lo) = some (ok, R', t) ∧ M_X7_looked bg so va fa wr (nI lo) 99 = some (v, fa', wr') ∧ ((ok = 1 ∧ R' = R ∧ fa' = 0 ∧ wr' = wr ∧ ∃ x, lo ≤ x ∧ x ≤ 99 ∧ v = nI x ∧ t.2.2.2.2.1 = nI x) ∨ (ok = 0 ∧ fx_p R' t fa' wr')) := by
  obtain ⟨a, p, tk, nu, so2, va2, fa2, wr2, rfl, e, h1, h2, h3⟩ := al
  simp only [Prod.mk.injEq] at e
  obtain ⟨rfl, rfl, rfl, rfl, rfl, rfl⟩ := e
  unfold M_X1_readNumber B_X1_readNumber_0
  rw [hadv]
  simp only [bn_s]
  rcases h3 with ⟨rfl, rfl, rfl⟩ | ⟨rfl, rfl, rfl, h4⟩
  · rw [ex_4 rfl]
    refine ⟨0, (R.1, R.2.1, 1), 0, 1, nI p, rfl, ?_, Or.inr ⟨rfl, 1, by omega, by omega, rfl, rfl, rfl⟩⟩
    unfold M_X7_looked B_X7_looked_0 B_X7_looked_25 B_X7_looked_49
    rw [i1_0, i1_0, i1_0]
  · by_cases c : tk = 2
    · subst c
      rw [ex_k (k := 2) rfl (by decide)]
      obtain ⟨x, x1, rfl, rfl⟩ : ∃ v, v ≤ 99 ∧ nu = nI v ∧ va = nI v := by
        rcases h4 with ⟨z, -⟩ | z | ⟨-, z⟩ | z
        · exact absurd z (by decide)
        · exact absurd z (by decide)
        · exact z
        · exact absurd z (by decide)
      have el : M_X7_looked (nI p) 2 (nI x) 0 wr (nI lo) 99 = some (if lo ≤ x then (nI x, 0, wr) else (0, 3, nI p)) := by
        unfold M_X7_looked B_X7_looked_0 B_X7_looked_21
        rw [i0_0, if_pos rfl, show M_X7_needs (nI p) 0 wr 1 2 = some (0, wr) from rfl]
        simp only [bn_s]
        unfold B_X7_looked_25
        rw [i0_0, in_e, show (99 : Int32) = nI 99 from rfl, iw_n (by omega) (by omega) (by omega)]
        simp only [bn_s]
        by_cases c : lo ≤ x
        · rw [if_pos ⟨c, x1⟩, if_pos c]
          rfl
        · rw [if_neg (fun q => c q.1), if_neg c]
          rfl
      rw [el]
      simp only [bn_s, i1_0]
      by_cases c : lo ≤ x
      · rw [if_pos c, if_pos ((nI_leI (by omega) (by omega)).mpr c)]
        exact ⟨1, R, nI x, 0, wr, rfl, rfl, Or.inl ⟨rfl, rfl, rfl, rfl, x, c, x1, rfl, rfl⟩⟩
      · rw [if_neg c, if_neg (fun q => c ((nI_leI (by omega) (by omega)).mp q))]
        exact ⟨0, (R.1, R.2.1, 3), 0, 3, nI p, rfl, rfl, Or.inr ⟨rfl, 3, by omega, by omega, rfl, rfl, rfl⟩⟩
    · have n4 : ¬ tk = 4 := by
        rcases h4 with ⟨z, -⟩ | z | ⟨z, -⟩ | z <;> rw [z] <;> decide
      rw [ex_n2 c n4]
      refine ⟨0, (R.1, R.2.1, 2), 0, 2, nI p, rfl, ?_, Or.inr ⟨rfl, 2, by omega, by omega, rfl, rfl, rfl⟩⟩
      unfold M_X7_looked B_X7_looked_0 B_X7_looked_21
      rw [i0_0, if_neg c, show M_X7_needs (nI p) 0 wr 0 2 = some (2, nI p) from rfl]
      rfl
end
