/-! a token that is asked for: a name, a stop -/
section
variable {n : Nat} {b : Nat → Nat} {B T : Nat → Int32}
theorem xp_r {k wr0 so bg va fa wr ps : Int32} {t : s_T} {R : s_R} (hk : ¬ k = 4) (al : tk_p n B wr0 t (ps, bg, so, va, fa, wr)) : ∃ ok R', M_X1_expect t R k = some (ok, R') ∧ ((ok = 1 ∧ R' = R ∧ fa = 0 ∧ so = k) ∨ (ok = 0 ∧ fa = 0 ∧ ¬ so = k ∧ fx_p R' t 2 bg) ∨ (ok = 0 ∧ ¬ fa = 0 ∧ fx_p R' t fa wr)) := by
  obtain ⟨a, p, tk, nu, so2, va2, fa2, wr2, rfl, e, h1, h2, h3⟩ := al
  simp only [Prod.mk.injEq] at e
  obtain ⟨rfl, rfl, rfl, rfl, rfl, rfl⟩ := e
  rcases h3 with ⟨rfl, rfl, rfl⟩ | ⟨rfl, rfl, rfl, h4⟩
  · rw [ex_4 rfl]
    exact ⟨0, (R.1, R.2.1, 1), rfl, Or.inr (Or.inr ⟨rfl, by decide, 1, by omega, by omega, rfl, rfl, rfl⟩)⟩
  · by_cases c : tk = k
    · rw [ex_k (k := k) c hk]
      exact ⟨1, R, rfl, Or.inl ⟨rfl, rfl, rfl, c⟩⟩
    · have n4 : ¬ tk = 4 := by
        rcases h4 with ⟨z, -⟩ | z | ⟨z, -⟩ | z <;> rw [z] <;> decide
      rw [ex_n2 (k := k) c n4]
      exact ⟨0, (R.1, R.2.1, 2), rfl, Or.inr (Or.inl ⟨rfl, rfl, c, 2, by omega, by omega, rfl, rfl, rfl⟩)⟩
theorem st_r {f : Nat} {wr0 so bg va fa wr ps : Int32} {t0 t : s_T} {R : s_R} (hadv : M_X4_advance f t0 = some t) (al : tk_p n B wr0 t (ps, bg, so, va, fa, wr)) : ∃ ok R', M_X1_readStop f R t0 = some (ok, R', t) ∧ ((ok = 1 ∧ R' = R ∧ fa = 0 ∧ so = 3) ∨ (ok = 0 ∧ fa = 0 ∧ ¬ so = 3 ∧ fx_p R' t 2 bg) ∨ (ok = 0 ∧ ¬ fa = 0 ∧ fx_p R' t fa wr)) := by
  obtain ⟨ok, R', e, h⟩ := xp_r (k := 3) (R := R) (by decide) al
  refine ⟨ok, R', ?_, h⟩
  unfold M_X1_readStop B_X1_readStop_0
  rw [hadv]
  simp only [bn_s]
  rw [e]
  simp only [bn_s]
  rcases h with ⟨rfl, -⟩ | ⟨rfl, -⟩ | ⟨rfl, -⟩ <;> rfl
/-- where a faultless token ends is where the next begins -/
theorem tk_n {wr0 : Int32} {t : s_T} {q : Int32 × Int32 × Int32 × Int32 × Int32 × Int32} (al : tk_p n B wr0 t q) : ∃ (a : Nat) (tk pl nu : Int32), a ≤ n ∧ t = (nI n, nI a, tk, pl, nu, B) ∧ q.1 = nI a := by
  obtain ⟨a, p, tk, nu, so2, va2, fa2, wr2, rfl, rfl, h1, h2, h3⟩ := al
  exact ⟨a, tk, nI p, nu, h2, rfl, rfl⟩
theorem rd_n {f : Nat} {wr0 wr bg so va : Int32} {t : s_T} {q : Int32 × Int32 × Int32 × Int32 × Int32 × Int32} (h : tb_p n b B T) (al : tk_p n B wr0 t q) (hf : 500 < f) : ∃ t2 q2, M_X4_advance f t = some t2 ∧ M_X7_reads (nI n) T f q.1 bg so va 0 wr = some q2 ∧ tk_p n B wr t2 q2 := by
  obtain ⟨a, tk, pl, nu, h1, rfl, h2⟩ := tk_n al
  rw [h2]
  exact rd_r h h1 hf
/-- a fault stays -/
theorem rd_f {f : Nat} {n2 ps bg so va fa wr : Int32} {x : Nat} (h1 : 1 ≤ x) (h2 : x ≤ 6) (e : fa = nI x) : M_X7_reads n2 T f ps bg so va fa wr = some (ps, bg, so, va, fa, wr) := by
  unfold M_X7_reads B_X7_reads_0
  rw [if_neg]
  rw [e]
  exact nI_nle (by omega) (by omega)
end
