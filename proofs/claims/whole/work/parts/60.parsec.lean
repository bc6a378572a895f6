/-! the end of a line -/
section
variable {n : Nat} {b : Nat → Nat} {B T : Nat → Int32}
theorem le_r {f : Nat} {wr0 so bg va fa wr ps dp hb hr hi : Int32} {dr : Nat → Int32} {t0 t : s_T} {R : s_R} (h : tb_p n b B T) (hf : 500 < f) (hadv : M_X4_advance f t0 = some t) (al : tk_p n B wr0 t (ps, bg, so, va, fa, wr)) : ∃ ok R', M_X1_readStop f R t0 = some (ok, R', t) ∧ ((ok = 1 ∧ R' = R ∧ ∃ t2 q2, M_X4_advance f t = some t2 ∧ tk_p n B wr t2 q2 ∧ (if fa = 0 then (if so = 3 then B_X7_readLine_181 (nI n) T f dp hb hr hi ps bg so va fa wr dr 1 else B_X7_readLine_181 (nI n) T f dp hb hr hi ps bg so va fa wr dr 0) else B_X7_readLine_185 (nI n) T f dp hb hr hi ps bg so va fa wr dr) = some (dp, hb, hr, hi, q2.1, q2.2.1, q2.2.2.1, q2.2.2.2.1, q2.2.2.2.2.1, q2.2.2.2.2.2, dr)) ∨ (ok = 0 ∧ ∃ fa2 wr2, fx_p R' t fa2 wr2 ∧ (if fa = 0 then (if so = 3 then B_X7_readLine_181 (nI n) T f dp hb hr hi ps bg so va fa wr dr 1 else B_X7_readLine_181 (nI n) T f dp hb hr hi ps bg so va fa wr dr 0) else B_X7_readLine_185 (nI n) T f dp hb hr hi ps bg so va fa wr dr) = some (dp, hb, hr, hi, ps, bg, so, va, fa2, wr2, dr))) := by
  obtain ⟨ok, R', e, h3⟩ := st_r (R := R) hadv al
  refine ⟨ok, R', e, ?_⟩
  rcases h3 with ⟨rfl, rfl, rfl, rfl⟩ | ⟨rfl, rfl, c, fx⟩ | ⟨rfl, c, fx⟩
  · left
    obtain ⟨t2, q2, e1, e2, al2⟩ := rd_n (bg := bg) (so := 3) (va := va) (wr := wr) h al hf
    refine ⟨rfl, rfl, t2, q2, e1, al2, ?_⟩
    rw [i0_0, if_pos rfl]
    unfold B_X7_readLine_181
    rw [show M_X7_needs bg 0 wr 1 2 = some (0, wr) from rfl]
    simp only [bn_s]
    unfold B_X7_readLine_185
    rw [show M_X7_reads (nI n) T f ps bg 3 va 0 wr = some q2 from e2]
    rfl
  · right
    refine ⟨rfl, 2, bg, fx, ?_⟩
    rw [i0_0, if_neg c]
    unfold B_X7_readLine_181
    rw [show M_X7_needs bg 0 wr 0 2 = some (2, bg) from rfl]
    simp only [bn_s]
    unfold B_X7_readLine_185
    rw [rd_f (x := 2) (fa := 2) (by omega) (by omega) rfl]
    rfl
  · right
    refine ⟨rfl, fa, wr, fx, ?_⟩
    obtain ⟨x, x1, x2, -, x3, -⟩ := fx
    rw [if_neg c]
    unfold B_X7_readLine_185
    rw [rd_f x1 x2 x3]
    rfl
end
