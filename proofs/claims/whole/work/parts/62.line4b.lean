/-! the barrow's line, in both -/
section
variable {n : Nat} {b : Nat → Nat} {B T : Nat → Int32}
theorem rn_f {f x : Nat} {n2 ps bg so va fa wr lo hi : Int32} (h1 : 1 ≤ x) (h2 : x ≤ 6) (e : fa = nI x) : M_X7_readNumber n2 T f ps bg so va fa wr lo hi = some (0, ps, bg, so, va, fa, wr) := by
  have n0 : ¬ fa = 0 := by rw [e]; exact nI_ne0 (by omega) (by omega)
  unfold M_X7_readNumber B_X7_readNumber_0 M_X7_looked B_X7_looked_0 B_X7_looked_25 B_X7_looked_49
  rw [if_neg n0, if_neg n0, if_neg n0]
  simp only [bn_s]
  rw [rd_f h1 h2 e]
  rfl
theorem en_f {f x : Nat} {dp hb hr hi ps bg so va fa wr : Int32} {dr : Nat → Int32} (h1 : 1 ≤ x) (h2 : x ≤ 6) (e : fa = nI x) : (if fa = 0 then (if so = 3 then B_X7_readLine_181 (nI n) T f dp hb hr hi ps bg so va fa wr dr 1 else B_X7_readLine_181 (nI n) T f dp hb hr hi ps bg so va fa wr dr 0) else B_X7_readLine_185 (nI n) T f dp hb hr hi ps bg so va fa wr dr) = some (dp, hb, hr, hi, ps, bg, so, va, fa, wr, dr) := by
  have n0 : ¬ fa = 0 := by rw [e]; exact nI_ne0 (by omega) (by omega)
  rw [if_neg n0]
  unfold B_X7_readLine_185
  rw [rd_f h1 h2 e]
  rfl
theorem bl_r {f : Nat} {wr0 dp hb hr hi : Int32} {dr : Nat → Int32} {t0 t : s_T} {q : Int32 × Int32 × Int32 × Int32 × Int32 × Int32} {R : s_R} {w : s_W} (h : tb_p n b B T) (hf : 500 < f) (hR : R.1 = 0) (hadv : M_X4_advance f t0 = some t) (al : tk_p n B wr0 t q) (hq : q.2.2.2.2.1 ≤ 0) : ∃ ok R' t2 w', M_X1_readBarrow f R t0 w = some (ok, R', t2, w') ∧ ((ok = 1 ∧ R' = (1, R.2.1, R.2.2) ∧ ∃ x1 x2 t3 q3 wr3, 1 ≤ x1 ∧ x1 ≤ 99 ∧ x2 ≤ 99 ∧ w' = (w.1, w.2.1, nI x1, nI x2, w.2.2.2.2) ∧ M_X4_advance f t2 = some t3 ∧ tk_p n B wr3 t3 q3 ∧ tl_n n T f dp hb hr hi dr 4 q = some (dp, hb, hr, hi, q3.1, q3.2.1, q3.2.2.1, q3.2.2.2.1, q3.2.2.2.2.1, q3.2.2.2.2.2, upd (upd dr 15 (nI x1)) 16 (nI x2))) ∨ (ok = 0 ∧ ∃ fa2 wr2, fx_p R' t2 fa2 wr2 ∧ tf_p (tl_n n T f dp hb hr hi dr 4 q) fa2 wr2)) := by
  obtain ⟨ps, bg, so, va, fa, wr⟩ := q
  unfold tl_n
  rw [if_pos hq]
  unfold M_X7_readLineOf B_X7_readLineOf_0
  rw [if_pos rfl]
  simp only
  unfold M_X1_readBarrow B_X1_readBarrow_0
  rw [if_pos hR]
  have g15 : ∀ E : Option (Int32 × Int32 × Int32 × Int32 × Int32 × Int32 × Int32 × Int32 × (Nat → Int32)), gi_n 15 46 E = E := fun E => gi_k (n := 15) (by omega) (by omega)
  have g16 : ∀ E : Option (Int32 × Int32 × Int32 × Int32 × Int32 × Int32 × Int32 × Int32 × (Nat → Int32)), gi_n 16 46 E = E := fun E => gi_k (n := 16) (by omega) (by omega)
  obtain ⟨ok1, R1, e1, h1⟩ := rn_r (lo := 1) (R := (1, R.2.1, R.2.2)) h hf (by omega) hadv al
  rw [show M_X1_readNumber f (1, R.2.1, R.2.2) t0 1 = _ from e1]
  simp only [bn_s, g15, g16]
  rcases h1 with ⟨rfl, rfl, x1, t2, q2, a1, a2, a3, a4, al2, a5⟩ | ⟨rfl, v, fa2, wr2, fx, a5⟩
  · rw [show M_X7_readNumber (nI n) T f ps bg so va fa wr 1 99 = _ from a5]
    simp only [bn_s, i1_0]
    obtain ⟨ps2, bg2, so2, va2, fa2, wr2⟩ := q2
    obtain ⟨ok2, R2, e2, h2⟩ := rn_r (lo := 0) (R := (1, R.2.1, R.2.2)) h hf (by omega) a4 al2
    rw [show M_X1_readNumber f (1, R.2.1, R.2.2) t 0 = _ from e2]
    simp only [bn_s]
    rcases h2 with ⟨rfl, rfl, x2, t3, q3, b1, b2, b3, b4, al3, b5⟩ | ⟨rfl, v, fa3, wr3, fx, b5⟩
    · rw [show M_X7_readNumber (nI n) T f ps2 bg2 so2 va2 fa2 wr2 0 99 = _ from b5]
      simp only [bn_s, i1_0]
      obtain ⟨ps3, bg3, so3, va3, fa3, wr3⟩ := q3
      obtain ⟨ok3, R3, e3, h3⟩ := le_r (R := (1, R.2.1, R.2.2)) (dp := dp) (hb := hb) (hr := hr) (hi := hi) (dr := upd (upd dr 15 (nI x1)) 16 (nI x2)) h hf b4 al3
      rw [e3]
      simp only [bn_s]
      rcases h3 with ⟨rfl, rfl, t4, q4, c1, c2, c3⟩ | ⟨rfl, fa4, wr4, fx, c3⟩
      · refine ⟨1, (1, R.2.1, R.2.2), t3, (w.1, w.2.1, nI x1, nI x2, w.2.2.2.2), ?_, Or.inl ⟨rfl, rfl, x1, x2, t4, q4, _, a1, a2, b2, rfl, c1, c2, c3⟩⟩
        rw [a3, b3]
        rfl
      · refine ⟨0, R3, t3, (w.1, w.2.1, nI x1, nI x2, w.2.2.2.2), ?_, Or.inr ⟨rfl, fa4, wr4, fx, _, c3, rfl, rfl⟩⟩
        rw [a3, b3]
        rfl
    · rw [show M_X7_readNumber (nI n) T f ps2 bg2 so2 va2 fa2 wr2 0 99 = _ from b5]
      simp only [bn_s, i0_0]
      obtain ⟨x, y1, y2, y3, y4, y5⟩ := id fx
      refine ⟨0, R2, t2, _, rfl, Or.inr ⟨rfl, fa3, wr3, fx, _, en_f y1 y2 y4, rfl, rfl⟩⟩
  · rw [show M_X7_readNumber (nI n) T f ps bg so va fa wr 1 99 = _ from a5]
    simp only [bn_s, i0_0]
    obtain ⟨x, y1, y2, y3, y4, y5⟩ := id fx
    rw [rn_f y1 y2 y4]
    simp only [bn_s]
    refine ⟨0, R1, t, w, rfl, Or.inr ⟨rfl, fa2, wr2, fx, _, en_f y1 y2 y4, rfl, rfl⟩⟩
end
