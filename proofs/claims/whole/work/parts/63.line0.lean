/-! a one's line, in both -/
section
variable {n : Nat} {b : Nat → Nat} {B T : Nat → Int32}
theorem ao_r {pe : Nat} {w : s_W} {v1 v2 v3 : Int32} (hw : w.1 = nI pe) (h5 : pe < 5) : M_X5_addOne w v1 v2 v3 = some (nI (pe + 1), w.2.1, w.2.2.1, w.2.2.2.1, w.2.2.2.2.1, w.2.2.2.2.2.1, w.2.2.2.2.2.2.1, upd w.2.2.2.2.2.2.2.1 pe v1, upd w.2.2.2.2.2.2.2.2.1 pe v2, upd w.2.2.2.2.2.2.2.2.2.1 pe v3, w.2.2.2.2.2.2.2.2.2.2) := by
  unfold M_X5_addOne B_X5_addOne_0
  rw [hw]
  simp (disch := omega) only [gi_k, nI_clamp, nm_s, nI_1]
  rw [if_neg (fun q => by have := (nI_leI (a := 5) (b := pe) (by omega) (by omega)).mp q; omega)]
theorem ol_r {f pe kd : Nat} {wr0 hb hr hi : Int32} {dr : Nat → Int32} {t0 t : s_T} {q : Int32 × Int32 × Int32 × Int32 × Int32 × Int32} {R : s_R} {w : s_W} (h : tb_p n b B T) (hf : 500 < f) (hw : w.1 = nI pe) (h5 : pe < 5) (hk : kd ≤ 3) (hadv : M_X4_advance f t0 = some t) (al : tk_p n B wr0 t q) (hq : q.2.2.2.2.1 ≤ 0) : ∃ ok R' t2 w', M_X1_readOne f R w t0 (nI kd) = some (ok, R', w', t2) ∧ ((ok = 1 ∧ R' = R ∧ ∃ x1 x2 t3 q3 wr3, x1 ≤ 99 ∧ 1 ≤ x2 ∧ x2 ≤ 99 ∧ M_X5_addOne w (nI kd) (nI x1) (nI x2) = some w' ∧ M_X4_advance f t2 = some t3 ∧ tk_p n B wr3 t3 q3 ∧ tl_n n T f (nI pe) hb hr hi dr (nI kd) q = some (nI (pe + 1), hb, hr, hi, q3.1, q3.2.1, q3.2.2.1, q3.2.2.2.1, q3.2.2.2.2.1, q3.2.2.2.2.2, upd (upd (upd dr (3 * pe) (nI kd)) (3 * pe + 1) (nI x1)) (3 * pe + 2) (nI x2))) ∨ (ok = 0 ∧ ∃ fa2 wr2, fx_p R' t2 fa2 wr2 ∧ tf_p (tl_n n T f (nI pe) hb hr hi dr (nI kd) q) fa2 wr2)) := by
  obtain ⟨ps, bg, so, va, fa, wr⟩ := q
  unfold tl_n
  rw [if_pos hq]
  unfold M_X7_readLineOf B_X7_readLineOf_0
  have k4 : ¬ nI kd = 4 := fun z => by have := (nI_eq (a := kd) (b := 4) (by omega) (by omega)).mp z; omega
  have k5 : ¬ nI kd = 5 := fun z => by have := (nI_eq (a := kd) (b := 5) (by omega) (by omega)).mp z; omega
  rw [if_neg k4, if_neg k5]
  simp only
  unfold M_X1_readOne B_X1_readOne_0
  rw [hw, if_pos (show nI pe < (5 : Int32) from (nI_ltI (a := pe) (b := 5) (by omega) (by omega)).mpr h5)]
  have g0 : (3 : Int32) * nI pe + 0 = nI (3 * pe) := by rw [show (3 : Int32) = nI 3 from rfl, pk_mul, show (0 : Int32) = nI 0 from rfl, nI_add, Nat.add_zero]
  have g1 : (3 : Int32) * nI pe + 1 = nI (3 * pe + 1) := by rw [show (3 : Int32) = nI 3 from rfl, pk_mul, nI_1]
  have g2 : (3 : Int32) * nI pe + 2 = nI (3 * pe + 2) := by rw [show (3 : Int32) = nI 3 from rfl, pk_mul, show (2 : Int32) = nI 2 from rfl, nI_add]
  rw [g0, g1, g2]
  simp (disch := omega) only [gi_k, nI_clamp, nm_s, nI_1]
  obtain ⟨ok1, R1, e1, h1⟩ := rn_r (lo := 0) (R := R) h hf (by omega) hadv al
  rw [show M_X1_readNumber f R t0 0 = _ from e1]
  simp only [bn_s]
  rcases h1 with ⟨rfl, rfl, x1, t2, q2, a1, a2, a3, a4, al2, a5⟩ | ⟨rfl, v, fa2, wr2, fx, a5⟩
  · rw [show M_X7_readNumber (nI n) T f ps bg so va fa wr 0 99 = _ from a5]
    simp only [bn_s, i1_0]
    obtain ⟨ps2, bg2, so2, va2, fa2, wr2⟩ := q2
    obtain ⟨ok2, R2, e2, h2⟩ := rn_r (lo := 1) (R := R1) h hf (by omega) a4 al2
    rw [show M_X1_readNumber f R1 t 1 = _ from e2]
    simp only [bn_s]
    rcases h2 with ⟨rfl, rfl, x2, t3, q3, b1, b2, b3, b4, al3, b5⟩ | ⟨rfl, v, fa3, wr3, fx, b5⟩
    · rw [show M_X7_readNumber (nI n) T f ps2 bg2 so2 va2 fa2 wr2 1 99 = _ from b5]
      simp only [bn_s, i1_0]
      obtain ⟨ps3, bg3, so3, va3, fa3, wr3⟩ := q3
      obtain ⟨ok3, R3, e3, h3⟩ := le_r (R := R2) (dp := nI (pe + 1)) (hb := hb) (hr := hr) (hi := hi) (dr := upd (upd (upd dr (3 * pe) (nI kd)) (3 * pe + 1) (nI x1)) (3 * pe + 2) (nI x2)) h hf b4 al3
      rw [a3, b3, ao_r hw h5]
      simp only [bn_s]
      rw [e3]
      simp only [bn_s]
      rcases h3 with ⟨rfl, rfl, t4, q4, c1, c2, c3⟩ | ⟨rfl, fa4, wr4, fx, c3⟩
      · exact ⟨1, R3, t3, _, rfl, Or.inl ⟨rfl, rfl, x1, x2, t4, q4, _, a2, b1, b2, ao_r hw h5, c1, c2, c3⟩⟩
      · exact ⟨0, R3, t3, _, rfl, Or.inr ⟨rfl, fa4, wr4, fx, _, c3, rfl, rfl⟩⟩
    · rw [show M_X7_readNumber (nI n) T f ps2 bg2 so2 va2 fa2 wr2 1 99 = _ from b5]
      simp only [bn_s, i0_0]
      obtain ⟨x, y1, y2, y3, y4, y5⟩ := id fx
      exact ⟨0, R2, t2, w, rfl, Or.inr ⟨rfl, fa3, wr3, fx, _, en_f y1 y2 y4, rfl, rfl⟩⟩
  · rw [show M_X7_readNumber (nI n) T f ps bg so va fa wr 0 99 = _ from a5]
    simp only [bn_s, i0_0]
    obtain ⟨x, y1, y2, y3, y4, y5⟩ := id fx
    rw [rn_f y1 y2 y4]
    simp only [bn_s]
    exact ⟨0, R1, t, w, rfl, Or.inr ⟨rfl, fa2, wr2, fx, _, en_f y1 y2 y4, rfl, rfl⟩⟩
end
