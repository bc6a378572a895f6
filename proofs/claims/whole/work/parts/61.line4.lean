/-! the barrow's line -/
section
variable {n : Nat} {b : Nat → Nat} {B T : Nat → Int32}
/-- what the reference does behind a line's name, a token read -/
def tl_n (n : Nat) (T : Nat → Int32) (f : Nat) (dp hb hr hi : Int32) (dr : Nat → Int32) (k : Int32) (q : Int32 × Int32 × Int32 × Int32 × Int32 × Int32) : Option (Int32 × Int32 × Int32 × Int32 × Int32 × Int32 × Int32 × Int32 × Int32 × Int32 × (Nat → Int32)) := if q.2.2.2.2.1 ≤ 0 then ((M_X7_readLineOf (nI n) T f dp hi q.1 q.2.1 q.2.2.1 q.2.2.2.1 q.2.2.2.2.1 q.2.2.2.2.2 dr k).bind (fun u => if u.2.2.2.2.2.2.1 = 0 then (if u.2.2.2.2.1 = 3 then (B_X7_readLine_181 (nI n) T f u.1 hb hr u.2.1 u.2.2.1 u.2.2.2.1 u.2.2.2.2.1 u.2.2.2.2.2.1 u.2.2.2.2.2.2.1 u.2.2.2.2.2.2.2.1 u.2.2.2.2.2.2.2.2 1) else (B_X7_readLine_181 (nI n) T f u.1 hb hr u.2.1 u.2.2.1 u.2.2.2.1 u.2.2.2.2.1 u.2.2.2.2.2.1 u.2.2.2.2.2.2.1 u.2.2.2.2.2.2.2.1 u.2.2.2.2.2.2.2.2 0)) else (B_X7_readLine_185 (nI n) T f u.1 hb hr u.2.1 u.2.2.1 u.2.2.2.1 u.2.2.2.2.1 u.2.2.2.2.2.1 u.2.2.2.2.2.2.1 u.2.2.2.2.2.2.2.1 u.2.2.2.2.2.2.2.2))) else (some (dp, hb, hr, hi, q.1, q.2.1, q.2.2.1, q.2.2.2.1, q.2.2.2.2.1, q.2.2.2.2.2, dr))
/-- the reference found a fault in a line: its code, its place -/
def tf_p (o : Option (Int32 × Int32 × Int32 × Int32 × Int32 × Int32 × Int32 × Int32 × Int32 × Int32 × (Nat → Int32))) (fa wr : Int32) : Prop := ∃ u, o = some u ∧ u.2.2.2.2.2.2.2.2.1 = fa ∧ u.2.2.2.2.2.2.2.2.2.1 = wr
/-- a number is read, in the reference; the next token in both -/
theorem rn_r {f lo : Nat} {wr0 so bg va fa wr ps : Int32} {t0 t : s_T} {R : s_R} (h : tb_p n b B T) (hf : 500 < f) (hlo : lo ≤ 1) (hadv : M_X4_advance f t0 = some t) (al : tk_p n B wr0 t (ps, bg, so, va, fa, wr)) : ∃ ok R', M_X1_readNumber f R t0 (nI lo) = some (ok, R', t) ∧ ((ok = 1 ∧ R' = R ∧ ∃ x t2 q2, lo ≤ x ∧ x ≤ 99 ∧ t.2.2.2.2.1 = nI x ∧ M_X4_advance f t = some t2 ∧ tk_p n B wr t2 q2 ∧ M_X7_readNumber (nI n) T f ps bg so va fa wr (nI lo) 99 = some (nI x, q2)) ∨ (ok = 0 ∧ ∃ v fa2 wr2, fx_p R' t fa2 wr2 ∧ M_X7_readNumber (nI n) T f ps bg so va fa wr (nI lo) 99 = some (v, ps, bg, so, va, fa2, wr2))) := by
  obtain ⟨ok, R', v, fa2, wr2, e1, e2, h3⟩ := lk_r (R := R) hlo hadv al
  refine ⟨ok, R', e1, ?_⟩
  unfold M_X7_readNumber B_X7_readNumber_0
  rw [e2]
  simp only [bn_s]
  rcases h3 with ⟨rfl, rfl, rfl, rfl, x, x1, x2, rfl, x3⟩ | ⟨rfl, fx⟩
  · left
    obtain ⟨t2, q2, e3, e4, al2⟩ := rd_n (bg := bg) (so := so) (va := va) (wr := wr2) h al hf
    refine ⟨rfl, rfl, x, t2, q2, x1, x2, x3, e3, al2, ?_⟩
    rw [show M_X7_reads (nI n) T f ps bg so va 0 wr2 = some q2 from e4]
    rfl
  · right
    refine ⟨rfl, v, fa2, wr2, fx, ?_⟩
    obtain ⟨x, x1, x2, -, x3, -⟩ := fx
    rw [rd_f x1 x2 x3]
    rfl
end
