/-! the rota's line, to its end -/
section
variable {n : Nat} {b : Nat → Nat} {B T : Nat → Int32}
theorem le_x {f : Nat} {wr0 so bg va fa wr ps dp hb hr hi : Int32} {dr : Nat → Int32} {t : s_T} {R : s_R} (h : tb_p n b B T) (hf : 500 < f) (al : tk_p n B wr0 t (ps, bg, so, va, fa, wr)) : ∃ ok R', M_X1_expect t R 3 = some (ok, R') ∧ ((ok = 1 ∧ R' = R ∧ ∃ t2 q2, M_X4_advance f t = some t2 ∧ tk_p n B wr t2 q2 ∧ (if fa = 0 then (if so = 3 then B_X7_readLine_181 (nI n) T f dp hb hr hi ps bg so va fa wr dr 1 else B_X7_readLine_181 (nI n) T f dp hb hr hi ps bg so va fa wr dr 0) else B_X7_readLine_185 (nI n) T f dp hb hr hi ps bg so va fa wr dr) = some (dp, hb, hr, hi, q2.1, q2.2.1, q2.2.2.1, q2.2.2.2.1, q2.2.2.2.2.1, q2.2.2.2.2.2, dr)) ∨ (ok = 0 ∧ ∃ fa2 wr2, fx_p R' t fa2 wr2 ∧ (if fa = 0 then (if so = 3 then B_X7_readLine_181 (nI n) T f dp hb hr hi ps bg so va fa wr dr 1 else B_X7_readLine_181 (nI n) T f dp hb hr hi ps bg so va fa wr dr 0) else B_X7_readLine_185 (nI n) T f dp hb hr hi ps bg so va fa wr dr) = some (dp, hb, hr, hi, ps, bg, so, va, fa2, wr2, dr))) := by
  obtain ⟨ok, R', e, h3⟩ := xp_r (k := 3) (R := R) (by decide) al
  refine ⟨ok, R', e, ?_⟩
  rcases h3 with ⟨rfl, rfl, rfl, rfl⟩ | ⟨rfl, rfl, c, fx⟩ | ⟨rfl, c, fx⟩
  · left
    obtain ⟨t2, q2, e1, e2, al2⟩ := rd_n (bg := bg) (so := 3) (va := va) (wr := wr) h al hf
    refine ⟨rfl, rfl, t2, q2, e1, al2, ?_⟩
    rw [i0_0, if_pos rfl]
    unfold B_X7_readLine_181
    rw [show M_X7_needs bg 0 wr 1 2 = some (0, wr) from rfl]
    simp only [bn_s]
    unfold B_X7_readLine_185
    rw [show M_X7_reads (nI n) T f ps bg 3 va 0 wr = some q2 from e2]
    rfl
  · right
    refine ⟨rfl, 2, bg, fx, ?_⟩
    rw [i0_0, if_neg c]
    unfold B_X7_readLine_181
    rw [show M_X7_needs bg 0 wr 0 2 = some (2, bg) from rfl]
    simp only [bn_s]
    unfold B_X7_readLine_185
    rw [rd_f (x := 2) (fa := 2) (by omega) (by omega) rfl]
    rfl
  · right
    refine ⟨rfl, fa, wr, fx, ?_⟩
    obtain ⟨x, x1, x2, -, x3, -⟩ := fx
    rw [if_neg c]
    unfold B_X7_readLine_185
    rw [rd_f x1 x2 x3]
    rfl
theorem rt_r {f pe : Nat} {wr0 hb hr hi : Int32} {d : Nat → Nat} {t0 t : s_T} {q : Int32 × Int32 × Int32 × Int32 × Int32 × Int32} {R : s_R} {w : s_W} (h : tb_p n b B T) (hf : 700 < f) (hR : R.2.1 = 0) (hd : dw_p pe d hi w) (h0 : d 17 = 0) (hadv : M_X4_advance f t0 = some t) (al : tk_p n B wr0 t q) (hq : q.2.2.2.2.1 ≤ 0) : ∃ ok R' t2 w', M_X1_readRota f R t0 w = some (ok, R', t2, w') ∧ ((ok = 1 ∧ R' = (R.1, 1, R.2.2) ∧ ∃ d' hi' t3 q3 wr3, dw_p pe d' hi' w' ∧ M_X4_advance f t2 = some t3 ∧ tk_p n B wr3 t3 q3 ∧ tl_n n T f (nI pe) hb hr hi (nf_a d) 5 q = some (nI pe, hb, hr, hi', q3.1, q3.2.1, q3.2.2.1, q3.2.2.2.1, q3.2.2.2.2.1, q3.2.2.2.2.2, nf_a d')) ∨ (ok = 0 ∧ ∃ fa2 wr2, fx_p R' t2 fa2 wr2 ∧ tf_p (tl_n n T f (nI pe) hb hr hi (nf_a d) 5 q) fa2 wr2)) := by
  unfold tl_n
  rw [if_pos hq]
  unfold M_X7_readLineOf B_X7_readLineOf_0
  rw [if_neg (by decide), if_pos rfl]
  unfold M_X1_readRota B_X1_readRota_0 M_X7_readRota
  rw [if_pos hR, hadv]
  simp only [bn_s]
  have r := rl_r (R := (R.1, 1, R.2.2)) h 8 f d hi wr0 t q w (by omega) (by omega) hd al
  rw [h0] at r
  rcases r with ⟨d', hi', w', t', q', wr', hd', al', e1, e2⟩ | ⟨R', t', w', u, e1, e2, fx⟩
  · rw [show M_X1_readRota_27 f (R.1, 1, R.2.2) t w 0 = _ from e1, e2]
    simp only [bn_s]
    unfold B_X1_readRota_100
    obtain ⟨ps3, bg3, so3, va3, fa3, wr3⟩ := q'
    obtain ⟨ok3, R3, e3, h3⟩ := le_x (R := (R.1, 1, R.2.2)) (dp := nI pe) (hb := hb) (hr := hr) (hi := hi') (dr := nf_a d') h (show 500 < f by omega) al'
    rw [e3]
    simp only [bn_s]
    rcases h3 with ⟨rfl, rfl, t4, q4, c1, c2, c3⟩ | ⟨rfl, fa4, wr4, fx, c3⟩
    · exact ⟨1, _, t', w', rfl, Or.inl ⟨rfl, rfl, d', hi', t4, q4, _, hd', c1, c2, c3⟩⟩
    · exact ⟨0, R3, t', w', rfl, Or.inr ⟨rfl, fa4, wr4, fx, _, c3, rfl, rfl⟩⟩
  · rw [show M_X1_readRota_27 f (R.1, 1, R.2.2) t w 0 = _ from e1, e2]
    simp only [bn_s]
    obtain ⟨x, y1, y2, y3, y4, y5⟩ := id fx
    exact ⟨0, R', t', w', rfl, Or.inr ⟨rfl, _, _, fx, _, en_f y1 y2 y4, rfl, rfl⟩⟩
theorem rn_4 {f : Nat} {R : s_R} {t0 t : s_T} {lo : Int32} (hadv : M_X4_advance f t0 = some t) (h4 : t.2.2.1 = 4) : M_X1_readNumber f R t0 lo = some (0, (R.1, R.2.1, 1), t) := by
  unfold M_X1_readNumber B_X1_readNumber_0
  rw [hadv]
  simp only [bn_s]
  rw [ex_4 h4]
  rfl
end
/-! the chain of tests ahead of a line, in the reference -/
section
variable {n : Nat} {T : Nat → Int32} {f : Nat} {hi ps bg so va wr : Int32} {dr : Nat → Int32}
theorem lc_g {pe k x y : Nat} (hx : x ≤ 1) (hy : y ≤ 1) (hk : k < 6) (h5 : k < 4 → pe < 5) (h4 : k = 4 → x = 0) (hr : k = 5 → y = 0) : B_X7_readLine_17 (nI n) T f (nI pe) (nI x) (nI y) hi ps bg so va 0 wr dr (nI k) = (M_X7_reads (nI n) T f ps bg so va 0 wr).bind (fun u => tl_n n T f (nI pe) (nI (if k = 4 then 1 else x)) (nI (if k = 5 then 1 else y)) hi dr (nI k) u) := by
  have q : k = 0 ∨ k = 1 ∨ k = 2 ∨ k = 3 ∨ k = 4 ∨ k = 5 := by omega
  have qx : x = 0 ∨ x = 1 := by omega
  have qy : y = 0 ∨ y = 1 := by omega
  have n5 : k < 4 → ¬ (5 : Int32) ≤ nI pe := fun z c => by
    have z2 := h5 z
    have := (nI_leI (a := 5) (b := pe) (by omega) (by omega)).mp c
    omega
  have step : k < 4 → B_X7_readLine_17 (nI n) T f (nI pe) (nI x) (nI y) hi ps bg so va 0 wr dr (nI k) = B_X7_readLine_48 (nI n) T f (nI pe) (nI x) (nI y) hi ps bg so va 0 wr dr (nI k) := fun z => by
    unfold B_X7_readLine_17 B_X7_readLine_30
    have e4 : ¬ nI k = (-4 : Int32) := by
      rcases q with rfl | rfl | rfl | rfl | rfl | rfl <;> decide
    have e5 : ¬ (4 : Int32) ≤ nI k := by
      rcases q with rfl | rfl | rfl | rfl | rfl | rfl
      · decide
      · decide
      · decide
      · decide
      · omega
      · omega
    rw [if_neg e4, show M_X7_needs bg 0 wr 1 2 = some (0, wr) from rfl]
    simp only [bn_s]
    rw [if_neg e5, if_neg (n5 z)]
  rcases q with rfl | rfl | rfl | rfl | rfl | rfl
  · rw [step (by omega)]
    rcases qx with rfl | rfl <;> rcases qy with rfl | rfl <;> rfl
  · rw [step (by omega)]
    rcases qx with rfl | rfl <;> rcases qy with rfl | rfl <;> rfl
  · rw [step (by omega)]
    rcases qx with rfl | rfl <;> rcases qy with rfl | rfl <;> rfl
  · rw [step (by omega)]
    rcases qx with rfl | rfl <;> rcases qy with rfl | rfl <;> rfl
  · rw [h4 rfl]
    rcases qy with rfl | rfl <;> rfl
  · rw [hr rfl]
    rcases qx with rfl | rfl <;> rfl
theorem lc_2 {pe x y : Nat} (hx : x ≤ 1) (hy : y ≤ 1) : ∃ u, B_X7_readLine_17 (nI n) T f (nI pe) (nI x) (nI y) hi ps bg so va 0 wr dr (-4) = some u ∧ u.2.2.2.2.2.2.2.2.1 = 2 ∧ u.2.2.2.2.2.2.2.2.2.1 = bg := by
  have qx : x = 0 ∨ x = 1 := by omega
  have qy : y = 0 ∨ y = 1 := by omega
  unfold B_X7_readLine_17 B_X7_readLine_30
  rw [if_pos rfl, show M_X7_needs bg 0 wr 0 2 = some (2, bg) from rfl]
  simp only [bn_s]
  rw [if_neg (by decide)]
  by_cases c : (5 : Int32) ≤ nI pe
  · rw [if_pos c]
    rcases qx with rfl | rfl <;> rcases qy with rfl | rfl <;> exact ⟨_, rfl, rfl, rfl⟩
  · rw [if_neg c]
    rcases qx with rfl | rfl <;> rcases qy with rfl | rfl <;> exact ⟨_, rfl, rfl, rfl⟩
theorem lc_5 {pe k x y : Nat} (hx : x ≤ 1) (hy : y ≤ 1) (hk : k < 4) (h5 : pe = 5) : ∃ u, B_X7_readLine_17 (nI n) T f (nI pe) (nI x) (nI y) hi ps bg so va 0 wr dr (nI k) = some u ∧ u.2.2.2.2.2.2.2.2.1 = 5 ∧ u.2.2.2.2.2.2.2.2.2.1 = bg := by
  have q : k = 0 ∨ k = 1 ∨ k = 2 ∨ k = 3 := by omega
  have qx : x = 0 ∨ x = 1 := by omega
  have qy : y = 0 ∨ y = 1 := by omega
  subst h5
  rcases q with rfl | rfl | rfl | rfl <;> rcases qx with rfl | rfl <;> rcases qy with rfl | rfl <;> exact ⟨_, rfl, rfl, rfl⟩
theorem lc_4 {pe y : Nat} (hy : y ≤ 1) : ∃ u, B_X7_readLine_17 (nI n) T f (nI pe) 1 (nI y) hi ps bg so va 0 wr dr 4 = some u ∧ u.2.2.2.2.2.2.2.2.1 = 4 ∧ u.2.2.2.2.2.2.2.2.2.1 = bg := by
  have qy : y = 0 ∨ y = 1 := by omega
  rcases qy with rfl | rfl <;> exact ⟨_, rfl, rfl, rfl⟩
theorem lc_6 {pe x : Nat} (hx : x ≤ 1) : ∃ u, B_X7_readLine_17 (nI n) T f (nI pe) (nI x) 1 hi ps bg so va 0 wr dr 5 = some u ∧ u.2.2.2.2.2.2.2.2.1 = 4 ∧ u.2.2.2.2.2.2.2.2.2.1 = bg := by
  have qx : x = 0 ∨ x = 1 := by omega
  rcases qx with rfl | rfl <;> exact ⟨_, rfl, rfl, rfl⟩
end
