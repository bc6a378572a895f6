/-! a line, in both -/
theorem hi_cg {d d' : Nat → Nat} {hi : Int32} (h8 : d 17 ≤ 8) (h : ∀ i, 17 ≤ i → i < 26 → d' i = d i) (g : hi_p d hi) : hi_p d' hi := by
  have e := h 17 (by omega) (by omega)
  rcases g with ⟨z, r⟩ | ⟨m, r, m5, m1, i0, i1, i2⟩
  · exact Or.inl ⟨by rw [e]; exact z, r⟩
  · refine Or.inr ⟨m, r, m5, fun i hi => ?_, i0, by rw [e]; exact i1, by rw [h _ (by omega) (by omega)]; exact i2⟩
    rw [e] at hi
    rw [h _ (by omega) (by omega)]
    exact m1 i hi
theorem dw_b {pe x1 x2 : Nat} {d : Nat → Nat} {hi : Int32} {w : s_W} (h : dw_p pe d hi w) (h1 : 1 ≤ x1) (h2 : x1 ≤ 99) (h3 : x2 ≤ 99) : dw_p pe (up_n (up_n d 15 x1) 16 x2) hi (w.1, w.2.1, nI x1, nI x2, w.2.2.2.2) := by
  obtain ⟨⟨h5, h15, h16, h17, hq, hr, hz⟩, hh, K, G, B, R, rfl, pt1, pt2⟩ := h
  have e17 : (up_n (up_n d 15 x1) 16 x2) 17 = d 17 := by rw [up_o (by omega), up_o (by omega)]
  refine ⟨⟨h5, ?_, ?_, by rw [e17]; exact h17, fun p hp => ?_, fun i hi => ?_, fun i h1 h2 => ?_⟩, hi_cg h17 (fun i _ _ => by rw [up_o (by omega), up_o (by omega)]) hh, K, G, B, R, ?_, fun p hp => ?_, fun i hi => ?_⟩
  · rw [up_o (by omega), up_s]; omega
  · rw [up_s]; exact h3
  · rw [up_o (by omega), up_o (by omega), up_o (by omega), up_o (by omega), up_o (by omega), up_o (by omega)]; exact hq p hp
  · rw [e17] at hi
    rw [up_o (by omega), up_o (by omega)]; exact hr i hi
  · rw [up_o (by omega), up_o (by omega)]; exact hz i h1 h2
  · simp (disch := omega) only [mk_w, up_s, up_o]
  · rw [up_o (by omega), up_o (by omega), up_o (by omega), up_o (by omega), up_o (by omega), up_o (by omega)]; exact pt1 p hp
  · rw [e17] at hi
    rw [up_o (by omega), up_o (by omega)]; exact pt2 i hi
theorem dw_o {pe kd x1 x2 : Nat} {d : Nat → Nat} {hi : Int32} {w : s_W} (h : dw_p pe d hi w) (hp5 : pe < 5) (hk : kd ≤ 3) (h1 : x1 ≤ 99) (h2 : 1 ≤ x2) (h3 : x2 ≤ 99) : ∃ w', M_X5_addOne w (nI kd) (nI x1) (nI x2) = some w' ∧ dw_p (pe + 1) (up_n (up_n (up_n d (3 * pe) kd) (3 * pe + 1) x1) (3 * pe + 2) x2) hi w' := by
  obtain ⟨⟨h5, h15, h16, h17, hq, hr, hz⟩, hh, K, G, B, R, rfl, pt1, pt2⟩ := h
  have eo : ∀ i, 15 ≤ i → (up_n (up_n (up_n d (3 * pe) kd) (3 * pe + 1) x1) (3 * pe + 2) x2) i = d i := fun i hi => by rw [up_o (by omega), up_o (by omega), up_o (by omega)]
  have e0 : (up_n (up_n (up_n d (3 * pe) kd) (3 * pe + 1) x1) (3 * pe + 2) x2) (3 * pe) = kd := by rw [up_o (by omega), up_o (by omega), up_s]
  have e1 : (up_n (up_n (up_n d (3 * pe) kd) (3 * pe + 1) x1) (3 * pe + 2) x2) (3 * pe + 1) = x1 := by rw [up_o (by omega), up_s]
  have e2 : (up_n (up_n (up_n d (3 * pe) kd) (3 * pe + 1) x1) (3 * pe + 2) x2) (3 * pe + 2) = x2 := up_s _ _ _
  have el : ∀ i, i < 3 * pe → (up_n (up_n (up_n d (3 * pe) kd) (3 * pe + 1) x1) (3 * pe + 2) x2) i = d i := fun i hi => by rw [up_o (by omega), up_o (by omega), up_o (by omega)]
  refine ⟨_, ao_r (pe := pe) rfl hp5, ⟨by omega, by rw [eo 15 (by omega)]; exact h15, by rw [eo 16 (by omega)]; exact h16, by rw [eo 17 (by omega)]; exact h17, fun p hp => ?_, fun i hi => ?_, fun i h1 h2 => by rw [eo i (by omega)]; exact hz i h1 h2⟩, hi_cg h17 (fun i _ _ => eo i (by omega)) hh, upd K pe (nI kd), upd G pe (nI x1), upd B pe (nI x2), R, ?_, fun p hp => ?_, fun i hi => ?_⟩
  · by_cases e : p = pe
    · subst e
      rw [e0, e1, e2]; omega
    · rw [el _ (by omega), el _ (by omega), el _ (by omega)]; exact hq p (by omega)
  · rw [eo 17 (by omega)] at hi
    rw [eo _ (by omega)]; exact hr i hi
  · simp only [mk_w]
    rw [eo 15 (by omega), eo 16 (by omega), eo 17 (by omega), eo 26 (by omega)]
  · by_cases e : p = pe
    · subst e
      rw [e0, e1, e2, pk_us, pk_us, pk_us]; exact ⟨rfl, rfl, rfl⟩
    · rw [el _ (by omega), el _ (by omega), el _ (by omega), pk_un e, pk_un e, pk_un e]; exact pt1 p (by omega)
  · rw [eo 17 (by omega)] at hi
    rw [eo _ (by omega)]; exact pt2 i hi
/-- a line was read in both: it is whole, or they found the same fault at the same place -/
def ln_p (n : Nat) (B : Nat → Int32) (f m : Nat) (cls : Option (Int32 × s_R × s_T × s_W)) (rf : Option (Int32 × Int32 × Int32 × Int32 × Int32 × Int32 × Int32 × Int32 × Int32 × Int32 × (Nat → Int32))) : Prop := ∃ ok R' t2 w', cls = some (ok, R', t2, w') ∧ ((ok = 1 ∧ ∃ pe' x' y' d' hi' t3 q3 wr3, R' = (nI x', nI y', (0 : Int32)) ∧ pe' + x' + y' = m + 1 ∧ x' ≤ 1 ∧ y' ≤ 1 ∧ (y' = 0 → d' 17 = 0) ∧ dw_p pe' d' hi' w' ∧ M_X4_advance f t2 = some t3 ∧ tk_p n B wr3 t3 q3 ∧ rf = some (nI pe', nI x', nI y', hi', q3.1, q3.2.1, q3.2.2.1, q3.2.2.2.1, q3.2.2.2.2.1, q3.2.2.2.2.2, nf_a d')) ∨ (ok = 0 ∧ ∃ fa2 wr2, fx_p R' t2 fa2 wr2 ∧ tf_p rf fa2 wr2))
section
variable {n : Nat} {b : Nat → Nat} {B T : Nat → Int32}
/-- a token of wrong letters stands behind the name -/
theorem tl_4 {f : Nat} {dp hb hr hi k : Int32} {dr : Nat → Int32} {q : Int32 × Int32 × Int32 × Int32 × Int32 × Int32} (hq : ¬ q.2.2.2.2.1 ≤ 0) : tf_p (tl_n n T f dp hb hr hi dr k q) q.2.2.2.2.1 q.2.2.2.2.2 := ⟨_, if_neg hq, rfl, rfl⟩
theorem tk_4 {wr0 : Int32} {t : s_T} {q : Int32 × Int32 × Int32 × Int32 × Int32 × Int32} (al : tk_p n B wr0 t q) (hq : ¬ q.2.2.2.2.1 ≤ 0) : t.2.2.1 = 4 ∧ q.2.2.2.2.1 = 1 ∧ q.2.2.2.2.2 = t.2.2.2.1 := by
  obtain ⟨a, p, tk, nu, so, va, fa, wr, rfl, rfl, h1, h2, h3⟩ := al
  rcases h3 with ⟨r1, r2, r3⟩ | ⟨rfl, -⟩
  · exact ⟨r1, r2, r3⟩
  · exact absurd (show (0 : Int32) ≤ 0 by decide) hq
theorem lb_r {f pe y : Nat} {wr0 hi : Int32} {d : Nat → Nat} {t0 t : s_T} {q : Int32 × Int32 × Int32 × Int32 × Int32 × Int32} {w : s_W} (h : tb_p n b B T) (hf : 700 < f) (hy : y ≤ 1) (hd : dw_p pe d hi w) (h0 : y = 0 → d 17 = 0) (hadv : M_X4_advance f t0 = some t) (al : tk_p n B wr0 t q) : ln_p n B f (pe + 0 + y) ((M_X1_readBarrow f (nI 0, nI y, 0) t0 w).bind (fun u32 => gq_b u32.1 (some (u32.1, u32.2.1, u32.2.2.1, u32.2.2.2)))) (tl_n n T f (nI pe) (nI 1) (nI y) hi (nf_a d) (nI 4) q) := by
  by_cases hq : q.2.2.2.2.1 ≤ 0
  · obtain ⟨ok, R', t2, w', e1, h1⟩ := bl_r (R := (nI 0, nI y, 0)) (w := w) (dp := nI pe) (hb := nI 1) (hr := nI y) (hi := hi) (dr := nf_a d) h (show 500 < f by omega) rfl hadv al hq
    rw [e1]
    simp only [bn_s]
    rcases h1 with ⟨rfl, rfl, x1, x2, t3, q3, wr3, a1, a2, a3, rfl, a4, a5, a6⟩ | ⟨rfl, fa2, wr2, fx, tf⟩
    · refine ⟨1, _, t2, _, rfl, Or.inl ⟨rfl, pe, 1, y, up_n (up_n d 15 x1) 16 x2, hi, t3, q3, wr3, rfl, by omega, by omega, hy, fun z => by rw [up_o (by omega), up_o (by omega)]; exact h0 z, dw_b hd a1 a2 a3, a4, a5, ?_⟩⟩
      rw [nf_u, nf_u] at a6
      exact a6
    · exact ⟨0, R', t2, w', rfl, Or.inr ⟨rfl, fa2, wr2, fx, tf⟩⟩
  · obtain ⟨r1, r2, r3⟩ := tk_4 al hq
    have tf := tl_4 (n := n) (T := T) (f := f) (dp := nI pe) (hb := nI 1) (hr := nI y) (hi := hi) (k := nI 4) (dr := nf_a d) hq
    refine ⟨0, (1, nI y, 1), t, w, ?_, Or.inr ⟨rfl, _, _, ⟨1, by omega, by omega, rfl, r2, r3⟩, tf⟩⟩
    unfold M_X1_readBarrow B_X1_readBarrow_0
    rw [if_pos (show (nI 0, nI y, (0 : Int32)).1 = 0 from rfl), rn_4 hadv r1]
    rfl
theorem lt_r {f pe x : Nat} {wr0 hi : Int32} {d : Nat → Nat} {t0 t : s_T} {q : Int32 × Int32 × Int32 × Int32 × Int32 × Int32} {w : s_W} (h : tb_p n b B T) (hf : 700 < f) (hx : x ≤ 1) (hd : dw_p pe d hi w) (h0 : d 17 = 0) (hadv : M_X4_advance f t0 = some t) (al : tk_p n B wr0 t q) : ln_p n B f (pe + x + 0) ((M_X1_readRota f (nI x, nI 0, 0) t0 w).bind (fun u42 => gq_b u42.1 (some (u42.1, u42.2.1, u42.2.2.1, u42.2.2.2)))) (tl_n n T f (nI pe) (nI x) (nI 1) hi (nf_a d) (nI 5) q) := by
  by_cases hq : q.2.2.2.2.1 ≤ 0
  · obtain ⟨ok, R', t2, w', e1, h1⟩ := rt_r (R := (nI x, nI 0, 0)) (w := w) (hb := nI x) (hr := nI 1) h hf rfl hd h0 hadv al hq
    rw [e1]
    simp only [bn_s]
    rcases h1 with ⟨rfl, rfl, d', hi', t3, q3, wr3, hd', a4, a5, a6⟩ | ⟨rfl, fa2, wr2, fx, tf⟩
    · exact ⟨1, _, t2, _, rfl, Or.inl ⟨rfl, pe, x, 1, d', hi', t3, q3, wr3, rfl, by omega, hx, by omega, fun z => absurd z (by omega), hd', a4, a5, a6⟩⟩
    · exact ⟨0, R', t2, w', rfl, Or.inr ⟨rfl, fa2, wr2, fx, tf⟩⟩
  · obtain ⟨r1, r2, r3⟩ := tk_4 al hq
    have tf := tl_4 (n := n) (T := T) (f := f) (dp := nI pe) (hb := nI x) (hr := nI 1) (hi := hi) (k := nI 5) (dr := nf_a d) hq
    obtain ⟨f, rfl⟩ : ∃ g, f = g + 1 := ⟨f - 1, by omega⟩
    refine ⟨0, (nI x, 1, 1), t, w, ?_, Or.inr ⟨rfl, _, _, ⟨1, by omega, by omega, rfl, r2, r3⟩, tf⟩⟩
    unfold M_X1_readRota B_X1_readRota_0
    rw [if_pos (show (nI x, nI 0, (0 : Int32)).2.1 = 0 from rfl), hadv]
    simp only [bn_s]
    rw [show M_X1_readRota_27 (f + 1) (nI x, 1, 0) t w 0 = _ from (rl_x (n := n) (T := T) (f := f) (j := 0) (ps := 0) (bg := 0) (so := 0) (va := 0) (fa := 1) (wr := 0) (hi := 0) (dr := T) (t := t) (w := w) (R := (nI x, 1, 0)) (by omega) (by decide) (by rw [r1]; decide)).1]
    unfold B_X1_readRota_100
    rw [ex_4 r1]
    rfl
theorem lo_r {f pe x y kd : Nat} {wr0 hi : Int32} {d : Nat → Nat} {t0 t : s_T} {q : Int32 × Int32 × Int32 × Int32 × Int32 × Int32} {w : s_W} (h : tb_p n b B T) (hf : 700 < f) (hx : x ≤ 1) (hy : y ≤ 1) (hk : kd ≤ 3) (hp5 : pe < 5) (hd : dw_p pe d hi w) (h0 : y = 0 → d 17 = 0) (hadv : M_X4_advance f t0 = some t) (al : tk_p n B wr0 t q) : ln_p n B f (pe + x + y) ((M_X1_readOne f (nI x, nI y, 0) w t0 (nI kd)).bind (fun u50 => gq_b u50.1 (some (u50.1, u50.2.1, u50.2.2.2, u50.2.2.1)))) (tl_n n T f (nI pe) (nI x) (nI y) hi (nf_a d) (nI kd) q) := by
  have hw : w.1 = nI pe := by
    obtain ⟨-, -, K, G, B, R, rfl, -⟩ := hd
    rfl
  by_cases hq : q.2.2.2.2.1 ≤ 0
  · obtain ⟨ok, R', t2, w', e1, h1⟩ := ol_r (R := (nI x, nI y, 0)) (w := w) (hb := nI x) (hr := nI y) (hi := hi) (dr := nf_a d) h (show 500 < f by omega) hw hp5 hk hadv al hq
    rw [e1]
    simp only [bn_s]
    rcases h1 with ⟨rfl, rfl, x1, x2, t3, q3, wr3, a1, a2, a3, aw, a4, a5, a6⟩ | ⟨rfl, fa2, wr2, fx, tf⟩
    · obtain ⟨w2, ew, hd2⟩ := dw_o (kd := kd) hd hp5 hk a1 a2 a3
      have ee : w2 = w' := Option.some.inj (ew.symm.trans aw)
      subst ee
      refine ⟨1, _, t2, _, rfl, Or.inl ⟨rfl, pe + 1, x, y, up_n (up_n (up_n d (3 * pe) kd) (3 * pe + 1) x1) (3 * pe + 2) x2, hi, t3, q3, wr3, rfl, by omega, hx, hy, fun z => by rw [up_o (by omega), up_o (by omega), up_o (by omega)]; exact h0 z, hd2, a4, a5, ?_⟩⟩
      rw [nf_u, nf_u, nf_u] at a6
      exact a6
    · exact ⟨0, R', t2, w', rfl, Or.inr ⟨rfl, fa2, wr2, fx, tf⟩⟩
  · obtain ⟨r1, r2, r3⟩ := tk_4 al hq
    have tf := tl_4 (n := n) (T := T) (f := f) (dp := nI pe) (hb := nI x) (hr := nI y) (hi := hi) (k := nI kd) (dr := nf_a d) hq
    refine ⟨0, (nI x, nI y, 1), t, w, ?_, Or.inr ⟨rfl, _, _, ⟨1, by omega, by omega, rfl, r2, r3⟩, tf⟩⟩
    unfold M_X1_readOne B_X1_readOne_0
    rw [hw, if_pos (show nI pe < (5 : Int32) from (nI_ltI (a := pe) (b := 5) (by omega) (by omega)).mpr hp5), rn_4 hadv r1]
    rfl
theorem lr_r {f pe x y : Nat} {wr0 hi : Int32} {d : Nat → Nat} {t : s_T} {q : Int32 × Int32 × Int32 × Int32 × Int32 × Int32} {w : s_W} (h : tb_p n b B T) (hf : 700 < f) (hx : x ≤ 1) (hy : y ≤ 1) (hd : dw_p pe d hi w) (h0 : y = 0 → d 17 = 0) (al : tk_p n B wr0 t q) (hq : q.2.2.2.2.1 = 0) : ln_p n B f (pe + x + y) (M_X1_readLine f (nI x, nI y, 0) t w) (M_X7_readLine (nI n) T f (nI pe) (nI x) (nI y) hi q.1 q.2.1 q.2.2.1 q.2.2.2.1 q.2.2.2.2.1 q.2.2.2.2.2 (nf_a d)) := by
  have h5 := hd.1.1
  have hw : w.1 = nI pe := by
    obtain ⟨-, -, K, G, B, R, rfl, -⟩ := hd
    rfl
  obtain ⟨a, p, tk, nu, so, va, fa, wr, rfl, rfl, h1, h2, h3⟩ := id al
  have hfa : fa = 0 := hq
  subst hfa
  obtain ⟨ok, R1, e1, hx3⟩ := xp_r (k := 1) (R := (nI x, nI y, 0)) (by decide) al
  unfold M_X1_readLine B_X1_readLine_0 M_X7_readLine B_X7_readLine_0
  rw [e1]
  simp only [bn_s]
  rcases hx3 with ⟨rfl, rfl, -, rfl⟩ | ⟨rfl, -, c, fx⟩ | ⟨-, c, -⟩
  · rw [i1_0, if_pos rfl]
    rcases ln_r (tk := tk) (nu := nu) h h1 h2 (show 20 < f by omega) with ⟨e2, e3⟩ | ⟨k, hk, e2, e3⟩
    · rw [e2, e3]
      simp only [bn_s]
      rw [if_pos trivial]
      obtain ⟨u, g1, g2, g3⟩ := lc_2 (n := n) (T := T) (f := f) (pe := pe) (hi := hi) (ps := nI a) (bg := nI p) (so := 1) (va := va) (wr := wr) (dr := nf_a d) hx hy
      exact ⟨0, (nI x, nI y, 2), _, w, rfl, Or.inr ⟨rfl, 2, nI p, ⟨2, by omega, by omega, rfl, rfl, rfl⟩, u, g1, g2, g3⟩⟩
    · rw [e2, e3]
      simp only [bn_s]
      have km : ¬ nI k = (-1 : Int32) := by
        have q : k = 0 ∨ k = 1 ∨ k = 2 ∨ k = 3 ∨ k = 4 ∨ k = 5 := by omega
        rcases q with rfl | rfl | rfl | rfl | rfl | rfl <;> decide
      rw [if_neg km]
      obtain ⟨t2, q2, e4, e5, al2⟩ := rd_n (f := f) (bg := nI p) (so := 1) (va := va) (wr := wr) h al (by omega)
      have e5 : M_X7_reads (nI n) T f (nI a) (nI p) 1 va 0 wr = some q2 := e5
      by_cases k4 : k = 4
      · subst k4
        rw [if_pos (show nI 4 = (4 : Int32) from rfl)]
        by_cases cx : x = 0
        · subst cx
          rw [lc_g (by omega) hy (by omega) (fun z => absurd z (by omega)) (fun _ => rfl) (fun z => absurd z (by omega)), e5]
          simp only [bn_s]
          exact lb_r h hf hy hd h0 e4 al2
        · have cx : x = 1 := by omega
          subst cx
          obtain ⟨u, g1, g2, g3⟩ := lc_4 (n := n) (T := T) (f := f) (pe := pe) (hi := hi) (ps := nI a) (bg := nI p) (so := 1) (va := va) (wr := wr) (dr := nf_a d) hy
          exact ⟨0, (nI 1, nI y, 4), _, w, rfl, Or.inr ⟨rfl, 4, nI p, ⟨4, by omega, by omega, rfl, rfl, rfl⟩, u, g1, g2, g3⟩⟩
      · rw [if_neg (show ¬ nI k = (4 : Int32) from fun z => k4 ((nI_eq (a := k) (b := 4) (by omega) (by omega)).mp z))]
        by_cases k5 : k = 5
        · subst k5
          rw [if_pos (show nI 5 = (5 : Int32) from rfl)]
          by_cases cy : y = 0
          · subst cy
            rw [lc_g hx (by omega) (by omega) (fun z => absurd z (by omega)) (fun z => absurd z (by omega)) (fun _ => rfl), e5]
            simp only [bn_s]
            exact lt_r h hf hx hd (h0 rfl) e4 al2
          · have cy : y = 1 := by omega
            subst cy
            obtain ⟨u, g1, g2, g3⟩ := lc_6 (n := n) (T := T) (f := f) (pe := pe) (hi := hi) (ps := nI a) (bg := nI p) (so := 1) (va := va) (wr := wr) (dr := nf_a d) hx
            exact ⟨0, (nI x, nI 1, 4), _, w, rfl, Or.inr ⟨rfl, 4, nI p, ⟨4, by omega, by omega, rfl, rfl, rfl⟩, u, g1, g2, g3⟩⟩
        · rw [if_neg (show ¬ nI k = (5 : Int32) from fun z => k5 ((nI_eq (a := k) (b := 5) (by omega) (by omega)).mp z))]
          by_cases c5 : pe < 5
          · rw [lc_g hx hy hk (fun _ => c5) (fun z => absurd z k4) (fun z => absurd z k5), e5]
            simp only [bn_s]
            rw [if_neg k4, if_neg k5]
            exact lo_r h hf hx hy (by omega) c5 hd h0 e4 al2
          · have c5 : pe = 5 := by omega
            obtain ⟨u, g1, g2, g3⟩ := lc_5 (n := n) (T := T) (f := f) (pe := pe) (hi := hi) (ps := nI a) (bg := nI p) (so := 1) (va := va) (wr := wr) (dr := nf_a d) hx hy (show k < 4 by omega) c5
            refine ⟨0, (nI x, nI y, 5), (nI n, nI a, tk, nI p, nu, B), w, ?_, Or.inr ⟨rfl, 5, nI p, ⟨5, by omega, by omega, rfl, rfl, rfl⟩, u, g1, g2, g3⟩⟩
            unfold M_X1_readOne B_X1_readOne_0
            rw [hw, c5]
            rfl
  · rw [i0_0, if_neg c]
    obtain ⟨u, g1, g2, g3⟩ := lc_2 (n := n) (T := T) (f := f) (pe := pe) (hi := hi) (ps := nI a) (bg := nI p) (so := so) (va := va) (wr := wr) (dr := nf_a d) hx hy
    exact ⟨0, R1, _, w, rfl, Or.inr ⟨rfl, 2, nI p, fx, u, g1, g2, g3⟩⟩
  · exact absurd rfl c
end
