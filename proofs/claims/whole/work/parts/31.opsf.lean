/-! swap, runs, one -/
def sw_n (a : Nat → Nat) (i j : Nat) : Nat → Nat := up_n (up_n a (18 + i) (a (18 + j))) (18 + j) (a (18 + i))
theorem gd_sw {pe i j : Nat} {a : Nat → Nat} (g : gd_s pe a) (hi : i < a 17) (hj : j < a 17) : gd_s pe (sw_n a i j) ∧ sw_n a i j 26 = a 26 := by
  obtain ⟨h5, h15, h16, h17, h26, hq, hr⟩ := g
  have r1 := hr i hi
  have r2 := hr j hj
  unfold sw_n
  refine ⟨⟨h5, ?_, ?_, ?_, ?_, fun q hq2 => ?_, fun k hk => ?_⟩, ?_⟩
  · rw [up_o (by omega), up_o (by omega)]; exact h15
  · rw [up_o (by omega), up_o (by omega)]; exact h16
  · rw [up_o (by omega), up_o (by omega)]; exact h17
  · rw [up_o (by omega), up_o (by omega)]; exact h26
  · simp (disch := omega) only [up_o]; exact hq q hq2
  · rw [up_o (by omega), up_o (by omega)] at hk
    by_cases c : k = j
    · rw [c, up_s]; exact r1
    · rw [up_o (by omega)]
      by_cases c2 : k = i
      · rw [c2, up_s]; exact r2
      · rw [up_o (by omega)]; exact hr k hk
  · rw [up_o (by omega), up_o (by omega)]
theorem cf_ex {n i j : Nat} {R : Nat → Int32} (hi : i < n) (hj : j < n) (hn : n < 1000) : M_X6_exchange n R (nI i) (nI j) = some (upd (upd R i (R j)) j (R i)) := by
  unfold M_X6_exchange B_X6_exchange_0
  simp (disch := omega) only [gi_k, nI_clamp, nm_s]
theorem pt_sw {pe i j : Nat} {a : Nat → Nat} {K G B R : Nat → Int32} (g : gd_s pe a) (hi : i < a 17) (hj : j < a 17) (pt : pt_w pe a K G B R) : pt_w pe (sw_n a i j) K G B (upd (upd R i (R j)) j (R i)) := by
  obtain ⟨h5, h15, h16, h17, h26, hq, hr⟩ := g
  unfold sw_n
  refine ⟨fun q hq2 => ?_, fun k hk => ?_⟩
  · simp (disch := omega) only [up_o]; exact pt.1 q hq2
  · rw [up_o (by omega), up_o (by omega)] at hk
    by_cases c : k = j
    · rw [c, up_s, pk_us]; exact pt.2 i hi
    · rw [up_o (by omega), pk_un c]
      by_cases c2 : k = i
      · rw [c2, up_s, pk_us]; exact pt.2 j hj
      · rw [up_o (by omega), pk_un c2]; exact pt.2 k hk
theorem mk_sw {pe i j he sp : Nat} {a : Nat → Nat} {K G B R : Nat → Int32} (hi : i < 8) (hj : j < 8) : mk_w pe (sw_n a i j) he sp K G B R = mk_w pe a he sp K G B R := by
  unfold mk_w sw_n
  simp (disch := omega) only [up_o]
section
variable {pe f : Nat} {S N : Nat → Nat} {w t : s_W} {v : s_V} {x y : Int32}
theorem sw_i {n i : Nat} {z : Int32} {k55 : s_W → Int32 → Int32 → Int32 → Int32 → Int32 → Option (Int32 × s_W)} {k31 : Int32 → Int32 → Int32 → Int32 → (Nat → Int32) → Int32 → Int32 → Int32 → Option (Int32 × Int32 × Int32 × Int32 × Int32 × (Nat → Int32))} (h : bk_s pe S w v) (hn : n ≤ 60) (hi : i < S 17) : ∀ (k f j : Nat) (t : s_W) (x y : Int32) (N : Nat → Nat) (least which bc : Int32) (bm : Nat), j + k = S 17 → k + 400 < f → jy_p least which bc bm → ∃ t2 x2 y2 N2 least2 which2 bc2 bm2, M_X6_swap_73 k55 w f t (nI n) z least which (nI i) (nI j) = k55 t2 (nI n) z least2 which2 (nI (i + 1)) ∧ M_X7_swap_47 k31 (nI pe) (nf_a S) f x y bc (nI bm) (nf_a N) (nI n) z (nI i) (nI j) = k31 x2 y2 bc2 (nI bm2) (nf_a N2) (nI n) z (nI (i + 1)) ∧ jy_p least2 which2 bc2 bm2 := by
  have h5 := h.2.1.1
  have h17 := h.2.1.2.2.2.1
  have ht : w.2.1 = nI (S 17) := by
    obtain ⟨⟨he, sp, K, G, B, R, hw, pt⟩, -⟩ := id h
    rw [hw]
  intro k
  induction k with
  | zero =>
    intro f j t x y N least which bc bm hj hf q
    obtain ⟨f, rfl⟩ : ∃ g, f = g + 1 := ⟨f - 1, by omega⟩
    refine ⟨t, x, y, N, least, which, bc, bm, ?_, ?_, q⟩
    · show B_X6_swap_73 _ _ _ _ _ _ _ _ _ _ _ = _
      simp (disch := omega) only [B_X6_swap_73, ht, nI_leI, nI_1]
      rw [if_pos (by omega)]
    · show B_X7_swap_47 _ _ _ _ _ _ _ _ _ _ _ _ _ _ = _
      simp (disch := omega) only [B_X7_swap_47, show (17 : Int32) = nI 17 from rfl, gi_k, nI_clamp, nf_e, nI_leI, nI_1]
      rw [if_pos (by omega)]
  | succ k ih =>
    intro f j t x y N least which bc bm hj hf q
    obtain ⟨f, rfl⟩ : ∃ g, f = g + 1 := ⟨f - 1, by omega⟩
    obtain ⟨K, G, B, R, e, pt, g, g26, hw⟩ := sb_s h N t
    have c17 : cp_n S N 17 = S 17 := cp_i (by omega)
    have pa := pt_sw (i := i) (j := j) g (by omega) (by omega) pt
    obtain ⟨ga, a26⟩ := gd_sw (i := i) (j := j) g (by omega) (by omega)
    obtain ⟨G2, e4, p4⟩ := cf_pa (n := n) (f := f) (he := 0) (sp := 0) ga (by omega) (by omega) pa
    rw [mk_sw (by omega) (by omega)] at e4
    obtain ⟨i1, i2, i3, i4, i5⟩ := gd_hs n 0 0 (sw_n (cp_n S N) i j) ga (by omega)
    have er := rf_wb (n := n) (f := f) (he := 0) (sp := 0) ga (by omega) (by omega)
    have eal := cf_al (f := f) (he := (hs_n pe n (0, 0, sw_n (cp_n S N) i j)).1) (sp := (hs_n pe n (0, 0, sw_n (cp_n S N) i j)).2.1) h5 (by omega) p4
    have bal := al_b i1
    have esw : up_n (up_n (cp_n S N) (18 + i) (S (18 + j))) (18 + j) (S (18 + i)) = sw_n (cp_n S N) i j := by
      unfold sw_n
      rw [cp_i (show 18 + j < 46 by omega), cp_i (show 18 + i < 46 by omega)]
    generalize hY : hs_n pe n (0, 0, sw_n (cp_n S N) i j) = Y at *
    have hbm : bm < 2 ^ 31 := by obtain ⟨-, -, hb, -⟩ := q; omega
    have e2 : M_X7_swap_47 k31 (nI pe) (nf_a S) (f + 1) x y bc (nI bm) (nf_a N) (nI n) z (nI i) (nI j) = (M_X7_judges bc (nI bm) (nI (10 * i + j)) (nI (al_n pe Y.2.2))).bind (fun u85 => M_X7_swap_47 k31 (nI pe) (nf_a S) f (nI Y.1) (nI Y.2.1) u85.1 u85.2 (nf_a Y.2.2) (nI n) z (nI i) (nI (j + 1))) := by
      show B_X7_swap_47 _ _ _ _ _ _ _ _ _ _ _ _ _ _ = _
      unfold B_X7_swap_47
      rw [rf_st (by omega)]
      simp (disch := omega) only [bn_s, show (17 : Int32) = nI 17 from rfl, show (18 : Int32) = nI 18 from rfl, show (10 : Int32) = nI 10 from rfl, pk_mul, nI_add, gi_k, nI_clamp, nf_e, nI_leI, nm_s, nf_u, nI_1]
      rw [if_neg (by omega), esw, show M_X7_weightBehind (nI pe) f 0 0 (nf_a (sw_n (cp_n S N) i j)) (nI n) = _ from er]
      simp only [bn_s]
    have e1 : M_X6_swap_73 k55 w (f + 1) t (nI n) z least which (nI i) (nI j) = M_X6_swap_73 k55 w f (mk_w pe Y.2.2 Y.1 Y.2.1 K G2 B (upd (upd R i (R j)) j (R i))) (nI n) z (if least ≤ nI (al_n pe Y.2.2) then least else nI (al_n pe Y.2.2)) (if least ≤ nI (al_n pe Y.2.2) then which else nI (10 * i + j)) (nI i) (nI (j + 1)) := by
      show B_X6_swap_73 _ _ _ _ _ _ _ _ _ _ _ = _
      unfold B_X6_swap_73
      rw [e]
      simp only [bn_s]
      rw [cf_ex (by omega) (by omega) (by omega)]
      simp only [bn_s]
      rw [show (nI pe, nI (cp_n S N 17), nI (cp_n S N 15), nI (cp_n S N 16), nI (cp_n S N 26), nI 0, nI 0, K, G, B, upd (upd R i (R j)) j (R i)) = mk_w pe (cp_n S N) 0 0 K G B (upd (upd R i (R j)) j (R i)) from rfl, e4]
      simp only [bn_s]
      rw [eal]
      simp (disch := omega) only [bn_s, B_X6_swap_147, ht, nI_leI, nI_1, nm_s, show (10 : Int32) = nI 10 from rfl, pk_mul, nI_add]
      rw [if_neg (by omega)]
      by_cases c : least ≤ nI (al_n pe Y.2.2)
      · rw [if_pos c, if_pos c, if_pos c]
      · rw [if_neg c, if_neg c, if_neg c]
    rw [e1, e2, rf_jd hbm (by omega)]
    simp only [bn_s]
    obtain ⟨j1, j2⟩ := jy_st (m := al_n pe Y.2.2) (c := 10 * i + j) q (by omega) (by omega)
    rw [j2]
    exact ih f (j + 1) _ _ _ _ _ _ _ _ (by omega) (by omega) j1
theorem sw_l {n : Nat} {z : Int32} (h : bk_s pe S w v) (hn : n ≤ 60) : ∀ (k f i : Nat) (t : s_W) (x y : Int32) (N : Nat → Nat) (least which bc : Int32) (bm : Nat), i + k = S 17 → k + 500 < f → jy_p least which bc bm → ∃ r t2 q, M_X6_swap_55 w f t (nI n) z least which (nI i) = some (r, t2) ∧ M_X7_swap_31 (nI pe) (nf_a S) f x y bc (nI bm) (nf_a N) (nI n) z (nI i) = some (r, q) := by
  have h5 := h.2.1.1
  have h17 := h.2.1.2.2.2.1
  have ht : w.2.1 = nI (S 17) := by
    obtain ⟨⟨he, sp, K, G, B, R, hw, pt⟩, -⟩ := id h
    rw [hw]
  intro k
  induction k with
  | zero =>
    intro f i t x y N least which bc bm hi hf j
    obtain ⟨f, rfl⟩ : ∃ g, f = g + 1 := ⟨f - 1, by omega⟩
    refine ⟨if z = 0 then which else if which = -4 then which else least, t, (x, y, bc, nI bm, nf_a N), ?_, ?_⟩
    · show B_X6_swap_55 _ _ _ _ _ _ _ _ _ = _
      simp (disch := omega) only [B_X6_swap_55, ht, nI_leI]
      rw [if_pos (by omega)]
      repeat' split
      all_goals rfl
    · show B_X7_swap_31 _ _ _ _ _ _ _ _ _ _ _ _ = _
      unfold B_X7_swap_31
      rw [jy_end j]
      simp (disch := omega) only [show (17 : Int32) = nI 17 from rfl, gi_k, nI_clamp, nf_e, nI_leI]
      rw [if_pos (by omega)]
      rfl
  | succ k ih =>
    intro f i t x y N least which bc bm hi hf j
    obtain ⟨f, rfl⟩ : ∃ g, f = g + 1 := ⟨f - 1, by omega⟩
    obtain ⟨t2, x2, y2, N2, l2, wh2, bc2, bm2, e1, e2, j2⟩ := sw_i (k55 := M_X6_swap_55 w f) (k31 := M_X7_swap_31 (nI pe) (nf_a S) f) (n := n) (i := i) (z := z) h hn (by omega) (S 17 - (i + 1)) f (i + 1) t x y N least which bc bm (by omega) (by omega) j
    have f1 : M_X6_swap_55 w (f + 1) t (nI n) z least which (nI i) = M_X6_swap_55 w f t2 (nI n) z l2 wh2 (nI (i + 1)) := by
      show B_X6_swap_55 _ _ _ _ _ _ _ _ _ = _
      simp (disch := omega) only [B_X6_swap_55, ht, nI_leI, nm_s, nI_1]
      rw [if_neg (by omega), e1]
    have f2 : M_X7_swap_31 (nI pe) (nf_a S) (f + 1) x y bc (nI bm) (nf_a N) (nI n) z (nI i) = M_X7_swap_31 (nI pe) (nf_a S) f x2 y2 bc2 (nI bm2) (nf_a N2) (nI n) z (nI (i + 1)) := by
      show B_X7_swap_31 _ _ _ _ _ _ _ _ _ _ _ _ = _
      simp (disch := omega) only [B_X7_swap_31, show (17 : Int32) = nI 17 from rfl, gi_k, nI_clamp, nf_e, nI_leI, nm_s, nI_1]
      rw [if_neg (by omega), e2]
    rw [f1, f2]
    exact ih f (i + 1) _ _ _ _ _ _ _ _ (by omega) (by omega) j2
theorem op_swap {bc bm : Int32} (h : bk_s pe S w v) (hf : 600 < f) (z1 z2 : Int32) : ∃ r t2 q, M_X6_swap w f t z1 z2 = some (r, t2) ∧ M_X7_swap (nI pe) (nf_a S) f x y bc bm (nf_a N) z1 z2 = some (r, q) := by
  have h17 := h.2.1.2.2.2.1
  obtain ⟨K, G, B, R, e, pt, g, g26, hw⟩ := sb_s h N t
  unfold M_X6_swap B_X6_swap_0 M_X7_swap B_X7_swap_0
  rw [fa_e, pa_e]
  rcases wi_c z1 0 60 0 60 rfl rfl (by omega) (by omega) with ⟨n, n1, n2, rfl, e3⟩ | e3
  · rw [e3]
    simp only [bn_s, i1_0]
    rcases wi_c z2 0 1 0 1 rfl rfl (by omega) (by omega) with ⟨m, m1, m2, rfl, e4⟩ | e4
    · rw [e4, e, rf_st (by omega)]
      simp only [bn_s, i1_0]
      obtain ⟨G2, e5, p5⟩ := cf_pa (n := n) (f := f) (he := 0) (sp := 0) g (by omega) (by omega) pt
      obtain ⟨i1, i2, i3, i4, i5⟩ := gd_hs n 0 0 (cp_n S N) g (by omega)
      have bal := al_b i1
      rw [e5, show M_X7_weightBehind (nI pe) f 0 0 (nf_a (cp_n S N)) (nI n) = _ from rf_wb (he := 0) (sp := 0) g (by omega) (by omega)]
      simp only [bn_s, M_X7_startsJudging, B_X7_startsJudging_0]
      rw [cf_al g.1 (by omega) p5]
      simp only [bn_s]
      exact sw_l h n2 (S 17) f 0 _ _ _ _ _ _ _ _ (by omega) (by omega) ⟨rfl, rfl, by omega, Or.inl rfl⟩
    · rw [e4]
      exact ⟨_, _, _, rfl, rfl⟩
  · rw [e3]
    exact ⟨_, _, _, rfl, rfl⟩
theorem ru_l {n : Nat} {z : Int32} {st : Nat → Int32} {K B R : Nat → Int32} (hn : n ≤ 60) : ∀ (k f i he sp lo : Nat) (fi : Int32) (a : Nat → Nat) (G : Nat → Int32), i + k = n + 1 → k + 300 < f → lo ≤ 99 → sp + 99 * k < 2 ^ 30 → gd_s pe a → a 26 + k ≤ 2000 → pt_w pe a K G B R → ∃ r t2 q, M_X6_runs_47 w f (mk_w pe a he sp K G B R) (nI n) z fi (nI lo) (nI i) = some (r, t2) ∧ M_X7_runs_40 (nI pe) st f (nI he) (nI sp) (nf_a a) (nI n) z fi (nI lo) (nI i) = some (r, q) := by
  intro k
  induction k with
  | zero =>
    intro f i he sp lo fi a G hi hf hl hs g h26 pt
    obtain ⟨f, rfl⟩ : ∃ g, f = g + 1 := ⟨f - 1, by omega⟩
    have e1 : M_X6_runs_47 w (f + 1) (mk_w pe a he sp K G B R) (nI n) z fi (nI lo) (nI i) = (if z = 0 then some (nI (al_n pe a), mk_w pe a he sp K G B R) else if z = 1 then some (nI he, mk_w pe a he sp K G B R) else if z = 2 then some (nI sp, mk_w pe a he sp K G B R) else if z = 3 then some (fi, mk_w pe a he sp K G B R) else some (nI lo, mk_w pe a he sp K G B R)) := by
      show B_X6_runs_47 _ _ _ _ _ _ _ _ _ = _
      unfold B_X6_runs_47
      rw [cf_al g.1 (by omega) pt]
      simp (disch := omega) only [nI_ltI, bn_s]
      rw [if_pos (by omega)]
    have e2 : M_X7_runs_40 (nI pe) st (f + 1) (nI he) (nI sp) (nf_a a) (nI n) z fi (nI lo) (nI i) = (if z = 0 then some (nI (al_n pe a), nI he, nI sp, nf_a a) else if z = 1 then some (nI he, nI he, nI sp, nf_a a) else if z = 2 then some (nI sp, nI he, nI sp, nf_a a) else if z = 3 then some (fi, nI he, nI sp, nf_a a) else some (nI lo, nI he, nI sp, nf_a a)) := by
      show B_X7_runs_40 _ _ _ _ _ _ _ _ _ _ _ _ = _
      unfold B_X7_runs_40
      rw [rf_al g.1 (by omega)]
      simp (disch := omega) only [nI_ltI, bn_s]
      rw [if_pos (by omega)]
    rw [e1, e2]
    by_cases c0 : z = 0
    · rw [if_pos c0, if_pos c0]; exact ⟨_, _, _, rfl, rfl⟩
    rw [if_neg c0, if_neg c0]
    by_cases c1 : z = 1
    · rw [if_pos c1, if_pos c1]; exact ⟨_, _, _, rfl, rfl⟩
    rw [if_neg c1, if_neg c1]
    by_cases c2 : z = 2
    · rw [if_pos c2, if_pos c2]; exact ⟨_, _, _, rfl, rfl⟩
    rw [if_neg c2, if_neg c2]
    by_cases c3 : z = 3
    · rw [if_pos c3, if_pos c3]; exact ⟨_, _, _, rfl, rfl⟩
    rw [if_neg c3, if_neg c3]; exact ⟨_, _, _, rfl, rfl⟩
  | succ k ih =>
    intro f i he sp lo fi a G hi hf hl hs g h26 pt
    obtain ⟨f, rfl⟩ : ∃ g, f = g + 1 := ⟨f - 1, by omega⟩
    obtain ⟨g1, g2, g3, g4, g5⟩ := gd_hr (he := he) (sp := sp) g (by omega)
    obtain ⟨G2, e3, p3⟩ := cf_hr (f := f) (he := he) (sp := sp) g (by omega) pt
    have e4 := rf_hr (f := f) (he := he) (sp := sp) g (by omega)
    have b16 := g1.2.2.1
    generalize hr_n pe (he, sp, a) = Y at *
    have e1 : M_X6_runs_47 w (f + 1) (mk_w pe a he sp K G B R) (nI n) z fi (nI lo) (nI i) = M_X6_runs_47 w f (mk_w pe Y.2.2 Y.1 Y.2.1 K G2 B R) (nI n) z (if fi = -4 ∧ ¬ Y.2.1 = 0 then nI i else fi) (nI (max lo (Y.2.2 16))) (nI (i + 1)) := by
      show B_X6_runs_47 _ _ _ _ _ _ _ _ _ = _
      unfold B_X6_runs_47
      rw [e3]
      simp (disch := omega) only [nI_ltI, bn_s, nm_s, B_X6_runs_93, nI_1, show (0 : Int32) = nI 0 from rfl, nI_leI]
      rw [if_neg (by omega), show (if lo < Y.2.2 16 then nI (Y.2.2 16) else nI lo) = nI (max lo (Y.2.2 16)) by
        split
        · congr 1; omega
        · congr 1; omega]
      by_cases c : fi = -4
      · rw [if_pos c]
        by_cases c2 : Y.2.1 = 0
        · rw [if_pos (by omega), if_neg (by omega)]
        · rw [if_neg (by omega), if_pos ⟨c, c2⟩]
      · rw [if_neg c, if_neg (fun q => c q.1)]
    have e2 : M_X7_runs_40 (nI pe) st (f + 1) (nI he) (nI sp) (nf_a a) (nI n) z fi (nI lo) (nI i) = M_X7_runs_40 (nI pe) st f (nI Y.1) (nI Y.2.1) (nf_a Y.2.2) (nI n) z (if fi = -4 ∧ ¬ Y.2.1 = 0 then nI i else fi) (nI (max lo (Y.2.2 16))) (nI (i + 1)) := by
      show B_X7_runs_40 _ _ _ _ _ _ _ _ _ _ _ _ = _
      unfold B_X7_runs_40
      rw [e4]
      have tail : ∀ q : Int32, B_X7_runs_69 (M_X7_runs_40 (nI pe) st f) (nI pe) st f (nI Y.1) (nI Y.2.1) (nf_a Y.2.2) (nI n) z (nI lo) (nI i) q = M_X7_runs_40 (nI pe) st f (nI Y.1) (nI Y.2.1) (nf_a Y.2.2) (nI n) z q (nI (max lo (Y.2.2 16))) (nI (i + 1)) := by
        intro q
        simp (disch := omega) only [B_X7_runs_69, B_X7_runs_94, show (16 : Int32) = nI 16 from rfl, gi_k, nI_clamp, nf_e, nI_leI, nI_1]
        by_cases c : Y.2.2 16 ≤ lo
        · rw [if_pos c, show max lo (Y.2.2 16) = lo by omega]
        · rw [if_neg c, show max lo (Y.2.2 16) = Y.2.2 16 by omega]
      simp (disch := omega) only [nI_ltI, bn_s, B_X7_runs_68, tail, show (0 : Int32) = nI 0 from rfl, nI_leI]
      rw [if_neg (by omega)]
      by_cases c : fi = -4
      · rw [if_pos c]
        by_cases c2 : Y.2.1 = 0
        · rw [if_pos (by omega), if_neg (by omega)]
        · rw [if_neg (by omega), if_pos ⟨c, c2⟩]
      · rw [if_neg c, if_neg (fun q => c q.1)]
    rw [e1, e2]
    exact ih f (i + 1) Y.1 Y.2.1 _ _ Y.2.2 G2 (by omega) (by omega) (by omega) (by omega) g1 (by omega) p3
theorem op_runs (h : bk_s pe S w v) (hf : 500 < f) (z1 z2 : Int32) : ∃ r t2 q, M_X6_runs w f t z1 z2 = some (r, t2) ∧ M_X7_runs (nI pe) (nf_a S) f x y (nf_a N) z1 z2 = some (r, q) := by
  obtain ⟨K, G, B, R, e, pt, g, g26, hw⟩ := sb_s h N t
  unfold M_X6_runs B_X6_runs_0 M_X7_runs B_X7_runs_0
  rw [fa_e, in_k z2 0 4 0 4 (by decide) (by decide)]
  rcases wi_c z1 0 60 0 60 rfl rfl (by omega) (by omega) with ⟨n, n1, n2, rfl, e3⟩ | e3
  · rw [e3]
    simp only [bn_s, i1_0]
    rcases wi_c z2 0 4 0 4 rfl rfl (by omega) (by omega) with ⟨m, m1, m2, rfl, e4⟩ | e4
    · rw [e4, e, rf_st (by omega)]
      have b16 := g.2.2.1
      simp (disch := omega) only [bn_s, i1_0, show (16 : Int32) = nI 16 from rfl, gi_k, nI_clamp, nf_e, nm_s]
      exact ru_l n2 n f 1 0 0 _ (-4) _ G (by omega) (by omega) b16 (by omega) g (by omega) pt
    · rw [e4]
      exact ⟨_, _, _, rfl, rfl⟩
  · rw [e3]
    exact ⟨_, _, _, rfl, rfl⟩
end
