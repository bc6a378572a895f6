/-! kind, most, need -/
theorem sp_hr {pe he sp : Nat} {a : Nat → Nat} : sp ≤ (hr_n pe (he, sp, a)).2.1 := by
  unfold hr_n hr_y
  by_cases c : a 17 = 0
  · simp only [c, if_true]; omega
  · simp only [c, if_false]
    simp only [wh_n]; omega
theorem sp_hs {pe : Nat} : ∀ (n he sp : Nat) (a : Nat → Nat), sp ≤ (hs_n pe n (he, sp, a)).2.1 := by
  intro n
  induction n with
  | zero => intro he sp a; exact Nat.le_refl _
  | succ n ih =>
    intro he sp a
    rw [hs_n]
    exact Nat.le_trans sp_hr (ih (hr_n pe (he, sp, a)).1 (hr_n pe (he, sp, a)).2.1 (hr_n pe (he, sp, a)).2.2)
theorem cf_dr {pe n : Nat} {K B R : Nat → Int32} (hn : n ≤ 60) : ∀ (k f i he sp : Nat) (a : Nat → Nat) (G : Nat → Int32), i + k = n → k + 250 < f → sp + 99 * k < 2 ^ 30 → gd_s pe a → a 26 + k ≤ 2000 → pt_w pe a K G B R → ∃ t2, M_X5_passDry_2 f (mk_w pe a he sp K G B R) (nI n) (nI i) = some (if (hs_n pe k (he, sp, a)).2.1 = 0 then 1 else 0, t2) := by
  intro k
  induction k with
  | zero =>
    intro f i he sp a G hi hf hs g h26 pt
    obtain ⟨f, rfl⟩ : ∃ g, f = g + 1 := ⟨f - 1, by omega⟩
    refine ⟨mk_w pe a he sp K G B R, ?_⟩
    show B_X5_passDry_2 _ _ _ _ _ = _
    simp (disch := omega) only [B_X5_passDry_2, B_X5_passDry_24, nI_leI]
    rw [if_pos (by omega)]
    by_cases c : sp = 0
    · rw [if_pos (by rw [c]; rfl), if_pos (show (hs_n pe 0 (he, sp, a)).2.1 = 0 from c)]
    · rw [if_neg (nI_ne0 (by omega) (by omega)), if_neg (show ¬ (hs_n pe 0 (he, sp, a)).2.1 = 0 from c)]
  | succ k ih =>
    intro f i he sp a G hi hf hs g h26 pt
    obtain ⟨f, rfl⟩ : ∃ g, f = g + 1 := ⟨f - 1, by omega⟩
    by_cases c : sp = 0
    · obtain ⟨g1, g2, g3, g4, g5⟩ := gd_hr (he := he) (sp := sp) g (by omega)
      obtain ⟨G2, e3, p3⟩ := cf_hr (f := f) (he := he) (sp := sp) g (by omega) pt
      obtain ⟨t2, e4⟩ := ih f (i + 1) (hr_n pe (he, sp, a)).1 (hr_n pe (he, sp, a)).2.1 (hr_n pe (he, sp, a)).2.2 G2 (by omega) (by omega) (by omega) g1 (by omega) p3
      refine ⟨t2, ?_⟩
      show B_X5_passDry_2 _ _ _ _ _ = _
      unfold B_X5_passDry_2
      rw [e3]
      simp (disch := omega) only [nI_leI, nI_1, bn_s]
      rw [if_neg (by omega), if_pos (by rw [c]; rfl), e4]
      rfl
    · have hm := sp_hs (pe := pe) (k + 1) he sp a
      refine ⟨mk_w pe a he sp K G B R, ?_⟩
      show B_X5_passDry_2 _ _ _ _ _ = _
      unfold B_X5_passDry_2 B_X5_passDry_24
      simp (disch := omega) only [nI_leI]
      rw [if_neg (by omega), if_neg (nI_ne0 (by omega) (by omega)), if_neg (nI_ne0 (by omega) (by omega)), if_neg (by omega)]
section
variable {pe f : Nat} {S N : Nat → Nat} {w t : s_W} {v : s_V} {x y : Int32}
theorem ki_l {n p : Nat} {z : Int32} (h : bk_s pe S w v) (hn : n ≤ 60) (hp : p < pe) : ∀ (k f i : Nat) (t : s_W) (x y : Int32) (N : Nat → Nat) (who least bc : Int32) (bm : Nat), i + k = 4 → k + 400 < f → jx_p who least bc bm → ∃ r t2 q, M_X6_kind_43 w f t (nI p) (nI n) z who least (nI i) = some (r, t2) ∧ M_X7_kind_33 (nI pe) (nf_a S) f x y bc (nI bm) (nf_a N) (nI p) (nI n) z (nI i) = some (r, q) := by
  have h5 := h.2.1.1
  intro k
  induction k with
  | zero =>
    intro f i t x y N who least bc bm hi hf j
    obtain ⟨f, rfl⟩ : ∃ g, f = g + 1 := ⟨f - 1, by omega⟩
    refine ⟨if z = 0 then who else least, t, (x, y, bc, nI bm, nf_a N), ?_, ?_⟩
    · show B_X6_kind_43 _ _ _ _ _ _ _ _ _ _ = _
      simp (disch := omega) only [B_X6_kind_43, show (4 : Int32) = nI 4 from rfl, nI_leI]
      rw [if_pos (by omega)]
      split <;> rfl
    · show B_X7_kind_33 _ _ _ _ _ _ _ _ _ _ _ _ _ = _
      unfold B_X7_kind_33
      rw [jx_end j]
      simp (disch := omega) only [show (4 : Int32) = nI 4 from rfl, nI_leI]
      rw [if_pos (by omega)]
      rfl
  | succ k ih =>
    intro f i t x y N who least bc bm hi hf j
    obtain ⟨f, rfl⟩ : ∃ g, f = g + 1 := ⟨f - 1, by omega⟩
    obtain ⟨K, G, B, R, e, pt, g, g26, hw⟩ := sb_s h N t
    have pa := pt_K (x := i) g hp pt
    have ga := gd_K (x := i) g hp (by omega)
    have a26 : up_n (cp_n S N) (3 * p) i 26 = cp_n S N 26 := up_o (by omega)
    obtain ⟨G2, e4, p4⟩ := cf_pa (n := n) (f := f) (he := 0) (sp := 0) ga (by omega) (by omega) pa
    rw [mk_p (p := p) (by omega)] at e4
    obtain ⟨i1, i2, i3, i4, i5⟩ := gd_hs n 0 0 (up_n (cp_n S N) (3 * p) i) ga (by omega)
    have eal := cf_al (f := f) (he := (hs_n pe n (0, 0, up_n (cp_n S N) (3 * p) i)).1) (sp := (hs_n pe n (0, 0, up_n (cp_n S N) (3 * p) i)).2.1) h5 (by omega) p4
    have bal := al_b i1
    have er := rf_wb (n := n) (f := f) (he := 0) (sp := 0) ga (by omega) (by omega)
    generalize hY : hs_n pe n (0, 0, up_n (cp_n S N) (3 * p) i) = Y at *
    have e1 : M_X6_kind_43 w (f + 1) t (nI p) (nI n) z who least (nI i) = if who = -4 then M_X6_kind_43 w f (mk_w pe Y.2.2 Y.1 Y.2.1 (upd K p (nI i)) G2 B R) (nI p) (nI n) z (nI i) (nI (al_n pe Y.2.2)) (nI (i + 1)) else if least ≤ nI (al_n pe Y.2.2) then M_X6_kind_43 w f (mk_w pe Y.2.2 Y.1 Y.2.1 (upd K p (nI i)) G2 B R) (nI p) (nI n) z who least (nI (i + 1)) else M_X6_kind_43 w f (mk_w pe Y.2.2 Y.1 Y.2.1 (upd K p (nI i)) G2 B R) (nI p) (nI n) z (nI i) (nI (al_n pe Y.2.2)) (nI (i + 1)) := by
      show B_X6_kind_43 _ _ _ _ _ _ _ _ _ _ = _
      unfold B_X6_kind_43
      rw [e]
      simp (disch := omega) only [bn_s, gi_k, nI_clamp]
      rw [show (nI pe, nI (cp_n S N 17), nI (cp_n S N 15), nI (cp_n S N 16), nI (cp_n S N 26), nI 0, nI 0, upd K p (nI i), G, B, R) = mk_w pe (cp_n S N) 0 0 (upd K p (nI i)) G B R from rfl, e4]
      simp only [bn_s, B_X6_kind_98, B_X6_kind_111]
      rw [eal]
      simp (disch := omega) only [bn_s, show (4 : Int32) = nI 4 from rfl, nI_leI, nI_1]
      rw [if_neg (by omega)]
    have e2 : M_X7_kind_33 (nI pe) (nf_a S) (f + 1) x y bc (nI bm) (nf_a N) (nI p) (nI n) z (nI i) = (M_X7_judges bc (nI bm) (nI i) (nI (al_n pe Y.2.2))).bind (fun u85 => M_X7_kind_33 (nI pe) (nf_a S) f (nI Y.1) (nI Y.2.1) u85.1 u85.2 (nf_a Y.2.2) (nI p) (nI n) z (nI (i + 1))) := by
      show B_X7_kind_33 _ _ _ _ _ _ _ _ _ _ _ _ _ = _
      unfold B_X7_kind_33
      rw [rf_st (by omega)]
      have eb := rf_bo (a := cp_n S N) (p := p) (k := 0) (v := i) (by omega)
      rw [Nat.add_zero] at eb
      simp (disch := omega) only [bn_s, show (4 : Int32) = nI 4 from rfl, nI_leI, show (0 : Int32) = nI 0 from rfl, eb, nI_1]
      rw [if_neg (by omega), er]
      rfl
    have hbm : bm < 2 ^ 31 := by
      rcases j with ⟨-, -, -, rfl⟩ | ⟨c, hc, -, -, -, hb⟩ <;> omega
    rw [e1, e2, rf_jd hbm (by omega)]
    simp only [bn_s]
    rcases j with ⟨rfl, rfl, rfl, rfl⟩ | ⟨c, hc, rfl, rfl, rfl, hb⟩
    · rw [if_pos rfl, if_neg (by omega)]
      exact ih f (i + 1) _ _ _ _ _ _ _ _ (by omega) (by omega) (Or.inr ⟨i, by omega, rfl, rfl, rfl, by omega⟩)
    · rw [if_neg (n4_ne (by omega))]
      simp (disch := omega) only [nI_leI]
      by_cases c2 : bm ≤ al_n pe Y.2.2
      · rw [if_pos c2, if_pos c2]
        exact ih f (i + 1) _ _ _ _ _ _ _ _ (by omega) (by omega) (Or.inr ⟨c, hc, rfl, rfl, rfl, hb⟩)
      · rw [if_neg c2, if_neg c2]
        exact ih f (i + 1) _ _ _ _ _ _ _ _ (by omega) (by omega) (Or.inr ⟨i, by omega, rfl, rfl, rfl, by omega⟩)
theorem op_kind {bc bm : Int32} (h : bk_s pe S w v) (hf : 500 < f) (z1 z2 z3 : Int32) : ∃ r t2 q, M_X6_kind w f t z1 z2 z3 = some (r, t2) ∧ M_X7_kind (nI pe) (nf_a S) f x y bc bm (nf_a N) z1 z2 z3 = some (r, q) := by
  obtain ⟨K, G, B, R, e, pt, g, g26, hw⟩ := sb_s h N t
  unfold M_X6_kind B_X6_kind_0 M_X7_kind B_X7_kind_0
  rw [fa_e, pa_e]
  rcases on_c z1 g.1 with ⟨p, hp, rfl, e1, e2⟩ | ⟨e1, e2⟩
  · rw [e1 _ hw, e2]
    simp only [bn_s, i1_0]
    rcases wi_c z2 0 60 0 60 rfl rfl (by omega) (by omega) with ⟨n, n1, n2, rfl, e3⟩ | e3
    · rw [e3]
      simp only [bn_s, i1_0]
      rcases wi_c z3 0 1 0 1 rfl rfl (by omega) (by omega) with ⟨m, m1, m2, rfl, e4⟩ | e4
      · rw [e4]
        simp only [bn_s, i1_0, M_X7_startsJudging, B_X7_startsJudging_0]
        exact ki_l h n2 hp 4 f 0 t x y N (-4) (-4) (-4) 1000000 (by omega) (by omega) (Or.inl ⟨rfl, rfl, rfl, rfl⟩)
      · rw [e4]
        exact ⟨_, _, _, rfl, rfl⟩
    · rw [e3]
      exact ⟨_, _, _, rfl, rfl⟩
  · rw [e1 _ hw, e2]
    exact ⟨_, _, _, rfl, rfl⟩
theorem mo_l {n : Nat} (h : bk_s pe S w v) (hn : n ≤ 60) : ∀ (k f : Nat) (t : s_W) (x y : Int32) (N : Nat → Nat), k ≤ 99 → k + 400 < f → ∃ r t2 q, M_X6_most_15 w f t (nI n) (nI k) = some (r, t2) ∧ M_X7_most_12 (nI pe) (nf_a S) f x y (nf_a N) (nI n) (nI k) = some (r, q) := by
  intro k
  induction k with
  | zero =>
    intro f t x y N hk hf
    obtain ⟨f, rfl⟩ : ∃ g, f = g + 1 := ⟨f - 1, by omega⟩
    exact ⟨_, _, _, rfl, rfl⟩
  | succ k ih =>
    intro f t x y N hk hf
    obtain ⟨f, rfl⟩ : ∃ g, f = g + 1 := ⟨f - 1, by omega⟩
    obtain ⟨K, G, B, R, e, pt, g, g26, hw⟩ := sb_s h N t
    have pa := pt_15 (x := k + 1) g pt
    have ga := gd_15 (x := k + 1) g (by omega) (by omega)
    have a26 : up_n (cp_n S N) 15 (k + 1) 26 = cp_n S N 26 := up_o (by omega)
    obtain ⟨t2, e4⟩ := cf_dr (pe := pe) hn n f 0 0 0 _ G (by omega) (by omega) (by omega) ga (by omega) pa
    obtain ⟨i1, i2, i3, i4, i5⟩ := gd_hs n 0 0 (up_n (cp_n S N) 15 (k + 1)) ga (by omega)
    have er := rf_hg (n := n) (f := f) (he := 0) (sp := 0) ga (by omega) (by omega)
    rw [mk_15] at e4
    generalize hY : hs_n pe n (0, 0, up_n (cp_n S N) 15 (k + 1)) = Y at *
    have e1 : M_X6_most_15 w (f + 1) t (nI n) (nI (k + 1)) = if Y.2.1 = 0 then some (nI (k + 1), t2) else M_X6_most_15 w f t2 (nI n) (nI k) := by
      show B_X6_most_15 _ _ _ _ _ _ = _
      unfold B_X6_most_15
      rw [e]
      simp only [bn_s, M_X5_passDry, B_X5_passDry_0]
      rw [if_neg (show ¬ nI (k + 1) < 1 from nI_nlt (b := 1) (by omega) (by omega)), show M_X5_passDry_2 f (nI pe, nI (cp_n S N 17), nI (k + 1), nI (cp_n S N 16), nI (cp_n S N 26), nI 0, nI 0, K, G, B, R) (nI n) 0 = some (if Y.2.1 = 0 then 1 else 0, t2) from e4]
      simp only [bn_s]
      rw [pk_m1]
      by_cases c : Y.2.1 = 0
      · rw [if_pos c, if_pos c]; exact i1_0 _ _
      · rw [if_neg c, if_neg c]; exact i0_0 _ _
    have e2 : M_X7_most_12 (nI pe) (nf_a S) (f + 1) x y (nf_a N) (nI n) (nI (k + 1)) = if Y.2.1 = 0 then some (nI (k + 1), nI Y.1, nI Y.2.1, nf_a Y.2.2) else M_X7_most_12 (nI pe) (nf_a S) f (nI Y.1) (nI Y.2.1) (nf_a Y.2.2) (nI n) (nI k) := by
      show B_X7_most_12 _ _ _ _ _ _ _ _ _ = _
      unfold B_X7_most_12
      rw [rf_st (by omega)]
      simp (disch := omega) only [bn_s, show (15 : Int32) = nI 15 from rfl, show (0 : Int32) = nI 0 from rfl, nI_leI, gi_k, nI_clamp, nf_u]
      rw [if_neg (by omega), er]
      simp (disch := omega) only [bn_s, nI_eq]
      rw [pk_m1]
    rw [e1, e2]
    by_cases c : Y.2.1 = 0
    · rw [if_pos c, if_pos c]; exact ⟨_, _, _, rfl, rfl⟩
    · rw [if_neg c, if_neg c]
      exact ih f t2 _ _ _ (by omega) (by omega)
theorem op_most (h : bk_s pe S w v) (hf : 600 < f) (z : Int32) : ∃ r t2 q, M_X6_most w f t z = some (r, t2) ∧ M_X7_most (nI pe) (nf_a S) f x y (nf_a N) z = some (r, q) := by
  unfold M_X6_most B_X6_most_0 M_X7_most B_X7_most_0
  rw [fa_e]
  rcases wi_c z 0 60 0 60 rfl rfl (by omega) (by omega) with ⟨n, n1, n2, rfl, e3⟩ | e3
  · rw [e3]
    simp only [bn_s, i1_0]
    exact mo_l h n2 99 f t x y N (by omega) (by omega)
  · rw [e3]
    exact ⟨_, _, _, rfl, rfl⟩
theorem ne_l {n p : Nat} (h : bk_s pe S w v) (hn : n ≤ 60) (hp : p < pe) : ∀ (k f i : Nat) (t : s_W) (x y : Int32) (N : Nat → Nat), i + k = 100 → 1 ≤ i → k + 400 < f → ∃ r t2 q, M_X6_need_25 w f t (nI p) (nI n) (nI i) = some (r, t2) ∧ M_X7_need_19 (nI pe) (nf_a S) f x y (nf_a N) (nI p) (nI n) (nI i) = some (r, q) := by
  have h5 := h.2.1.1
  intro k
  induction k with
  | zero =>
    intro f i t x y N hi h1 hf
    obtain ⟨f, rfl⟩ : ∃ g, f = g + 1 := ⟨f - 1, by omega⟩
    obtain rfl : i = 100 := by omega
    exact ⟨_, _, _, rfl, rfl⟩
  | succ k ih =>
    intro f i t x y N hi h1 hf
    obtain ⟨f, rfl⟩ : ∃ g, f = g + 1 := ⟨f - 1, by omega⟩
    obtain ⟨K, G, B, R, e, pt, g, g26, hw⟩ := sb_s h N t
    have pa := pt_B (x := i) g hp pt
    have ga := gd_B (x := i) g hp (by omega) (by omega)
    have a26 : up_n (cp_n S N) (3 * p + 2) i 26 = cp_n S N 26 := up_o (by omega)
    obtain ⟨t2, e4⟩ := cf_dr (pe := pe) hn n f 0 0 0 _ G (by omega) (by omega) (by omega) ga (by omega) pa
    obtain ⟨i1, i2, i3, i4, i5⟩ := gd_hs n 0 0 (up_n (cp_n S N) (3 * p + 2) i) ga (by omega)
    have er := rf_hg (n := n) (f := f) (he := 0) (sp := 0) ga (by omega) (by omega)
    rw [mk_p (p := p) (by omega)] at e4
    generalize hY : hs_n pe n (0, 0, up_n (cp_n S N) (3 * p + 2) i) = Y at *
    have e1 : M_X6_need_25 w (f + 1) t (nI p) (nI n) (nI i) = if Y.2.1 = 0 then some (nI i, t2) else M_X6_need_25 w f t2 (nI p) (nI n) (nI (i + 1)) := by
      show B_X6_need_25 _ _ _ _ _ _ _ = _
      unfold B_X6_need_25
      rw [e]
      simp (disch := omega) only [bn_s, show (99 : Int32) = nI 99 from rfl, nI_ltI, M_X5_passDry, B_X5_passDry_0, gi_k, nI_clamp]
      rw [if_neg (by omega), show M_X5_passDry_2 f (nI pe, nI (cp_n S N 17), nI (cp_n S N 15), nI (cp_n S N 16), nI (cp_n S N 26), nI 0, nI 0, K, G, upd B p (nI i), R) (nI n) 0 = some (if Y.2.1 = 0 then 1 else 0, t2) from e4]
      simp only [bn_s]
      rw [nI_1]
      by_cases c : Y.2.1 = 0
      · rw [if_pos c, if_pos c]; exact i1_0 _ _
      · rw [if_neg c, if_neg c]; exact i0_0 _ _
    have e2 : M_X7_need_19 (nI pe) (nf_a S) (f + 1) x y (nf_a N) (nI p) (nI n) (nI i) = if Y.2.1 = 0 then some (nI i, nI Y.1, nI Y.2.1, nf_a Y.2.2) else M_X7_need_19 (nI pe) (nf_a S) f (nI Y.1) (nI Y.2.1) (nf_a Y.2.2) (nI p) (nI n) (nI (i + 1)) := by
      show B_X7_need_19 _ _ _ _ _ _ _ _ _ _ = _
      unfold B_X7_need_19
      rw [rf_st (by omega)]
      simp (disch := omega) only [bn_s, show (99 : Int32) = nI 99 from rfl, show (0 : Int32) = nI 0 from rfl, show (2 : Int32) = nI 2 from rfl, nI_ltI, rf_bo, nI_1]
      rw [if_neg (by omega), er]
      simp (disch := omega) only [bn_s, nI_eq]
    rw [e1, e2]
    by_cases c : Y.2.1 = 0
    · rw [if_pos c, if_pos c]; exact ⟨_, _, _, rfl, rfl⟩
    · rw [if_neg c, if_neg c]
      exact ih f (i + 1) t2 _ _ _ (by omega) (by omega) (by omega)
theorem op_need (h : bk_s pe S w v) (hf : 600 < f) (z1 z2 : Int32) : ∃ r t2 q, M_X6_need w f t z1 z2 = some (r, t2) ∧ M_X7_need (nI pe) (nf_a S) f x y (nf_a N) z1 z2 = some (r, q) := by
  obtain ⟨K, G, B, R, e, pt, g, g26, hw⟩ := sb_s h N t
  unfold M_X6_need B_X6_need_0 M_X7_need B_X7_need_0
  rw [fa_e]
  rcases on_c z1 g.1 with ⟨p, hp, rfl, e1, e2⟩ | ⟨e1, e2⟩
  · rw [e1 _ hw, e2]
    simp only [bn_s, i1_0]
    rcases wi_c z2 0 60 0 60 rfl rfl (by omega) (by omega) with ⟨n, n1, n2, rfl, e3⟩ | e3
    · rw [e3]
      simp only [bn_s, i1_0]
      exact ne_l h n2 hp 99 f 1 t x y N (by omega) (by omega) (by omega)
    · rw [e3]
      exact ⟨_, _, _, rfl, rfl⟩
  · rw [e1 _ hw, e2]
    exact ⟨_, _, _, rfl, rfl⟩
end
