/-! calls that run hours -/
section
variable {pe f : Nat} {S N : Nat → Nat} {w t : s_W} {v : s_V} {x y : Int32}
theorem sb_s (h : bk_s pe S w v) (N : Nat → Nat) (t : s_W) : ∃ K G B R : Nat → Int32, M_X5_become w t = some (mk_w pe (cp_n S N) 0 0 K G B R) ∧ pt_w pe (cp_n S N) K G B R ∧ gd_s pe (cp_n S N) ∧ cp_n S N 26 ≤ 999 ∧ w.1 = nI pe := by
  obtain ⟨⟨he, sp, K, G, B, R, rfl, pt⟩, g, g2, g3⟩ := h
  have gc : gd_s pe (cp_n S N) := gd_cg (fun i hi => cp_i hi) g
  have pc : pt_w pe (cp_n S N) K G B R := pt_cg g (fun i hi => cp_i hi) pt
  obtain ⟨K2, G2, B2, R2, e, p2⟩ := cf_bc (he := he) (sp := sp) gc pc t
  rw [mk_cg (fun i hi => cp_i hi)] at e
  exact ⟨K2, G2, B2, R2, e, p2, gc, by rw [cp_i (by omega)]; exact g2, rfl⟩
theorem op_alter (h : bk_s pe S w v) (z1 z2 z3 : Int32) : ∃ r w2 S2, M_X6_alter w z1 z2 z3 = some (r, w2) ∧ M_X7_alter (nI pe) (nf_a S) z1 z2 z3 = some (r, nf_a S2) ∧ bk_s pe S2 w2 v ∧ ∀ i, 46 ≤ i → S2 i = S i := by
  have hh := h
  obtain ⟨⟨he, sp, K, G, B, R, rfl, pt⟩, g, g2, g3⟩ := h
  have h5 := g.1
  have bad : ∀ b : Int32, B_X7_alter_55 (nI pe) (nf_a S) z1 z2 z3 0 = some (-1, nf_a S) := by
    intro b
    unfold B_X7_alter_55
    rcases on_c z1 h5 with ⟨p, hp, rfl, e1, e2⟩ | ⟨e1, e2⟩
    · rw [e2]; rfl
    · rw [e2]; rfl
  have bad2 : B_X7_alter_54 (nI pe) (nf_a S) z1 z2 z3 = some (-1, nf_a S) := bad 0
  unfold M_X6_alter B_X6_alter_0 M_X5_mayAlter B_X5_mayAlter_0 M_X7_alter B_X7_alter_0
  rcases on_c z1 h5 with ⟨p, hp, rfl, e1, e2⟩ | ⟨e1, e2⟩
  · rw [e1 _ rfl]
    simp only [bn_s, i1_0]
    have good : ∀ k x : Nat, k < 3 → z2 = nI k → z3 = nI x → B_X7_alter_55 (nI pe) (nf_a S) (nI p) z2 z3 1 = some (nI (S (3 * p + k)), nf_a (up_n S (3 * p + k) x)) := by
      intro k x hk e3 e4
      unfold B_X7_alter_55 M_X7_becomes B_X7_becomes_0
      rw [e2]
      simp (disch := omega) only [bn_s, i1_0, e3, e4, show (3 : Int32) = nI 3 from rfl, pk_mul, nI_add, gi_k, nI_clamp, nf_e, nm_s, nf_u]
    by_cases c0 : z2 = 0
    · simp only [if_pos c0]
      rw [in_k z3 0 3 0 3 (by decide) (by decide)]
      rcases wi_c z3 0 3 0 3 rfl rfl (by omega) (by omega) with ⟨n, n1, n2, rfl, e⟩ | e
      · rw [e]
        simp only [bn_s, gq_1, i1_0]
        rw [good 0 n (by omega) c0 rfl]
        simp (disch := omega) only [gi_k, nI_clamp, nm_s, (pt.1 p hp).1]
        exact ⟨_, _, _, rfl, rfl, ⟨⟨he, sp, _, G, B, R, (mk_p (p := p) (by omega)).symm, pt_K g hp pt⟩, gd_K g hp n2, by rw [up_o (by omega)]; exact g2, sg_cg (fun i h1 h2 => up_o (by omega)) g3⟩, fun i hi => up_o (by omega)⟩
      · rw [e]
        simp only [bn_s, gq_0, i0_0, bad 0]
        exact ⟨_, _, S, rfl, rfl, hh, fun _ _ => rfl⟩
    simp only [if_neg c0]
    by_cases c1 : z2 = 1
    · simp only [if_pos c1]
      rw [in_k z3 0 99 0 99 (by decide) (by decide)]
      rcases wi_c z3 0 99 0 99 rfl rfl (by omega) (by omega) with ⟨n, n1, n2, rfl, e⟩ | e
      · rw [e]
        simp only [bn_s, gq_1, i1_0]
        rw [good 1 n (by omega) c1 rfl]
        simp (disch := omega) only [gi_k, nI_clamp, nm_s, (pt.1 p hp).2.1]
        exact ⟨_, _, _, rfl, rfl, ⟨⟨he, sp, K, _, B, R, (mk_p (p := p) (by omega)).symm, pt_G g hp pt⟩, gd_G g hp n2, by rw [up_o (by omega)]; exact g2, sg_cg (fun i h1 h2 => up_o (by omega)) g3⟩, fun i hi => up_o (by omega)⟩
      · rw [e]
        simp only [bn_s, gq_0, i0_0, bad 0]
        exact ⟨_, _, S, rfl, rfl, hh, fun _ _ => rfl⟩
    simp only [if_neg c1]
    by_cases c2 : z2 = 2
    · simp only [if_pos c2]
      rw [in_k z3 1 99 1 99 (by decide) (by decide)]
      rcases wi_c z3 1 99 1 99 rfl rfl (by omega) (by omega) with ⟨n, n1, n2, rfl, e⟩ | e
      · rw [e]
        simp only [bn_s, gq_1, i1_0]
        rw [good 2 n (by omega) c2 rfl]
        simp (disch := omega) only [gi_k, nI_clamp, nm_s, (pt.1 p hp).2.2]
        exact ⟨_, _, _, rfl, rfl, ⟨⟨he, sp, K, G, _, R, (mk_p (p := p) (by omega)).symm, pt_B g hp pt⟩, gd_B g hp n1 n2, by rw [up_o (by omega)]; exact g2, sg_cg (fun i h1 h2 => up_o (by omega)) g3⟩, fun i hi => up_o (by omega)⟩
      · rw [e]
        simp only [bn_s, gq_0, i0_0, bad2]
        exact ⟨_, _, S, rfl, rfl, hh, fun _ _ => rfl⟩
    simp only [if_neg c2, bn_s, i0_0, bad2]
    exact ⟨_, _, S, rfl, rfl, hh, fun _ _ => rfl⟩
  · rw [e1 _ rfl]
    simp only [bn_s, i0_0]
    have bad3 : ∀ b : Int32, B_X7_alter_55 (nI pe) (nf_a S) z1 z2 z3 b = some (-1, nf_a S) := by
      intro b
      unfold B_X7_alter_55
      rw [e2]; rfl
    refine ⟨_, _, S, rfl, ?_, hh, fun _ _ => rfl⟩
    rw [in_k z3 0 3 0 3 (by decide) (by decide), in_k z3 0 99 0 99 (by decide) (by decide), in_k z3 1 99 1 99 (by decide) (by decide), wi_e, wi_e, wi_e, bad2]
    simp only [bn_s, bad3]
    repeat' split
    all_goals rfl
theorem op_hours (h : bk_s pe S w v) (hf : 300 < f) (z : Int32) : ∃ r w2 S2 q1 q2 q3, M_X6_hours f w z = some (r, w2) ∧ M_X7_hours (nI pe) f x y (nf_a S) (nf_a N) z = some (r, q1, q2, nf_a S2, q3) ∧ bk_s pe S2 w2 v ∧ ∀ i, 46 ≤ i → S2 i = S i := by
  have hh := h
  obtain ⟨⟨he, sp, K, G, B, R, rfl, pt⟩, g, g2, g3⟩ := h
  unfold M_X6_hours B_X6_hours_0 M_X7_hours B_X7_hours_0
  rw [in_k z 0 30 0 30 (by decide) (by decide)]
  rcases wi_c z 0 30 0 30 rfl rfl (by omega) (by omega) with ⟨n, n1, n2, rfl, e⟩ | e
  · rw [e]
    simp (disch := omega) only [bn_s, i1_0, show (26 : Int32) = nI 26 from rfl, show (1000 : Int32) = nI 1000 from rfl, show (999 : Int32) = nI 999 from rfl, gi_k, nI_clamp, nf_e, nI_add, nI_ltI, nI_leI]
    by_cases c : S 26 + n ≤ 999
    · rw [if_pos c, if_pos (by omega)]
      have gc : gd_s pe (cp_n S N) := gd_cg (fun i hi => cp_i hi) g
      have pc : pt_w pe (cp_n S N) K G B R := pt_cg g (fun i hi => cp_i hi) pt
      have h26 : cp_n S N 26 = S 26 := cp_i (by omega)
      obtain ⟨G2, e2, p2⟩ := cf_pa (n := n) (f := f) (he := he) (sp := sp) gc (by omega) (by omega) pc
      rw [mk_cg (a := S) (fun i hi => cp_i hi)] at e2
      obtain ⟨i1, i2, i3, i4, i5⟩ := gd_hs n 0 0 (cp_n S N) gc (by omega)
      rw [e2, rf_st (by omega)]
      simp only [bn_s]
      rw [show (0 : Int32) = nI 0 from rfl, rf_hg gc (by omega) (by omega)]
      simp only [bn_s]
      rw [rf_tl (by omega)]
      simp only [bn_s]
      have ag : ∀ i, i < 46 → cp_n (hs_n pe n (0, 0, cp_n S N)).2.2 S i = (hs_n pe n (0, 0, cp_n S N)).2.2 i := fun i hi => cp_i hi
      refine ⟨_, _, _, _, _, _, rfl, rfl, ⟨⟨_, _, K, G2, B, R, (mk_cg ag).symm, pt_cg i1 ag p2⟩, gd_cg ag i1, by rw [ag 26 (by omega), i2]; omega, ?_⟩, fun i hi => cp_o hi⟩
      refine sg_cg (fun i h1 h2 => ?_) g3
      rw [ag i h2, fr_hs (by omega) (by omega) n 0 0 _ gc (by omega), cp_i h2]
    · rw [if_neg c, if_neg (by omega)]
      exact ⟨_, _, S, _, _, _, rfl, rfl, hh, fun _ _ => rfl⟩
  · rw [e]
    exact ⟨_, _, S, _, _, _, rfl, rfl, hh, fun _ _ => rfl⟩
theorem op_ahead (h : bk_s pe S w v) (hf : 300 < f) (z1 z2 : Int32) : ∃ r t2 q, M_X6_ahead w f t z1 z2 = some (r, t2) ∧ M_X7_ahead (nI pe) (nf_a S) f x y (nf_a N) z1 z2 = some (r, q) := by
  obtain ⟨K, G, B, R, e, pt, g, g26, hw⟩ := sb_s h N t
  have h5 := g.1
  unfold M_X6_ahead B_X6_ahead_0 M_X7_ahead B_X7_ahead_0
  rcases on_c z1 h5 with ⟨p, hp, rfl, e1, e2⟩ | ⟨e1, e2⟩
  · rw [e1 _ hw, e2, fa_e]
    simp only [bn_s, i1_0]
    rcases wi_c z2 0 60 0 60 rfl rfl (by omega) (by omega) with ⟨n, n1, n2, rfl, e3⟩ | e3
    · rw [e3, e, rf_st (by omega)]
      simp only [bn_s, i1_0]
      obtain ⟨G2, e4, p4⟩ := cf_pa (n := n) (f := f) (he := 0) (sp := 0) g (by omega) (by omega) pt
      rw [e4, show (0 : Int32) = nI 0 from rfl, rf_hg g (by omega) (by omega)]
      simp (disch := omega) only [bn_s, gi_k, nI_clamp, (p4.1 p hp).2.1, show (1 : Int32) = nI 1 from rfl, rf_of]
      exact ⟨_, _, _, rfl, rfl⟩
    · rw [e3]
      exact ⟨_, _, _, rfl, rfl⟩
  · rw [e1 _ hw, e2]
    exact ⟨_, _, _, rfl, rfl⟩
theorem un_l {z : Int32} {st : Nat → Int32} {K B R : Nat → Int32} : ∀ (k f i he sp : Nat) (a : Nat → Nat) (G : Nat → Int32), i + k = 61 → k + 250 < f → gd_s pe a → a 26 + k ≤ 2000 → pt_w pe a K G B R → ∃ r t2 q, M_X6_under_26 w f (mk_w pe a he sp K G B R) z (nI i) = some (r, t2) ∧ M_X7_under_20 (nI pe) st f (nI he) (nI sp) (nf_a a) z (nI i) = some (r, q) := by
  intro k
  induction k with
  | zero =>
    intro f i he sp a G hi hf g h26 pt
    obtain ⟨f, rfl⟩ : ∃ g, f = g + 1 := ⟨f - 1, by omega⟩
    refine ⟨-4, mk_w pe a he sp K G B R, (nI he, nI sp, nf_a a), ?_, ?_⟩
    · show B_X6_under_26 _ _ _ _ _ _ = _
      simp (disch := omega) only [B_X6_under_26, show (60 : Int32) = nI 60 from rfl, nI_ltI]
      rw [if_pos (by omega)]
    · show B_X7_under_20 _ _ _ _ _ _ _ _ _ = _
      simp (disch := omega) only [B_X7_under_20, show (60 : Int32) = nI 60 from rfl, nI_ltI]
      rw [if_pos (by omega)]
  | succ k ih =>
    intro f i he sp a G hi hf g h26 pt
    obtain ⟨f, rfl⟩ : ∃ g, f = g + 1 := ⟨f - 1, by omega⟩
    have e1 : M_X6_under_26 w (f + 1) (mk_w pe a he sp K G B R) z (nI i) = if z < nI (al_n pe a) then (M_X5_passOne f (mk_w pe a he sp K G B R)).bind (fun u49 => M_X6_under_26 w f u49 z (nI (i + 1))) else some (nI i, mk_w pe a he sp K G B R) := by
      show B_X6_under_26 _ _ _ _ _ _ = _
      unfold B_X6_under_26
      rw [cf_al g.1 (by omega) pt, nI_1]
      simp (disch := omega) only [show (60 : Int32) = nI 60 from rfl, nI_ltI, bn_s]
      rw [if_neg (by omega)]
    have e2 : M_X7_under_20 (nI pe) st (f + 1) (nI he) (nI sp) (nf_a a) z (nI i) = if z < nI (al_n pe a) then (M_X7_hourGoes (nI pe) f (nI he) (nI sp) (nf_a a)).bind (fun u37 => M_X7_under_20 (nI pe) st f u37.1 u37.2.1 u37.2.2 z (nI (i + 1))) else some (nI i, nI he, nI sp, nf_a a) := by
      show B_X7_under_20 _ _ _ _ _ _ _ _ _ = _
      unfold B_X7_under_20
      rw [rf_al g.1 (by omega), nI_1]
      simp (disch := omega) only [show (60 : Int32) = nI 60 from rfl, nI_ltI, bn_s]
      rw [if_neg (by omega)]
    rw [e1, e2]
    by_cases c : z < nI (al_n pe a)
    · rw [if_pos c, if_pos c]
      obtain ⟨g1, g2, g3, g4, g5⟩ := gd_hr (he := he) (sp := sp) g (by omega)
      obtain ⟨G2, e3, p3⟩ := cf_hr (f := f) (he := he) (sp := sp) g (by omega) pt
      rw [e3, rf_hr g (by omega)]
      simp only [bn_s]
      exact ih f (i + 1) _ _ _ G2 (by omega) (by omega) g1 (by omega) p3
    · rw [if_neg c, if_neg c]
      exact ⟨_, _, _, rfl, rfl⟩
theorem op_under (h : bk_s pe S w v) (hf : 400 < f) (z : Int32) : ∃ r t2 q, M_X6_under w f t z = some (r, t2) ∧ M_X7_under (nI pe) (nf_a S) f x y (nf_a N) z = some (r, q) := by
  obtain ⟨K, G, B, R, e, pt, g, g26, hw⟩ := sb_s h N t
  unfold M_X6_under B_X6_under_0 M_X7_under B_X7_under_0
  rw [in_k z 0 999 0 999 (by decide) (by decide)]
  rcases wi_c z 0 999 0 999 rfl rfl (by omega) (by omega) with ⟨n, n1, n2, rfl, e3⟩ | e3
  · rw [e3, e, rf_st (by omega)]
    simp only [bn_s, i1_0]
    exact un_l 61 f 0 0 0 _ G (by omega) (by omega) g (by omega) pt
  · rw [e3]
    exact ⟨_, _, _, rfl, rfl⟩
theorem li_l {p : Nat} {st : Nat → Int32} {K B R : Nat → Int32} (hp : p < pe) : ∀ (k f i he sp : Nat) (a : Nat → Nat) (G : Nat → Int32), i + k = 61 → k + 250 < f → gd_s pe a → a 26 + k ≤ 2000 → pt_w pe a K G B R → ∃ r t2 q, M_X6_light_26 w f (mk_w pe a he sp K G B R) (nI p) (nI i) = some (r, t2) ∧ M_X7_light_16 (nI pe) st f (nI he) (nI sp) (nf_a a) (nI p) (nI i) = some (r, q) := by
  intro k
  induction k with
  | zero =>
    intro f i he sp a G hi hf g h26 pt
    obtain ⟨f, rfl⟩ : ∃ g, f = g + 1 := ⟨f - 1, by omega⟩
    refine ⟨-4, mk_w pe a he sp K G B R, (nI he, nI sp, nf_a a), ?_, ?_⟩
    · show B_X6_light_26 _ _ _ _ _ _ = _
      simp (disch := omega) only [B_X6_light_26, show (60 : Int32) = nI 60 from rfl, nI_ltI]
      rw [if_pos (by omega)]
    · show B_X7_light_16 _ _ _ _ _ _ _ _ _ = _
      simp (disch := omega) only [B_X7_light_16, show (60 : Int32) = nI 60 from rfl, nI_ltI]
      rw [if_pos (by omega)]
  | succ k ih =>
    intro f i he sp a G hi hf g h26 pt
    obtain ⟨f, rfl⟩ : ∃ g, f = g + 1 := ⟨f - 1, by omega⟩
    have h5 := g.1
    have e1 : M_X6_light_26 w (f + 1) (mk_w pe a he sp K G B R) (nI p) (nI i) = if nI (a (3 * p + 1)) = 0 then some (nI i, mk_w pe a he sp K G B R) else (M_X5_passOne f (mk_w pe a he sp K G B R)).bind (fun u49 => M_X6_light_26 w f u49 (nI p) (nI (i + 1))) := by
      show B_X6_light_26 _ _ _ _ _ _ = _
      unfold B_X6_light_26
      rw [nI_1]
      simp (disch := omega) only [show (60 : Int32) = nI 60 from rfl, nI_ltI, gi_k, nI_clamp, (pt.1 p hp).2.1]
      rw [if_neg (by omega)]
    have e2 : M_X7_light_16 (nI pe) st (f + 1) (nI he) (nI sp) (nf_a a) (nI p) (nI i) = if nI (a (3 * p + 1)) = 0 then some (nI i, nI he, nI sp, nf_a a) else (M_X7_hourGoes (nI pe) f (nI he) (nI sp) (nf_a a)).bind (fun u37 => M_X7_light_16 (nI pe) st f u37.1 u37.2.1 u37.2.2 (nI p) (nI (i + 1))) := by
      show B_X7_light_16 _ _ _ _ _ _ _ _ _ = _
      unfold B_X7_light_16
      rw [nI_1, show (1 : Int32) = nI 1 from rfl, rf_of (by omega)]
      simp (disch := omega) only [show (60 : Int32) = nI 60 from rfl, nI_ltI, bn_s]
      rw [if_neg (by omega)]
    rw [e1, e2]
    by_cases c : nI (a (3 * p + 1)) = 0
    · rw [if_pos c, if_pos c]
      exact ⟨_, _, _, rfl, rfl⟩
    · rw [if_neg c, if_neg c]
      obtain ⟨g1, g2, g3, g4, g5⟩ := gd_hr (he := he) (sp := sp) g (by omega)
      obtain ⟨G2, e3, p3⟩ := cf_hr (f := f) (he := he) (sp := sp) g (by omega) pt
      rw [e3, rf_hr g (by omega)]
      simp only [bn_s]
      exact ih f (i + 1) _ _ _ G2 (by omega) (by omega) g1 (by omega) p3
theorem op_light (h : bk_s pe S w v) (hf : 400 < f) (z : Int32) : ∃ r t2 q, M_X6_light w f t z = some (r, t2) ∧ M_X7_light (nI pe) (nf_a S) f x y (nf_a N) z = some (r, q) := by
  obtain ⟨K, G, B, R, e, pt, g, g26, hw⟩ := sb_s h N t
  unfold M_X6_light B_X6_light_0 M_X7_light B_X7_light_0
  rcases on_c z g.1 with ⟨p, hp, rfl, e1, e2⟩ | ⟨e1, e2⟩
  · rw [e1 _ hw, e2, e, rf_st (by omega)]
    simp only [bn_s, i1_0]
    exact li_l hp 61 f 0 0 0 _ G (by omega) (by omega) g (by omega) pt
  · rw [e1 _ hw, e2]
    exact ⟨_, _, _, rfl, rfl⟩
end
