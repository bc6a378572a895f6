/-! the reference's isSoWith; kinds, griefs -/
section
variable {pe f : Nat} {S N : Nat → Nat} {w t : s_W} {v : s_V} {x y : Int32}
/-- the rows of griefs up to hour h are written -/
def hv_p (pe : Nat) (a : Nat → Nat) (H : Nat → Int32) (h : Nat) : Prop := ∀ j, j < h → ∀ q, q < pe → H (5 * j + q) = nI ((hs_n pe j (0, 0, a)).2.2 (3 * q + 1))
theorem rf_s22 {k13 : Int32 → Int32 → (Nat → Int32) → (Nat → Int32) → Int32 → Option (Int32 × Int32 × Int32 × (Nat → Int32) × (Nat → Int32))} {st : Nat → Int32} {h he sp : Nat} {b : Nat → Nat} (h5 : pe ≤ 5) (hh : h ≤ 24) (g : gd_s pe b) : ∀ (k f i : Nat) (H : Nat → Int32), i + k = pe → k + 250 < f → ∃ H2 : Nat → Int32, M_X7_isSoWith_22 k13 (nI pe) st f (nI he) (nI sp) (nf_a b) H (nI h) (nI i) = k13 (nI (hr_n pe (he, sp, b)).1) (nI (hr_n pe (he, sp, b)).2.1) (nf_a (hr_n pe (he, sp, b)).2.2) H2 (nI (h + 1)) ∧ ∀ q, H2 q = if 5 * h + i ≤ q ∧ q < 5 * h + pe then nI (b (3 * (q - 5 * h) + 1)) else H q := by
  intro k
  induction k with
  | zero =>
    intro f i H hi hf
    obtain ⟨f, rfl⟩ : ∃ g, f = g + 1 := ⟨f - 1, by omega⟩
    refine ⟨H, ?_, fun q => by rw [if_neg (by omega)]⟩
    show B_X7_isSoWith_22 _ _ _ _ _ _ _ _ _ _ _ = _
    unfold B_X7_isSoWith_22
    rw [rf_hr g (by omega)]
    simp (disch := omega) only [nI_leI, bn_s, nI_1]
    rw [if_pos (by omega)]
  | succ k ih =>
    intro f i H hi hf
    obtain ⟨f, rfl⟩ : ∃ g, f = g + 1 := ⟨f - 1, by omega⟩
    obtain ⟨H2, e, p⟩ := ih f (i + 1) (upd H (5 * h + i) (nI (b (3 * i + 1)))) (by omega) (by omega)
    refine ⟨H2, ?_, fun q => ?_⟩
    · rw [← e]
      show B_X7_isSoWith_22 _ _ _ _ _ _ _ _ _ _ _ = _
      unfold B_X7_isSoWith_22
      rw [show M_X7_of (nf_a b) (nI i) 1 = _ from rf_of (p := i) (k := 1) (by omega)]
      simp (disch := omega) only [nI_leI, bn_s, show (5 : Int32) = nI 5 from rfl, pk_mul, nI_add, gi_k, nI_clamp, nI_1]
      rw [if_neg (by omega)]
    · rw [p q]
      by_cases c : 5 * h + (i + 1) ≤ q ∧ q < 5 * h + pe
      · rw [if_pos c, if_pos (by omega)]
      · rw [if_neg c]
        by_cases c2 : q = 5 * h + i
        · rw [c2, pk_us, if_pos (by omega), show 5 * h + i - 5 * h = i by omega]
        · rw [pk_un c2, if_neg (by omega)]
theorem rf_s13 {st : Nat → Int32} {a : Nat → Nat} (ga : gd_s pe a) (h26 : a 26 ≤ 1100) : ∀ (k f h he sp : Nat) (b : Nat → Nat) (H : Nat → Int32), h + k = 25 → 2 * k + 400 < f → (he, sp, b) = hs_n pe h (0, 0, a) → hv_p pe a H h → ∃ (f2 he2 sp2 : Nat) (b2 : Nat → Nat) (H2 : Nat → Int32), 300 < f2 ∧ hv_p pe a H2 25 ∧ M_X7_isSoWith_13 (nI pe) st f (nI he) (nI sp) (nf_a b) H (nI h) = M_X7_isSoWith_70 (nI pe) st f2 (nI he2) (nI sp2) (nf_a b2) H2 1 0 := by
  have h5 := ga.1
  intro k
  induction k with
  | zero =>
    intro f h he sp b H hh hf hb hv
    obtain ⟨f, rfl⟩ : ∃ g, f = g + 1 := ⟨f - 1, by omega⟩
    obtain rfl : h = 25 := by omega
    refine ⟨f, he, sp, b, H, by omega, hv, ?_⟩
    rfl
  | succ k ih =>
    intro f h he sp b H hh hf hb hv
    obtain ⟨f, rfl⟩ : ∃ g, f = g + 1 := ⟨f - 1, by omega⟩
    obtain ⟨i1, i2, i3, i4, i5⟩ := gd_hs h 0 0 a ga (by omega)
    rw [← hb] at i1 i2
    obtain ⟨H2, e, p⟩ := rf_s22 (k13 := M_X7_isSoWith_13 (nI pe) st f) (st := st) (h := h) (he := he) (sp := sp) h5 (by omega) i1 pe f 0 H (by omega) (by omega)
    have hb2 : ((hr_n pe (he, sp, b)).1, (hr_n pe (he, sp, b)).2.1, (hr_n pe (he, sp, b)).2.2) = hs_n pe (h + 1) (0, 0, a) := by rw [hs_s, ← hb]
    have hbb : (hs_n pe h (0, 0, a)).2.2 = b := by rw [← hb]
    have hv2 : hv_p pe a H2 (h + 1) := by
      intro j hj q hq
      rw [p]
      by_cases ej : j = h
      · subst ej
        rw [if_pos (by omega), hbb, show 5 * j + q - 5 * j = q by omega]
      · rw [if_neg (by omega)]
        exact hv j (by omega) q hq
    obtain ⟨f2, he2, sp2, b2, H3, r1, r2, r3⟩ := ih f (h + 1) _ _ _ H2 (by omega) (by omega) hb2 hv2
    refine ⟨f2, he2, sp2, b2, H3, r1, r2, ?_⟩
    rw [← r3, ← e]
    show B_X7_isSoWith_13 _ _ _ _ _ _ _ _ _ = _
    unfold B_X7_isSoWith_13
    simp (disch := omega) only [show (24 : Int32) = nI 24 from rfl, nI_ltI]
    rw [if_neg (by omega)]
    rfl
theorem rf_s70 {he sp : Int32} {nw : Nat → Int32} {a : Nat → Nat} {H : Nat → Int32} (sg : sg_v pe S v) (h5 : pe ≤ 5) (hv : hv_p pe a H 25) (hb : ∀ h, h ≤ 24 → ∀ q, q < pe → (hs_n pe h (0, 0, a)).2.2 (3 * q + 1) ≤ 99) : ∀ (k f i : Nat) (c : Int32), i + k = S 27 → k < f → (c = 0 ∨ c = 1) → ∃ r, M_X7_isSoWith_70 (nI pe) (nf_a S) f he sp nw H c (nI i) = some (r, he, sp, nw, H) ∧ (r = 0 ∨ r = 1) ∧ (r = 1 ↔ (c = 1 ∧ ∀ j, i ≤ j → j < S 27 → (hs_n pe (S (28 + 3 * j)) (0, 0, a)).2.2 (3 * S (29 + 3 * j) + 1) = S (30 + 3 * j))) := by
  obtain ⟨s0, s6, ss⟩ := sg
  intro k
  induction k with
  | zero =>
    intro f i c hi hf hc
    obtain ⟨f, rfl⟩ : ∃ g, f = g + 1 := ⟨f - 1, by omega⟩
    refine ⟨c, ?_, hc, fun q => ⟨q, fun j h1 h2 => absurd h1 (by omega)⟩, fun q => q.1⟩
    show B_X7_isSoWith_70 _ _ _ _ _ _ _ _ _ _ = _
    unfold B_X7_isSoWith_70
    simp (disch := omega) only [show (27 : Int32) = nI 27 from rfl, gi_k, nI_clamp, nf_e, nI_leI]
    rw [if_pos (by omega)]
    rcases hc with rfl | rfl <;> rfl
  | succ k ih =>
    intro f i c hi hf hc
    obtain ⟨f, rfl⟩ : ∃ g, f = g + 1 := ⟨f - 1, by omega⟩
    obtain ⟨a1, a2, a3, a4, a5, a6⟩ := ss i (by omega)
    have b9 := hb _ a4 _ a5
    have e1 : M_X7_isSoWith_70 (nI pe) (nf_a S) (f + 1) he sp nw H c (nI i) = M_X7_isSoWith_70 (nI pe) (nf_a S) f he sp nw H (if c = 0 then 0 else if (hs_n pe (S (28 + 3 * i)) (0, 0, a)).2.2 (3 * S (29 + 3 * i) + 1) = S (30 + 3 * i) then 1 else 0) (nI (i + 1)) := by
      show B_X7_isSoWith_70 _ _ _ _ _ _ _ _ _ _ = _
      unfold B_X7_isSoWith_70 B_X7_isSoWith_135 B_X7_isSoWith_136
      rw [show (28 : Int32) + 3 * nI i = nI (28 + 3 * i) by rw [show (3 : Int32) = nI 3 from rfl, show (28 : Int32) = nI 28 from rfl, pk_mul, nI_add], nm_s, show nI (28 + 3 * i) + 1 = nI (29 + 3 * i) by rw [nI_1]; congr 1; omega, show nI (28 + 3 * i) + 2 = nI (30 + 3 * i) by rw [show (2 : Int32) = nI 2 from rfl, nI_add]; congr 1; omega]
      simp (disch := omega) only [show (27 : Int32) = nI 27 from rfl, show (5 : Int32) = nI 5 from rfl, gi_k, nI_clamp, nf_e, nI_leI, nI_1, pk_mul, nI_add, hv _ (show S (28 + 3 * i) < 25 by omega) _ a5, nI_eq]
      rw [if_neg (by omega)]
      by_cases c0 : c = 0
      · rw [if_pos c0, if_pos c0]
      · rw [if_neg c0, if_neg c0]
        by_cases c1 : (hs_n pe (S (28 + 3 * i)) (0, 0, a)).2.2 (3 * S (29 + 3 * i) + 1) = S (30 + 3 * i)
        · rw [if_pos c1, if_pos c1]
        · rw [if_neg c1, if_neg c1]
    rw [e1]
    by_cases c0 : c = 0
    · rw [if_pos c0]
      obtain ⟨r, e, r01, rr⟩ := ih f (i + 1) 0 (by omega) (by omega) (Or.inl rfl)
      refine ⟨r, e, r01, rr.trans ⟨fun q => absurd q.1 (by decide), fun q => ?_⟩⟩
      rw [c0] at q
      exact absurd q.1 (by decide)
    · have c1 : c = 1 := hc.resolve_left c0
      rw [if_neg c0]
      by_cases c2 : (hs_n pe (S (28 + 3 * i)) (0, 0, a)).2.2 (3 * S (29 + 3 * i) + 1) = S (30 + 3 * i)
      · rw [if_pos c2]
        obtain ⟨r, e, r01, rr⟩ := ih f (i + 1) 1 (by omega) (by omega) (Or.inr rfl)
        refine ⟨r, e, r01, rr.trans ⟨fun q => ⟨c1, fun j h1 h2 => ?_⟩, fun q => ⟨rfl, fun j h1 h2 => q.2 j (by omega) h2⟩⟩⟩
        by_cases ej : j = i
        · rw [ej]; exact c2
        · exact q.2 j (by omega) h2
      · rw [if_neg c2]
        obtain ⟨r, e, r01, rr⟩ := ih f (i + 1) 0 (by omega) (by omega) (Or.inl rfl)
        refine ⟨r, e, r01, rr.trans ⟨fun q => absurd q.1 (by decide), fun q => ?_⟩⟩
        exact absurd (q.2 i (by omega) (by omega)) c2
theorem rf_so {c u : Nat} {H : Nat → Int32} (sg : sg_v pe S v) (hc : c < 46) (ga : gd_s pe (up_n (cp_n S N) c u)) (h26 : up_n (cp_n S N) c u 26 ≤ 1100) (hf : 600 < f) : ∃ r he2 sp2 N2 H2, M_X7_isSoWith (nI pe) (nf_a S) f x y (nf_a N) H (nI c) (nI u) = some (r, he2, sp2, nf_a N2, H2) ∧ (r = 0 ∨ r = 1) ∧ (r = 1 ↔ so_p pe S (up_n (cp_n S N) c u)) ∧ hv_p pe (up_n (cp_n S N) c u) H2 25 := by
  obtain ⟨f2, he2, sp2, b2, H2, r1, r2, r3⟩ := rf_s13 (st := nf_a S) ga h26 25 f 0 0 0 _ H (by omega) (by omega) rfl (fun j hj => absurd hj (by omega))
  obtain ⟨r, e, r01, rr⟩ := rf_s70 (he := nI he2) (sp := nI sp2) (nw := nf_a b2) sg ga.1 r2 (fun h hh q hq => (gd_hs h 0 0 _ ga (by omega)).1.2.2.2.2.2.1 q hq |>.2.1) (S 27) f2 0 1 (by omega) (by have := sg.2.1; omega) (Or.inr rfl)
  refine ⟨r, nI he2, nI sp2, b2, H2, ?_, r01, rr.trans ⟨fun q j hj => q.2 j (by omega) hj, fun q => ⟨rfl, fun j _ hj => q j hj⟩⟩, r2⟩
  unfold M_X7_isSoWith B_X7_isSoWith_0
  rw [rf_st (by omega)]
  simp (disch := omega) only [bn_s, gi_k, nI_clamp, nf_u]
  rw [show M_X7_isSoWith_13 (nI pe) (nf_a S) f 0 0 (nf_a (up_n (cp_n S N) c u)) H 0 = _ from r3]
  exact e
theorem sh_z : ∀ k, k < 31 → (0 : Int32) <<< (nI k &&& 31) = 0 := by decide +kernel
theorem or_z (b : Int32) (k : Nat) (hk : k < 31) : b ||| ((0 : Int32) <<< (nI k &&& 31)) = b := by
  rw [sh_z k hk]
  exact Int32.or_zero
theorem wk_l {p : Nat} (h : bk_s pe S w v) (hp : p < pe) : ∀ (k f e i : Nat) (t : s_W) (x y b : Int32) (N : Nat → Nat) (H : Nat → Int32), i + k = 4 → k + 1000 < f → k + 1000 < e → ∃ r t2 q, M_X6_fittingKinds_4 w v f t (nI p) b (nI i) = some (r, t2) ∧ M_X7_which_5 (nI pe) (nf_a S) e x y (nf_a N) H (nI (3 * p)) 3 b (nI i) = some (r, q) := by
  have h5 := h.2.1.1
  have sg := h.2.2.2
  intro k
  induction k with
  | zero =>
    intro f e i t x y b N H hi hf he
    obtain ⟨f, rfl⟩ : ∃ g, f = g + 1 := ⟨f - 1, by omega⟩
    obtain ⟨e, rfl⟩ : ∃ g, e = g + 1 := ⟨e - 1, by omega⟩
    obtain rfl : i = 4 := by omega
    exact ⟨_, _, _, rfl, rfl⟩
  | succ k ih =>
    intro f e i t x y b N H hi hf he
    obtain ⟨f, rfl⟩ : ∃ g, f = g + 1 := ⟨f - 1, by omega⟩
    obtain ⟨e, rfl⟩ : ∃ g, e = g + 1 := ⟨e - 1, by omega⟩
    obtain ⟨K, G, B, R, eb, pt, g, g26, hw⟩ := sb_s h N t
    have pa := pt_K (x := i) g hp pt
    have ga := gd_K (x := i) g hp (by omega)
    have a26 : up_n (cp_n S N) (3 * p) i 26 ≤ 1100 := by rw [up_o (by omega)]; omega
    obtain ⟨r1, t1, e1, r101, rr1⟩ := cf_ft (f := f) sg ga a26 (by omega) pa
    obtain ⟨r2, he2, sp2, N2, H2, e2, r201, rr2, -⟩ := rf_so (x := x) (y := y) (f := e) (H := H) sg (show 3 * p < 46 by omega) ga a26 (by omega)
    have er : r1 = r2 := by
      rcases r101 with c1 | c1 <;> rcases r201 with c2 | c2
      · rw [c1, c2]
      · have := rr1.mpr (rr2.mp c2); rw [this] at c1; exact absurd c1 (by decide)
      · have := rr2.mpr (rr1.mp c1); rw [this] at c2; exact absurd c2 (by decide)
      · rw [c1, c2]
    subst er
    rw [mk_p (p := 0) (by omega)] at e1
    have f1 : M_X6_fittingKinds_4 w v (f + 1) t (nI p) b (nI i) = M_X6_fittingKinds_4 w v f t1 (nI p) (if r1 = 0 then b else b ||| (1 <<< (nI i &&& 31))) (nI (i + 1)) := by
      show B_X6_fittingKinds_4 _ _ _ _ _ _ _ _ = _
      unfold B_X6_fittingKinds_4 B_X6_fittingKinds_50
      rw [eb]
      simp (disch := omega) only [bn_s, show (4 : Int32) = nI 4 from rfl, nI_leI, gi_k, nI_clamp, nI_1, nm_s]
      rw [if_neg (by omega), show M_X3_fit v f (nI pe, nI (cp_n S N 17), nI (cp_n S N 15), nI (cp_n S N 16), nI (cp_n S N 26), nI 0, nI 0, upd K p (nI i), G, B, R) = _ from e1]
      simp only [bn_s]
      by_cases c : r1 = 0
      · rw [if_pos c, if_pos c]
      · rw [if_neg c, if_neg c]
    have f2 : M_X7_which_5 (nI pe) (nf_a S) (e + 1) x y (nf_a N) H (nI (3 * p)) 3 b (nI i) = M_X7_which_5 (nI pe) (nf_a S) e he2 sp2 (nf_a N2) H2 (nI (3 * p)) 3 (if r1 = 0 then b else b ||| (1 <<< (nI i &&& 31))) (nI (i + 1)) := by
      show B_X7_which_5 _ _ _ _ _ _ _ _ _ _ _ _ = _
      unfold B_X7_which_5
      rw [e2]
      simp only [bn_s, nm_s]
      rw [if_neg (show ¬ (3 : Int32) < nI i from nI_nlt (a := 3) (b := i) (by omega) (by omega)), nI_1]
      rcases r101 with c | c
      · rw [c, i0_0]
        have : M_X7_flag 0 = some 0 := rfl
        rw [this]
        simp only [bn_s]
        rw [or_z b i (by omega)]
      · rw [c, i1_0]
        have : M_X7_flag 1 = some 1 := rfl
        rw [this]
        simp only [bn_s]
    rw [f1, f2]
    exact ih f e (i + 1) _ _ _ _ _ _ (by omega) (by omega) (by omega)
theorem op_kinds {H : Nat → Int32} (h : bk_s pe S w v) (hf : 2000 < f) (z : Int32) : ∃ r t2 q, M_X6_kinds w v f t z = some (r, t2) ∧ M_X7_kinds (nI pe) (nf_a S) f x y (nf_a N) H z = some (r, q) := by
  obtain ⟨K, G, B, R, eb, pt, g, g26, hw⟩ := sb_s h N t
  unfold M_X6_kinds B_X6_kinds_0 M_X7_kinds B_X7_kinds_0
  rcases on_c z g.1 with ⟨p, hp, rfl, e1, e2⟩ | ⟨e1, e2⟩
  · rw [e1 _ hw, e2]
    simp only [bn_s, i1_0]
    obtain ⟨r, t2, q, f1, f2⟩ := wk_l h hp 4 f f 0 t x y 0 N H (by omega) (by omega) (by omega)
    have c3 : (3 * nI p) + 0 = nI (3 * p) := by rw [show (3 : Int32) = nI 3 from rfl, pk_mul, show (0 : Int32) = nI 0 from rfl, nI_add, Nat.add_zero]
    rw [c3, show M_X6_fittingKinds w v f t (nI p) = _ from f1, show M_X7_which (nI pe) (nf_a S) f x y (nf_a N) H (nI (3 * p)) 3 = _ from f2]
    exact ⟨_, _, _, rfl, rfl⟩
  · rw [e1 _ hw, e2]
    exact ⟨_, _, _, rfl, rfl⟩
theorem wg_l {p : Nat} (h : bk_s pe S w v) (hp : p < pe) : ∀ (k f e i : Nat) (t : s_W) (x y b : Int32) (N : Nat → Nat) (H : Nat → Int32), i + k = 31 → k + 1000 < f → k + 1000 < e → ∃ r t2 q, M_X6_griefs_17 w v f t (nI p) b (nI i) = some (r, t2) ∧ M_X7_which_5 (nI pe) (nf_a S) e x y (nf_a N) H (nI (3 * p + 1)) 30 b (nI i) = some (r, q) := by
  have h5 := h.2.1.1
  have sg := h.2.2.2
  intro k
  induction k with
  | zero =>
    intro f e i t x y b N H hi hf he
    obtain ⟨f, rfl⟩ : ∃ g, f = g + 1 := ⟨f - 1, by omega⟩
    obtain ⟨e, rfl⟩ : ∃ g, e = g + 1 := ⟨e - 1, by omega⟩
    obtain rfl : i = 31 := by omega
    exact ⟨_, _, _, rfl, rfl⟩
  | succ k ih =>
    intro f e i t x y b N H hi hf he
    obtain ⟨f, rfl⟩ : ∃ g, f = g + 1 := ⟨f - 1, by omega⟩
    obtain ⟨e, rfl⟩ : ∃ g, e = g + 1 := ⟨e - 1, by omega⟩
    obtain ⟨K, G, B, R, eb, pt, g, g26, hw⟩ := sb_s h N t
    have pa := pt_G (x := i) g hp pt
    have ga := gd_G (x := i) g hp (by omega)
    have a26 : up_n (cp_n S N) (3 * p + 1) i 26 ≤ 1100 := by rw [up_o (by omega)]; omega
    obtain ⟨r1, t1, e1, r101, rr1⟩ := cf_ft (f := f) sg ga a26 (by omega) pa
    obtain ⟨r2, he2, sp2, N2, H2, e2, r201, rr2, -⟩ := rf_so (x := x) (y := y) (f := e) (H := H) sg (show 3 * p + 1 < 46 by omega) ga a26 (by omega)
    have er : r1 = r2 := by
      rcases r101 with c1 | c1 <;> rcases r201 with c2 | c2
      · rw [c1, c2]
      · have := rr1.mpr (rr2.mp c2); rw [this] at c1; exact absurd c1 (by decide)
      · have := rr2.mpr (rr1.mp c1); rw [this] at c2; exact absurd c2 (by decide)
      · rw [c1, c2]
    subst er
    rw [mk_p (p := 0) (by omega)] at e1
    have f1 : M_X6_griefs_17 w v (f + 1) t (nI p) b (nI i) = M_X6_griefs_17 w v f t1 (nI p) (if r1 = 0 then b else b ||| (1 <<< (nI i &&& 31))) (nI (i + 1)) := by
      show B_X6_griefs_17 _ _ _ _ _ _ _ _ = _
      unfold B_X6_griefs_17 B_X6_griefs_64
      rw [eb]
      simp (disch := omega) only [bn_s, show (30 : Int32) = nI 30 from rfl, nI_ltI, gi_k, nI_clamp, nI_1, nm_s]
      rw [if_neg (by omega), show M_X3_fit v f (nI pe, nI (cp_n S N 17), nI (cp_n S N 15), nI (cp_n S N 16), nI (cp_n S N 26), nI 0, nI 0, K, upd G p (nI i), B, R) = _ from e1]
      simp only [bn_s]
      by_cases c : r1 = 0
      · rw [if_pos c, if_pos c]
      · rw [if_neg c, if_neg c]
    have f2 : M_X7_which_5 (nI pe) (nf_a S) (e + 1) x y (nf_a N) H (nI (3 * p + 1)) 30 b (nI i) = M_X7_which_5 (nI pe) (nf_a S) e he2 sp2 (nf_a N2) H2 (nI (3 * p + 1)) 30 (if r1 = 0 then b else b ||| (1 <<< (nI i &&& 31))) (nI (i + 1)) := by
      show B_X7_which_5 _ _ _ _ _ _ _ _ _ _ _ _ = _
      unfold B_X7_which_5
      rw [e2]
      simp only [bn_s, nm_s]
      rw [if_neg (show ¬ (30 : Int32) < nI i from nI_nlt (a := 30) (b := i) (by omega) (by omega)), nI_1]
      rcases r101 with c | c
      · rw [c, i0_0]
        have : M_X7_flag 0 = some 0 := rfl
        rw [this]
        simp only [bn_s]
        rw [or_z b i (by omega)]
      · rw [c, i1_0]
        have : M_X7_flag 1 = some 1 := rfl
        rw [this]
        simp only [bn_s]
    rw [f1, f2]
    exact ih f e (i + 1) _ _ _ _ _ _ (by omega) (by omega) (by omega)
theorem op_griefs {H : Nat → Int32} (h : bk_s pe S w v) (hf : 2000 < f) (z : Int32) : ∃ r t2 q, M_X6_griefs w v f t z = some (r, t2) ∧ M_X7_griefs (nI pe) (nf_a S) f x y (nf_a N) H z = some (r, q) := by
  obtain ⟨K, G, B, R, eb, pt, g, g26, hw⟩ := sb_s h N t
  unfold M_X6_griefs B_X6_griefs_0 M_X7_griefs B_X7_griefs_0
  rcases on_c z g.1 with ⟨p, hp, rfl, e1, e2⟩ | ⟨e1, e2⟩
  · rw [e1 _ hw, e2]
    simp only [bn_s, i1_0]
    obtain ⟨r, t2, q, f1, f2⟩ := wg_l h hp 31 f f 0 t x y 0 N H (by omega) (by omega) (by omega)
    have c3 : (3 * nI p) + 1 = nI (3 * p + 1) := by rw [show (3 : Int32) = nI 3 from rfl, pk_mul, nI_1]
    rw [c3, show M_X6_griefs_17 w v f t (nI p) 0 0 = _ from f1, show M_X7_which (nI pe) (nf_a S) f x y (nf_a N) H (nI (3 * p + 1)) 30 = _ from f2]
    exact ⟨_, _, _, rfl, rfl⟩
  · rw [e1 _ hw, e2]
    exact ⟨_, _, _, rfl, rfl⟩
end
