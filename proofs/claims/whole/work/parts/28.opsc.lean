/-! what is best: extra, kind -/
theorem rf_jd {bc z : Int32} {bm m : Nat} (h1 : bm < 2 ^ 31) (h2 : m < 2 ^ 31) : M_X7_judges bc (nI bm) z (nI m) = some (if bm ≤ m then (bc, nI bm) else (z, nI m)) := by
  unfold M_X7_judges B_X7_judges_0 B_X7_judges_17
  rw [rf_le h2 h1]
  simp only [bn_s, nI_leI h1 h2]
  by_cases c : bm ≤ m
  · rw [if_pos c, if_pos c, show min m bm = bm by omega]
  · rw [if_neg c, if_neg c, show min m bm = m by omega]
theorem rf_wb {pe n f he sp : Nat} {a : Nat → Nat} (g : gd_s pe a) (h : a 26 + n ≤ 2000) (hf : n + 200 < f) : M_X7_weightBehind (nI pe) f (nI he) (nI sp) (nf_a a) (nI n) = some (nI (al_n pe (hs_n pe n (he, sp, a)).2.2), nI (hs_n pe n (he, sp, a)).1, nI (hs_n pe n (he, sp, a)).2.1, nf_a (hs_n pe n (he, sp, a)).2.2) := by
  unfold M_X7_weightBehind B_X7_weightBehind_0
  rw [rf_hg g h hf]
  simp only [bn_s]
  rw [rf_al g.1 (by omega)]
  rfl
/-- the best so far, in the class and in the reference -/
def jx_p (who least bc : Int32) (bm : Nat) : Prop := (who = -4 ∧ least = -4 ∧ bc = -4 ∧ bm = 1000000) ∨ (∃ c, c < 1000 ∧ who = nI c ∧ bc = nI c ∧ least = nI bm ∧ bm ≤ 600)
theorem jx_end {who least bc : Int32} {bm : Nat} (j : jx_p who least bc bm) (z : Int32) : M_X7_judged bc (nI bm) z = some (if z = 0 then who else least) := by
  unfold M_X7_judged B_X7_judged_0
  rcases j with ⟨rfl, rfl, rfl, rfl⟩ | ⟨c, hc, rfl, rfl, rfl, hb⟩
  · rw [if_pos rfl]; split <;> rfl
  · rw [if_neg (n4_ne (by omega))]
    split <;> rfl
section
variable {pe f : Nat} {S N : Nat → Nat} {w t : s_W} {v : s_V} {x y : Int32}
theorem ex_l {n : Nat} {z : Int32} (h : bk_s pe S w v) (hn : n ≤ 60) (h8 : S 17 < 8) : ∀ (k f i : Nat) (t : s_W) (x y : Int32) (N : Nat → Nat) (who least bc : Int32) (bm : Nat), i + k = pe → k + 400 < f → jx_p who least bc bm → ∃ r t2 q, M_X6_extra_46 w f t (nI n) z who least (nI i) = some (r, t2) ∧ M_X7_extra_39 (nI pe) (nf_a S) f x y bc (nI bm) (nf_a N) (nI n) z (nI i) = some (r, q) := by
  have h5 := h.2.1.1
  intro k
  induction k with
  | zero =>
    intro f i t x y N who least bc bm hi hf j
    obtain ⟨f, rfl⟩ : ∃ g, f = g + 1 := ⟨f - 1, by omega⟩
    obtain ⟨K, G, B, R, e, pt, g, g26, hw⟩ := sb_s h N t
    refine ⟨if z = 0 then who else least, t, (x, y, bc, nI bm, nf_a N), ?_, ?_⟩
    · show B_X6_extra_46 _ _ _ _ _ _ _ _ _ = _
      simp (disch := omega) only [B_X6_extra_46, hw, nI_leI]
      rw [if_pos (by omega)]
      split <;> rfl
    · show B_X7_extra_39 _ _ _ _ _ _ _ _ _ _ _ _ = _
      unfold B_X7_extra_39
      rw [jx_end j]
      simp (disch := omega) only [nI_leI]
      rw [if_pos (by omega)]
      rfl
  | succ k ih =>
    intro f i t x y N who least bc bm hi hf j
    obtain ⟨f, rfl⟩ : ∃ g, f = g + 1 := ⟨f - 1, by omega⟩
    obtain ⟨K, G, B, R, e, pt, g, g26, hw⟩ := sb_s h N t
    have c17 : cp_n S N 17 = S 17 := cp_i (by omega)
    obtain ⟨ea, pa⟩ := cf_ad (p := i) (he := 0) (sp := 0) g (by omega) (by omega) pt
    have ga := gd_ad (p := i) g (by omega) (show cp_n S N 17 < 8 by omega)
    have a26 : ad_n (cp_n S N) i 26 = cp_n S N 26 := by unfold ad_n; rw [up_o (by omega), up_o (by omega)]
    obtain ⟨G2, e4, p4⟩ := cf_pa (n := n) (f := f) (he := 0) (sp := 0) ga (by omega) (by omega) pa
    obtain ⟨i1, i2, i3, i4, i5⟩ := gd_hs n 0 0 (ad_n (cp_n S N) i) ga (by omega)
    have eal := cf_al (f := f) (he := (hs_n pe n (0, 0, ad_n (cp_n S N) i)).1) (sp := (hs_n pe n (0, 0, ad_n (cp_n S N) i)).2.1) h5 (by omega) p4
    have bal := al_b i1
    have e1 : M_X6_extra_46 w (f + 1) t (nI n) z who least (nI i) = if who = -4 then M_X6_extra_46 w f (mk_w pe (hs_n pe n (0, 0, ad_n (cp_n S N) i)).2.2 (hs_n pe n (0, 0, ad_n (cp_n S N) i)).1 (hs_n pe n (0, 0, ad_n (cp_n S N) i)).2.1 K G2 B (upd R (cp_n S N 17) (nI i))) (nI n) z (nI i) (nI (al_n pe (hs_n pe n (0, 0, ad_n (cp_n S N) i)).2.2)) (nI (i + 1)) else if least ≤ nI (al_n pe (hs_n pe n (0, 0, ad_n (cp_n S N) i)).2.2) then M_X6_extra_46 w f (mk_w pe (hs_n pe n (0, 0, ad_n (cp_n S N) i)).2.2 (hs_n pe n (0, 0, ad_n (cp_n S N) i)).1 (hs_n pe n (0, 0, ad_n (cp_n S N) i)).2.1 K G2 B (upd R (cp_n S N 17) (nI i))) (nI n) z who least (nI (i + 1)) else M_X6_extra_46 w f (mk_w pe (hs_n pe n (0, 0, ad_n (cp_n S N) i)).2.2 (hs_n pe n (0, 0, ad_n (cp_n S N) i)).1 (hs_n pe n (0, 0, ad_n (cp_n S N) i)).2.1 K G2 B (upd R (cp_n S N 17) (nI i))) (nI n) z (nI i) (nI (al_n pe (hs_n pe n (0, 0, ad_n (cp_n S N) i)).2.2)) (nI (i + 1)) := by
      show B_X6_extra_46 _ _ _ _ _ _ _ _ _ = _
      unfold B_X6_extra_46
      rw [e]
      simp only [bn_s]
      rw [ea]
      simp only [bn_s]
      rw [e4]
      simp only [bn_s, B_X6_extra_104, B_X6_extra_116]
      rw [eal]
      simp (disch := omega) only [bn_s, hw, nI_leI, nI_1]
      rw [if_neg (by omega)]
    have e2 : M_X7_extra_39 (nI pe) (nf_a S) (f + 1) x y bc (nI bm) (nf_a N) (nI n) z (nI i) = (M_X7_judges bc (nI bm) (nI i) (nI (al_n pe (hs_n pe n (0, 0, ad_n (cp_n S N) i)).2.2))).bind (fun u85 => M_X7_extra_39 (nI pe) (nf_a S) f (nI (hs_n pe n (0, 0, ad_n (cp_n S N) i)).1) (nI (hs_n pe n (0, 0, ad_n (cp_n S N) i)).2.1) u85.1 u85.2 (nf_a (hs_n pe n (0, 0, ad_n (cp_n S N) i)).2.2) (nI n) z (nI (i + 1))) := by
      show B_X7_extra_39 _ _ _ _ _ _ _ _ _ _ _ _ = _
      unfold B_X7_extra_39
      rw [rf_st (by omega)]
      simp (disch := omega) only [bn_s, nI_leI, show (17 : Int32) = nI 17 from rfl, show (18 : Int32) = nI 18 from rfl, gi_k, nI_clamp, nf_e, nI_add, nf_u, nm_s, up_o, nI_1]
      rw [if_neg (by omega)]
      have er := rf_wb (n := n) (f := f) (he := 0) (sp := 0) ga (by omega) (by omega)
      unfold ad_n at er
      rw [show (0 : Int32) = nI 0 from rfl, er]
      rfl
    have hbm : bm < 2 ^ 31 := by
      rcases j with ⟨-, -, -, rfl⟩ | ⟨c, hc, -, -, -, hb⟩ <;> omega
    rw [e1, e2, rf_jd hbm (by omega)]
    simp only [bn_s]
    generalize hs_n pe n (0, 0, ad_n (cp_n S N) i) = Y at *
    rcases j with ⟨rfl, rfl, rfl, rfl⟩ | ⟨c, hc, rfl, rfl, rfl, hb⟩
    · rw [if_pos rfl, if_neg (by omega)]
      exact ih f (i + 1) _ _ _ _ _ _ _ _ (by omega) (by omega) (Or.inr ⟨i, by omega, rfl, rfl, rfl, by omega⟩)
    · rw [if_neg (n4_ne (by omega))]
      simp (disch := omega) only [nI_leI]
      by_cases c2 : bm ≤ al_n pe Y.2.2
      · rw [if_pos c2, if_pos c2]
        exact ih f (i + 1) _ _ _ _ _ _ _ _ (by omega) (by omega) (Or.inr ⟨c, hc, rfl, rfl, rfl, hb⟩)
      · rw [if_neg c2, if_neg c2]
        exact ih f (i + 1) _ _ _ _ _ _ _ _ (by omega) (by omega) (Or.inr ⟨i, by omega, rfl, rfl, rfl, by omega⟩)
theorem op_extra {bc bm : Int32} (h : bk_s pe S w v) (hf : 500 < f) (z1 z2 : Int32) : ∃ r t2 q, M_X6_extra w f t z1 z2 = some (r, t2) ∧ M_X7_extra (nI pe) (nf_a S) f x y bc bm (nf_a N) z1 z2 = some (r, q) := by
  have h5 := h.2.1.1
  have h17 := h.2.1.2.2.2.1
  obtain ⟨⟨he, sp, K, G, B, R, hw, pt⟩, -⟩ := id h
  have ht : w.2.1 = nI (S 17) := by rw [hw]
  unfold M_X6_extra B_X6_extra_0 M_X7_extra B_X7_extra_0
  rw [fa_e, pa_e]
  rcases wi_c z1 0 60 0 60 rfl rfl (by omega) (by omega) with ⟨n, n1, n2, rfl, e3⟩ | e3
  · rw [e3]
    simp only [bn_s, i1_0]
    rcases wi_c z2 0 1 0 1 rfl rfl (by omega) (by omega) with ⟨m, m1, m2, rfl, e4⟩ | e4
    · rw [e4]
      simp (disch := omega) only [bn_s, i1_0, ht, show (17 : Int32) = nI 17 from rfl, show (8 : Int32) = nI 8 from rfl, gi_k, nI_clamp, nf_e, nI_eq, nI_ltI, M_X7_startsJudging, B_X7_startsJudging_0]
      by_cases c : S 17 = 8
      · rw [if_pos c, if_neg (by omega)]
        exact ⟨_, _, _, rfl, rfl⟩
      · rw [if_neg c, if_pos (by omega)]
        exact ex_l h n2 (by omega) pe f 0 t x y N (-4) (-4) (-4) 1000000 (by omega) (by omega) (Or.inl ⟨rfl, rfl, rfl, rfl⟩)
    · rw [e4]
      exact ⟨_, _, _, rfl, rfl⟩
  · rw [e3]
    exact ⟨_, _, _, rfl, rfl⟩
end
