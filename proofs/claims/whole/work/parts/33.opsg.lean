/-! see, forget, keep, back, feed, end, one, drift, count -/
section
variable {pe f : Nat} {S N : Nat → Nat} {w t : s_W} {v : s_V} {x y : Int32}
theorem op_see (h : bk_s pe S w v) (z1 z2 z3 : Int32) : ∃ r v2 S2, M_X6_see w v z1 z2 z3 = some (r, v2) ∧ M_X7_see (nI pe) (nf_a S) z1 z2 z3 = some (r, nf_a S2) ∧ bk_s pe S2 w v2 ∧ ∀ i, 46 ≤ i → S2 i = S i := by
  have hh := h
  obtain ⟨⟨he, sp, K, G, B, R, rfl, pt⟩, g, g2, g3⟩ := h
  have h5 := g.1
  have h17 := g.2.2.2.1
  obtain ⟨s0, s6, ss⟩ := id g3
  unfold M_X6_see B_X6_see_0 M_X7_see B_X7_see_0
  rw [in_k z1 0 24 0 24 (by decide) (by decide), in_k z3 0 99 0 99 (by decide) (by decide)]
  rcases wi_c z1 0 24 0 24 rfl rfl (by omega) (by omega) with ⟨a, a1, a2, rfl, e1⟩ | e1
  · rw [e1]
    simp only [bn_s, i1_0]
    rcases on_c z2 h5 with ⟨p, hp, rfl, e2, e3⟩ | ⟨e2, e3⟩
    · rw [e2 _ rfl, e3]
      simp only [bn_s, i1_0]
      rcases wi_c z3 0 99 0 99 rfl rfl (by omega) (by omega) with ⟨b, b1, b2, rfl, e4⟩ | e4
      · rw [e4]
        simp only [bn_s, i1_0]
        simp (disch := omega) only [s0, show (27 : Int32) = nI 27 from rfl, show (6 : Int32) = nI 6 from rfl, show (28 : Int32) = nI 28 from rfl, show (3 : Int32) = nI 3 from rfl, show (1 : Int32) = nI 1 from rfl, show (2 : Int32) = nI 2 from rfl, gi_k, nI_clamp, nf_e, nI_eq, nI_ltI, pk_mul, nI_add, nm_s, nf_u, up_o]
        by_cases c : S 27 = 6
        · rw [if_pos c, if_neg (by omega)]
          exact ⟨_, _, S, rfl, rfl, hh, fun _ _ => rfl⟩
        · rw [if_neg c, if_pos (by omega)]
          unfold M_X3_add B_X3_add_0
          simp (disch := omega) only [s0, show (6 : Int32) = nI 6 from rfl, nI_leI, gi_k, nI_clamp, nm_s, nI_1, up_s]
          rw [if_neg (by omega)]
          refine ⟨_, _, _, rfl, rfl, ⟨⟨he, sp, K, G, B, R, ?_, ?_⟩, ?_, ?_, ?_, ?_, fun i hi => ?_⟩, fun i hi => by simp (disch := omega) only [up_o]⟩
          · unfold mk_w
            simp (disch := omega) only [up_o]
          · refine ⟨fun q hq => ?_, fun i hi => ?_⟩
            · simp (disch := omega) only [up_o]; exact pt.1 q hq
            · simp (disch := omega) only [up_o] at hi; simp (disch := omega) only [up_o]; exact pt.2 i hi
          · obtain ⟨h5, h15, h16, h17, h26, hq, hr⟩ := g
            refine ⟨h5, ?_, ?_, ?_, ?_, fun q hq2 => ?_, fun i hi => ?_⟩
            · simp (disch := omega) only [up_o]; exact h15
            · simp (disch := omega) only [up_o]; exact h16
            · simp (disch := omega) only [up_o]; exact h17
            · simp (disch := omega) only [up_o]; exact h26
            · simp (disch := omega) only [up_o]; exact hq q hq2
            · simp (disch := omega) only [up_o] at hi; simp (disch := omega) only [up_o]; exact hr i hi
          · simp (disch := omega) only [up_o]; exact g2
          · rw [up_s]
          · rw [up_s]; omega
          · rw [up_s] at hi
            by_cases ei : i = S 27
            · subst ei
              simp (disch := omega) only [pk_us, up_o, up_s, show 28 + 3 * S 27 + 1 = 29 + 3 * S 27 by omega, show 28 + 3 * S 27 + 2 = 30 + 3 * S 27 by omega]
              exact ⟨trivial, trivial, trivial, by omega, by omega, by omega⟩
            · simp (disch := omega) only [pk_un ei, up_o]
              exact ss i (by omega)
      · rw [e4]
        exact ⟨_, _, S, rfl, rfl, hh, fun _ _ => rfl⟩
    · rw [e2 _ rfl, e3]
      exact ⟨_, _, S, rfl, rfl, hh, fun _ _ => rfl⟩
  · rw [e1]
    exact ⟨_, _, S, rfl, rfl, hh, fun _ _ => rfl⟩
theorem op_forget (h : bk_s pe S w v) (z : Int32) : ∃ r v2 S2, M_X6_forget v z = some (r, v2) ∧ M_X7_forget (nf_a S) z = some (r, nf_a S2) ∧ bk_s pe S2 w v2 ∧ ∀ i, 46 ≤ i → S2 i = S i := by
  have hh := h
  obtain ⟨⟨he, sp, K, G, B, R, rfl, pt⟩, g, g2, g3⟩ := h
  obtain ⟨s0, s6, ss⟩ := id g3
  have h5 := g.1
  have h17 := g.2.2.2.1
  unfold M_X6_forget B_X6_forget_0 M_X7_forget B_X7_forget_0
  simp (disch := omega) only [nf_e, nI_clamp, show (27 : Int32) = nI 27 from rfl, gi_k, s0]
  rw [in_k z 0 (nI (S 27)) 0 _ (by decide) rfl]
  rcases wi_c z 0 (nI (S 27)) 0 (S 27) rfl rfl (by omega) (by omega) with ⟨n, n1, n2, rfl, e⟩ | e
  · rw [e]
    simp only [bn_s, i1_0]
    unfold M_X7_becomes B_X7_becomes_0
    simp (disch := omega) only [nf_e, nI_clamp, gi_k, nm_s, bn_s, nf_u]
    refine ⟨_, _, up_n S 27 n, rfl, rfl, ⟨⟨he, sp, K, G, B, R, ?_, ?_⟩, ?_, ?_, ?_, ?_, fun i hi => ?_⟩, fun i hi => up_o (by omega)⟩
    · unfold mk_w
      simp (disch := omega) only [up_o]
    · refine ⟨fun q hq => ?_, fun i hi => ?_⟩
      · simp (disch := omega) only [up_o]; exact pt.1 q hq
      · simp (disch := omega) only [up_o] at hi; simp (disch := omega) only [up_o]; exact pt.2 i hi
    · obtain ⟨h5, h15, h16, h17, h26, hq, hr⟩ := g
      refine ⟨h5, ?_, ?_, ?_, ?_, fun q hq2 => ?_, fun i hi => ?_⟩
      · simp (disch := omega) only [up_o]; exact h15
      · simp (disch := omega) only [up_o]; exact h16
      · simp (disch := omega) only [up_o]; exact h17
      · simp (disch := omega) only [up_o]; exact h26
      · simp (disch := omega) only [up_o]; exact hq q hq2
      · simp (disch := omega) only [up_o] at hi; simp (disch := omega) only [up_o]; exact hr i hi
    · simp (disch := omega) only [up_o]; exact g2
    · rw [up_s]
    · rw [up_s]; omega
    · rw [up_s] at hi
      simp (disch := omega) only [up_o]
      exact ss i (by omega)
  · rw [e]
    exact ⟨_, _, S, rfl, rfl, hh, fun _ _ => rfl⟩
/-- 46 places of a row copied to others of it -/
theorem rf_cp {s d : Nat} (hs : s + 46 ≤ 138) (hd : d + 46 ≤ 138) (hx : s + 46 ≤ d ∨ d + 46 ≤ s) : ∀ (k f i : Nat) (S : Nat → Nat), i + k = 46 → k < f → M_X7_copies_2 f (nf_a S) (nI d) (nI s) (nI i) = some (nf_a (fun j => if d + i ≤ j ∧ j < d + 46 then S (s + (j - d)) else S j)) := by
  intro k
  induction k with
  | zero =>
    intro f i S hi hf
    obtain ⟨f, rfl⟩ : ∃ g, f = g + 1 := ⟨f - 1, by omega⟩
    show B_X7_copies_2 _ _ _ _ _ _ = _
    simp (disch := omega) only [B_X7_copies_2, show (46 : Int32) = nI 46 from rfl, nI_leI]
    rw [if_pos (by omega)]
    congr 2
    funext j
    rw [if_neg (by omega)]
  | succ k ih =>
    intro f i S hi hf
    obtain ⟨f, rfl⟩ : ∃ g, f = g + 1 := ⟨f - 1, by omega⟩
    show B_X7_copies_2 _ _ _ _ _ _ = _
    simp (disch := omega) only [B_X7_copies_2, show (46 : Int32) = nI 46 from rfl, nI_leI, nI_add, gi_k, nI_clamp, nf_e, nm_s, nf_u, nI_1]
    rw [if_neg (by omega), ih f (i + 1) _ (by omega) (by omega)]
    congr 2
    funext j
    by_cases e : j = d + i
    · subst e
      rw [if_neg (by omega), up_s, if_pos (by omega), show d + i - d = i by omega]
    · by_cases e2 : d + (i + 1) ≤ j ∧ j < d + 46
      · rw [if_pos e2, if_pos (by omega), up_o (by omega)]
      · rw [if_neg e2, if_neg (by omega), up_o e]
def im_r (pe : Nat) (S : Nat → Nat) (k : Nat) (kc kr : Int32) (wi : s_W) (vi : s_V) : Prop := kc = kr ∧ (kc = 0 ∨ (kc = 1 ∧ bk_s pe (fun i => S (46 * (k + 1) + i)) wi vi))
theorem im_cg {k : Nat} {S2 : Nat → Nat} {kc kr : Int32} {wi : s_W} {vi : s_V} (h : ∀ i, 46 * (k + 1) ≤ i → i < 46 * (k + 1) + 46 → S2 i = S i) (g : im_r pe S k kc kr wi vi) : im_r pe S2 k kc kr wi vi := by
  obtain ⟨e, g⟩ := g
  refine ⟨e, g.imp id (fun g => ⟨g.1, bk_cg (fun i hi => h _ (by omega) (by omega)) g.2⟩)⟩
theorem cf_vb {a : Nat → Nat} (g : sg_v pe a v) (v2 : s_V) : ∃ v3, M_X3_become v v2 = some v3 ∧ sg_v pe a v3 := by
  obtain ⟨h1, h2, h3⟩ := g
  refine ⟨_, rfl, h1, h2, fun i hi => ?_⟩
  have e0 : (0 : Int32).toNatClampNeg = 0 := rfl
  have e6 : (6 : Int32).toNatClampNeg = 6 := rfl
  simp only [e0, e6]
  rw [pk_cpy_in (by omega) (by omega), pk_cpy_in (by omega) (by omega), pk_cpy_in (by omega) (by omega)]
  simp only [Nat.zero_add, Nat.sub_zero]
  exact h3 i hi
theorem cf_kb (h : bk_s pe S w v) (w2 : s_W) (v2 : s_V) : ∃ w3 v3, M_X5_become w w2 = some w3 ∧ M_X3_become v v2 = some v3 ∧ bk_s pe S w3 v3 ∧ w3.2.2.2.2.1 = nI (S 26) := by
  obtain ⟨⟨he, sp, K, G, B, R, rfl, pt⟩, g, g2, g3⟩ := h
  obtain ⟨K2, G2, B2, R2, e, p2⟩ := cf_bc (he := he) (sp := sp) g pt w2
  obtain ⟨v3, e3, q3⟩ := cf_vb g3 v2
  exact ⟨_, v3, e, e3, ⟨⟨0, 0, K2, G2, B2, R2, rfl, p2⟩, g, g2, q3⟩, rfl⟩
theorem op_keep {kp : Nat → Int32} {k0 k1 : Int32} {w0 w1 : s_W} {v0 v1 : s_V} (h : bk_s pe S w v) (i0 : im_r pe S 0 k0 (kp 0) w0 v0) (i1 : im_r pe S 1 k1 (kp 1) w1 v1) (hf : 100 < f) (z : Int32) : ∃ r k1' k0' w0' v0' w1' v1' kp' S2, M_X6_keep w v k1 k0 w0 v0 w1 v1 z = some (r, k1', k0', w0', v0', w1', v1') ∧ M_X7_keep f kp (nf_a S) z = some (r, kp', nf_a S2) ∧ bk_s pe S2 w v ∧ im_r pe S2 0 k0' (kp' 0) w0' v0' ∧ im_r pe S2 1 k1' (kp' 1) w1' v1' := by
  unfold M_X6_keep B_X6_keep_0 M_X7_keep B_X7_keep_0
  rw [in_k z 0 1 0 1 (by decide) (by decide)]
  rcases wi_c z 0 1 0 1 rfl rfl (by omega) (by omega) with ⟨n, n1, n2, rfl, e⟩ | e
  · rw [e]
    simp only [bn_s, i1_0]
    have en : vp_nar .boolean 1 = 1 := by decide
    have hn : n = 0 ∨ n = 1 := by omega
    have fl : ∀ b : Int32, b = 0 ∨ b = 1 → M_X7_flag b = some b := by
      intro b hb
      rcases hb with rfl | rfl <;> rfl
    rcases hn with rfl | rfl
    · obtain ⟨w3, v3, e1, e2, b3, -⟩ := cf_kb h w0 v0
      have hk0 : k0 = 0 ∨ k0 = 1 := i0.2.imp id (fun q => q.1)
      have ec : M_X7_copies f (nf_a S) (46 * (nI 0 + 1)) 0 = some (nf_a (fun j => if 46 + 0 ≤ j ∧ j < 46 + 46 then S (0 + (j - 46)) else S j)) := rf_cp (s := 0) (d := 46) (by omega) (by omega) (by omega) 46 f 0 S (by omega) (by omega)
      have e5 : (if nI 0 = 0 then (if k0 = 0 then B_X6_keep_30 w v k1 k0 w0 v0 w1 v1 0 else B_X6_keep_30 w v k1 k0 w0 v0 w1 v1 1) else (if nI 0 = 1 then (if k1 = 0 then B_X6_keep_30a w v k1 k0 w0 v0 w1 v1 0 else B_X6_keep_30a w v k1 k0 w0 v0 w1 v1 1) else none)) = some (k0, k1, 1, w3, v3, w1, v1) := by
        rw [if_pos (show nI 0 = 0 from rfl)]
        unfold B_X6_keep_30
        rw [e1, e2]
        simp only [bn_s]
        rcases hk0 with rfl | rfl <;> rfl
      rw [e5]
      simp (disch := omega) only [gi_k, nI_clamp]
      rw [← i0.1, fl _ hk0, en]
      simp only [bn_s]
      rw [ec]
      refine ⟨_, _, _, _, _, _, _, _, _, rfl, rfl, ?_, ?_, ?_⟩
      · exact bk_cg (fun i hi => if_neg (by omega)) h
      · refine ⟨by rw [pk_us], Or.inr ⟨rfl, bk_cg (fun i hi => ?_) b3⟩⟩
        exact (if_pos (by omega)).trans (congrArg S (by omega))
      · refine ⟨by rw [pk_un (by omega)]; exact i1.1, (im_cg (S2 := fun j => if 46 + 0 ≤ j ∧ j < 46 + 46 then S (0 + (j - 46)) else S j) (fun i h1 h2 => ?_) i1).2⟩
        exact if_neg (by omega)
    · obtain ⟨w3, v3, e1, e2, b3, -⟩ := cf_kb h w1 v1
      have hk1 : k1 = 0 ∨ k1 = 1 := i1.2.imp id (fun q => q.1)
      have ec : M_X7_copies f (nf_a S) (46 * (nI 1 + 1)) 0 = some (nf_a (fun j => if 92 + 0 ≤ j ∧ j < 92 + 46 then S (0 + (j - 92)) else S j)) := rf_cp (s := 0) (d := 92) (by omega) (by omega) (by omega) 46 f 0 S (by omega) (by omega)
      have e5 : (if nI 1 = 0 then (if k0 = 0 then B_X6_keep_30 w v k1 k0 w0 v0 w1 v1 0 else B_X6_keep_30 w v k1 k0 w0 v0 w1 v1 1) else (if nI 1 = 1 then (if k1 = 0 then B_X6_keep_30a w v k1 k0 w0 v0 w1 v1 0 else B_X6_keep_30a w v k1 k0 w0 v0 w1 v1 1) else none)) = some (k1, 1, k0, w0, v0, w3, v3) := by
        rw [if_neg (show ¬ nI 1 = 0 by decide), if_pos (show nI 1 = 1 from rfl)]
        unfold B_X6_keep_30a
        rw [e1, e2]
        simp only [bn_s]
        rcases hk1 with rfl | rfl <;> rfl
      rw [e5]
      simp (disch := omega) only [gi_k, nI_clamp]
      rw [← i1.1, fl _ hk1, en]
      simp only [bn_s]
      rw [ec]
      refine ⟨_, _, _, _, _, _, _, _, _, rfl, rfl, ?_, ?_, ?_⟩
      · exact bk_cg (fun i hi => if_neg (by omega)) h
      · refine ⟨by rw [pk_un (by omega)]; exact i0.1, (im_cg (S2 := fun j => if 92 + 0 ≤ j ∧ j < 92 + 46 then S (0 + (j - 92)) else S j) (fun i h1 h2 => ?_) i0).2⟩
        exact if_neg (by omega)
      · refine ⟨by rw [pk_us], Or.inr ⟨rfl, bk_cg (fun i hi => ?_) b3⟩⟩
        exact (if_pos (by omega)).trans (congrArg S (by omega))
  · rw [e]
    exact ⟨_, _, _, _, _, _, _, kp, S, rfl, rfl, h, i0, i1⟩
theorem op_back {kp : Nat → Int32} {k0 k1 : Int32} {w0 w1 : s_W} {v0 v1 : s_V} (h : bk_s pe S w v) (i0 : im_r pe S 0 k0 (kp 0) w0 v0) (i1 : im_r pe S 1 k1 (kp 1) w1 v1) (hf : 100 < f) (z : Int32) : ∃ r w' v' S2, M_X6_back k1 k0 w0 v0 w1 v1 w v z = some (r, w', v') ∧ M_X7_back kp f (nf_a S) z = some (r, nf_a S2) ∧ bk_s pe S2 w' v' ∧ ∀ i, 46 ≤ i → S2 i = S i := by
  unfold M_X6_back B_X6_back_0 M_X7_back B_X7_back_0
  rw [in_k z 0 1 0 1 (by decide) (by decide)]
  rcases wi_c z 0 1 0 1 rfl rfl (by omega) (by omega) with ⟨n, n1, n2, rfl, e⟩ | e
  · rw [e]
    simp only [bn_s, i1_0]
    have hn : n = 0 ∨ n = 1 := by omega
    rcases hn with rfl | rfl
    · rw [gi_k (by omega) (by omega), nI_clamp (by omega), ← i0.1, if_pos (show nI 0 = 0 from rfl)]
      rcases i0.2 with c | ⟨c, b⟩
      · rw [if_pos c, if_pos c]
        exact ⟨_, _, _, S, rfl, rfl, h, fun _ _ => rfl⟩
      · rw [c, i1_0, i1_0]
        obtain ⟨w3, v3, e1, e2, b3, h26⟩ := cf_kb b w v
        have ec : M_X7_copies f (nf_a S) 0 (46 * (nI 0 + 1)) = some (nf_a (fun j => if 0 + 0 ≤ j ∧ j < 0 + 46 then S (46 + (j - 0)) else S j)) := rf_cp (s := 46) (d := 0) (by omega) (by omega) (by omega) 46 f 0 S (by omega) (by omega)
        rw [e1, e2, ec]
        simp only [bn_s]
        rw [show (26 : Int32) = nI 26 from rfl, gi_k (by omega) (by omega), nI_clamp (by omega), nf_e, h26]
        refine ⟨_, _, _, _, rfl, rfl, ?_, fun i hi => ?_⟩
        · refine bk_cg (fun i hi => ?_) b3
          exact (if_pos (by omega)).trans (congrArg S (by omega))
        · exact if_neg (by omega)
    · rw [gi_k (by omega) (by omega), nI_clamp (by omega), ← i1.1, if_neg (show ¬ nI 1 = 0 by decide), if_pos (show nI 1 = 1 from rfl)]
      rcases i1.2 with c | ⟨c, b⟩
      · rw [if_pos c, if_pos c]
        exact ⟨_, _, _, S, rfl, rfl, h, fun _ _ => rfl⟩
      · rw [c, i1_0, i1_0]
        obtain ⟨w3, v3, e1, e2, b3, h26⟩ := cf_kb b w v
        have ec : M_X7_copies f (nf_a S) 0 (46 * (nI 1 + 1)) = some (nf_a (fun j => if 0 + 0 ≤ j ∧ j < 0 + 46 then S (92 + (j - 0)) else S j)) := rf_cp (s := 92) (d := 0) (by omega) (by omega) (by omega) 46 f 0 S (by omega) (by omega)
        rw [e1, e2, ec]
        simp only [bn_s]
        rw [show (26 : Int32) = nI 26 from rfl, gi_k (by omega) (by omega), nI_clamp (by omega), nf_e, h26]
        refine ⟨_, _, _, _, rfl, rfl, ?_, fun i hi => ?_⟩
        · refine bk_cg (fun i hi => ?_) b3
          exact (if_pos (by omega)).trans (congrArg S (by omega))
        · exact if_neg (by omega)
  · rw [e]
    exact ⟨_, _, _, S, rfl, rfl, h, fun _ _ => rfl⟩
end
