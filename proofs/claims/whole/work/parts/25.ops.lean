/-! the relation of a world and its sights to a state; the plain calls -/
def sg_v (pe : Nat) (a : Nat → Nat) (v : s_V) : Prop := v.1 = nI (a 27) ∧ a 27 ≤ 6 ∧ ∀ i, i < a 27 → v.2.1 i = nI (a (28 + 3 * i)) ∧ v.2.2.1 i = nI (a (29 + 3 * i)) ∧ v.2.2.2 i = nI (a (30 + 3 * i)) ∧ a (28 + 3 * i) ≤ 24 ∧ a (29 + 3 * i) < pe ∧ a (30 + 3 * i) ≤ 99
def wd_w (pe : Nat) (a : Nat → Nat) (w : s_W) : Prop := ∃ (he sp : Nat) (K G B R : Nat → Int32), w = mk_w pe a he sp K G B R ∧ pt_w pe a K G B R
def bk_s (pe : Nat) (a : Nat → Nat) (w : s_W) (v : s_V) : Prop := wd_w pe a w ∧ gd_s pe a ∧ a 26 ≤ 999 ∧ sg_v pe a v
theorem sg_cg {pe : Nat} {a b : Nat → Nat} {v : s_V} (h : ∀ i, 27 ≤ i → i < 46 → b i = a i) (g : sg_v pe a v) : sg_v pe b v := by
  obtain ⟨h1, h2, h3⟩ := g
  have e := h 27 (by omega) (by omega)
  refine ⟨by rw [e]; exact h1, by rw [e]; exact h2, fun i hi => ?_⟩
  rw [e] at hi
  rw [h (28 + 3 * i) (by omega) (by omega), h (29 + 3 * i) (by omega) (by omega), h (30 + 3 * i) (by omega) (by omega)]
  exact h3 i hi
theorem bk_cg {pe : Nat} {a b : Nat → Nat} {w : s_W} {v : s_V} (h : ∀ i, i < 46 → b i = a i) (g : bk_s pe a w v) : bk_s pe b w v := by
  obtain ⟨⟨he, sp, K, G, B, R, rfl, pt⟩, g1, g2, g3⟩ := g
  exact ⟨⟨he, sp, K, G, B, R, (mk_cg h).symm, pt_cg g1 h pt⟩, gd_cg h g1, by rw [h 26 (by omega)]; exact g2, sg_cg (fun i _ hi => h i hi) g3⟩
section
variable {pe f : Nat} {S N : Nat → Nat} {w t : s_W} {v : s_V} {x y : Int32}
theorem op_rule (h : bk_s pe S w v) (hf : 300 < f) (z : Int32) : ∃ r, M_X6_rule w f z = some r ∧ ∃ q, M_X7_rule (nI pe) (nf_a S) f x y (nf_a N) z = some (r, q) := by
  obtain ⟨⟨he, sp, K, G, B, R, rfl, pt⟩, g, g2, g3⟩ := h
  have gc : gd_s pe (cp_n S N) := gd_cg (fun i hi => cp_i hi) g
  have e1 := cf_al (f := f) (he := he) (sp := sp) g.1 (by omega) pt
  have e2 := rf_al (f := f) (a := cp_n S N) g.1 (by omega)
  have e3 : al_n pe (cp_n S N) = al_n pe S := by
    have h5 := g.1
    unfold al_n
    rw [cp_i (by omega)]
    congr 1
    have : ∀ (n i : Nat), i + n ≤ 5 → sr_n (fun q => cp_n S N (3 * q + 1)) i n = sr_n (fun q => S (3 * q + 1)) i n := by
      intro n
      induction n with
      | zero => intro i _; rfl
      | succ n ih => intro i hi; rw [sr_n, sr_n, ih (i + 1) (by omega), cp_i (by omega)]
    exact this pe 0 (by omega)
  have e4 := cf_ws (he := he) (sp := sp) g pt
  have e5 := rf_tn gc
  have e6 : (if cp_n S N 17 = 0 then (-4 : Int32) else nI (cp_n S N (18 + cp_n S N 26 % cp_n S N 17))) = (if S 17 = 0 then (-4 : Int32) else nI (S (18 + S 26 % S 17))) := by
    rw [cp_i (show 17 < 46 by omega), cp_i (show 26 < 46 by omega)]
    by_cases c : S 17 = 0
    · rw [if_pos c, if_pos c]
    · have hm := Nat.mod_lt (S 26) (show 0 < S 17 by omega)
      have := g.2.2.2.1
      rw [if_neg c, if_neg c, cp_i (by omega)]
  rw [e3] at e2
  rw [e6] at e5
  unfold M_X6_rule B_X6_rule_0 M_X7_rule B_X7_rule_0
  rw [rf_st (by omega), bn_s, e1, e4, e2, e5]
  simp (disch := omega) only [nf_e, nI_clamp, bn_s, show (26 : Int32) = nI 26 from rfl, show (16 : Int32) = nI 16 from rfl, show (15 : Int32) = nI 15 from rfl, show (17 : Int32) = nI 17 from rfl, gi_k]
  by_cases c0 : z = 0
  · simp only [if_pos c0]; exact ⟨_, rfl, _, rfl⟩
  simp only [if_neg c0]
  by_cases c1 : z = 1
  · simp only [if_pos c1]; exact ⟨_, rfl, _, rfl⟩
  simp only [if_neg c1]
  by_cases c2 : z = 2
  · simp only [if_pos c2]; exact ⟨_, rfl, _, rfl⟩
  simp only [if_neg c2]
  by_cases c3 : z = 3
  · simp only [if_pos c3]; exact ⟨_, rfl, _, rfl⟩
  simp only [if_neg c3]
  by_cases c4 : z = 4
  · simp only [if_pos c4]; exact ⟨_, rfl, _, rfl⟩
  simp only [if_neg c4]
  by_cases c5 : z = 5
  · simp only [if_pos c5]; exact ⟨_, rfl, _, rfl⟩
  simp only [if_neg c5]
  by_cases c6 : z = 6
  · simp only [if_pos c6]; exact ⟨_, rfl, _, rfl⟩
  simp only [if_neg c6]
  exact ⟨_, rfl, _, rfl⟩
theorem op_turn (h : bk_s pe S w v) (z : Int32) : ∃ r, M_X6_turn w z = some r ∧ M_X7_turn (nf_a S) z = some r := by
  obtain ⟨⟨he, sp, K, G, B, R, rfl, pt⟩, g, g2, g3⟩ := h
  obtain ⟨h5, h15, h16, h17, h26, hq, hr⟩ := g
  unfold M_X6_turn B_X6_turn_0 M_X7_turn B_X7_turn_0
  simp (disch := omega) only [nf_e, nI_clamp, show (17 : Int32) = nI 17 from rfl, gi_k]
  rw [in_k z 0 (nI (S 17) - 1) 0 _ (by decide) rfl]
  rw [wi_e]
  by_cases c : 0 ≤ z ∧ z ≤ nI (S 17) - 1
  · rw [if_pos c]
    simp only [bn_s, i1_0]
    obtain ⟨j, hj, rfl⟩ := nI_of (x := z) (by
      have := c.1
      simp only [Int32.lt_iff_toInt_lt, Int32.le_iff_toInt_le] at *
      omega)
    have hj2 : j < S 17 := by
      have c2 := c.2
      have e1 := pk_sub_toInt (a := S 17) (b := 1) (by omega) (by omega)
      have e2 := nI_toInt (n := j) hj
      rw [show (1 : Int32) = nI 1 from rfl] at c2
      simp only [Int32.le_iff_toInt_le] at c2
      omega
    simp (disch := omega) only [gi_k, nI_clamp, nl_l, nI_add, pt.2 j hj2]
    exact ⟨_, rfl, rfl⟩
  · rw [if_neg c]
    exact ⟨_, rfl, rfl⟩
theorem op_takes (h : bk_s pe S w v) (z : Int32) : ∃ r w2 S2, M_X6_takes w z = some (r, w2) ∧ M_X7_takes (nf_a S) z = some (r, nf_a S2) ∧ bk_s pe S2 w2 v ∧ ∀ i, 46 ≤ i → S2 i = S i := by
  have hh := h
  obtain ⟨⟨he, sp, K, G, B, R, rfl, pt⟩, g, g2, g3⟩ := h
  obtain ⟨h5, h15, h16, h17, h26, hq, hr⟩ := g
  unfold M_X6_takes B_X6_takes_0 M_X7_takes B_X7_takes_0
  rw [in_k z 1 99 1 99 (by decide) (by decide)]
  rcases wi_c z 1 99 1 99 rfl rfl (by omega) (by omega) with ⟨n, n1, n2, rfl, e⟩ | e
  · rw [e]
    simp only [bn_s, i1_0]
    unfold M_X7_becomes B_X7_becomes_0
    simp (disch := omega) only [nf_e, nI_clamp, show (15 : Int32) = nI 15 from rfl, gi_k, nm_s, bn_s, nf_u]
    refine ⟨_, _, up_n S 15 n, rfl, rfl, ⟨⟨he, sp, K, G, B, R, ?_, ?_⟩, ⟨h5, ?_, ?_, ?_, ?_, fun q hq2 => ?_, fun i hi => ?_⟩, ?_, ?_⟩, fun i hi => up_o (by omega)⟩
    · unfold mk_w; simp (disch := omega) only [up_o, up_s]
    · refine ⟨fun q hq2 => ?_, fun i hi => ?_⟩
      · simp (disch := omega) only [up_o]; exact pt.1 q hq2
      · simp (disch := omega) only [up_o] at *; exact pt.2 i hi
    · simp (disch := omega) only [up_s]; omega
    · simp (disch := omega) only [up_o]; exact h16
    · simp (disch := omega) only [up_o]; exact h17
    · simp (disch := omega) only [up_o]; exact h26
    · simp (disch := omega) only [up_o]; exact hq q hq2
    · simp (disch := omega) only [up_o] at *; exact hr i hi
    · simp (disch := omega) only [up_o]; exact g2
    · exact sg_cg (fun i h1 h2 => up_o (by omega)) g3
  · rw [e]
    exact ⟨_, _, S, rfl, rfl, hh, fun _ _ => rfl⟩
theorem op_load (h : bk_s pe S w v) (z : Int32) : ∃ r w2 S2, M_X6_load w z = some (r, w2) ∧ M_X7_load (nf_a S) z = some (r, nf_a S2) ∧ bk_s pe S2 w2 v ∧ ∀ i, 46 ≤ i → S2 i = S i := by
  have hh := h
  obtain ⟨⟨he, sp, K, G, B, R, rfl, pt⟩, g, g2, g3⟩ := h
  obtain ⟨h5, h15, h16, h17, h26, hq, hr⟩ := g
  unfold M_X6_load B_X6_load_0 M_X7_load B_X7_load_0
  rw [in_k z 0 99 0 99 (by decide) (by decide)]
  rcases wi_c z 0 99 0 99 rfl rfl (by omega) (by omega) with ⟨n, n1, n2, rfl, e⟩ | e
  · rw [e]
    simp only [bn_s, i1_0]
    unfold M_X7_becomes B_X7_becomes_0
    simp (disch := omega) only [nf_e, nI_clamp, show (16 : Int32) = nI 16 from rfl, gi_k, nm_s, bn_s, nf_u]
    refine ⟨_, _, up_n S 16 n, rfl, rfl, ⟨⟨he, sp, K, G, B, R, ?_, ?_⟩, ⟨h5, ?_, ?_, ?_, ?_, fun q hq2 => ?_, fun i hi => ?_⟩, ?_, ?_⟩, fun i hi => up_o (by omega)⟩
    · unfold mk_w; simp (disch := omega) only [up_o, up_s]
    · refine ⟨fun q hq2 => ?_, fun i hi => ?_⟩
      · simp (disch := omega) only [up_o]; exact pt.1 q hq2
      · simp (disch := omega) only [up_o] at *; exact pt.2 i hi
    · simp (disch := omega) only [up_o]; exact h15
    · simp (disch := omega) only [up_s]; omega
    · simp (disch := omega) only [up_o]; exact h17
    · simp (disch := omega) only [up_o]; exact h26
    · simp (disch := omega) only [up_o]; exact hq q hq2
    · simp (disch := omega) only [up_o] at *; exact hr i hi
    · simp (disch := omega) only [up_o]; exact g2
    · exact sg_cg (fun i h1 h2 => up_o (by omega)) g3
  · rw [e]
    exact ⟨_, _, S, rfl, rfl, hh, fun _ _ => rfl⟩
theorem op_cut (h : bk_s pe S w v) (z : Int32) : ∃ r w2 S2, M_X6_cut w z = some (r, w2) ∧ M_X7_cut (nf_a S) z = some (r, nf_a S2) ∧ bk_s pe S2 w2 v ∧ ∀ i, 46 ≤ i → S2 i = S i := by
  have hh := h
  obtain ⟨⟨he, sp, K, G, B, R, rfl, pt⟩, g, g2, g3⟩ := h
  obtain ⟨h5, h15, h16, h17, h26, hq, hr⟩ := g
  unfold M_X6_cut B_X6_cut_0 M_X7_cut B_X7_cut_0
  simp (disch := omega) only [nf_e, nI_clamp, show (17 : Int32) = nI 17 from rfl, gi_k]
  rw [in_k z 0 (nI (S 17)) 0 _ (by decide) rfl]
  rcases wi_c z 0 (nI (S 17)) 0 (S 17) rfl rfl (by omega) (by omega) with ⟨n, n1, n2, rfl, e⟩ | e
  · rw [e]
    simp only [bn_s, i1_0]
    unfold M_X7_becomes B_X7_becomes_0
    simp (disch := omega) only [nf_e, nI_clamp, gi_k, nm_s, bn_s, nf_u]
    refine ⟨_, _, up_n S 17 n, rfl, rfl, ⟨⟨he, sp, K, G, B, R, ?_, ?_⟩, ⟨h5, ?_, ?_, ?_, ?_, fun q hq2 => ?_, fun i hi => ?_⟩, ?_, ?_⟩, fun i hi => up_o (by omega)⟩
    · unfold mk_w; simp (disch := omega) only [up_o, up_s]
    · refine ⟨fun q hq2 => ?_, fun i hi => ?_⟩
      · simp (disch := omega) only [up_o]; exact pt.1 q hq2
      · rw [up_s] at hi; simp (disch := omega) only [up_o]; exact pt.2 i (by omega)
    · simp (disch := omega) only [up_o]; exact h15
    · simp (disch := omega) only [up_o]; exact h16
    · simp (disch := omega) only [up_s]; omega
    · simp (disch := omega) only [up_o]; exact h26
    · simp (disch := omega) only [up_o]; exact hq q hq2
    · rw [up_s] at hi; simp (disch := omega) only [up_o]; exact hr i (by omega)
    · simp (disch := omega) only [up_o]; exact g2
    · exact sg_cg (fun i h1 h2 => up_o (by omega)) g3
  · rw [e]
    exact ⟨_, _, S, rfl, rfl, hh, fun _ _ => rfl⟩
theorem op_rota (h : bk_s pe S w v) (z : Int32) : ∃ r w2 S2, M_X6_rota w z = some (r, w2) ∧ M_X7_rota (nI pe) (nf_a S) z = some (r, nf_a S2) ∧ bk_s pe S2 w2 v ∧ ∀ i, 46 ≤ i → S2 i = S i := by
  have hh := h
  obtain ⟨⟨he, sp, K, G, B, R, rfl, pt⟩, g, g2, g3⟩ := h
  obtain ⟨h5, h15, h16, h17, h26, hq, hr⟩ := g
  unfold M_X6_rota B_X6_rota_0 M_X7_rota B_X7_rota_0
  rcases on_c z h5 with ⟨p, hp, rfl, e1, e2⟩ | ⟨e1, e2⟩
  · rw [e1 _ rfl, e2]
    simp only [bn_s, i1_0]
    simp (disch := omega) only [nf_e, nI_clamp, show (17 : Int32) = nI 17 from rfl, show (18 : Int32) = nI 18 from rfl, show (8 : Int32) = nI 8 from rfl, gi_k, nm_s, bn_s, nI_add, nf_u, nI_eq, nI_ltI]
    by_cases c : S 17 = 8
    · rw [if_pos c, if_neg (by omega)]
      exact ⟨_, _, S, rfl, rfl, hh, fun _ _ => rfl⟩
    · rw [if_neg c, if_pos (by omega)]
      unfold M_X5_addTurn B_X5_addTurn_0
      simp (disch := omega) only [show (8 : Int32) = nI 8 from rfl, nI_leI, gi_k, nI_clamp, nm_s, up_o, up_s, nI_1]
      rw [if_neg (by omega)]
      refine ⟨_, _, up_n (up_n S (18 + S 17) p) 17 (S 17 + 1), rfl, ?_, ⟨⟨he, sp, K, G, B, upd R (S 17) (nI p), ?_, ?_⟩, ⟨h5, ?_, ?_, ?_, ?_, fun q hq2 => ?_, fun i hi => ?_⟩, ?_, ?_⟩, fun i hi => by rw [up_o (by omega), up_o (by omega)]⟩
      · simp only [nf_u, nf_e, up_s]
      · unfold mk_w; simp (disch := omega) only [up_o, up_s]
      · refine ⟨fun q hq2 => ?_, fun i hi => ?_⟩
        · simp (disch := omega) only [up_o]; exact pt.1 q hq2
        · rw [up_s] at hi
          rw [up_o (by omega)]
          by_cases ei : i = S 17
          · rw [ei, up_s, pk_us]
          · rw [up_o (by omega), pk_un ei]; exact pt.2 i (by omega)
      · simp (disch := omega) only [up_o]; exact h15
      · simp (disch := omega) only [up_o]; exact h16
      · simp (disch := omega) only [up_s]; omega
      · simp (disch := omega) only [up_o]; exact h26
      · simp (disch := omega) only [up_o]; exact hq q hq2
      · rw [up_s] at hi
        rw [up_o (by omega)]
        by_cases ei : i = S 17
        · rw [ei, up_s]; exact hp
        · rw [up_o (by omega)]; exact hr i (by omega)
      · simp (disch := omega) only [up_o]; exact g2
      · exact sg_cg (fun i h1 h2 => by rw [up_o (by omega), up_o (by omega)]) g3
  · rw [e1 _ rfl, e2]
    exact ⟨_, _, S, rfl, rfl, hh, fun _ _ => rfl⟩
end
