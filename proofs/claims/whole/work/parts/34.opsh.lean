/-! feed, end, one, drift, count -/
def tp_r (t : s_T) (tn : Nat) (tape : Nat → Int32) : Prop := t.1 = nI tn ∧ tn ≤ 160 ∧ ∀ i, i < tn → t.2.2.2.2.2 i = tape i ∧ ∃ c, c ≤ 127 ∧ tape i = nI c
theorem by_n : ∀ c, c < 128 → (nI c).toInt8.toInt32 = nI c := by decide +kernel
theorem op_feed {t : s_T} {tn : Nat} {tape : Nat → Int32} (h : tp_r t tn tape) (z : Int32) : ∃ r t2 tn2 tape2, M_X6_feed t z = some (r, t2) ∧ M_X7_feed (nI tn) tape z = some (r, nI tn2, tape2) ∧ tp_r t2 tn2 tape2 := by
  have hh := h
  obtain ⟨h1, h2, h3⟩ := h
  unfold M_X6_feed B_X6_feed_0 M_X7_feed B_X7_feed_0
  rw [in_k z 0 127 0 127 (by decide) (by decide)]
  rcases wi_c z 0 127 0 127 rfl rfl (by omega) (by omega) with ⟨c, c1, c2, rfl, e⟩ | e
  · rw [e]
    simp only [bn_s, i1_0]
    simp (disch := omega) only [h1, show (160 : Int32) = nI 160 from rfl, nI_ltI, nI_eq, nm_s, nI_1]
    by_cases c3 : tn = 160
    · rw [if_pos c3, if_neg (by omega)]
      exact ⟨_, _, tn, tape, rfl, rfl, hh⟩
    · rw [if_neg c3, if_pos (by omega), gi_k (by omega) (by omega), gi_k (by omega) (by omega), nI_clamp (by omega), vp_nar_byte, by_n c (by omega), by_n c (by omega)]
      refine ⟨_, _, tn + 1, _, rfl, rfl, rfl, by omega, fun i hi => ?_⟩
      by_cases ei : i = tn
      · subst ei
        simp only [pk_us]
        exact ⟨trivial, c, c2, rfl⟩
      · simp only [pk_un ei]
        exact h3 i (by omega)
  · rw [e]
    exact ⟨_, _, tn, tape, rfl, rfl, hh⟩
theorem op_end {t : s_T} {tn : Nat} {tape : Nat → Int32} (h : tp_r t tn tape) (z : Int32) : ∃ r t2 tn2, M_X6_end t z = some (r, t2) ∧ M_X7_end (nI tn) z = some (r, nI tn2) ∧ tp_r t2 tn2 tape := by
  have hh := h
  obtain ⟨h1, h2, h3⟩ := h
  unfold M_X6_end B_X6_end_0 M_X7_end B_X7_end_0
  rw [in_k z 0 (nI tn) 0 _ (by decide) rfl, h1]
  rcases wi_c z 0 (nI tn) 0 tn rfl rfl (by omega) (by omega) with ⟨c, c1, c2, rfl, e⟩ | e
  · rw [e]
    simp only [bn_s, i1_0]
    exact ⟨_, _, c, rfl, rfl, rfl, by omega, fun i hi => h3 i (by omega)⟩
  · rw [e]
    exact ⟨_, _, tn, rfl, rfl, hh⟩
/-- how often a one stands in the rota, from i on -/
def ct_n (a : Nat → Nat) (p : Nat) : Nat → Nat → Nat
  | _, 0 => 0
  | i, k + 1 => (if a (18 + i) = p then 1 else 0) + ct_n a p (i + 1) k
section
variable {pe f : Nat} {S N : Nat → Nat} {w t : s_W} {v : s_V} {x y : Int32}
theorem cf_ct {p he sp : Nat} {K G B R : Nat → Int32} (g : gd_s pe S) (pt : pt_w pe S K G B R) (hp : p < pe) : ∀ (k f i c : Nat), i + k = S 17 → k < f → M_X5_turnsOf_4 (mk_w pe S he sp K G B R) f (nI p) (nI c) (nI i) = some (nI (c + ct_n S p i k)) := by
  obtain ⟨h5, h15, h16, h17, h26, hq, hr⟩ := g
  intro k
  induction k with
  | zero =>
    intro f i c hi hf
    obtain ⟨f, rfl⟩ : ∃ g, f = g + 1 := ⟨f - 1, by omega⟩
    show B_X5_turnsOf_4 _ _ _ _ _ _ = _
    simp (disch := omega) only [B_X5_turnsOf_4, nI_leI]
    rw [if_pos (by omega)]
    rfl
  | succ k ih =>
    intro f i c hi hf
    obtain ⟨f, rfl⟩ : ∃ g, f = g + 1 := ⟨f - 1, by omega⟩
    have r1 := hr i (by omega)
    show B_X5_turnsOf_4 _ _ _ _ _ _ = _
    simp (disch := omega) only [B_X5_turnsOf_4, B_X5_turnsOf_25, nI_leI, gi_k, nI_clamp, pt.2 i (by omega), nI_eq, nI_1, ih f (i + 1)]
    rw [if_neg (by omega), ct_n]
    by_cases e : S (18 + i) = p
    · rw [if_pos e, if_pos e, show c + 1 + ct_n S p (i + 1) k = c + (1 + ct_n S p (i + 1) k) by omega]
    · rw [if_neg e, if_neg e, Nat.zero_add]
theorem rf_ct {p : Nat} {P z : Int32} {nw : Nat → Int32} (g : gd_s pe S) (hp : p < pe) : ∀ (k f i c : Nat), i + k = S 17 → k < f → M_X7_one_19 P (nf_a S) f x y nw (nI p) z (nI c) (nI i) = B_X7_one_19 (fun _ _ _ _ _ _ _ => none) P (nf_a S) 0 x y nw (nI p) z (nI (c + ct_n S p i k)) (nI (S 17)) := by
  obtain ⟨h5, h15, h16, h17, h26, hq, hr⟩ := g
  intro k
  induction k with
  | zero =>
    intro f i c hi hf
    obtain ⟨f, rfl⟩ : ∃ g, f = g + 1 := ⟨f - 1, by omega⟩
    obtain rfl : i = S 17 := by omega
    show B_X7_one_19 _ _ _ _ _ _ _ _ _ _ _ = _
    unfold B_X7_one_19
    simp (disch := omega) only [show (17 : Int32) = nI 17 from rfl, gi_k, nI_clamp, nf_e, nI_leI, Nat.le_refl, if_true]
    rfl
  | succ k ih =>
    intro f i c hi hf
    obtain ⟨f, rfl⟩ : ∃ g, f = g + 1 := ⟨f - 1, by omega⟩
    have r1 := hr i (by omega)
    have e1 : M_X7_one_19 P (nf_a S) (f + 1) x y nw (nI p) z (nI c) (nI i) = M_X7_one_19 P (nf_a S) f x y nw (nI p) z (nI (c + (if S (18 + i) = p then 1 else 0))) (nI (i + 1)) := by
      show B_X7_one_19 _ _ _ _ _ _ _ _ _ _ _ = _
      unfold B_X7_one_19 B_X7_one_51
      simp (disch := omega) only [show (17 : Int32) = nI 17 from rfl, show (18 : Int32) = nI 18 from rfl, gi_k, nI_clamp, nf_e, nI_leI, nI_add, nI_eq, nI_1, nm_s, M_X7_flag, B_X7_flag_0]
      rw [if_neg (by omega)]
      by_cases e : S (18 + i) = p
      · rw [if_pos e, if_pos e]
        exact congrArg (fun q => M_X7_one_19 P (nf_a S) f x y nw (nI p) z q (nI (i + 1))) (nI_1 c)
      · rw [if_neg e, if_neg e]
        simp only [bn_s, if_true]
        rw [show nI c + 0 = nI (c + 0) from nI_add c 0]
    rw [e1, ih f (i + 1) _ (by omega) (by omega), ct_n, Nat.add_assoc]
theorem op_one (h : bk_s pe S w v) (hf : 300 < f) (z1 z2 : Int32) : ∃ r q, M_X6_one w f z1 z2 = some r ∧ M_X7_one (nI pe) (nf_a S) f x y (nf_a N) z1 z2 = some (r, q) := by
  obtain ⟨⟨he, sp, K, G, B, R, rfl, pt⟩, g, g2, g3⟩ := h
  have h5 := g.1
  unfold M_X6_one B_X6_one_0 M_X7_one B_X7_one_0
  rcases on_c z1 h5 with ⟨p, hp, rfl, e1, e2⟩ | ⟨e1, e2⟩
  · have h17 := g.2.2.2.1
    have h16 := g.2.2.1
    have hk := (g.2.2.2.2.2.1 p hp).1
    have ec : M_X5_turnsOf (mk_w pe S he sp K G B R) f (nI p) = _ := cf_ct g pt hp (S 17) f 0 0 (by omega) (by omega)
    have er := rf_ct (x := 0) (y := 0) (P := nI pe) (z := z2) (nw := nf_a (cp_n S N)) g hp (S 17) f 0 0 (by omega) (by omega)
    rw [e1 _ rfl, e2, rf_st (by omega)]
    simp only [bn_s, i1_0]
    rw [show M_X7_one_19 (nI pe) (nf_a S) f 0 0 (nf_a (cp_n S N)) (nI p) z2 0 0 = _ from er, ec]
    unfold B_X7_one_19
    have o0 := rf_of (a := cp_n S N) (p := p) (k := 0) (by omega)
    have o1 := rf_of (a := cp_n S N) (p := p) (k := 1) (by omega)
    have o2 := rf_of (a := cp_n S N) (p := p) (k := 2) (by omega)
    rw [cp_i (by omega), Nat.add_zero] at o0
    rw [cp_i (by omega)] at o1 o2
    simp (disch := omega) only [show (17 : Int32) = nI 17 from rfl, show (16 : Int32) = nI 16 from rfl, gi_k, nI_clamp, nf_e, nI_leI, (pt.1 p hp).1, (pt.1 p hp).2.1, (pt.1 p hp).2.2, cf_hd, cf_hl, bn_s, Nat.le_refl, if_true]
    by_cases c0 : z2 = 0
    · subst c0
      rw [show M_X7_of (nf_a (cp_n S N)) (nI p) 0 = _ from o0]
      exact ⟨_, _, rfl, rfl⟩
    simp only [if_neg c0]
    by_cases c1 : z2 = 1
    · subst c1
      rw [show M_X7_of (nf_a (cp_n S N)) (nI p) 1 = _ from o1]
      exact ⟨_, _, rfl, rfl⟩
    simp only [if_neg c1]
    by_cases c2 : z2 = 2
    · subst c2
      rw [show M_X7_of (nf_a (cp_n S N)) (nI p) 2 = _ from o2]
      exact ⟨_, _, rfl, rfl⟩
    simp only [if_neg c2]
    rw [show M_X7_of (nf_a (cp_n S N)) (nI p) 0 = _ from o0]
    simp (disch := omega) only [bn_s, rf_hd, rf_hl]
    by_cases c3 : z2 = 3
    · simp only [if_pos c3]
      exact ⟨_, _, rfl, rfl⟩
    simp only [if_neg c3]
    by_cases c4 : z2 = 4
    · simp only [if_pos c4]
      exact ⟨_, _, rfl, rfl⟩
    simp only [if_neg c4]
    by_cases c5 : z2 = 5
    · simp only [if_pos c5]
      exact ⟨_, _, rfl, rfl⟩
    simp only [if_neg c5]
    exact ⟨_, _, rfl, rfl⟩
  · rw [e1 _ rfl, e2]
    exact ⟨_, _, rfl, rfl⟩
end
theorem up_c {a : Nat → Nat} {i j u w : Nat} (h : i ≠ j) : up_n (up_n a i u) j w = up_n (up_n a j w) i u := by
  funext q
  unfold up_n
  by_cases e1 : q = i
  · by_cases e2 : q = j
    · omega
    · simp [e1, e2, h]
  · by_cases e2 : q = j
    · simp [e1, e2, Ne.symm h]
    · simp [e1, e2]
theorem sl_26 {pe k : Nat} (h5 : pe ≤ 5) (h0 : 0 < pe) : ∀ (n nx : Nat) (a : Nat → Nat), sl_n pe n nx (up_n a 26 k) = up_n (sl_n pe n nx a) 26 k := by
  intro n
  induction n with
  | zero => intro nx a; rfl
  | succ n ih =>
    intro nx a
    have hm : (nx + 1) % pe < pe := Nat.mod_lt _ h0
    rw [sl_n, sl_n, ← ih, up_o (by omega), up_o (by omega), up_c (i := 26) (by omega), up_c (i := 26) (by omega)]
theorem wh_26 {pe p he sp k : Nat} {a : Nat → Nat} (h5 : pe ≤ 5) (hp : p < pe) : wh_n pe p (he, sp, up_n a 26 k) = ((wh_n pe p (he, sp, a)).1, (wh_n pe p (he, sp, a)).2.1, up_n (wh_n pe p (he, sp, a)).2.2 26 k) := by
  simp only [wh_n]
  simp (disch := omega) only [up_o]
  rw [up_c (i := 26) (by omega), up_c (i := 26) (by omega), sl_26 h5 (by omega)]
theorem in_d (x : Int32) : x.toInt = (x.toBitVec.toNat : Int) ∨ x.toInt = (x.toBitVec.toNat : Int) - 4294967296 := by
  have h : x.toInt = x.toBitVec.toInt := rfl
  rw [h, BitVec.toInt_eq_toNat_cond]
  split
  · left; rfl
  · right; rfl
theorem dr_e (s : Int32) : ∃ g : Nat, g < 32768 ∧ ((s.toUInt32 >>> ((16 : Int32).toUInt32 &&& Int32.toUInt32 31)).toInt32) &&& 32767 = nI g ∧ (s >>> (16 &&& 31)) &&& 32767 = nI g := by
  refine ⟨(s.toBitVec.toNat / 65536) % 32768, Nat.mod_lt _ (by omega), ?_, ?_⟩
  · rw [pk_and _ 15 (by decide), pk_ushr s 16 16 (by decide)]
  · rw [pk_and _ 15 (by decide)]
    congr 1
    have e1 := pk_shr s (16 &&& 31) 16 (by decide)
    have d1 := in_d s
    have d2 := in_d (s >>> (16 &&& 31))
    have b1 := s.toBitVec.isLt
    have b2 := (s >>> ((16 : Int32) &&& 31)).toBitVec.isLt
    rw [Int.shiftRight_eq_div_pow] at e1
    generalize (s >>> ((16 : Int32) &&& 31)).toBitVec.toNat = q at *
    generalize s.toBitVec.toNat = n at *
    generalize (s >>> ((16 : Int32) &&& 31)).toInt = u at *
    generalize s.toInt = m at *
    simp only [show ((2 ^ 16 : Nat) : Int) = 65536 from rfl, show (2 ^ 15 : Nat) = 32768 from rfl, show (2 ^ 32 : Nat) = 4294967296 from rfl] at *
    omega
