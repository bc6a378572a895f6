/-! order -/
section
variable {pe f n : Nat} {S N : Nat → Nat} {w t : s_W} {v : s_V} {x y : Int32}
theorem fo_52 {k33 : Int32 → Int32 → Int32 → Int32 → (Nat → Int32) → (Nat → Int32) → (Nat → Int32) → Int32 → Int32 → Option (Int32 × Int32 × Int32 × Int32 × Int32 × (Nat → Int32) × (Nat → Int32) × (Nat → Int32))} {P bc bm v1 v2 : Int32} {R B : Nat → Int32} {r : Nat → Nat} (hn : n ≤ 5) (h17 : S 17 = n) (a : ar_p n R r) : ∀ (k f i : Nat) (b : Nat → Nat), i + k = n → k < f → ∃ (f2 : Nat) (b2 : Nat → Nat), f2 + k + 1 = f ∧ M_X7_findOrder_52 k33 P (nf_a S) f x y bc bm R (nf_a b) B v1 v2 (nI i) = (M_X7_weightBehind P f2 x y (nf_a b2) 24).bind (fun u87 => M_X7_findOrder_94 k33 P (nf_a S) f2 u87.2.1 u87.2.2.1 bc bm R u87.2.2.2 B v1 v2 u87.1 0) ∧ ∀ j, b2 j = if 18 + i ≤ j ∧ j < 18 + n then r (j - 18) else b j := by
  intro k
  induction k with
  | zero =>
    intro f i b hi hf
    obtain ⟨f, rfl⟩ : ∃ g, f = g + 1 := ⟨f - 1, by omega⟩
    refine ⟨f, b, by omega, ?_, fun j => by rw [if_neg (by omega)]⟩
    show B_X7_findOrder_52 _ _ _ _ _ _ _ _ _ _ _ _ _ _ _ = _
    unfold B_X7_findOrder_52
    simp (disch := omega) only [show (17 : Int32) = nI 17 from rfl, gi_k, nI_clamp, nf_e, h17, nI_leI]
    rw [if_pos (by omega)]
  | succ k ih =>
    intro f i b hi hf
    obtain ⟨f, rfl⟩ : ∃ g, f = g + 1 := ⟨f - 1, by omega⟩
    have hA := a i (by omega)
    obtain ⟨f2, b2, h1, h2, h3⟩ := ih f (i + 1) (up_n b (18 + i) (r i)) (by omega) (by omega)
    refine ⟨f2, b2, by omega, ?_, fun j => ?_⟩
    · rw [← h2]
      show B_X7_findOrder_52 _ _ _ _ _ _ _ _ _ _ _ _ _ _ _ = _
      unfold B_X7_findOrder_52
      simp (disch := omega) only [show (17 : Int32) = nI 17 from rfl, show (18 : Int32) = nI 18 from rfl, gi_k, nI_clamp, nf_e, h17, nI_leI, nI_add, nm_s, hA.1, nf_u, nI_1]
      rw [if_neg (by omega)]
    · rw [h3 j]
      by_cases c : 18 + (i + 1) ≤ j ∧ j < 18 + n
      · rw [if_pos c, if_pos (by omega)]
      · rw [if_neg c]
        by_cases e : j = 18 + i
        · rw [e, up_s, if_pos (by omega), show 18 + i - 18 = i by omega]
        · rw [up_o e, if_neg (by omega)]
theorem fo_94 {k33 : Int32 → Int32 → Int32 → Int32 → (Nat → Int32) → (Nat → Int32) → (Nat → Int32) → Int32 → Int32 → Option (Int32 × Int32 × Int32 × Int32 × Int32 × (Nat → Int32) × (Nat → Int32) × (Nat → Int32))} {P bc v1 v2 : Int32} {R nw : Nat → Int32} {r : Nat → Nat} {bm m : Nat} (hn : n ≤ 5) (h17 : S 17 = n) (a : ar_p n R r) (hb : bm ≤ 1000000) (hm : m < bm) : ∀ (k f i : Nat) (B : Nat → Int32), i + k = n → k < f → ∃ B2, M_X7_findOrder_94 k33 P (nf_a S) f x y bc (nI bm) R nw B v1 v2 (nI m) (nI i) = k33 x y v2 (nI m) R nw B2 v1 (v2 + 1) ∧ (∀ j, i ≤ j → j < n → B2 j = R j) ∧ ∀ j, j < i → B2 j = B j := by
  intro k
  induction k with
  | zero =>
    intro f i B hi hf
    obtain ⟨f, rfl⟩ : ∃ g, f = g + 1 := ⟨f - 1, by omega⟩
    refine ⟨B, ?_, fun j h1 h2 => absurd h1 (by omega), fun j _ => rfl⟩
    show B_X7_findOrder_94 _ _ _ _ _ _ _ _ _ _ _ _ _ _ _ _ = _
    unfold B_X7_findOrder_94 B_X7_findOrder_134 B_X7_findOrder_140
    rw [rf_jd (by omega) (by omega)]
    simp (disch := omega) only [show (17 : Int32) = nI 17 from rfl, gi_k, nI_clamp, nf_e, h17, nI_leI, bn_s]
    rw [if_pos (by omega), if_neg (by omega)]
  | succ k ih =>
    intro f i B hi hf
    obtain ⟨f, rfl⟩ : ∃ g, f = g + 1 := ⟨f - 1, by omega⟩
    obtain ⟨B2, h1, h2, h3⟩ := ih f (i + 1) (upd B i (R i)) (by omega) (by omega)
    refine ⟨B2, ?_, fun j q1 q2 => ?_, fun j q => ?_⟩
    · rw [← h1]
      show B_X7_findOrder_94 _ _ _ _ _ _ _ _ _ _ _ _ _ _ _ _ = _
      unfold B_X7_findOrder_94
      simp (disch := omega) only [show (17 : Int32) = nI 17 from rfl, gi_k, nI_clamp, nf_e, h17, nI_leI, nm_s, nI_1]
      rw [if_neg (by omega), if_neg (by omega)]
    · by_cases e : j = i
      · rw [e, h3 i (by omega), pk_us]
      · exact h2 j (by omega) q2
    · rw [h3 j (by omega), pk_un (by omega)]
theorem fo_9k {k33 : Int32 → Int32 → Int32 → Int32 → (Nat → Int32) → (Nat → Int32) → (Nat → Int32) → Int32 → Int32 → Option (Int32 × Int32 × Int32 × Int32 × Int32 × (Nat → Int32) × (Nat → Int32) × (Nat → Int32))} {P bc v1 v2 : Int32} {R nw B : Nat → Int32} {bm m : Nat} (hn : n ≤ 5) (h17 : S 17 = n) (hb : bm ≤ 1000000) (hm2 : m ≤ 1000000) (hm : bm ≤ m) (hf : 0 < f) : M_X7_findOrder_94 k33 P (nf_a S) f x y bc (nI bm) R nw B v1 v2 (nI m) (nI 0) = k33 x y bc (nI bm) R nw B v1 (v2 + 1) := by
  obtain ⟨f, rfl⟩ : ∃ g, f = g + 1 := ⟨f - 1, by omega⟩
  show B_X7_findOrder_94 _ _ _ _ _ _ _ _ _ _ _ _ _ _ _ _ = _
  unfold B_X7_findOrder_94 B_X7_findOrder_134 B_X7_findOrder_140
  rw [rf_jd (by omega) (by omega)]
  simp (disch := omega) only [show (17 : Int32) = nI 17 from rfl, gi_k, nI_clamp, nf_e, h17, nI_leI, bn_s]
  rw [if_pos hm]
  by_cases c : n ≤ 0
  · rw [if_pos c]
  · rw [if_neg c, if_pos hm]
/-- the reference's best so far -/
def fo_p (pe : Nat) (S : Nat → Nat) (n c bm : Nat) (B : Nat → Int32) : Prop := (bm = 1000000 ∧ ∀ d, d < c → ke_n n (dg_n n d) ≠ ke_n n (fun i => S (18 + i))) ∨ (bm ≤ 594 ∧ ∃ b, ar_p n B (dg_n n b) ∧ mn_p (fun d => d < c ∧ ke_n n (dg_n n d) = ke_n n (fun i => S (18 + i))) (wt_n pe S n) bm b)
theorem fo_33 {c0 : Nat} (h : bk_s pe S w v) (hn : n ≤ 5) (h17 : S 17 = n) (h0 : c0 < 5 ^ n) (k0 : ke_n n (dg_n n c0) = ke_n n (fun i => S (18 + i))) (hp : 5 ^ n ≤ 3125) : ∀ (k f c bm : Nat) (x y bc : Int32) (R B : Nat → Int32) (N : Nat → Nat), c + k = 5 ^ n → k + 500 < f → fo_p pe S n c bm B → ∃ m b x2 y2 bc2 R2 nw2 B2, M_X7_findOrder_33 (nI pe) (nf_a S) f x y bc (nI bm) R (nf_a N) B (nI (5 ^ n)) (nI c) = some (nI m, x2, y2, bc2, nI m, R2, nw2, B2) ∧ ar_p n B2 (dg_n n b) ∧ mn_p (fun d => d < 5 ^ n ∧ ke_n n (dg_n n d) = ke_n n (fun i => S (18 + i))) (wt_n pe S n) m b := by
  have h5 := h.2.1.1
  have hS : ∀ i, i < n → S (18 + i) < 5 := fun i hi => by have := h.2.1.2.2.2.2.2.2 i (by omega); omega
  intro k
  induction k with
  | zero =>
    intro f c bm x y bc R B N hc hf inv
    obtain ⟨f, rfl⟩ : ∃ g, f = g + 1 := ⟨f - 1, by omega⟩
    rw [Nat.add_zero] at hc
    rcases inv with ⟨-, q⟩ | ⟨hb, b, aB, mn⟩
    · exact absurd k0 (q c0 (by omega))
    · rw [hc] at mn
      refine ⟨bm, b, x, y, bc, R, nf_a N, B, ?_, aB, mn⟩
      show B_X7_findOrder_33 _ _ _ _ _ _ _ _ _ _ _ _ _ = _
      unfold B_X7_findOrder_33
      rw [if_pos ((nI_leI (by omega) (by omega)).mpr (by omega))]
  | succ k ih =>
    intro f c bm x y bc R B N hc hf inv
    obtain ⟨f, rfl⟩ : ∃ g, f = g + 1 := ⟨f - 1, by omega⟩
    obtain ⟨q, R2, e1, q01, hq, aR⟩ := ir_r (f := f) (R := R) hn h17 hS (show c < 5000 by omega) (by omega)
    have nle : ¬ nI (5 ^ n) ≤ nI c := fun z => by have := (nI_leI (by omega) (by omega)).mp z; omega
    have hbm : bm ≤ 1000000 := by rcases inv with ⟨z, -⟩ | ⟨z, -⟩ <;> omega
    by_cases cT : ke_n n (dg_n n c) = ke_n n (fun i => S (18 + i))
    · have q1 := hq.mpr cT
      have hD := ro_d h hn h17 cT
      have gr := gd_rt (c := c) hn h17 hD h.2.1
      have hwb := wt_b h hn h17 hD
      obtain ⟨f2, b2, r1, r2, r3⟩ := fo_52 (k33 := M_X7_findOrder_33 (nI pe) (nf_a S) f) (P := nI pe) (x := nI 0) (y := nI 0) (bc := bc) (bm := nI bm) (v1 := nI (5 ^ n)) (v2 := nI c) (B := B) hn h17 aR n f 0 (cp_n S N) (by omega) (by omega)
      have cg : ∀ j, j < 46 → b2 j = rt_n S n c j := by
        intro j hj
        rw [r3 j]
        unfold rt_n
        by_cases z : 18 ≤ j ∧ j < 18 + n
        · rw [if_pos (by omega), if_pos z]
        · rw [if_neg (by omega), if_neg z, cp_i hj]
      have gb : gd_s pe b2 := gd_cg cg gr
      have r26 : rt_n S n c 26 = S 26 := rt_o (by omega)
      have s26 := h.2.2.1
      have b26 : b2 26 ≤ 999 := by rw [cg 26 (by omega), r26]; exact s26
      have ew := rf_wb (n := 24) (f := f2) (he := 0) (sp := 0) gb (by omega) (by omega)
      have hW : al_n pe (hs_n pe 24 (0, 0, b2)).2.2 = wt_n pe S n c := al_cg h5 (hs_cg 24 0 0 _ b2 gr (by omega) cg).2.2
      rw [hW] at ew
      have e2 : M_X7_findOrder_33 (nI pe) (nf_a S) (f + 1) x y bc (nI bm) R (nf_a N) B (nI (5 ^ n)) (nI c) = M_X7_findOrder_94 (M_X7_findOrder_33 (nI pe) (nf_a S) f) (nI pe) (nf_a S) f2 (nI (hs_n pe 24 (0, 0, b2)).1) (nI (hs_n pe 24 (0, 0, b2)).2.1) bc (nI bm) R2 (nf_a (hs_n pe 24 (0, 0, b2)).2.2) B (nI (5 ^ n)) (nI c) (nI (wt_n pe S n c)) (nI 0) := by
        show B_X7_findOrder_33 _ _ _ _ _ _ _ _ _ _ _ _ _ = _
        unfold B_X7_findOrder_33
        rw [if_neg nle, e1]
        simp only [bn_s]
        rw [q1, i1_0, rf_st (by omega)]
        simp only [bn_s]
        rw [show M_X7_findOrder_52 (M_X7_findOrder_33 (nI pe) (nf_a S) f) (nI pe) (nf_a S) f 0 0 bc (nI bm) R2 (nf_a (cp_n S N)) B (nI (5 ^ n)) (nI c) 0 = _ from r2, show M_X7_weightBehind (nI pe) f2 (nI 0) (nI 0) (nf_a b2) 24 = _ from ew]
        rfl
      rw [e2]
      by_cases cw : bm ≤ wt_n pe S n c
      · rw [fo_9k hn h17 hbm (by omega) cw (by omega), nI_1]
        refine ih f (c + 1) bm _ _ _ _ _ _ (by omega) (by omega) ?_
        rcases inv with ⟨z, -⟩ | ⟨z, b, aB, mn⟩
        · exact absurd cw (by omega)
        · refine Or.inr ⟨z, b, aB, ⟨by have := mn.1.1; omega, mn.1.2⟩, mn.2.1, fun d hd => ?_⟩
          by_cases e : d = c
          · subst e
            exact ⟨cw, fun _ => by have := mn.1.1; omega⟩
          · exact mn.2.2 d ⟨by have := hd.1; omega, hd.2⟩
      · obtain ⟨B2, r4, r5, -⟩ := fo_94 (k33 := M_X7_findOrder_33 (nI pe) (nf_a S) f) (P := nI pe) (x := nI (hs_n pe 24 (0, 0, b2)).1) (y := nI (hs_n pe 24 (0, 0, b2)).2.1) (bc := bc) (v1 := nI (5 ^ n)) (v2 := nI c) (nw := nf_a (hs_n pe 24 (0, 0, b2)).2.2) hn h17 aR hbm (show wt_n pe S n c < bm by omega) n f2 0 B (by omega) (by omega)
        rw [r4, nI_1]
        refine ih f (c + 1) (wt_n pe S n c) _ _ _ _ _ _ (by omega) (by omega) (Or.inr ⟨hwb, c, fun i hi => by rw [r5 i (by omega) hi]; exact aR i hi, ⟨by omega, cT⟩, rfl, fun d hd => ?_⟩)
        by_cases e : d = c
        · subst e
          exact ⟨Nat.le_refl _, fun _ => Nat.le_refl _⟩
        · have hdc : d < c := by have := hd.1; omega
          rcases inv with ⟨-, z⟩ | ⟨z, b, aB, mn⟩
          · exact absurd hd.2 (z d hdc)
          · have := (mn.2.2 d ⟨hdc, hd.2⟩).1
            exact ⟨by omega, fun _ => by omega⟩
    · have q0 : q = 0 := by
        rcases q01 with z | z
        · exact z
        · exact absurd (hq.mp z) cT
      have e2 : M_X7_findOrder_33 (nI pe) (nf_a S) (f + 1) x y bc (nI bm) R (nf_a N) B (nI (5 ^ n)) (nI c) = M_X7_findOrder_33 (nI pe) (nf_a S) f x y bc (nI bm) R2 (nf_a N) B (nI (5 ^ n)) (nI (c + 1)) := by
        show B_X7_findOrder_33 _ _ _ _ _ _ _ _ _ _ _ _ _ = _
        unfold B_X7_findOrder_33 B_X7_findOrder_140
        rw [if_neg nle, e1]
        simp only [bn_s]
        rw [q0, i0_0, nI_1]
      rw [e2]
      refine ih f (c + 1) bm _ _ _ _ _ _ (by omega) (by omega) ?_
      rcases inv with ⟨z, z2⟩ | ⟨z, b, aB, mn⟩
      · refine Or.inl ⟨z, fun d hd => ?_⟩
        by_cases e : d = c
        · rw [e]; exact cT
        · exact z2 d (by omega)
      · refine Or.inr ⟨z, b, aB, ⟨by have := mn.1.1; omega, mn.1.2⟩, mn.2.1, fun d hd => ?_⟩
        by_cases e : d = c
        · rw [e] at hd; exact absurd hd.2 cT
        · exact mn.2.2 d ⟨by have := hd.1; omega, hd.2⟩
theorem fo_4 {P bc bm : Int32} {R nw B : Nat → Int32} (hn : n ≤ 5) (h17 : S 17 = n) : ∀ (k f i : Nat), i + k = n → k < f → ∃ f2, f2 + k + 1 = f ∧ M_X7_findOrder_4 P (nf_a S) f x y bc bm R nw B (nI (5 ^ i)) (nI i) = M_X7_findOrder_33 P (nf_a S) f2 x y (-4) (nI 1000000) R nw B (nI (5 ^ n)) 0 := by
  intro k
  induction k with
  | zero =>
    intro f i hi hf
    obtain ⟨f, rfl⟩ : ∃ g, f = g + 1 := ⟨f - 1, by omega⟩
    obtain rfl : i = n := by omega
    refine ⟨f, by omega, ?_⟩
    show B_X7_findOrder_4 _ _ _ _ _ _ _ _ _ _ _ _ _ = _
    unfold B_X7_findOrder_4
    simp (disch := omega) only [show (17 : Int32) = nI 17 from rfl, gi_k, nI_clamp, nf_e, h17, nI_leI]
    rw [if_pos (Nat.le_refl _)]
    rfl
  | succ k ih =>
    intro f i hi hf
    obtain ⟨f, rfl⟩ : ∃ g, f = g + 1 := ⟨f - 1, by omega⟩
    obtain ⟨f2, r1, r2⟩ := ih f (i + 1) (by omega) (by omega)
    refine ⟨f2, by omega, ?_⟩
    rw [← r2]
    show B_X7_findOrder_4 _ _ _ _ _ _ _ _ _ _ _ _ _ = _
    unfold B_X7_findOrder_4
    simp (disch := omega) only [show (17 : Int32) = nI 17 from rfl, show (5 : Int32) = nI 5 from rfl, gi_k, nI_clamp, nf_e, h17, nI_leI, nm_s, pk_mul, nI_1]
    rw [if_neg (by omega), Nat.pow_succ]
theorem fo_r {bc bm : Int32} {R B : Nat → Int32} (h : bk_s pe S w v) (hn : n ≤ 5) (h17 : S 17 = n) (hf : 4000 < f) : ∃ m b x2 y2 bc2 R2 nw2 B2, M_X7_findOrder (nI pe) (nf_a S) f x y bc bm R (nf_a N) B = some (nI m, x2, y2, bc2, nI m, R2, nw2, B2) ∧ ar_p n B2 (dg_n n b) ∧ mn_p (fun d => d < 5 ^ n ∧ ke_n n (dg_n n d) = ke_n n (fun i => S (18 + i))) (wt_n pe S n) m b := by
  have hr : ∀ i, i < n → S (18 + i) < 5 := fun i hi => by have := h.2.1.1; have := h.2.1.2.2.2.2.2.2 i (by omega); omega
  have hp : 5 ^ n ≤ 3125 := Nat.pow_le_pow_right (n := 5) (by omega) hn
  obtain ⟨z1, z2⟩ := dg_c hn (r := fun i => S (18 + i)) hr
  obtain ⟨f2, r1, r2⟩ := fo_4 (P := nI pe) (x := x) (y := y) (bc := bc) (bm := bm) (R := R) (nw := nf_a N) (B := B) hn h17 n f 0 (by omega) (by omega)
  unfold M_X7_findOrder B_X7_findOrder_0
  rw [show M_X7_findOrder_4 (nI pe) (nf_a S) f x y bc bm R (nf_a N) B 1 0 = _ from r2]
  exact fo_33 h hn h17 z1 (ke_cg z2) hp (5 ^ n) f2 0 1000000 x y (-4) R B N (by omega) (by omega) (Or.inl ⟨rfl, fun d hd => absurd hd (by omega)⟩)
theorem op_order {bc bm : Int32} {A B R B0 : Nat → Int32} (h : bk_s pe S w v) (hf : 4000 < f) (z : Int32) : ∃ r A2 t2 B2 q, M_X6_order w f A t B z = some (r, A2, t2, B2) ∧ M_X7_order (nI pe) (nf_a S) f x y bc bm R (nf_a N) B0 z = some (r, q) := by
  have hw : w.2.1 = nI (S 17) := by obtain ⟨he, sp, K, G, B0, R, rfl, pt⟩ := h.1; rfl
  have h8 := h.2.1.2.2.2.1
  have core : (z = 0 ∨ ∃ j, j < 5 ∧ z = nI (10 + j)) → ∃ r A2 t2 B2 q, B_X6_order_17 w f A t B z = some (r, A2, t2, B2) ∧ B_X7_order_20 (nI pe) (nf_a S) f x y bc bm R (nf_a N) B0 z = some (r, q) := by
    intro hz
    unfold B_X6_order_17 B_X7_order_20
    rw [hw]
    simp (disch := omega) only [show (17 : Int32) = nI 17 from rfl, show (5 : Int32) = nI 5 from rfl, gi_k, nI_clamp, nf_e, nI_leI]
    by_cases c : S 17 ≤ 5
    · rw [if_pos c, if_pos c]
      obtain ⟨m, b, A2, t2, B2, e1, hm, a1, mn1⟩ := fb_r (f := f) (t := t) (A := A) (B := B) h c rfl (by omega)
      obtain ⟨m2, b2, x2, y2, bc2, R2, nw2, B3, e2, a2, mn2⟩ := fo_r (f := f) (x := x) (y := y) (N := N) (bc := bc) (bm := bm) (R := R) (B := B0) h c rfl hf
      obtain ⟨rfl, rfl⟩ := mn_u mn1 mn2 (fun _ => Iff.rfl)
      rw [e1, e2]
      simp only [bn_s]
      rcases hz with rfl | ⟨j, hj, rfl⟩
      · rw [i0_0, i0_0]
        exact ⟨_, _, _, _, _, rfl, rfl⟩
      · have ne : ¬ nI (10 + j) = 0 := nI_ne0 (by omega) (by omega)
        rw [if_neg ne, if_neg ne, show (10 : Int32) = nI 10 from rfl, pk_sub (by omega), show 10 + j - 10 = j by omega]
        simp (disch := omega) only [nI_leI, gi_k, nI_clamp]
        by_cases c2 : S 17 ≤ j
        · rw [if_pos c2, if_pos c2]
          exact ⟨_, _, _, _, _, rfl, rfl⟩
        · rw [if_neg c2, if_neg c2, (a1 j (by omega)).1, (a2 j (by omega)).1]
          exact ⟨_, _, _, _, _, rfl, rfl⟩
    · rw [if_neg c, if_neg c]
      exact ⟨_, _, _, _, _, rfl, rfl⟩
  unfold M_X6_order B_X6_order_0 M_X7_order B_X7_order_0
  rw [in_k z 10 14 10 14 (by decide) (by decide)]
  by_cases c : z = 0
  · rw [if_pos c, if_pos c]
    exact core (Or.inl c)
  · rw [if_neg c, if_neg c]
    rcases wi_c z 10 14 10 14 rfl rfl (by omega) (by omega) with ⟨m, m1, m2, rfl, e4⟩ | e4
    · rw [e4]
      simp only [bn_s, i1_0]
      exact core (Or.inr ⟨m - 10, by omega, by rw [show 10 + (m - 10) = m by omega]⟩)
    · rw [e4]
      exact ⟨_, _, _, _, _, rfl, rfl⟩
end
