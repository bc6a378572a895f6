/-! spare, swap, runs, one -/
def jy_p (least which bc : Int32) (bm : Nat) : Prop := least = nI bm ∧ which = bc ∧ bm ≤ 100000 ∧ (bc = -4 ∨ ∃ c, c < 1000 ∧ bc = nI c)
theorem jy_end {least which bc : Int32} {bm : Nat} (j : jy_p least which bc bm) (z : Int32) : M_X7_judged bc (nI bm) z = some (if z = 0 then which else if which = -4 then which else least) := by
  unfold M_X7_judged B_X7_judged_0
  obtain ⟨rfl, rfl, hb, rfl | ⟨c, hc, rfl⟩⟩ := j
  · rw [if_pos rfl, if_pos rfl]; split <;> rfl
  · rw [if_neg (n4_ne (by omega)), if_neg (n4_ne (by omega))]
    split <;> rfl
theorem jy_st {least which bc : Int32} {bm m c : Nat} (j : jy_p least which bc bm) (hm : m ≤ 100000) (hc : c < 1000) : jy_p (if least ≤ nI m then least else nI m) (if least ≤ nI m then which else nI c) (if bm ≤ m then (bc, nI bm) else (nI c, nI m)).1 (if bm ≤ m then bm else m) ∧ (if bm ≤ m then (bc, nI bm) else (nI c, nI m)).2 = nI (if bm ≤ m then bm else m) := by
  obtain ⟨rfl, rfl, hb, h⟩ := j
  have e : (nI bm ≤ nI m) ↔ bm ≤ m := nI_leI (by omega) (by omega)
  by_cases c2 : bm ≤ m
  · rw [if_pos (e.mpr c2), if_pos (e.mpr c2), if_pos c2, if_pos c2]
    exact ⟨⟨rfl, rfl, hb, h⟩, rfl⟩
  · rw [if_neg (fun q => c2 (e.mp q)), if_neg (fun q => c2 (e.mp q)), if_neg c2, if_neg c2]
    exact ⟨⟨rfl, rfl, hm, Or.inr ⟨c, hc, rfl⟩⟩, rfl⟩
/-- a turn less -/
def sh_n (a : Nat → Nat) (j : Nat) : Nat → Nat := fun q => if 18 + j ≤ q ∧ q < 25 then a (q + 1) else a q
def dr_n (a : Nat → Nat) (j : Nat) : Nat → Nat := up_n (sh_n a j) 17 (a 17 - 1)
theorem sh_i {a : Nat → Nat} {j q : Nat} (h : 18 + j ≤ q) (h2 : q < 25) : sh_n a j q = a (q + 1) := if_pos ⟨h, h2⟩
theorem sh_o {a : Nat → Nat} {j q : Nat} (h : q < 18 + j ∨ 25 ≤ q) : sh_n a j q = a q := if_neg (by omega)
theorem gd_dr {pe j : Nat} {a : Nat → Nat} (g : gd_s pe a) (hj : j < a 17) : gd_s pe (dr_n a j) ∧ dr_n a j 26 = a 26 := by
  obtain ⟨h5, h15, h16, h17, h26, hq, hr⟩ := g
  unfold dr_n
  refine ⟨⟨h5, ?_, ?_, ?_, ?_, fun q hq2 => ?_, fun i hi => ?_⟩, ?_⟩
  · rw [up_o (by omega), sh_o (by omega)]; exact h15
  · rw [up_o (by omega), sh_o (by omega)]; exact h16
  · rw [up_s]; omega
  · rw [up_o (by omega), sh_o (by omega)]; exact h26
  · rw [up_o (by omega), up_o (by omega), up_o (by omega), sh_o (by omega), sh_o (by omega), sh_o (by omega)]; exact hq q hq2
  · rw [up_s] at hi
    rw [up_o (by omega)]
    by_cases c : j ≤ i
    · rw [sh_i (by omega) (by omega), Nat.add_assoc]; exact hr _ (by omega)
    · rw [sh_o (by omega)]; exact hr _ (by omega)
  · rw [up_o (by omega), sh_o (by omega)]
theorem cf_d2 {pe m he sp : Nat} {a : Nat → Nat} {K G B : Nat → Int32} (h8 : a 17 ≤ 8) : ∀ (k f i : Nat) (R : Nat → Int32), i + k = a 17 → 1 ≤ i → k < f → ∃ R2 : Nat → Int32, M_X5_dropTurn_4 f (mk_w pe a he sp K G B R) (nI i) = some (nI pe, nI (a 17 - 1), nI (a 15), nI (a 16), nI (a 26), nI he, nI sp, K, G, B, R2) ∧ ∀ q, q + 1 < a 17 → R2 q = if i ≤ q + 1 then R (q + 1) else R q := by
  intro k
  induction k with
  | zero =>
    intro f i R hi h1 hf
    obtain ⟨f, rfl⟩ : ∃ g, f = g + 1 := ⟨f - 1, by omega⟩
    refine ⟨R, ?_, fun q hq => by rw [if_neg (by omega)]⟩
    show B_X5_dropTurn_4 _ _ _ _ = _
    simp (disch := omega) only [B_X5_dropTurn_4, nI_leI, nm_s]
    rw [if_pos (by omega), show (1 : Int32) = nI 1 from rfl, pk_sub (by omega)]
  | succ k ih =>
    intro f i R hi h1 hf
    obtain ⟨f, rfl⟩ : ∃ g, f = g + 1 := ⟨f - 1, by omega⟩
    obtain ⟨R2, e, p⟩ := ih f (i + 1) (upd R (i - 1) (R i)) (by omega) (by omega) (by omega)
    refine ⟨R2, ?_, fun q hq => ?_⟩
    · show B_X5_dropTurn_4 _ _ _ _ = _
      unfold B_X5_dropTurn_4
      simp (disch := omega) only [nI_leI, nm_s, nI_1, gi_k, nI_clamp, show (1 : Int32) = nI 1 from rfl, pk_sub, nI_add]
      rw [if_neg (by omega)]
      exact e
    · rw [p q hq]
      by_cases c : i + 1 ≤ q + 1
      · rw [if_pos c, if_pos (by omega), pk_un (by omega)]
      · rw [if_neg c]
        by_cases c2 : i = q + 1
        · rw [if_pos (by omega), show i - 1 = q by omega, pk_us, c2]
        · rw [if_neg (by omega), pk_un (by omega)]
theorem cf_dt {pe j f he sp : Nat} {a : Nat → Nat} {K G B R : Nat → Int32} (g : gd_s pe a) (hj : j < a 17) (hf : 20 < f) (pt : pt_w pe a K G B R) : ∃ R2 : Nat → Int32, M_X5_dropTurn f (mk_w pe a he sp K G B R) (nI j) = some (mk_w pe (dr_n a j) he sp K G B R2) ∧ pt_w pe (dr_n a j) K G B R2 := by
  obtain ⟨h5, h15, h16, h17, h26, hq, hr⟩ := g
  obtain ⟨R2, e, p⟩ := cf_d2 (pe := pe) (m := 0) (he := he) (sp := sp) (a := a) (K := K) (G := G) (B := B) h17 (a 17 - (j + 1)) f (j + 1) R (by omega) (by omega) (by omega)
  refine ⟨R2, ?_, fun q hq2 => ?_, fun i hi => ?_⟩
  · unfold M_X5_dropTurn B_X5_dropTurn_0
    rw [nm_s, nI_1, e]
    unfold dr_n mk_w
    rw [up_s, up_o (by omega), sh_o (by omega), up_o (by omega), sh_o (by omega), up_o (by omega), sh_o (by omega)]
  · unfold dr_n
    rw [up_o (by omega), up_o (by omega), up_o (by omega), sh_o (by omega), sh_o (by omega), sh_o (by omega)]
    exact pt.1 q hq2
  · unfold dr_n at hi
    rw [up_s] at hi
    unfold dr_n
    rw [up_o (by omega), p i (by omega)]
    by_cases c : j ≤ i
    · rw [if_pos (by omega), sh_i (by omega) (by omega), Nat.add_assoc]; exact pt.2 _ (by omega)
    · rw [if_neg (by omega), sh_o (by omega)]; exact pt.2 _ (by omega)
section
variable {pe f : Nat} {S N : Nat → Nat} {w t : s_W} {v : s_V} {x y : Int32}
theorem rf_d2 {k35 : Int32 → Int32 → Int32 → Int32 → (Nat → Int32) → Int32 → Int32 → Int32 → Option (Int32 × Int32 × Int32 × Int32 × Int32 × (Nat → Int32))} {P : Int32} {st : Nat → Int32} {bc bm z c : Int32} {n : Nat} : ∀ (k f j : Nat) (a : Nat → Nat), j + k = 7 → k < f → 1 ≤ a 17 → a 17 ≤ 8 → ∃ f2, f2 + k + 1 = f ∧ M_X7_spare_53 k35 P st f x y bc bm (nf_a a) (nI n) z c (nI j) = (M_X7_hoursGo P f2 x y (nf_a (dr_n a j)) (nI n)).bind (fun u101 => (M_X7_judges bc bm c u101.2.1).bind (fun u110 => k35 u101.1 u101.2.1 u110.1 u110.2 u101.2.2 (nI n) z (c + 1))) := by
  intro k
  induction k with
  | zero =>
    intro f j a hj hf h1 h8
    obtain ⟨f, rfl⟩ : ∃ g, f = g + 1 := ⟨f - 1, by omega⟩
    refine ⟨f, by omega, ?_⟩
    show B_X7_spare_53 _ _ _ _ _ _ _ _ _ _ _ _ _ _ = _
    simp (disch := omega) only [B_X7_spare_53, show (7 : Int32) = nI 7 from rfl, show (17 : Int32) = nI 17 from rfl, nI_leI, gi_k, nI_clamp, nf_e, nm_s]
    rw [if_pos (by omega), show nI (a 17) - 1 = nI (a 17 - 1) from pk_sub (b := 1) h1, nf_u]
    have e : up_n a 17 (a 17 - 1) = dr_n a j := by
      unfold dr_n
      congr 1
      funext q
      rw [sh_o (by omega)]
    rw [e]
  | succ k ih =>
    intro f j a hj hf h1 h8
    obtain ⟨f, rfl⟩ : ∃ g, f = g + 1 := ⟨f - 1, by omega⟩
    have e17 : up_n a (18 + j) (a (18 + j + 1)) 17 = a 17 := up_o (by omega)
    obtain ⟨f2, hf2, e⟩ := ih f (j + 1) (up_n a (18 + j) (a (18 + j + 1))) (by omega) (by omega) (by omega) (by omega)
    refine ⟨f2, by omega, ?_⟩
    have e3 : dr_n (up_n a (18 + j) (a (18 + j + 1))) (j + 1) = dr_n a j := by
      unfold dr_n
      rw [e17]
      congr 1
      funext q
      by_cases c1 : 18 + j ≤ q ∧ q < 25
      · rw [sh_i c1.1 c1.2]
        by_cases c2 : q = 18 + j
        · rw [c2, sh_o (by omega), up_s]
        · rw [sh_i (by omega) (by omega), up_o (by omega)]
      · rw [sh_o (by omega), sh_o (by omega), up_o (by omega)]
    rw [e3] at e
    rw [← e]
    show B_X7_spare_53 _ _ _ _ _ _ _ _ _ _ _ _ _ _ = _
    simp (disch := omega) only [B_X7_spare_53, show (7 : Int32) = nI 7 from rfl, show (18 : Int32) = nI 18 from rfl, nI_leI, nI_add, gi_k, nI_clamp, nf_e, nm_s, nf_u, nI_1]
    rw [if_neg (by omega)]
theorem sp_l {n : Nat} {z : Int32} (h : bk_s pe S w v) (hn : n ≤ 60) : ∀ (k f i : Nat) (t : s_W) (x y : Int32) (N : Nat → Nat) (least which bc : Int32) (bm : Nat), i + k = S 17 → k + 400 < f → jy_p least which bc bm → ∃ r t2 q, M_X6_spare_55 w f t (nI n) z least which (nI i) = some (r, t2) ∧ M_X7_spare_35 (nI pe) (nf_a S) f x y bc (nI bm) (nf_a N) (nI n) z (nI i) = some (r, q) := by
  have h5 := h.2.1.1
  have h17 := h.2.1.2.2.2.1
  have ht : w.2.1 = nI (S 17) := by
    obtain ⟨⟨he, sp, K, G, B, R, hw, pt⟩, -⟩ := id h
    rw [hw]
  intro k
  induction k with
  | zero =>
    intro f i t x y N least which bc bm hi hf j
    obtain ⟨f, rfl⟩ : ∃ g, f = g + 1 := ⟨f - 1, by omega⟩
    refine ⟨if z = 0 then which else if which = -4 then which else least, t, (x, y, bc, nI bm, nf_a N), ?_, ?_⟩
    · show B_X6_spare_55 _ _ _ _ _ _ _ _ _ = _
      simp (disch := omega) only [B_X6_spare_55, ht, nI_leI]
      rw [if_pos (by omega)]
      repeat' split
      all_goals rfl
    · show B_X7_spare_35 _ _ _ _ _ _ _ _ _ _ _ _ = _
      unfold B_X7_spare_35
      rw [jy_end j]
      simp (disch := omega) only [show (17 : Int32) = nI 17 from rfl, gi_k, nI_clamp, nf_e, nI_leI]
      rw [if_pos (by omega)]
      rfl
  | succ k ih =>
    intro f i t x y N least which bc bm hi hf j
    obtain ⟨f, rfl⟩ : ∃ g, f = g + 1 := ⟨f - 1, by omega⟩
    obtain ⟨K, G, B, R, e, pt, g, g26, hw⟩ := sb_s h N t
    have c17 : cp_n S N 17 = S 17 := cp_i (by omega)
    obtain ⟨R2, ed, pd⟩ := cf_dt (j := i) (f := f) (he := 0) (sp := 0) g (by omega) (by omega) pt
    obtain ⟨gdd, g26d⟩ := gd_dr (j := i) g (by omega)
    obtain ⟨G2, e4, p4⟩ := cf_pa (n := n) (f := f) (he := 0) (sp := 0) gdd (by omega) (by omega) pd
    obtain ⟨i1, i2, i3, i4, i5⟩ := gd_hs n 0 0 (dr_n (cp_n S N) i) gdd (by omega)
    obtain ⟨f2, hf2, er⟩ := rf_d2 (k35 := M_X7_spare_35 (nI pe) (nf_a S) f) (P := nI pe) (st := nf_a S) (bc := bc) (bm := nI bm) (z := z) (c := nI i) (n := n) (x := 0) (y := 0) (7 - i) f i (cp_n S N) (by omega) (by omega) (by omega) (by omega)
    have eh := rf_hg (n := n) (f := f2) (he := 0) (sp := 0) gdd (by omega) (by omega)
    generalize hY : hs_n pe n (0, 0, dr_n (cp_n S N) i) = Y at *
    have hbm : bm < 2 ^ 31 := by obtain ⟨-, -, hb, -⟩ := j; omega
    have e2 : M_X7_spare_35 (nI pe) (nf_a S) (f + 1) x y bc (nI bm) (nf_a N) (nI n) z (nI i) = (M_X7_judges bc (nI bm) (nI i) (nI Y.2.1)).bind (fun u85 => M_X7_spare_35 (nI pe) (nf_a S) f (nI Y.1) (nI Y.2.1) u85.1 u85.2 (nf_a Y.2.2) (nI n) z (nI (i + 1))) := by
      show B_X7_spare_35 _ _ _ _ _ _ _ _ _ _ _ _ = _
      unfold B_X7_spare_35
      rw [rf_st (by omega)]
      simp (disch := omega) only [bn_s, show (17 : Int32) = nI 17 from rfl, gi_k, nI_clamp, nf_e, nI_leI]
      rw [if_neg (by omega), er, show (0 : Int32) = nI 0 from rfl, eh]
      simp only [bn_s]
      rw [nI_1]
    have e1 : M_X6_spare_55 w (f + 1) t (nI n) z least which (nI i) = M_X6_spare_55 w f (mk_w pe Y.2.2 Y.1 Y.2.1 K G2 B R2) (nI n) z (if least ≤ nI Y.2.1 then least else nI Y.2.1) (if least ≤ nI Y.2.1 then which else nI i) (nI (i + 1)) := by
      show B_X6_spare_55 _ _ _ _ _ _ _ _ _ = _
      unfold B_X6_spare_55
      rw [e]
      simp only [bn_s]
      rw [ed]
      simp only [bn_s]
      rw [e4]
      simp (disch := omega) only [bn_s, B_X6_spare_118, ht, nI_leI, nI_1]
      rw [if_neg (by omega)]
      by_cases c : least ≤ nI Y.2.1
      · rw [if_pos c, if_pos c, if_pos c]
      · rw [if_neg c, if_neg c, if_neg c]
    rw [e1, e2, rf_jd hbm (by omega)]
    simp only [bn_s]
    obtain ⟨j1, j2⟩ := jy_st (m := Y.2.1) (c := i) j (by omega) (by omega)
    rw [j2]
    exact ih f (i + 1) _ _ _ _ _ _ _ _ (by omega) (by omega) j1
theorem op_spare {bc bm : Int32} (h : bk_s pe S w v) (hf : 500 < f) (z1 z2 : Int32) : ∃ r t2 q, M_X6_spare w f t z1 z2 = some (r, t2) ∧ M_X7_spare (nI pe) (nf_a S) f x y bc bm (nf_a N) z1 z2 = some (r, q) := by
  have h17 := h.2.1.2.2.2.1
  obtain ⟨K, G, B, R, e, pt, g, g26, hw⟩ := sb_s h N t
  unfold M_X6_spare B_X6_spare_0 M_X7_spare B_X7_spare_0
  rw [fa_e, pa_e]
  rcases wi_c z1 0 60 0 60 rfl rfl (by omega) (by omega) with ⟨n, n1, n2, rfl, e3⟩ | e3
  · rw [e3]
    simp only [bn_s, i1_0]
    rcases wi_c z2 0 1 0 1 rfl rfl (by omega) (by omega) with ⟨m, m1, m2, rfl, e4⟩ | e4
    · rw [e4, e, rf_st (by omega)]
      simp only [bn_s, i1_0]
      obtain ⟨G2, e5, p5⟩ := cf_pa (n := n) (f := f) (he := 0) (sp := 0) g (by omega) (by omega) pt
      obtain ⟨i1, i2, i3, i4, i5⟩ := gd_hs n 0 0 (cp_n S N) g (by omega)
      rw [e5, show M_X7_hoursGo (nI pe) f 0 0 (nf_a (cp_n S N)) (nI n) = _ from rf_hg (he := 0) (sp := 0) g (by omega) (by omega)]
      simp only [bn_s, M_X7_startsJudging, B_X7_startsJudging_0]
      exact sp_l h n2 (S 17) f 0 _ _ _ _ _ _ _ _ (by omega) (by omega) ⟨rfl, rfl, by omega, Or.inl rfl⟩
    · rw [e4]
      exact ⟨_, _, _, rfl, rfl⟩
  · rw [e3]
    exact ⟨_, _, _, rfl, rfl⟩
end
