/-! drift, count, sheet, lay -/
section
variable {pe f : Nat} {S N : Nat → Nat} {w t : s_W} {v : s_V} {x y : Int32}
theorem pt_26 {a : Nat → Nat} {K G B R : Nat → Int32} {k : Nat} (g : gd_s pe a) (pt : pt_w pe a K G B R) : pt_w pe (up_n a 26 k) K G B R := by
  have h17 := g.2.2.2.1
  have h5 := g.1
  refine ⟨fun q hq => ?_, fun i hi => ?_⟩
  · simp (disch := omega) only [up_o]; exact pt.1 q hq
  · rw [up_o (by omega)] at hi
    rw [up_o (by omega)]; exact pt.2 i hi
theorem dr_l {n : Nat} {z : Int32} {st : Nat → Int32} {K B R : Nat → Int32} (hn : n ≤ 60) (h0 : 0 < pe) : ∀ (k f i he sp c : Nat) (s : Int32) (a : Nat → Nat) (G : Nat → Int32), i + k = n → k + 400 < f → gd_s pe a → c + k ≤ 2000 → pt_w pe a K G B R → ∃ r t2 q, M_X6_drift_55 w f (mk_w pe a he sp K G B R) (nI n) z (nI pe) s (nI i) = some (r, t2) ∧ M_X7_drift_41 (nI pe) st f (nI he) (nI sp) (nf_a (up_n a 26 c)) (nI n) z s (nI i) = some (r, q) := by
  intro k
  induction k with
  | zero =>
    intro f i he sp c s a G hi hf g hc pt
    obtain ⟨f, rfl⟩ : ∃ g, f = g + 1 := ⟨f - 1, by omega⟩
    have e3 : al_n pe (up_n a 26 c) = al_n pe a := by
      have h5 := g.1
      unfold al_n
      rw [up_o (by omega)]
      congr 1
      have : ∀ (n i : Nat), i + n ≤ 5 → sr_n (fun q => up_n a 26 c (3 * q + 1)) i n = sr_n (fun q => a (3 * q + 1)) i n := by
        intro n
        induction n with
        | zero => intro i _; rfl
        | succ n ih => intro i hi; rw [sr_n, sr_n, ih (i + 1) (by omega), up_o (by omega)]
      exact this pe 0 (by omega)
    have e1 : M_X6_drift_55 w (f + 1) (mk_w pe a he sp K G B R) (nI n) z (nI pe) s (nI i) = some (if z = 0 then nI (al_n pe a) else nI sp, mk_w pe a he sp K G B R) := by
      show B_X6_drift_55 _ _ _ _ _ _ _ _ _ = _
      unfold B_X6_drift_55
      rw [cf_al g.1 (by omega) pt]
      simp (disch := omega) only [nI_leI, bn_s]
      rw [if_pos (by omega)]
      split <;> rfl
    have e2 : M_X7_drift_41 (nI pe) st (f + 1) (nI he) (nI sp) (nf_a (up_n a 26 c)) (nI n) z s (nI i) = some (if z = 0 then nI (al_n pe a) else nI sp, nI he, nI sp, nf_a (up_n a 26 c)) := by
      show B_X7_drift_41 _ _ _ _ _ _ _ _ _ _ _ = _
      unfold B_X7_drift_41
      rw [rf_al g.1 (by omega), e3]
      simp (disch := omega) only [nI_leI, bn_s]
      rw [if_pos (by omega)]
      split <;> rfl
    exact ⟨_, _, _, e1, e2⟩
  | succ k ih =>
    intro f i he sp c s a G hi hf g hc pt
    obtain ⟨f, rfl⟩ : ∃ g, f = g + 1 := ⟨f - 1, by omega⟩
    have h5 := g.1
    obtain ⟨s2, hs2⟩ : ∃ s2, s * 1103515245 + 12345 = s2 := ⟨_, rfl⟩
    obtain ⟨got, hg, eg1, eg2⟩ := dr_e s2
    have m1 : got / 8 % pe < pe := Nat.mod_lt _ h0
    have m2 : got % pe < pe := Nat.mod_lt _ h0
    have m3 : got / 64 % 3 < 3 := Nat.mod_lt _ (by omega)
    have d8 : nI got / 8 = nI (got / 8) := pk_div (d := 8) (by omega) (by omega) (by omega)
    have d64 : nI got / 64 = nI (got / 64) := pk_div (d := 64) (by omega) (by omega) (by omega)
    have r8 : nI (got / 8) - nI (got / 8) / nI pe * nI pe = nI (got / 8 % pe) := pk_rem (by omega) (by omega) (by omega)
    have r64 : nI (got / 64) - nI (got / 64) / 3 * 3 = nI (got / 64 % 3) := pk_rem (d := 3) (by omega) (by omega) (by omega)
    have rg : nI got - nI got / nI pe * nI pe = nI (got % pe) := pk_rem (by omega) (by omega) (by omega)
    have q1 := (g.2.2.2.2.2.1 _ m1).2.1
    have ga := gd_G (x := min 99 (a (3 * (got / 8 % pe) + 1) + got / 64 % 3)) g m1 (by omega)
    have pa := pt_G (x := min 99 (a (3 * (got / 8 % pe) + 1) + got / 64 % 3)) g m1 pt
    have eb : ∀ j, j ≠ 26 → up_n a 26 c j = a j := fun j hj => up_o hj
    have gb : gd_s pe (up_n (up_n a (3 * (got / 8 % pe) + 1) (min 99 (a (3 * (got / 8 % pe) + 1) + got / 64 % 3))) 26 c) := gd_26 ga (by omega)
    obtain ⟨G2, e4, p4⟩ := cf_wh (f := f) (he := he) (sp := sp) ga m2 (by omega) pa
    have e5 := rf_wh (f := f) (he := he) (sp := sp) gb m2 (by omega)
    rw [wh_26 h5 m2] at e5
    rw [mk_p (p := 0) (by omega)] at e4
    obtain ⟨g1, -, -, -, -⟩ := gd_wh (he := he) (sp := sp) ga m2
    have ec := cf_gr (x1 := nI pe) (x2 := nI (a 17)) (x3 := nI (a 15)) (x4 := nI (a 16)) (x5 := nI (a 26)) (x6 := nI he) (x7 := nI sp) (K := K) (B := B) (R := R) (v := got / 64 % 3) rfl h5 m1 (pt.1 _ m1).2.1 q1 (by omega)
    generalize hY : wh_n pe (got % pe) (he, sp, up_n a (3 * (got / 8 % pe) + 1) (min 99 (a (3 * (got / 8 % pe) + 1) + got / 64 % 3))) = Y at *
    have e1 : M_X6_drift_55 w (f + 1) (mk_w pe a he sp K G B R) (nI n) z (nI pe) s (nI i) = M_X6_drift_55 w f (mk_w pe Y.2.2 Y.1 Y.2.1 K G2 B R) (nI n) z (nI pe) s2 (nI (i + 1)) := by
      show B_X6_drift_55 _ _ _ _ _ _ _ _ _ = _
      unfold B_X6_drift_55
      rw [hs2]
      simp only [nm_s, eg1]
      simp (disch := omega) only [nI_leI, gz_k, d8, d64, r8, r64, rg, nI_1]
      rw [if_neg (by omega), ec]
      simp only [bn_s]
      rw [e4]
      simp only [bn_s]
    have e2 : M_X7_drift_41 (nI pe) st (f + 1) (nI he) (nI sp) (nf_a (up_n a 26 c)) (nI n) z s (nI i) = M_X7_drift_41 (nI pe) st f (nI Y.1) (nI Y.2.1) (nf_a (up_n Y.2.2 26 (c + 1))) (nI n) z s2 (nI (i + 1)) := by
      show B_X7_drift_41 _ _ _ _ _ _ _ _ _ _ _ = _
      unfold B_X7_drift_41
      rw [hs2]
      simp only [nm_s, eg2]
      have ef : ∀ z1 : Nat, z1 ≤ 99 → M_X7_lesser 99 (nI z1 + nI (got / 64 % 3)) = some (nI (min 99 (z1 + got / 64 % 3))) := by
        intro z1 hz
        rw [nI_add]
        exact rf_le (x := 99) (by omega) (by omega)
      have eo : M_X7_of (nf_a (up_n a 26 c)) (nI (got / 8 % pe)) 1 = some (nI (a (3 * (got / 8 % pe) + 1))) := by
        have := rf_of (a := up_n a 26 c) (p := got / 8 % pe) (k := 1) (by omega)
        rw [eb _ (by omega)] at this
        exact this
      have ebo : M_X7_becomesOf (nf_a (up_n a 26 c)) (nI (got / 8 % pe)) 1 (nI (min 99 (a (3 * (got / 8 % pe) + 1) + got / 64 % 3))) = some (nf_a (up_n (up_n a (3 * (got / 8 % pe) + 1) (min 99 (a (3 * (got / 8 % pe) + 1) + got / 64 % 3))) 26 c)) := by
        have := rf_bo (a := up_n a 26 c) (p := got / 8 % pe) (k := 1) (v := min 99 (a (3 * (got / 8 % pe) + 1) + got / 64 % 3)) (by omega)
        rw [up_c (by omega)] at this
        exact this
      simp (disch := omega) only [nI_leI, gz_k, d8, d64, r8, r64, rg]
      rw [if_neg (by omega), eo]
      simp only [bn_s]
      rw [ef _ q1]
      simp only [bn_s]
      rw [ebo]
      simp only [bn_s]
      rw [e5]
      simp (disch := omega) only [bn_s, show (26 : Int32) = nI 26 from rfl, gi_k, nI_clamp, nf_e, up_s, nI_1, nf_u, uu_n]
    rw [e1, e2]
    exact ih f (i + 1) Y.1 Y.2.1 (c + 1) _ Y.2.2 G2 (by omega) (by omega) g1 (by omega) p4
theorem op_drift (h : bk_s pe S w v) (hf : 600 < f) (z1 z2 z3 : Int32) : ∃ r t2 q, M_X6_drift w f t z1 z2 z3 = some (r, t2) ∧ M_X7_drift (nI pe) (nf_a S) f x y (nf_a N) z1 z2 z3 = some (r, q) := by
  obtain ⟨K, G, B, R, e, pt, g, g26, hw⟩ := sb_s h N t
  have h5 := g.1
  unfold M_X6_drift B_X6_drift_0 M_X7_drift B_X7_drift_0
  rw [in_k z2 1 60 1 60 (by decide) (by decide), pa_e]
  rcases wi_c z2 1 60 1 60 rfl rfl (by omega) (by omega) with ⟨n, n1, n2, rfl, e3⟩ | e3
  · rw [e3]
    simp only [bn_s, i1_0]
    rcases wi_c z3 0 1 0 1 rfl rfl (by omega) (by omega) with ⟨m, m1, m2, rfl, e4⟩ | e4
    · rw [e4, e, rf_st (by omega), hw]
      simp only [bn_s, i1_0]
      by_cases c : pe = 0
      · subst c
        exact ⟨_, _, _, rfl, rfl⟩
      · rw [if_pos (show 0 < nI pe from (nI_ltI (a := 0) (by omega) (by omega)).mpr (by omega)), if_neg (nI_ne0 (by omega) (by omega))]
        have es : up_n (cp_n S N) 26 (cp_n S N 26) = cp_n S N := by
          funext q
          by_cases e9 : q = 26
          · rw [e9, up_s]
          · rw [up_o e9]
        obtain ⟨r, t2, q, a1, a2⟩ := dr_l (w := w) (z := nI m) (st := nf_a S) (n := n) n2 (show 0 < pe by omega) n f 0 0 0 (cp_n S N 26) z1 (cp_n S N) G (by omega) (by omega) g (by omega) pt
        rw [es] at a2
        exact ⟨r, t2, q, a1, a2⟩
    · rw [e4]
      exact ⟨_, _, _, rfl, rfl⟩
  · rw [e3]
    exact ⟨_, _, _, rfl, rfl⟩
end
/-- a sheet, in the class and in the reference -/
def sh_r (L Z C : Nat → Int32) (k : Nat) (s : s_S) : Prop := (L k = -4 ∧ s.1 = -1) ∨ (∃ l n, l ≤ 2 ∧ n ≤ 40 ∧ L k = nI l ∧ s.1 = nI l ∧ Z k = nI n ∧ s.2.1 = nI n ∧ ∀ i, i < 40 → s.2.2 i = C (40 * k + i))
def us_f (sf : Nat → s_S) (k : Nat) (s : s_S) : Nat → s_S := fun j => if j = k then s else sf j
def sr_4 (L Z C : Nat → Int32) (sf : Nat → s_S) : Prop := ∀ k, k < 4 → sh_r L Z C k (sf k)
theorem cf_fi : ∀ (k f i : Nat) (A : Nat → Int32), i + k = 40 → k < f → ∃ A2, M_J7_fill_53178_5 40 f A 0 (nI i) (nI 40) = some A2 ∧ ∀ j, j < 40 → A2 j = if i ≤ j then 0 else A j := by
  intro k
  induction k with
  | zero =>
    intro f i A hi hf
    obtain ⟨f, rfl⟩ : ∃ g, f = g + 1 := ⟨f - 1, by omega⟩
    refine ⟨A, ?_, fun j hj => by rw [if_neg (by omega)]⟩
    show B_J7_fill_53178_5 _ _ _ _ _ _ _ = _
    simp (disch := omega) only [B_J7_fill_53178_5, nI_leI]
    rw [if_pos (by omega)]
  | succ k ih =>
    intro f i A hi hf
    obtain ⟨f, rfl⟩ : ∃ g, f = g + 1 := ⟨f - 1, by omega⟩
    obtain ⟨A2, e, p⟩ := ih f (i + 1) (upd A i 0) (by omega) (by omega)
    refine ⟨A2, ?_, fun j hj => ?_⟩
    · rw [← e]
      show B_J7_fill_53178_5 _ _ _ _ _ _ _ = _
      simp (disch := omega) only [B_J7_fill_53178_5, nI_leI, gi_k, nI_clamp, nI_1]
      rw [if_neg (by omega)]
    · rw [p j hj]
      by_cases c : i + 1 ≤ j
      · rw [if_pos c, if_pos (by omega)]
      · rw [if_neg c]
        by_cases c2 : j = i
        · rw [c2, pk_us, if_pos (by omega)]
        · rw [pk_un c2, if_neg (by omega)]
theorem cf_rn {s : s_S} {a b : Int32} {f : Nat} (hf : 100 < f) : ∃ A2 : Nat → Int32, M_X2_renew f s a b = some (a, b, A2) ∧ ∀ j, j < 40 → A2 j = 0 := by
  obtain ⟨A2, e, p⟩ := cf_fi 40 f 0 s.2.2 (by omega) (by omega)
  refine ⟨A2, ?_, fun j hj => by rw [p j hj, if_pos (by omega)]⟩
  unfold M_X2_renew B_X2_renew_0 M_J7_fill_53178 B_J7_fill_53178_0
  rw [nm_s, show M_J7_fill_53178_5 40 f s.2.2 0 0 (nI 40) = some A2 from e]
  rfl
theorem rf_cl {L Z : Nat → Int32} {k : Nat} (hk : k < 4) : ∀ (m f i : Nat) (C : Nat → Int32), i + m = 40 → m < f → ∃ C2, M_X7_sheet_40 f L Z C (nI k) (nI i) = some (1, L, Z, C2) ∧ ∀ j, C2 j = if 40 * k + i ≤ j ∧ j < 40 * k + 40 then 0 else C j := by
  intro m
  induction m with
  | zero =>
    intro f i C hi hf
    obtain ⟨f, rfl⟩ : ∃ g, f = g + 1 := ⟨f - 1, by omega⟩
    refine ⟨C, ?_, fun j => by rw [if_neg (by omega)]⟩
    show B_X7_sheet_40 _ _ _ _ _ _ _ = _
    simp (disch := omega) only [B_X7_sheet_40, show (40 : Int32) = nI 40 from rfl, nI_leI]
    rw [if_pos (by omega)]
  | succ m ih =>
    intro f i C hi hf
    obtain ⟨f, rfl⟩ : ∃ g, f = g + 1 := ⟨f - 1, by omega⟩
    obtain ⟨C2, e, p⟩ := ih f (i + 1) (upd C (40 * k + i) 0) (by omega) (by omega)
    refine ⟨C2, ?_, fun j => ?_⟩
    · rw [← e]
      show B_X7_sheet_40 _ _ _ _ _ _ _ = _
      simp (disch := omega) only [B_X7_sheet_40, show (40 : Int32) = nI 40 from rfl, nI_leI, pk_mul, nI_add, gi_k, nI_clamp, nI_1]
      rw [if_neg (by omega)]
    · rw [p j]
      by_cases c : 40 * k + (i + 1) ≤ j ∧ j < 40 * k + 40
      · rw [if_pos c, if_pos (by omega)]
      · rw [if_neg c]
        by_cases c2 : j = 40 * k + i
        · rw [c2, pk_us, if_pos (by omega)]
        · rw [pk_un c2, if_neg (by omega)]
theorem is_e (z1 z2 : Int32) : M_X7_isSheet z1 z2 = (M_X6_within z1 0 3).bind (fun u6 => if u6 = 0 then (some 0) else ((M_X6_within z2 0 2).bind (fun u18 => if u18 = 0 then (some 0) else (some 1)))) := by
  unfold M_X7_isSheet B_X7_isSheet_0
  rw [in_k z1 0 3 0 3 (by decide) (by decide), in_k z2 0 2 0 2 (by decide) (by decide)]
theorem op_sheet {L Z C : Nat → Int32} {sf : Nat → s_S} {f : Nat} (h : sr_4 L Z C sf) (hf : 200 < f) (z1 z2 z3 : Int32) : ∃ r sf2 L2 Z2 C2, M_X6_sheet f (sf 3) (sf 2) (sf 1) (sf 0) z1 z2 z3 = some (r, sf2 3, sf2 2, sf2 1, sf2 0) ∧ M_X7_sheet f L Z C z1 z2 z3 = some (r, L2, Z2, C2) ∧ sr_4 L2 Z2 C2 sf2 := by
  unfold M_X6_sheet B_X6_sheet_0 M_X7_sheet B_X7_sheet_0
  rw [is_e]
  rcases wi_c z1 0 3 0 3 rfl rfl (by omega) (by omega) with ⟨k, k1, k2, rfl, e1⟩ | e1
  · rw [e1]
    simp only [bn_s, i1_0]
    rcases wi_c z2 0 2 0 2 rfl rfl (by omega) (by omega) with ⟨l, l1, l2, rfl, e2⟩ | e2
    · rw [e2]
      simp only [bn_s, i1_0]
      by_cases c1 : z3 ≤ 40
      · by_cases c2 : 0 ≤ z3
        · simp only [if_pos c1, if_pos c2]
          obtain ⟨n, hn, rfl⟩ : ∃ n, n ≤ 40 ∧ z3 = nI n := by
            obtain ⟨j, hj, rfl⟩ := nI_of (x := z3) (fun q => by
              simp only [Int32.lt_iff_toInt_lt, Int32.le_iff_toInt_le] at *
              omega)
            exact ⟨j, (nI_leI (b := 40) hj (by omega)).mp c1, rfl⟩
          obtain ⟨A2, ea, pa⟩ := cf_rn (s := sf k) (a := nI l) (b := nI n) (f := f) (by omega)
          obtain ⟨C2, ec, pc⟩ := rf_cl (L := upd L k (nI l)) (Z := upd Z k (nI n)) (k := k) (by omega) 40 f 0 C (by omega) (by omega)
          rw [gi_k (by omega) (by omega), gi_k (by omega) (by omega), nI_clamp (by omega), show M_X7_sheet_40 f (upd L k (nI l)) (upd Z k (nI n)) C (nI k) 0 = _ from ec]
          have key : sr_4 (upd L k (nI l)) (upd Z k (nI n)) C2 (us_f sf k (nI l, nI n, A2)) := by
            intro j hj
            by_cases ej : j = k
            · subst ej
              right
              refine ⟨l, n, l2, hn, by rw [pk_us], ?_, by rw [pk_us], ?_, fun i hi => ?_⟩
              · simp [us_f]
              · simp [us_f]
              · simp only [us_f, if_true]
                rw [pa i hi, pc, if_pos (by omega)]
            · have hh := h j hj
              unfold sh_r at *
              simp only [us_f, if_neg ej, pk_un ej]
              rcases hh with hh | ⟨l9, n9, a1, a2, a3, a4, a5, a6, a7⟩
              · exact Or.inl hh
              · refine Or.inr ⟨l9, n9, a1, a2, a3, a4, a5, a6, fun i hi => ?_⟩
                rw [a7 i hi, pc, if_neg (by omega)]
          refine ⟨1, us_f sf k (nI l, nI n, A2), _, _, _, ?_, rfl, key⟩
          have hk : k = 0 ∨ k = 1 ∨ k = 2 ∨ k = 3 := by omega
          rcases hk with rfl | rfl | rfl | rfl
          · rw [if_pos (show nI 0 = 0 from rfl), ea]; rfl
          · rw [if_neg (show ¬ nI 1 = 0 by decide), if_pos (show nI 1 = 1 from rfl), ea]; rfl
          · rw [if_neg (show ¬ nI 2 = 0 by decide), if_neg (show ¬ nI 2 = 1 by decide), if_pos (show nI 2 = 2 from rfl), ea]; rfl
          · rw [if_neg (show ¬ nI 3 = 0 by decide), if_neg (show ¬ nI 3 = 1 by decide), if_neg (show ¬ nI 3 = 2 by decide), if_pos (show nI 3 = 3 from rfl), ea]; rfl
        · simp only [if_pos c1, if_neg c2]
          exact ⟨_, sf, L, Z, C, rfl, rfl, h⟩
      · simp only [if_neg c1]
        exact ⟨_, sf, L, Z, C, rfl, rfl, h⟩
    · rw [e2]
      exact ⟨_, sf, L, Z, C, rfl, rfl, h⟩
  · rw [e1]
    exact ⟨_, sf, L, Z, C, rfl, rfl, h⟩
theorem wt_c (z : Int32) {n : Nat} (hn : n ≤ 1000) : (∃ i, i < n ∧ z = nI i ∧ M_X6_within z 0 (nI n - 1) = some 1) ∨ (M_X6_within z 0 (nI n - 1) = some 0 ∧ ∀ i, i < n → z ≠ nI i) := by
  rw [wi_e]
  have hp : (nI n - 1).toInt = (n : Int) - 1 := pk_sub_toInt (a := n) (b := 1) (by omega) (by omega)
  rcases pk_ix z (n := n) (by omega) with h | h | ⟨j, hj, rfl⟩
  · right
    refine ⟨by
      rw [if_neg (fun q => by
        have := q.1
        simp only [Int32.lt_iff_toInt_lt, Int32.le_iff_toInt_le] at *
        omega)], fun i hi e => ?_⟩
    rw [e] at h
    exact nI_pos (by omega) h
  · right
    have hn2 := nI_toInt (n := n) (by omega)
    refine ⟨by
      rw [if_neg (fun q => by
        have := q.2
        simp only [Int32.lt_iff_toInt_lt, Int32.le_iff_toInt_le] at *
        omega)], fun i hi e => ?_⟩
    rw [e] at h
    exact nI_ge (a := i) (b := n) hi (by omega) h
  · left
    refine ⟨j, hj, rfl, ?_⟩
    have hj2 := nI_toInt (n := j) (by omega)
    rw [if_pos]
    have h0 := nI_pos' (n := j) (by omega)
    refine ⟨h0, ?_⟩
    simp only [Int32.le_iff_toInt_le]
    omega
theorem ly_e {sf : Nat → s_S} {k : Nat} (hk : k < 4) (z2 z3 : Int32) : M_X6_lay (sf 3) (sf 2) (sf 1) (sf 0) (nI k) z2 z3 = (M_X2_faultAt (sf k) z2 z2).bind (fun u => if u = 0 then (M_X2_put (sf k) z2 z3).bind (fun s => some (1, us_f sf k s 3, us_f sf k s 2, us_f sf k s 1, us_f sf k s 0)) else some ((-10) - u, sf 3, sf 2, sf 1, sf 0)) := by
  have hk4 : k = 0 ∨ k = 1 ∨ k = 2 ∨ k = 3 := by omega
  rcases hk4 with rfl | rfl | rfl | rfl <;> rfl
theorem op_lay {L Z C : Nat → Int32} {sf : Nat → s_S} (h : sr_4 L Z C sf) (z1 z2 z3 : Int32) : ∃ r sf2 C2, M_X6_lay (sf 3) (sf 2) (sf 1) (sf 0) z1 z2 z3 = some (r, sf2 3, sf2 2, sf2 1, sf2 0) ∧ M_X7_lay L Z C z1 z2 z3 = some (r, C2) ∧ sr_4 L Z C2 sf2 := by
  rcases wi_c z1 0 3 0 3 rfl rfl (by omega) (by omega) with ⟨k, k1, k2, rfl, e1⟩ | e1
  · rw [ly_e (by omega)]
    unfold M_X7_lay B_X7_lay_0
    rw [is_e, e1, show M_X6_within 0 0 2 = some 1 from rfl]
    simp (disch := omega) only [bn_s, i1_0, gi_k, nI_clamp]
    unfold M_X2_faultAt B_X2_faultAt_0
    have hh := h k (by omega)
    rcases hh with ⟨hl, hs⟩ | ⟨l, n, a1, a2, a3, a4, a5, a6, a7⟩
    · rw [if_pos hl, if_pos hs]
      exact ⟨_, sf, C, rfl, rfl, h⟩
    · have nl : ¬ L k = -4 := by rw [a3]; exact n4_ne (by omega)
      have ns : ¬ (sf k).1 = -1 := by
        rw [a4]
        intro e
        have e2 := congrArg Int32.toInt e
        rw [nI_toInt (by omega)] at e2
        have e3 : (-1 : Int32).toInt = -1 := by decide
        omega
      rw [if_neg nl, if_neg ns, a5, a6, in_k z2 0 (nI n - 1) 0 _ (by decide) rfl]
      rcases wt_c z2 (n := n) (by omega) with ⟨i, hi, rfl, e3⟩ | ⟨e3, -⟩
      · rw [e3]
        simp only [bn_s, i1_0, i0_0]
        have key : ∀ u : Int32, sr_4 L Z (upd C (40 * k + i) u) (us_f sf k ((sf k).1, (sf k).2.1, upd (sf k).2.2 i u)) := by
          intro u j hj
          by_cases ej : j = k
          · subst ej
            right
            refine ⟨l, n, a1, a2, a3, ?_, a5, ?_, fun q hq => ?_⟩
            · simp only [us_f, if_true]; exact a4
            · simp only [us_f, if_true]; exact a6
            · simp only [us_f, if_true]
              by_cases eq : q = i
              · rw [eq, pk_us, pk_us]
              · rw [pk_un eq, pk_un (by omega)]; exact a7 q hq
          · have hh := h j hj
            unfold sh_r at *
            simp only [us_f, if_neg ej]
            rcases hh with hh | ⟨l9, n9, b1, b2, b3, b4, b5, b6, b7⟩
            · exact Or.inl hh
            · refine Or.inr ⟨l9, n9, b1, b2, b3, b4, b5, b6, fun q hq => ?_⟩
              rw [pk_un (by omega)]; exact b7 q hq
        unfold M_X2_put B_X2_put_0
        rw [a3, a4]
        simp (disch := omega) only [gi_k, nI_clamp, nm_s, show (40 : Int32) = nI 40 from rfl, pk_mul, nI_add]
        by_cases c0 : nI l = 0
        · rw [if_pos c0, if_pos c0]
          have kk := key z3.toInt8.toInt32
          rw [a4] at kk
          exact ⟨_, _, _, rfl, rfl, kk⟩
        · rw [if_neg c0, if_neg c0]
          by_cases c1 : nI l = 1
          · rw [if_pos c1, if_pos c1]
            have kk := key z3.toInt16.toInt32
            rw [a4] at kk
            exact ⟨_, _, _, rfl, rfl, kk⟩
          · rw [if_neg c1, if_neg c1]
            have kk := key z3
            rw [a4] at kk
            exact ⟨_, _, _, rfl, rfl, kk⟩
      · rw [e3]
        exact ⟨_, sf, C, rfl, rfl, h⟩
  · unfold M_X6_lay B_X6_lay_0 M_X7_lay B_X7_lay_0
    rw [is_e, e1]
    exact ⟨_, sf, C, rfl, rfl, h⟩
