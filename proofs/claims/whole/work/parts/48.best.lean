/-! the class's best row -/
def rt_n (S : Nat → Nat) (n c : Nat) : Nat → Nat := fun i => if 18 ≤ i ∧ i < 18 + n then dg_n n c (i - 18) else S i
def wt_n (pe : Nat) (S : Nat → Nat) (n c : Nat) : Nat := al_n pe (hs_n pe 24 (0, 0, rt_n S n c)).2.2
section
variable {pe f n : Nat} {S N : Nat → Nat} {w t : s_W} {v : s_V} {x y : Int32}
theorem rt_o {c i : Nat} (h : i < 18 ∨ 18 + n ≤ i) : rt_n S n c i = S i := if_neg (by omega)
theorem rt_i {c i : Nat} (h : i < n) : rt_n S n c (18 + i) = dg_n n c i := by
  unfold rt_n
  rw [if_pos (by omega), show 18 + i - 18 = i by omega]
theorem gd_rt {c : Nat} (hn : n ≤ 5) (h17 : S 17 = n) (hd : ∀ i, i < n → dg_n n c i < pe) (g : gd_s pe S) : gd_s pe (rt_n S n c) := by
  obtain ⟨h5, h15, h16, h17b, h26, hq, hr⟩ := g
  refine ⟨h5, ?_, ?_, ?_, ?_, fun q hq2 => ?_, fun i hi => ?_⟩
  · rw [rt_o (by omega)]; exact h15
  · rw [rt_o (by omega)]; exact h16
  · rw [rt_o (by omega)]; exact h17b
  · rw [rt_o (by omega)]; exact h26
  · rw [rt_o (by omega), rt_o (by omega), rt_o (by omega)]; exact hq q hq2
  · rw [rt_o (by omega)] at hi
    rw [rt_i (by omega)]
    exact hd i (by omega)
theorem tr_r {c : Nat} {A : Nat → Int32} (h : bk_s pe S w v) (hn : n ≤ 5) (h17 : S 17 = n) (hd : ∀ i, i < n → dg_n n c i < pe) (a : ar_p n A (dg_n n c)) (hf : 300 < f) : ∃ t2, M_X6_tryRow w A f t (nI n) = some (nI (wt_n pe S n c), t2) := by
  obtain ⟨K, G, B, R, eb, pt, g, g26, hw⟩ := sb_s h S t
  rw [show cp_n S S = S from by funext j; unfold cp_n; split <;> rfl] at *
  have gr := gd_rt hn h17 hd g
  have h5 := g.1
  have e0 : (0 : Int32).toNatClampNeg = 0 := rfl
  have pr : pt_w pe (rt_n S n c) K G B (va_cpy A R 0 0 n) := by
    refine ⟨fun q hq => ?_, fun i hi => ?_⟩
    · rw [rt_o (by omega), rt_o (by omega), rt_o (by omega)]; exact pt.1 q hq
    · rw [rt_o (by omega)] at hi
      rw [rt_i (by omega), pk_cpy_in (by omega) (by omega), Nat.zero_add, Nat.sub_zero]
      exact (a i (by omega)).1
  have r26 : rt_n S n c 26 = S 26 := rt_o (by omega)
  obtain ⟨G2, e4, p4⟩ := cf_pa (n := 24) (f := f) (he := 0) (sp := 0) gr (by omega) (by omega) pr
  have eal := cf_al (f := f) (he := (hs_n pe 24 (0, 0, rt_n S n c)).1) (sp := (hs_n pe 24 (0, 0, rt_n S n c)).2.1) h5 (by omega) p4
  refine ⟨mk_w pe (hs_n pe 24 (0, 0, rt_n S n c)).2.2 (hs_n pe 24 (0, 0, rt_n S n c)).1 (hs_n pe 24 (0, 0, rt_n S n c)).2.1 K G2 B (va_cpy A R 0 0 n), ?_⟩
  · unfold M_X6_tryRow B_X6_tryRow_0
    rw [eb]
    simp only [bn_s, e0]
    rw [gy_k (by omega) (by omega) (by omega), nI_clamp (by omega)]
    rw [show mk_w pe (rt_n S n c) 0 0 K G B (va_cpy A R 0 0 n) = mk_w pe S 0 0 K G B (va_cpy A R 0 0 n) by unfold mk_w; rw [rt_o (by omega), rt_o (by omega), rt_o (by omega), r26]] at e4
    rw [show M_X5_pass f (nI pe, nI (S 17), nI (S 15), nI (S 16), nI (S 26), nI 0, nI 0, K, G, B, va_cpy A R 0 0 n) 24 = _ from e4]
    simp only [bn_s]
    rw [eal]
    rfl
theorem wt_b {c : Nat} (h : bk_s pe S w v) (hn : n ≤ 5) (h17 : S 17 = n) (hd : ∀ i, i < n → dg_n n c i < pe) : wt_n pe S n c ≤ 594 := by
  have gr := gd_rt hn h17 hd h.2.1
  have r26 : rt_n S n c 26 = S 26 := rt_o (by omega)
  have := h.2.2.1
  exact al_b (gd_hs 24 0 0 _ gr (by omega)).1
theorem ar_c {A B : Nat → Int32} {r : Nat → Nat} (a : ar_p n A r) : ar_p n (va_cpy A B 0 0 n) r := by
  intro i hi
  rw [pk_cpy_in (by omega) (by omega), Nat.zero_add, Nat.sub_zero]
  exact a i hi
theorem fb_e {s j c : Nat} (h : ic_n n s j = some c) (hn : nc_n n c = none) : ∀ d, rx_p n s d ↔ ∃ l, l ≤ j ∧ ic_n n s l = some d := by
  intro d
  constructor
  · rintro ⟨k, hk⟩
    by_cases q : k ≤ j
    · exact ⟨k, q, hk⟩
    · have e : ic_n n s (j + 1) = none := by rw [ic_n, h]; exact hn
      have := ic_n0 e (k - (j + 1))
      rw [show j + 1 + (k - (j + 1)) = k by omega, hk] at this
      exact absurd this (by simp)
  · rintro ⟨l, -, hl⟩
    exact ⟨l, hl⟩
theorem fb_55 {s : Nat} (h : bk_s pe S w v) (hn : n ≤ 5) (h17 : S 17 = n) (hs : s < 5 ^ n) (hD : ∀ c, rx_p n s c → ∀ i, i < n → dg_n n c i < pe) : ∀ (k f i j c m b : Nat) (A B : Nat → Int32) (t : s_W), i + k = 120 → k + 500 < f → ic_n n s j = some c → ed_n n (k + 1) c = true → ar_p n A (dg_n n c) → ar_p n B (dg_n n b) → m ≤ 594 → mn_p (fun d => ∃ l, l ≤ j ∧ ic_n n s l = some d) (wt_n pe S n) m b → ∃ m2 b2 A2 t2 B2, M_X6_findBestRow_55 w f A t B (nI n) (nI m) (nI i) = some (nI m2, A2, t2, B2) ∧ m2 ≤ 594 ∧ ar_p n B2 (dg_n n b2) ∧ mn_p (rx_p n s) (wt_n pe S n) m2 b2 := by
  intro k
  induction k with
  | zero =>
    intro f i j c m b A B t hi hf hc he aA aB hm mn
    obtain ⟨f, rfl⟩ : ∃ g, f = g + 1 := ⟨f - 1, by omega⟩
    have hnc : nc_n n c = none := by
      cases hx : nc_n n c with
      | none => rfl
      | some d =>
        unfold ed_n at he
        rw [hx] at he
        simp only [fo_e] at he
        exact absurd he (by simp [ed_n])
    have fe := fb_e hc hnc
    refine ⟨m, b, A, t, B, ?_, hm, aB, (fe b).mpr mn.1, mn.2.1, fun d hd => mn.2.2 d ((fe d).mp hd)⟩
    show B_X6_findBestRow_55 _ _ _ _ _ _ _ _ _ = _
    unfold B_X6_findBestRow_55
    rw [if_pos (show (120 : Int32) ≤ nI i from (nI_leI (a := 120) (b := i) (by omega) (by omega)).mpr (by omega))]
  | succ k ih =>
    intro f i j c m b A B t hi hf hc he aA aB hm mn
    obtain ⟨f, rfl⟩ : ∃ g, f = g + 1 := ⟨f - 1, by omega⟩
    have n120 : ¬ (120 : Int32) ≤ nI i := fun q => by have := (nI_leI (a := 120) (b := i) (by omega) (by omega)).mp q; omega
    have hcm := ic_m hn hs j c hc
    rcases sw_r (f := f) hn aA (by omega) with ⟨c1, c2⟩ | ⟨r2, A2, c1, c2, c3⟩
    · have hnc : nc_n n c = none := by unfold nc_n; rw [c1]; rfl
      have fe := fb_e hc hnc
      refine ⟨m, b, A, t, B, ?_, hm, aB, (fe b).mpr mn.1, mn.2.1, fun d hd => mn.2.2 d ((fe d).mp hd)⟩
      show B_X6_findBestRow_55 _ _ _ _ _ _ _ _ _ = _
      unfold B_X6_findBestRow_55
      rw [if_neg n120, c2]
      rfl
    · obtain ⟨d1, d2, d3, d4, d5⟩ := nc_3 hn hcm.1 c1
      generalize hd : cd_n r2 n = d at *
      have hcd : ic_n n s (j + 1) = some d := by rw [ic_n, hc]; exact d5
      have aA2 : ar_p n A2 (dg_n n d) := fun q hq => by rw [d4 q hq]; exact c3 q hq
      have hDd := hD d ⟨j + 1, hcd⟩
      obtain ⟨t2, e2⟩ := tr_r (f := f) (t := t) h hn h17 hDd aA2 (by omega)
      have hwb := wt_b h hn h17 hDd
      have hed : ed_n n (k + 1) d = true := by
        have : ed_n n (k + 1 + 1) c = fo_n d (ed_n n (k + 1)) := by rw [ed_n, d5]
        rw [this, fo_e] at he
        exact he
      have e1 : M_X6_findBestRow_55 w (f + 1) A t B (nI n) (nI m) (nI i) = if m ≤ wt_n pe S n d then M_X6_findBestRow_55 w f A2 t2 B (nI n) (nI m) (nI (i + 1)) else M_X6_findBestRow_55 w f A2 t2 (va_cpy A2 B 0 0 n) (nI n) (nI (wt_n pe S n d)) (nI (i + 1)) := by
        show B_X6_findBestRow_55 _ _ _ _ _ _ _ _ _ = _
        unfold B_X6_findBestRow_55 B_X6_findBestRow_102
        rw [if_neg n120, c2]
        simp only [bn_s, i1_0]
        rw [e2]
        simp only [bn_s]
        rw [gy_k (by omega) (by omega) (by omega), nI_clamp (by omega), show (0 : Int32).toNatClampNeg = 0 from rfl, nI_1]
        simp (disch := omega) only [nI_leI]
      rw [e1]
      have lt : ∀ l e, l ≤ j → ic_n n s l = some e → e < d := fun l e hl hle => ic_lt hn hs hle (j - l) d (by rw [show l + (j - l) + 1 = j + 1 by omega]; exact hcd)
      by_cases cw : m ≤ wt_n pe S n d
      · rw [if_pos cw]
        refine ih f (i + 1) (j + 1) d m b A2 B t2 (by omega) (by omega) hcd hed aA2 aB hm ⟨?_, mn.2.1, ?_⟩
        · obtain ⟨l, hl, e⟩ := mn.1
          exact ⟨l, by omega, e⟩
        · rintro e ⟨l, hl, he2⟩
          by_cases q : l = j + 1
          · subst q
            rw [hcd] at he2
            obtain rfl : d = e := by simpa using he2
            obtain ⟨l2, hl2, eb⟩ := mn.1
            have := lt l2 b hl2 eb
            exact ⟨cw, fun _ => by omega⟩
          · exact mn.2.2 e ⟨l, by omega, he2⟩
      · rw [if_neg cw]
        refine ih f (i + 1) (j + 1) d (wt_n pe S n d) d A2 (va_cpy A2 B 0 0 n) t2 (by omega) (by omega) hcd hed aA2 (ar_c aA2) hwb ⟨⟨j + 1, by omega, hcd⟩, rfl, ?_⟩
        rintro e ⟨l, hl, he2⟩
        by_cases q : l = j + 1
        · subst q
          rw [hcd] at he2
          obtain rfl : d = e := by simpa using he2
          exact ⟨Nat.le_refl _, fun _ => Nat.le_refl _⟩
        · have := (mn.2.2 e ⟨l, by omega, he2⟩).1
          exact ⟨by omega, fun _ => by omega⟩
theorem ro_d {c : Nat} (h : bk_s pe S w v) (hn : n ≤ 5) (h17 : S 17 = n) (hk : ke_n n (dg_n n c) = ke_n n (fun i => S (18 + i))) : ∀ i, i < n → dg_n n c i < pe := by
  intro i hi
  have hq := (cw_ps (r := dg_n n c) (w := dg_n n c i) n).mp ⟨i, hi, rfl⟩
  rw [(ke_i hn).mp hk _ (dg_5 n c i)] at hq
  obtain ⟨j, hj, e⟩ := (cw_ps n).mpr hq
  rw [← e]
  exact h.2.1.2.2.2.2.2.2 j (by omega)
theorem fb_r {A B : Nat → Int32} (h : bk_s pe S w v) (hn : n ≤ 5) (h17 : S 17 = n) (hf : 1000 < f) : ∃ m b A2 t2 B2, M_X6_findBestRow w f A t B = some (nI m, A2, t2, B2) ∧ m ≤ 594 ∧ ar_p n B2 (dg_n n b) ∧ mn_p (fun c => c < 5 ^ n ∧ ke_n n (dg_n n c) = ke_n n (fun i => S (18 + i))) (wt_n pe S n) m b := by
  obtain ⟨he, sp, K, G, B0, R, rfl, pt⟩ := h.1
  have hw : (mk_w pe S he sp K G B0 R).2.1 = nI n := by show nI (S 17) = nI n; rw [h17]
  have h5 := h.2.1.1
  have hr : ∀ i, i < n → S (18 + i) < 5 := fun i hi => by have := h.2.1.2.2.2.2.2.2 i (by omega); omega
  obtain ⟨z1, z2⟩ := dg_c hn (r := fun i => S (18 + i)) hr
  generalize hc0 : cd_n (fun i => S (18 + i)) n = c0 at *
  have kc0 : ke_n n (dg_n n c0) = ke_n n (fun i => S (18 + i)) := ke_cg z2
  have a0 : ar_p n (va_cpy R A 0 0 n) (dg_n n c0) := by
    intro i hi
    rw [pk_cpy_in (by omega) (by omega), Nat.zero_add, Nat.sub_zero, z2 i hi, pt.2 i (by omega)]
    exact ⟨rfl, hr i hi⟩
  obtain ⟨A1, e1, a1⟩ := so_r (f := f) hn a0 (by omega)
  obtain ⟨s1, s2⟩ := nc_s hn z1
  obtain ⟨r1, r2, r3⟩ := rx_1 hn (c0 + 1) c0 (by omega) z1
  generalize hs : fk_n (ke_n n (dg_n n c0)) = s at *
  have hs5 : s < 5 ^ n := by omega
  have aS : ar_p n A1 (dg_n n s) := fun i hi => by rw [s2 i hi]; exact a1 i hi
  have hD : ∀ c, rx_p n s c → ∀ i, i < n → dg_n n c i < pe := by
    rintro c ⟨k, hk⟩
    exact ro_d h hn h17 (((ic_m hn hs5 k c hk).2.1.trans r3).trans kc0)
  obtain ⟨t1, e2⟩ := tr_r (f := f) (t := t) h hn h17 (hD s ⟨0, rfl⟩) aS (by omega)
  have hwb := wt_b h hn h17 (hD s ⟨0, rfl⟩)
  have hed : ed_n n 120 s = true := nc_4 hn hs5 (by rw [r3, hs])
  obtain ⟨m2, b2, A2, t2, B2, e3, m3, p3, q3⟩ := fb_55 h hn h17 hs5 hD 119 f 1 0 s (wt_n pe S n s) s A1 (va_cpy A1 B 0 0 n) t1 (by omega) (by omega) rfl hed aS (ar_c aS) hwb ⟨⟨0, Nat.le_refl _, rfl⟩, rfl, by
    rintro d ⟨l, hl, e⟩
    obtain rfl : l = 0 := by omega
    obtain rfl : s = d := by simpa [ic_n] using e
    exact ⟨Nat.le_refl _, fun _ => Nat.le_refl _⟩⟩
  have eq : ∀ c, rx_p n s c ↔ (c < 5 ^ n ∧ ke_n n (dg_n n c) = ke_n n (fun i => S (18 + i))) := by
    intro c
    constructor
    · rintro ⟨k, hk⟩
      have := ic_m hn hs5 k c hk
      exact ⟨this.1, (this.2.1.trans r3).trans kc0⟩
    · rintro ⟨q1, q2⟩
      have := (rx_1 hn (c + 1) c (by omega) q1).1
      rw [q2, ← kc0, hs] at this
      exact this
  refine ⟨m2, b2, A2, t2, B2, ?_, m3, p3, (eq b2).mp q3.1, q3.2.1, fun c hc => q3.2.2 c ((eq c).mpr hc)⟩
  unfold M_X6_findBestRow B_X6_findBestRow_0
  rw [hw]
  rw [gy_k (by omega) (by omega) (by omega), nI_clamp (by omega), show (0 : Int32).toNatClampNeg = 0 from rfl]
  rw [show M_X6_sort 8 f (va_cpy (mk_w pe S he sp K G B0 R).2.2.2.2.2.2.2.2.2.2 A 0 0 n) (nI n) = _ from e1]
  simp only [bn_s]
  rw [e2]
  simp only [bn_s]
  rw [gy_k (by omega) (by omega) (by omega)]
  exact e3
end
