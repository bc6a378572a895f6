/-! what fits what was seen: kinds, griefs -/
theorem hs_s {pe : Nat} : ∀ (n : Nat) (x : Nat × Nat × (Nat → Nat)), hs_n pe (n + 1) x = hr_n pe (hs_n pe n x) := by
  intro n
  induction n with
  | zero => intro x; rfl
  | succ n ih => intro x; rw [hs_n, ih (hr_n pe x)]; rfl
/-- all goes as seen: S has what was seen, a is where it begins -/
def so_p (pe : Nat) (S a : Nat → Nat) : Prop := ∀ i, i < S 27 → (hs_n pe (S (28 + 3 * i)) (0, 0, a)).2.2 (3 * S (29 + 3 * i) + 1) = S (30 + 3 * i)
theorem lm_1 {m b : Nat} (hm : m ≤ 1000) (hb : b ≤ 1000) : (nI m - 1 < nI b) ↔ m ≤ b := by
  have hp : (nI m - 1).toInt = (m : Int) - 1 := pk_sub_toInt (a := m) (b := 1) (by omega) (by omega)
  have hn := nI_toInt (n := b) (by omega)
  rw [Int32.lt_iff_toInt_lt]
  omega
section
variable {pe f : Nat} {S N : Nat → Nat} {w t : s_W} {v : s_V} {x y : Int32}
theorem cf_fb {h he sp : Nat} {b : Nat → Nat} {K G B R : Nat → Int32} (sg : sg_v pe S v) (h5 : pe ≤ 5) (hh : h ≤ 24) (g : gd_s pe b) (pt : pt_w pe b K G B R) : ∀ (k f i : Nat), i + k = S 27 → k < f → ∃ r, M_X3_fitBehind_2 v (mk_w pe b he sp K G B R) f (nI h) (nI i) = some r ∧ (r = 0 ∨ r = 1) ∧ (r = 1 ↔ ∀ j, i ≤ j → j < S 27 → S (28 + 3 * j) = h → b (3 * S (29 + 3 * j) + 1) = S (30 + 3 * j)) := by
  obtain ⟨s0, s6, ss⟩ := sg
  intro k
  induction k with
  | zero =>
    intro f i hi hf
    obtain ⟨f, rfl⟩ : ∃ g, f = g + 1 := ⟨f - 1, by omega⟩
    refine ⟨1, ?_, Or.inr rfl, fun _ j h1 h2 => absurd h1 (by omega), fun _ => rfl⟩
    show B_X3_fitBehind_2 _ _ _ _ _ _ = _
    simp (disch := omega) only [B_X3_fitBehind_2, s0, nI_leI]
    rw [if_pos (by omega)]
  | succ k ih =>
    intro f i hi hf
    obtain ⟨f, rfl⟩ : ∃ g, f = g + 1 := ⟨f - 1, by omega⟩
    obtain ⟨r, e, r01, rr⟩ := ih f (i + 1) (by omega) (by omega)
    obtain ⟨a1, a2, a3, a4, a5, a6⟩ := ss i (by omega)
    have q9 := (g.2.2.2.2.2.1 _ a5).2.1
    have hhas : M_X5_has (mk_w pe b he sp K G B R) (nI (S (29 + 3 * i))) = some 1 := by rw [cf_has (pe := pe) rfl h5 (by omega), if_pos a5]
    have e1 : M_X3_fitBehind_2 v (mk_w pe b he sp K G B R) (f + 1) (nI h) (nI i) = if S (28 + 3 * i) = h then (if b (3 * S (29 + 3 * i) + 1) = S (30 + 3 * i) then some r else some 0) else some r := by
      show B_X3_fitBehind_2 _ _ _ _ _ _ = _
      unfold B_X3_fitBehind_2 B_X3_fitBehind_55
      simp (disch := omega) only [s0, nI_leI, gi_k, nI_clamp, a1, a2, a3, nI_1, e]
      rw [if_neg (by omega), hhas]
      simp (disch := omega) only [bn_s, i1_0, gi_k, nI_clamp, (pt.1 _ a5).2.1, nI_eq]
    rw [e1]
    by_cases c1 : S (28 + 3 * i) = h
    · rw [if_pos c1]
      by_cases c2 : b (3 * S (29 + 3 * i) + 1) = S (30 + 3 * i)
      · rw [if_pos c2]
        refine ⟨r, rfl, r01, rr.trans ⟨fun q j h1 h2 h3 => ?_, fun q j h1 h2 h3 => q j (by omega) h2 h3⟩⟩
        by_cases ej : j = i
        · rw [ej]; exact c2
        · exact q j (by omega) h2 h3
      · rw [if_neg c2]
        exact ⟨0, rfl, Or.inl rfl, fun q => absurd q (by decide), fun q => absurd (q i (by omega) (by omega) c1) c2⟩
    · rw [if_neg c1]
      refine ⟨r, rfl, r01, rr.trans ⟨fun q j h1 h2 h3 => ?_, fun q j h1 h2 h3 => q j (by omega) h2 h3⟩⟩
      by_cases ej : j = i
      · rw [ej] at h3; exact absurd h3 c1
      · exact q j (by omega) h2 h3
theorem cf_f3 {m : Nat} {a : Nat → Nat} {K B R : Nat → Int32} (sg : sg_v pe S v) (hm : m ≤ 25) (ga : gd_s pe a) (h26 : a 26 ≤ 1100) : ∀ (k f h he sp : Nat) (b : Nat → Nat) (G : Nat → Int32), h + k = m → k + 300 < f → (he, sp, b) = hs_n pe h (0, 0, a) → pt_w pe b K G B R → ∃ r t2, M_X3_fit_31 v f (mk_w pe b he sp K G B R) (nI m - 1) (nI h) = some (r, t2) ∧ (r = 0 ∨ r = 1) ∧ (r = 1 ↔ ∀ j, j < S 27 → h ≤ S (28 + 3 * j) → S (28 + 3 * j) < m → (hs_n pe (S (28 + 3 * j)) (0, 0, a)).2.2 (3 * S (29 + 3 * j) + 1) = S (30 + 3 * j)) := by
  have h5 := ga.1
  intro k
  induction k with
  | zero =>
    intro f h he sp b G hh hf hb pt
    obtain ⟨f, rfl⟩ : ∃ g, f = g + 1 := ⟨f - 1, by omega⟩
    refine ⟨1, mk_w pe b he sp K G B R, ?_, Or.inr rfl, fun _ j h1 h2 h3 => absurd h2 (by omega), fun _ => rfl⟩
    · show B_X3_fit_31 _ _ _ _ _ _ = _
      unfold B_X3_fit_31
      rw [if_pos ((lm_1 (by omega) (by omega)).mpr (by omega))]
  | succ k ih =>
    intro f h he sp b G hh hf hb pt
    obtain ⟨f, rfl⟩ : ∃ g, f = g + 1 := ⟨f - 1, by omega⟩
    obtain ⟨i1, i2, i3, i4, i5⟩ := gd_hs h 0 0 a ga (by omega)
    rw [← hb] at i1 i2
    obtain ⟨G2, e3, p3⟩ := cf_hr (f := f) (he := he) (sp := sp) i1 (by omega) pt
    have hb2 : ((hr_n pe (he, sp, b)).1, (hr_n pe (he, sp, b)).2.1, (hr_n pe (he, sp, b)).2.2) = hs_n pe (h + 1) (0, 0, a) := by rw [hs_s, ← hb]
    obtain ⟨r, t2, e4, r01, rr⟩ := ih f (h + 1) _ _ _ G2 (by omega) (by omega) hb2 p3
    obtain ⟨r2, e5, r201, rr2⟩ := cf_fb (v := v) (h := h) (he := he) (sp := sp) sg h5 (by omega) i1 pt (S 27) f 0 (by omega) (by have := sg.2.1; omega)
    have e1 : M_X3_fit_31 v (f + 1) (mk_w pe b he sp K G B R) (nI m - 1) (nI h) = if r2 = 0 then some (0, mk_w pe b he sp K G B R) else some (r, t2) := by
      show B_X3_fit_31 _ _ _ _ _ _ = _
      unfold B_X3_fit_31
      rw [if_neg (fun q => by have := (lm_1 (by omega) (by omega)).mp q; omega), show M_X3_fitBehind v (mk_w pe b he sp K G B R) f (nI h) = some r2 from e5]
      simp only [bn_s]
      rw [e3]
      simp only [bn_s]
      rw [nI_1, e4]
    rw [e1]
    have hbb : (hs_n pe h (0, 0, a)).2.2 = b := by rw [← hb]
    rcases r201 with c | c
    · rw [if_pos c]
      refine ⟨0, _, rfl, Or.inl rfl, fun q => absurd q (by decide), fun q => ?_⟩
      exfalso
      have : r2 = 1 := rr2.mpr (fun j h1 h2 h3 => by
        have := q j h2 (by omega) (by omega)
        rw [h3, hbb] at this
        exact this)
      rw [c] at this
      exact absurd this (by decide)
    · rw [c, i1_0]
      refine ⟨r, t2, rfl, r01, rr.trans ⟨fun q j h1 h2 h3 => ?_, fun q j h1 h2 h3 => q j h1 (by omega) h3⟩⟩
      by_cases ej : S (28 + 3 * j) = h
      · have := (rr2.mp c) j (by omega) h1 ej
        rw [ej, hbb]; exact this
      · exact q j h1 (by omega) h3
theorem cf_f4 {he sp : Nat} {a : Nat → Nat} {K G B R : Nat → Int32} (sg : sg_v pe S v) : ∀ (k f i m : Nat), i + k = S 27 → k + 400 < f → m ≤ 25 → (∀ j, j < i → S (28 + 3 * j) < m) → ∃ m2 f2, m2 ≤ 25 ∧ 390 < f2 ∧ (∀ j, j < S 27 → S (28 + 3 * j) < m2) ∧ M_X3_fit_4 v f (mk_w pe a he sp K G B R) (nI m - 1) (nI i) = M_X3_fit_31 v f2 (mk_w pe a he sp K G B R) (nI m2 - 1) 0 := by
  obtain ⟨s0, s6, ss⟩ := sg
  intro k
  induction k with
  | zero =>
    intro f i m hi hf hm hj
    obtain ⟨f, rfl⟩ : ∃ g, f = g + 1 := ⟨f - 1, by omega⟩
    refine ⟨m, f, hm, by omega, fun j h => hj j (by omega), ?_⟩
    show B_X3_fit_4 _ _ _ _ _ _ = _
    simp (disch := omega) only [B_X3_fit_4, s0, nI_leI]
    rw [if_pos (by omega)]
  | succ k ih =>
    intro f i m hi hf hm hj
    obtain ⟨f, rfl⟩ : ∃ g, f = g + 1 := ⟨f - 1, by omega⟩
    obtain ⟨a1, a2, a3, a4, a5, a6⟩ := ss i (by omega)
    obtain ⟨m2, f2, b1, b2, b3, b4⟩ := ih f (i + 1) (max m (S (28 + 3 * i) + 1)) (by omega) (by omega) (by omega) (fun j h => by
      by_cases ej : j = i
      · rw [ej]; omega
      · have := hj j (by omega); omega)
    refine ⟨m2, f2, b1, b2, b3, ?_⟩
    rw [← b4]
    show B_X3_fit_4 _ _ _ _ _ _ = _
    unfold B_X3_fit_4
    simp (disch := omega) only [s0, nI_leI, gi_k, nI_clamp, a1, nm_s, nI_1]
    rw [if_neg (by omega)]
    congr 1
    by_cases c : m ≤ S (28 + 3 * i)
    · rw [if_pos ((lm_1 (by omega) (by omega)).mpr c), show max m (S (28 + 3 * i) + 1) = S (28 + 3 * i) + 1 by omega, show (1 : Int32) = nI 1 from rfl, pk_sub (by omega), Nat.add_sub_cancel]
    · rw [if_neg (fun q => c ((lm_1 (by omega) (by omega)).mp q)), show max m (S (28 + 3 * i) + 1) = m by omega]
theorem cf_ft {a : Nat → Nat} {K G B R : Nat → Int32} (sg : sg_v pe S v) (ga : gd_s pe a) (h26 : a 26 ≤ 1100) (hf : 800 < f) (pt : pt_w pe a K G B R) : ∃ r t2, M_X3_fit v f (mk_w pe a 0 0 K G B R) = some (r, t2) ∧ (r = 0 ∨ r = 1) ∧ (r = 1 ↔ so_p pe S a) := by
  obtain ⟨m2, f2, b1, b2, b3, b4⟩ := cf_f4 (he := 0) (sp := 0) (a := a) (K := K) (G := G) (B := B) (R := R) sg (S 27) f 0 0 (by omega) (by have := sg.2.1; omega) (by omega) (fun j h => absurd h (by omega))
  obtain ⟨r, t2, e, r01, rr⟩ := cf_f3 (v := v) sg b1 ga h26 m2 f2 0 0 0 a G (by omega) (by omega) rfl pt
  refine ⟨r, t2, ?_, r01, rr.trans ⟨fun q j hj => q j hj (by omega) (b3 j hj), fun q j hj _ _ => q j hj⟩⟩
  unfold M_X3_fit B_X3_fit_0
  rw [show M_X3_fit_4 v f (mk_w pe a 0 0 K G B R) (-1) 0 = _ from b4, show (0 : Int32) = nI 0 from rfl, e]
end
