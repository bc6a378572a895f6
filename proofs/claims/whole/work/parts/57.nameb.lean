/-! the line that a name begins -/
section
variable {n a p : Nat} {b : Nat → Nat} {B T : Nat → Int32} {tk nu : Int32}
theorem en_5 {c4 : Nat} (h : tb_p n b B T) (hp : p ≤ a) (ha : a ≤ n) (h5 : 5 ≤ a - p) (q4 : c4 ≤ 127) : M_X7_ends (nI n) (nI p) T (nI c4) 0 = some (if b (p + 4) = c4 then 1 else 0) := by
  have hn := h.1
  have z4 := (h.2 (p + 4) (by omega)).2.2
  unfold M_X7_ends B_X7_ends_0
  rw [show (4 : Int32) = nI 4 from rfl, nI_add, ba_n h (by omega), if_pos (show p + 4 < n by omega)]
  simp (disch := omega) only [bn_s, nI_eq]
  by_cases c : b (p + 4) = c4
  · rw [if_pos c, if_pos c, if_pos trivial]
  · rw [if_neg c, if_neg c]
theorem en_6 {c4 c5 : Nat} (h : tb_p n b B T) (hp : p ≤ a) (ha : a ≤ n) (h6 : 6 ≤ a - p) (q4 : c4 ≤ 127) (q5 : c5 ≤ 127) (q0 : 0 < c5) : M_X7_ends (nI n) (nI p) T (nI c4) (nI c5) = some (if b (p + 4) = c4 ∧ b (p + 5) = c5 then 1 else 0) := by
  have hn := h.1
  have z4 := (h.2 (p + 4) (by omega)).2.2
  have z5 := (h.2 (p + 5) (by omega)).2.2
  unfold M_X7_ends B_X7_ends_0
  rw [if_neg (nI_ne0 q0 (by omega)), show (4 : Int32) = nI 4 from rfl, show (5 : Int32) = nI 5 from rfl, nI_add, nI_add, ba_n h (by omega), ba_n h (by omega), if_pos (show p + 4 < n by omega), if_pos (show p + 5 < n by omega)]
  simp (disch := omega) only [bn_s, nI_eq]
  by_cases c : b (p + 4) = c4
  · rw [if_pos c]
    by_cases d : b (p + 5) = c5
    · rw [if_pos d, if_pos ⟨c, d⟩]
    · rw [if_neg d, if_neg (fun q => d q.2)]
  · rw [if_neg c, if_neg (fun q => c q.1)]
theorem l5_r {c0 c1 c2 c3 c4 : Nat} {E F : Option Int32} (h : tb_p n b B T) (hp : p ≤ a) (ha : a ≤ n) (q0 : c0 ≤ 127) (q1 : c1 ≤ 127) (q2 : c2 ≤ 127) (q3 : c3 ≤ 127) (q4 : c4 ≤ 127) : ((M_X7_is (nI n) (nI a) (nI p) T 5 (nI c0) (nI c1) (nI c2) (nI c3)).bind (fun u => if u = 0 then E else (M_X7_ends (nI n) (nI p) T (nI c4) 0).bind (fun u2 => if u2 = 0 then E else F))) = if a - p = 5 ∧ b p = c0 ∧ b (p + 1) = c1 ∧ b (p + 2) = c2 ∧ b (p + 3) = c3 ∧ b (p + 4) = c4 then F else E := by
  rw [show M_X7_is (nI n) (nI a) (nI p) T 5 (nI c0) (nI c1) (nI c2) (nI c3) = _ from is_r (L := 5) h hp ha (by omega) (by omega) q0 q1 q2 q3]
  simp only [bn_s]
  by_cases c : a - p = 5 ∧ b p = c0 ∧ b (p + 1) = c1 ∧ b (p + 2) = c2 ∧ b (p + 3) = c3
  · rw [if_pos c, i1_0, en_5 h hp ha (by omega) q4]
    simp only [bn_s]
    by_cases d : b (p + 4) = c4
    · rw [if_pos d, i1_0, if_pos ⟨c.1, c.2.1, c.2.2.1, c.2.2.2.1, c.2.2.2.2, d⟩]
    · rw [if_neg d, i0_0, if_neg (fun q => d q.2.2.2.2.2)]
  · rw [if_neg c, i0_0, if_neg (fun q => c ⟨q.1, q.2.1, q.2.2.1, q.2.2.2.1, q.2.2.2.2.1⟩)]
theorem s5_i {k c0 c1 c2 c3 c4 : Nat} (hs : sl_L.getD k 0 = 5) (hw : wl_L.getD k [] = [c0, c1, c2, c3, c4]) : sp_p b a p k ↔ (a - p = 5 ∧ b p = c0 ∧ b (p + 1) = c1 ∧ b (p + 2) = c2 ∧ b (p + 3) = c3 ∧ b (p + 4) = c4) := by
  unfold sp_p
  rw [hs, hw]
  constructor
  · rintro ⟨h1, h2⟩
    exact ⟨h1, h2 0 (by omega), h2 1 (by omega), h2 2 (by omega), h2 3 (by omega), h2 4 (by omega)⟩
  · rintro ⟨h1, h2, h3, h4, h5, h6⟩
    refine ⟨h1, fun j hj => ?_⟩
    have q : j = 0 ∨ j = 1 ∨ j = 2 ∨ j = 3 ∨ j = 4 := by omega
    rcases q with rfl | rfl | rfl | rfl | rfl
    · exact h2
    · exact h3
    · exact h4
    · exact h5
    · exact h6
theorem s6_i : sp_p b a p 4 ↔ (a - p = 6 ∧ b p = 98 ∧ b (p + 1) = 97 ∧ b (p + 2) = 114 ∧ b (p + 3) = 114) ∧ b (p + 4) = 111 ∧ b (p + 5) = 119 := by
  unfold sp_p
  rw [show sl_L.getD 4 0 = 6 from rfl, show wl_L.getD 4 [] = [98, 97, 114, 114, 111, 119] from rfl]
  constructor
  · rintro ⟨h1, h2⟩
    exact ⟨⟨h1, h2 0 (by omega), h2 1 (by omega), h2 2 (by omega), h2 3 (by omega)⟩, h2 4 (by omega), h2 5 (by omega)⟩
  · rintro ⟨⟨h1, h2, h3, h4, h5⟩, h6, h7⟩
    refine ⟨h1, fun j hj => ?_⟩
    have q : j = 0 ∨ j = 1 ∨ j = 2 ∨ j = 3 ∨ j = 4 ∨ j = 5 := by omega
    rcases q with rfl | rfl | rfl | rfl | rfl | rfl
    · exact h2
    · exact h3
    · exact h4
    · exact h5
    · exact h6
    · exact h7
theorem s4_i : sp_p b a p 5 ↔ (a - p = 4 ∧ b p = 114 ∧ b (p + 1) = 111 ∧ b (p + 2) = 116 ∧ b (p + 3) = 97) := by
  unfold sp_p
  rw [show sl_L.getD 5 0 = 4 from rfl, show wl_L.getD 5 [] = [114, 111, 116, 97] from rfl]
  constructor
  · rintro ⟨h1, h2⟩
    exact ⟨h1, h2 0 (by omega), h2 1 (by omega), h2 2 (by omega), h2 3 (by omega)⟩
  · rintro ⟨h1, h2, h3, h4, h5⟩
    refine ⟨h1, fun j hj => ?_⟩
    have q : j = 0 ∨ j = 1 ∨ j = 2 ∨ j = 3 := by omega
    rcases q with rfl | rfl | rfl | rfl
    · exact h2
    · exact h3
    · exact h4
    · exact h5
theorem ln_r {f : Nat} (h : tb_p n b B T) (hp : p ≤ a) (ha : a ≤ n) (hf : 20 < f) : (M_X1_lineOfName (nI n, nI a, tk, nI p, nu, B) f = some (-1) ∧ M_X7_lineNow (nI n) (nI a) (nI p) T = some (-4)) ∨ ∃ k, k < 6 ∧ M_X1_lineOfName (nI n, nI a, tk, nI p, nu, B) f = some (nI k) ∧ M_X7_lineNow (nI n) (nI a) (nI p) T = some (nI k) := by
  have hn := h.1
  obtain ⟨r0, e0, z0, i0⟩ := sp_r (k := 0) (tk := tk) (nu := nu) (by omega) h hp ha hf
  obtain ⟨r1, e1, z1, i1⟩ := sp_r (k := 1) (tk := tk) (nu := nu) (by omega) h hp ha hf
  obtain ⟨r2, e2, z2, i2⟩ := sp_r (k := 2) (tk := tk) (nu := nu) (by omega) h hp ha hf
  obtain ⟨r3, e3, z3, i3⟩ := sp_r (k := 3) (tk := tk) (nu := nu) (by omega) h hp ha hf
  obtain ⟨r4, e4, z4, i4⟩ := sp_r (k := 4) (tk := tk) (nu := nu) (by omega) h hp ha hf
  obtain ⟨r5, e5, z5, i5⟩ := sp_r (k := 5) (tk := tk) (nu := nu) (by omega) h hp ha hf
  rw [s5_i (c0 := 112) (c1 := 108) (c2 := 97) (c3 := 105) (c4 := 110) rfl rfl] at i0
  rw [s5_i (c0 := 115) (c1 := 116) (c2 := 111) (c3 := 117) (c4 := 116) rfl rfl] at i1
  rw [s5_i (c0 := 99) (c1 := 104) (c2 := 105) (c3 := 108) (c4 := 100) rfl rfl] at i2
  rw [s5_i (c0 := 119) (c1 := 105) (c2 := 100) (c3 := 111) (c4 := 119) rfl rfl] at i3
  rw [s6_i] at i4
  rw [s4_i] at i5
  unfold M_X1_lineOfName B_X1_lineOfName_0 M_X7_lineNow
  rw [e0, e1, e2, e3, e4, e5]
  simp only [bn_s]
  have f0 : B_X7_lineNow_0 (nI n) (nI a) (nI p) T = _ := l5_r (c0 := 112) (c1 := 108) (c2 := 97) (c3 := 105) (c4 := 110) (E := B_X7_lineNow_28 (nI n) (nI a) (nI p) T) (F := some 0) h hp ha (by omega) (by omega) (by omega) (by omega) (by omega)
  have f1 : B_X7_lineNow_28 (nI n) (nI a) (nI p) T = _ := l5_r (c0 := 115) (c1 := 116) (c2 := 111) (c3 := 117) (c4 := 116) (E := B_X7_lineNow_56 (nI n) (nI a) (nI p) T) (F := some 1) h hp ha (by omega) (by omega) (by omega) (by omega) (by omega)
  have f2 : B_X7_lineNow_56 (nI n) (nI a) (nI p) T = _ := l5_r (c0 := 99) (c1 := 104) (c2 := 105) (c3 := 108) (c4 := 100) (E := B_X7_lineNow_84 (nI n) (nI a) (nI p) T) (F := some 2) h hp ha (by omega) (by omega) (by omega) (by omega) (by omega)
  have f3 : B_X7_lineNow_84 (nI n) (nI a) (nI p) T = _ := l5_r (c0 := 119) (c1 := 105) (c2 := 100) (c3 := 111) (c4 := 119) (E := B_X7_lineNow_112 (nI n) (nI a) (nI p) T) (F := some 3) h hp ha (by omega) (by omega) (by omega) (by omega) (by omega)
  rcases z0 with rfl | rfl
  · rw [i0_0, f0, if_neg (fun q => absurd (i0.mpr q) (by decide))]
    rcases z1 with rfl | rfl
    · rw [i0_0, f1, if_neg (fun q => absurd (i1.mpr q) (by decide))]
      rcases z2 with rfl | rfl
      · rw [i0_0, f2, if_neg (fun q => absurd (i2.mpr q) (by decide))]
        rcases z3 with rfl | rfl
        · rw [i0_0, f3, if_neg (fun q => absurd (i3.mpr q) (by decide))]
          have f5 : B_X7_lineNow_144 (nI n) (nI a) (nI p) T = if a - p = 4 ∧ b p = 114 ∧ b (p + 1) = 111 ∧ b (p + 2) = 116 ∧ b (p + 3) = 97 then some 5 else some (-4) := by
            unfold B_X7_lineNow_144
            rw [show M_X7_is (nI n) (nI a) (nI p) T 4 114 111 116 97 = _ from is_r (L := 4) (c0 := 114) (c1 := 111) (c2 := 116) (c3 := 97) h hp ha (by omega) (by omega) (by omega) (by omega) (by omega) (by omega)]
            simp only [bn_s]
            by_cases c : a - p = 4 ∧ b p = 114 ∧ b (p + 1) = 111 ∧ b (p + 2) = 116 ∧ b (p + 3) = 97
            · rw [if_pos c, if_pos c, i1_0]
            · rw [if_neg c, if_neg c, i0_0]
          have f4 : B_X7_lineNow_112 (nI n) (nI a) (nI p) T = if (a - p = 6 ∧ b p = 98 ∧ b (p + 1) = 97 ∧ b (p + 2) = 114 ∧ b (p + 3) = 114) ∧ b (p + 4) = 111 ∧ b (p + 5) = 119 then some 4 else B_X7_lineNow_144 (nI n) (nI a) (nI p) T := by
            unfold B_X7_lineNow_112
            rw [show M_X7_is (nI n) (nI a) (nI p) T 6 98 97 114 114 = _ from is_r (L := 6) (c0 := 98) (c1 := 97) (c2 := 114) (c3 := 114) h hp ha (by omega) (by omega) (by omega) (by omega) (by omega) (by omega)]
            simp only [bn_s]
            by_cases c : a - p = 6 ∧ b p = 98 ∧ b (p + 1) = 97 ∧ b (p + 2) = 114 ∧ b (p + 3) = 114
            · rw [if_pos c, i1_0, show M_X7_ends (nI n) (nI p) T 111 119 = _ from en_6 (c4 := 111) (c5 := 119) h hp ha (by omega) (by omega) (by omega) (by omega)]
              simp only [bn_s]
              by_cases d : b (p + 4) = 111 ∧ b (p + 5) = 119
              · rw [if_pos d, i1_0, if_pos ⟨c, d⟩]
              · rw [if_neg d, i0_0, if_neg (fun q => d q.2)]
            · rw [if_neg c, i0_0, if_neg (fun q => c q.1)]
          rcases z4 with rfl | rfl
          · rw [i0_0, f4, if_neg (fun q => absurd (i4.mpr q) (by decide)), f5]
            rcases z5 with rfl | rfl
            · rw [i0_0, if_neg (fun q => absurd (i5.mpr q) (by decide))]
              exact Or.inl ⟨rfl, rfl⟩
            · rw [i1_0, if_pos (i5.mp rfl)]
              exact Or.inr ⟨5, by omega, rfl, rfl⟩
          · rw [i1_0, f4, if_pos (i4.mp rfl)]
            exact Or.inr ⟨4, by omega, rfl, rfl⟩
        · rw [i1_0, f3, if_pos (i3.mp rfl)]
          exact Or.inr ⟨3, by omega, rfl, rfl⟩
      · rw [i1_0, f2, if_pos (i2.mp rfl)]
        exact Or.inr ⟨2, by omega, rfl, rfl⟩
    · rw [i1_0, f1, if_pos (i1.mp rfl)]
      exact Or.inr ⟨1, by omega, rfl, rfl⟩
  · rw [i1_0, f0, if_pos (i0.mp rfl)]
    exact Or.inr ⟨0, by omega, rfl, rfl⟩
end
