/-! ask: both -/
section
variable {pe f : Nat} {S N : Nat → Nat} {w t : s_W} {v : s_V} {x y : Int32}
theorem ma_1 {k5 : Int32 → Int32 → Int32 → Int32 → Option (Int32)} {w3 w2 w1 w0 : s_W} {F : Nat → Bool} {q i m : Nat} (hq : q < 5) (hi : i < 4) (hm : m ≤ 4) : ∀ (d f j : Nat), j + d = 4 → d < f → M_X6_mostAlike_17 k5 w3 w2 w1 w0 f (lb_n F 4) (nI q) (nI m) (nI i) (nI (if F i = true then cn_n F (gg_n w3 w2 w1 w0 q) (gg_n w3 w2 w1 w0 q i) j else 0)) (nI j) = k5 (lb_n F 4) (nI q) (nI (max m (if F i = true then cn_n F (gg_n w3 w2 w1 w0 q) (gg_n w3 w2 w1 w0 q i) 4 else 0))) (nI (i + 1)) := by
  intro d
  induction d with
  | zero =>
    intro f j hj hf
    obtain ⟨f, rfl⟩ : ∃ g, f = g + 1 := ⟨f - 1, by omega⟩
    obtain rfl : j = 4 := by omega
    have lc := cn_le F (gg_n w3 w2 w1 w0 q) (gg_n w3 w2 w1 w0 q i) 4
    generalize hC : (if F i = true then cn_n F (gg_n w3 w2 w1 w0 q) (gg_n w3 w2 w1 w0 q i) 4 else 0) = C
    have hC4 : C ≤ 4 := by rw [← hC]; split <;> omega
    show B_X6_mostAlike_17 _ _ _ _ _ _ _ _ _ _ _ _ _ = _
    unfold B_X6_mostAlike_17
    rw [if_pos (show (4 : Int32) ≤ nI 4 from (nI_leI (a := 4) (b := 4) (by omega) (by omega)).mpr (by omega))]
    simp (disch := omega) only [nm_s, nI_ltI, nI_1]
    congr 1
    by_cases c : m < C
    · rw [if_pos c, show max m C = C by omega]
    · rw [if_neg c, show max m C = m by omega]
  | succ d ih =>
    intro f j hj hf
    obtain ⟨f, rfl⟩ : ∃ g, f = g + 1 := ⟨f - 1, by omega⟩
    rw [← ih f (j + 1) (by omega) (by omega)]
    show B_X6_mostAlike_17 _ _ _ _ _ _ _ _ _ _ _ _ _ = _
    rw [ma_0 hq hi (by omega)]
    congr 1
    by_cases c : F i = true
    · rw [if_pos c, if_pos c, cn_n]
      by_cases c2 : F j = true ∧ gg_n w3 w2 w1 w0 q i = gg_n w3 w2 w1 w0 q j
      · rw [if_pos ⟨⟨c, c2.1⟩, c2.2⟩, if_pos c2, nI_1]
      · rw [if_neg (fun z => c2 ⟨z.1.2, z.2⟩), if_neg c2, Nat.add_zero]
    · rw [if_neg c, if_neg (fun z => c z.1.1), if_neg c]
theorem ma_5 {w3 w2 w1 w0 : s_W} {F : Nat → Bool} {q : Nat} (hq : q < 5) : ∀ (d f i : Nat), i + d = 4 → d + 10 < f → M_X6_mostAlike_5 w3 w2 w1 w0 f (lb_n F 4) (nI q) (nI (mx_n F (gg_n w3 w2 w1 w0 q) i)) (nI i) = some (nI (mx_n F (gg_n w3 w2 w1 w0 q) 4)) := by
  intro d
  induction d with
  | zero =>
    intro f i hi hf
    obtain ⟨f, rfl⟩ : ∃ g, f = g + 1 := ⟨f - 1, by omega⟩
    obtain rfl : i = 4 := by omega
    rfl
  | succ d ih =>
    intro f i hi hf
    obtain ⟨f, rfl⟩ : ∃ g, f = g + 1 := ⟨f - 1, by omega⟩
    have e := ma_1 (k5 := M_X6_mostAlike_5 w3 w2 w1 w0 f) (w3 := w3) (w2 := w2) (w1 := w1) (w0 := w0) (F := F) (m := mx_n F (gg_n w3 w2 w1 w0 q) i) hq (show i < 4 by omega) (mx_le _ _ _) 4 f 0 (by omega) (by omega)
    have e2 := ih f (i + 1) (by omega) (by omega)
    rw [mx_n] at e2
    rw [← e2, ← e]
    show B_X6_mostAlike_5 _ _ _ _ _ _ _ _ _ _ = _
    unfold B_X6_mostAlike_5
    rw [if_neg (fun q => by have := (nI_leI (a := 4) (b := i) (by omega) (by omega)).mp q; omega)]
    by_cases c : F i = true
    · rw [if_pos c]; rfl
    · rw [if_neg c]; rfl
theorem ma_r {w3 w2 w1 w0 : s_W} {F : Nat → Bool} {q : Nat} (hq : q < 5) (hf : 20 < f) : M_X6_mostAlike w3 w2 w1 w0 f (lb_n F 4) (nI q) = some (nI (mx_n F (gg_n w3 w2 w1 w0 q) 4)) := ma_5 hq 4 f 0 (by omega) (by omega)
/-- four guesses, h hours on -/
def g4_p (pe : Nat) (a : Nat → Nat → Nat) (h : Nat) (w3 w2 w1 w0 : s_W) : Prop := gs_p pe (a 0) h w0 ∧ gs_p pe (a 1) h w1 ∧ gs_p pe (a 2) h w2 ∧ gs_p pe (a 3) h w3
theorem g4_g {a : Nat → Nat → Nat} {h q k : Nat} {w3 w2 w1 w0 : s_W} (g : g4_p pe a h w3 w2 w1 w0) (hq : q < pe) (hk : k < 4) : gg_n w3 w2 w1 w0 q k = nI ((hs_n pe h (0, 0, a k)).2.2 (3 * q + 1)) := by
  have hk2 : k = 0 ∨ k = 1 ∨ k = 2 ∨ k = 3 := by omega
  rcases hk2 with rfl | rfl | rfl | rfl
  · exact gs_g g.1 hq
  · exact gs_g g.2.1 hq
  · exact gs_g g.2.2.1 hq
  · exact gs_g g.2.2.2 hq
theorem ca_145 {k84 : s_W → s_W → s_W → s_W → s_W → Int32 → Int32 → Int32 → Int32 → Int32 → Option (Int32 × s_W × s_W × s_W × s_W × s_W)} {a : Nat → Nat → Nat} {h : Nat} {w3 w2 w1 w0 : s_W} {z b1 b2 b3 : Int32} (ga : ∀ k, k < 4 → gd_s pe (a k) ∧ a k 26 + h ≤ 1999) (g : g4_p pe a h w3 w2 w1 w0) (hf : 300 < f) : ∃ u3 u2 u1 u0, M_X6_ask_145 k84 w v f t w3 w2 w1 w0 z b1 b2 b3 (nI h) 0 = k84 t u3 u2 u1 u0 z b1 b2 b3 (nI (h + 1)) ∧ g4_p pe a (h + 1) u3 u2 u1 u0 := by
  obtain ⟨f, rfl⟩ : ∃ g, f = g + 5 := ⟨f - 5, by omega⟩
  obtain ⟨u0, e0, p0⟩ := gs_1 (f := f + 4) (ga 0 (by omega)).1 (ga 0 (by omega)).2 (by omega) g.1
  obtain ⟨u1, e1, p1⟩ := gs_1 (f := f + 3) (ga 1 (by omega)).1 (ga 1 (by omega)).2 (by omega) g.2.1
  obtain ⟨u2, e2, p2⟩ := gs_1 (f := f + 2) (ga 2 (by omega)).1 (ga 2 (by omega)).2 (by omega) g.2.2.1
  obtain ⟨u3, e3, p3⟩ := gs_1 (f := f + 1) (ga 3 (by omega)).1 (ga 3 (by omega)).2 (by omega) g.2.2.2
  refine ⟨u3, u2, u1, u0, ?_, p0, p1, p2, p3⟩
  have s0 : M_X6_ask_145 k84 w v (f + 5) t w3 w2 w1 w0 z b1 b2 b3 (nI h) 0 = M_X6_ask_145 k84 w v (f + 4) t w3 w2 w1 u0 z b1 b2 b3 (nI h) 1 := by
    show B_X6_ask_145 _ _ _ _ _ _ _ _ _ _ _ _ _ _ _ _ = _
    unfold B_X6_ask_145
    rw [e0]
    rfl
  have s1 : M_X6_ask_145 k84 w v (f + 4) t w3 w2 w1 u0 z b1 b2 b3 (nI h) 1 = M_X6_ask_145 k84 w v (f + 3) t w3 w2 u1 u0 z b1 b2 b3 (nI h) 2 := by
    show B_X6_ask_145 _ _ _ _ _ _ _ _ _ _ _ _ _ _ _ _ = _
    unfold B_X6_ask_145
    rw [e1]
    rfl
  have s2 : M_X6_ask_145 k84 w v (f + 3) t w3 w2 u1 u0 z b1 b2 b3 (nI h) 2 = M_X6_ask_145 k84 w v (f + 2) t w3 u2 u1 u0 z b1 b2 b3 (nI h) 3 := by
    show B_X6_ask_145 _ _ _ _ _ _ _ _ _ _ _ _ _ _ _ _ = _
    unfold B_X6_ask_145
    rw [e2]
    rfl
  have s3 : M_X6_ask_145 k84 w v (f + 2) t w3 u2 u1 u0 z b1 b2 b3 (nI h) 3 = M_X6_ask_145 k84 w v (f + 1) t u3 u2 u1 u0 z b1 b2 b3 (nI h) 4 := by
    show B_X6_ask_145 _ _ _ _ _ _ _ _ _ _ _ _ _ _ _ _ = _
    unfold B_X6_ask_145
    rw [e3]
    rfl
  rw [s0, s1, s2, s3]
  show B_X6_ask_145 _ _ _ _ _ _ _ _ _ _ _ _ _ _ _ _ = _
  unfold B_X6_ask_145
  rw [if_pos (by decide), nI_1]
theorem aj_q {F : Nat → Bool} {a : Nat → Nat → Nat} {h : Nat} {w3 w2 w1 w0 : s_W} {z : Int32} {st nw H BK : Nat → Int32} {k84 : s_W → s_W → s_W → s_W → s_W → Int32 → Int32 → Int32 → Int32 → Int32 → Option (Int32 × s_W × s_W × s_W × s_W × s_W)} (h5 : pe ≤ 5) (hw : w.1 = nI pe) (hh : h ≤ 24) (g : g4_p pe a h w3 w2 w1 w0) (hv : ∀ k, k < 4 → F k = true → hv_p pe (a k) (fun c => BK (125 * fc_n F k + c)) 25) : ∀ (d f e q bm : Nat) (bc : Int32), q + d = pe → d + 30 < f → d + 30 < e → bm ≤ 4 → ∃ bm2 bc2 f2 e2, bm2 ≤ 4 ∧ f2 + d + 1 = f ∧ e2 + d = e ∧ M_X6_ask_94 k84 w v f t w3 w2 w1 w0 z (lb_n F 4) (nI bm) bc (nI h) (nI q) = M_X6_ask_145 k84 w v f2 t w3 w2 w1 w0 z (lb_n F 4) (nI bm2) bc2 (nI h) 0 ∧ M_X7_ask_94 (nI pe) st e x y bc (nI bm) nw H BK z (nI (fc_n F 4)) (nI (5 * h + q)) = M_X7_ask_94 (nI pe) st e2 x y bc2 (nI bm2) nw H BK z (nI (fc_n F 4)) (nI (5 * h + pe)) := by
  intro d
  induction d with
  | zero =>
    intro f e q bm bc hq hf he hb
    obtain ⟨f, rfl⟩ : ∃ g, f = g + 1 := ⟨f - 1, by omega⟩
    obtain rfl : q = pe := by omega
    refine ⟨bm, bc, f, e, hb, by omega, by omega, ?_, rfl⟩
    show B_X6_ask_94 _ _ _ _ _ _ _ _ _ _ _ _ _ _ _ _ = _
    unfold B_X6_ask_94
    rw [hw, if_pos ((nI_leI (by omega) (by omega)).mpr (by omega))]
  | succ d ih =>
    intro f e q bm bc hq hf he hb
    obtain ⟨f, rfl⟩ : ∃ g, f = g + 1 := ⟨f - 1, by omega⟩
    obtain ⟨e, rfl⟩ : ∃ g, e = g + 1 := ⟨e - 1, by omega⟩
    have lm := mx_le F (gg_n w3 w2 w1 w0 q) 4
    have er := ra_94 (x := x) (y := y) (bc := bc) (z := z) (st := st) (nw := nw) (H := H) (BK := BK) (F := F) (g := gg_n w3 w2 w1 w0 q) (c := 5 * h + q) (bm := bm) (f := e) h5 hb (by omega) (fun k hk hFk => by
      rw [g4_g g (by omega) hk]
      exact hv k hk hFk h (by omega) q (by omega)) (by omega)
    rw [show (5 * h + q) % 5 = q by omega, show (5 * h + q) / 5 = h by omega] at er
    have ec : M_X6_ask_94 k84 w v (f + 1) t w3 w2 w1 w0 z (lb_n F 4) (nI bm) bc (nI h) (nI q) = M_X6_ask_94 k84 w v f t w3 w2 w1 w0 z (lb_n F 4) (nI (if q < pe ∧ mx_n F (gg_n w3 w2 w1 w0 q) 4 < bm then mx_n F (gg_n w3 w2 w1 w0 q) 4 else bm)) (if q < pe ∧ mx_n F (gg_n w3 w2 w1 w0 q) 4 < bm then nI (10 * h + q) else bc) (nI h) (nI (q + 1)) := by
      show B_X6_ask_94 _ _ _ _ _ _ _ _ _ _ _ _ _ _ _ _ = _
      unfold B_X6_ask_94 B_X6_ask_136
      rw [hw, ma_r (by omega) (by omega)]
      simp (disch := omega) only [nI_leI, bn_s, nm_s, show (10 : Int32) = nI 10 from rfl, pk_mul, nI_add, nI_1]
      rw [if_neg (by omega)]
      by_cases c : bm ≤ mx_n F (gg_n w3 w2 w1 w0 q) 4
      · rw [if_pos c, if_neg (by omega), if_neg (by omega)]
      · rw [if_neg c, if_pos (by omega), if_pos (by omega)]
    rw [ec, er]
    obtain ⟨bm2, bc2, f2, e2, r1, r2, r3, r4, r5⟩ := ih f e (q + 1) (if q < pe ∧ mx_n F (gg_n w3 w2 w1 w0 q) 4 < bm then mx_n F (gg_n w3 w2 w1 w0 q) 4 else bm) (if q < pe ∧ mx_n F (gg_n w3 w2 w1 w0 q) 4 < bm then nI (10 * h + q) else bc) (by omega) (by omega) (by omega) (by split <;> omega)
    exact ⟨bm2, bc2, f2, e2, r1, by omega, by omega, r4, r5⟩
theorem aj_r {F : Nat → Bool} {h bm : Nat} {z bc : Int32} {st nw H BK : Nat → Int32} (h5 : pe ≤ 5) (hh : h ≤ 24) (hb : bm ≤ 4) : ∀ (d e q : Nat), q + d = 5 → pe ≤ q → d + 30 < e → ∃ e2, e2 + d = e ∧ M_X7_ask_94 (nI pe) st e x y bc (nI bm) nw H BK z (nI (fc_n F 4)) (nI (5 * h + q)) = M_X7_ask_94 (nI pe) st e2 x y bc (nI bm) nw H BK z (nI (fc_n F 4)) (nI (5 * (h + 1))) := by
  intro d
  induction d with
  | zero =>
    intro e q hq hp he
    obtain rfl : q = 5 := by omega
    exact ⟨e, by omega, rfl⟩
  | succ d ih =>
    intro e q hq hp he
    obtain ⟨e, rfl⟩ : ∃ g, e = g + 1 := ⟨e - 1, by omega⟩
    have er := ra_94 (x := x) (y := y) (bc := bc) (z := z) (st := st) (nw := nw) (H := H) (BK := BK) (F := F) (g := fun k => BK (125 * fc_n F k + (5 * h + q))) (c := 5 * h + q) (bm := bm) (f := e) h5 hb (by omega) (fun k hk hFk => rfl) (by omega)
    rw [if_neg (by omega), if_neg (by omega)] at er
    obtain ⟨e2, r1, r2⟩ := ih e (q + 1) (by omega) (by omega) (by omega)
    exact ⟨e2, by omega, er.trans r2⟩
theorem aj_l {F : Nat → Bool} {a : Nat → Nat → Nat} {z : Int32} {st nw H BK : Nat → Int32} (h5 : pe ≤ 5) (hw : w.1 = nI pe) (ga : ∀ k, k < 4 → gd_s pe (a k) ∧ a k 26 ≤ 1100) (hv : ∀ k, k < 4 → F k = true → hv_p pe (a k) (fun c => BK (125 * fc_n F k + c)) 25) : ∀ (d f e h bm : Nat) (bc : Int32) (w3 w2 w1 w0 : s_W), h + d = 25 → d + 400 < f → 5 * d + 400 < e → bm ≤ 4 → g4_p pe a h w3 w2 w1 w0 → ∃ r q1 q2, M_X6_ask_84 w v f t w3 w2 w1 w0 z (lb_n F 4) (nI bm) bc (nI h) = some (r, q1) ∧ M_X7_ask_94 (nI pe) st e x y bc (nI bm) nw H BK z (nI (fc_n F 4)) (nI (5 * h)) = some (r, q2) := by
  intro d
  induction d with
  | zero =>
    intro f e h bm bc w3 w2 w1 w0 hh hf he hb g
    obtain ⟨f, rfl⟩ : ∃ g, f = g + 1 := ⟨f - 1, by omega⟩
    obtain ⟨e, rfl⟩ : ∃ g, e = g + 1 := ⟨e - 1, by omega⟩
    obtain rfl : h = 25 := by omega
    refine ⟨if z = 0 then bc else if bc = -4 then bc else nI bm, (t, w3, w2, w1, w0), (x, y, bc, nI bm, nw, H, BK), ?_, ?_⟩
    · show B_X6_ask_84 _ _ _ _ _ _ _ _ _ _ _ _ _ _ = _
      unfold B_X6_ask_84
      rw [if_pos (by decide)]
      split
      · rfl
      · split <;> rfl
    · show B_X7_ask_94 _ _ _ _ _ _ _ _ _ _ _ _ _ _ = _
      unfold B_X7_ask_94 M_X7_judged B_X7_judged_0
      rw [if_pos (by decide)]
      by_cases c1 : bc = -4
      · rw [c1, if_pos rfl, if_pos rfl]
        by_cases c2 : z = 0
        · rw [if_pos c2]; rfl
        · rw [if_neg c2]; rfl
      · rw [if_neg c1, if_neg c1]
        by_cases c2 : z = 0
        · rw [if_pos c2, if_pos c2]; rfl
        · rw [if_neg c2, if_neg c2]; rfl
  | succ d ih =>
    intro f e h bm bc w3 w2 w1 w0 hh hf he hb g
    obtain ⟨f, rfl⟩ : ∃ g, f = g + 1 := ⟨f - 1, by omega⟩
    obtain ⟨bm2, bc2, f2, e2, r1, r2, r3, r4, r5⟩ := aj_q (F := F) (v := v) (t := t) (x := x) (y := y) (z := z) (st := st) (nw := nw) (H := H) (k84 := M_X6_ask_84 w v f) h5 hw (show h ≤ 24 by omega) g hv pe f e 0 bm bc (by omega) (by omega) (by omega) hb
    obtain ⟨e3, r6, r7⟩ := aj_r (F := F) (x := x) (y := y) (bc := bc2) (z := z) (st := st) (nw := nw) (H := H) (BK := BK) h5 (show h ≤ 24 by omega) r1 (5 - pe) e2 pe (by omega) (by omega) (by omega)
    obtain ⟨u3, u2, u1, u0, r8, r9⟩ := ca_145 (w := w) (v := v) (t := t) (k84 := M_X6_ask_84 w v f) (z := z) (b1 := lb_n F 4) (b2 := nI bm2) (b3 := bc2) (f := f2) (fun k hk => ⟨(ga k hk).1, by have := (ga k hk).2; omega⟩) g (by omega)
    obtain ⟨r, q1, q2, r10, r11⟩ := ih f e3 (h + 1) bm2 bc2 u3 u2 u1 u0 (by omega) (by omega) (by omega) r1 r9
    refine ⟨r, q1, q2, ?_, ?_⟩
    · rw [← r10, ← r8, ← r4]
      show B_X6_ask_84 _ _ _ _ _ _ _ _ _ _ _ _ _ _ = _
      unfold B_X6_ask_84
      rw [if_neg (fun q => by have := (nI_ltI (a := 24) (b := h) (by omega) (by omega)).mp q; omega)]
      rfl
    · rw [← r11, ← r7, ← r5]
      rfl
end
