/-! ask: the class's guesses -/
section
variable {pe f : Nat} {S N : Nat → Nat} {w t : s_W} {v : s_V} {x y : Int32}
theorem fk_4 {p : Nat} {F : Nat → Bool} (h : bk_s pe S w v) (hp : p < pe) (hF : ∀ k, k < 4 → (F k = true ↔ so_p pe S (up_n S (3 * p) k))) : ∀ (k f i : Nat) (t : s_W), i + k = 4 → k + 1000 < f → ∃ t2, M_X6_fittingKinds_4 w v f t (nI p) (lb_n F i) (nI i) = some (lb_n F 4, t2) := by
  have h5 := h.2.1.1
  have sg := h.2.2.2
  intro k
  induction k with
  | zero =>
    intro f i t hi hf
    obtain ⟨f, rfl⟩ : ∃ g, f = g + 1 := ⟨f - 1, by omega⟩
    obtain rfl : i = 4 := by omega
    exact ⟨_, rfl⟩
  | succ k ih =>
    intro f i t hi hf
    obtain ⟨f, rfl⟩ : ∃ g, f = g + 1 := ⟨f - 1, by omega⟩
    obtain ⟨K, G, B, R, eb, pt, g, g26, hw⟩ := sb_s h S t
    have pa := pt_K (x := i) g hp pt
    have ga := gd_K (x := i) g hp (by omega)
    have a26 : up_n (cp_n S S) (3 * p) i 26 ≤ 1100 := by rw [up_o (by omega)]; omega
    obtain ⟨r1, t1, e1, r101, rr1⟩ := cf_ft (f := f) sg ga a26 (by omega) pa
    rw [show cp_n S S = S from by funext j; unfold cp_n; split <;> rfl] at rr1
    rw [mk_p (p := 0) (by omega)] at e1
    have f1 : M_X6_fittingKinds_4 w v (f + 1) t (nI p) (lb_n F i) (nI i) = M_X6_fittingKinds_4 w v f t1 (nI p) (if r1 = 0 then lb_n F i else lb_n F i ||| (1 <<< (nI i &&& 31))) (nI (i + 1)) := by
      show B_X6_fittingKinds_4 _ _ _ _ _ _ _ _ = _
      unfold B_X6_fittingKinds_4 B_X6_fittingKinds_50
      rw [eb]
      simp (disch := omega) only [bn_s, show (4 : Int32) = nI 4 from rfl, nI_leI, gi_k, nI_clamp, nI_1, nm_s]
      rw [if_neg (by omega), show M_X3_fit v f (nI pe, nI (cp_n S S 17), nI (cp_n S S 15), nI (cp_n S S 16), nI (cp_n S S 26), nI 0, nI 0, upd K p (nI i), G, B, R) = _ from e1]
      simp only [bn_s]
      by_cases c : r1 = 0
      · rw [if_pos c, if_pos c]
      · rw [if_neg c, if_neg c]
    have hr : r1 = 1 ↔ F i = true := rr1.trans (hF i (by omega)).symm
    have e2 : (if r1 = 0 then lb_n F i else lb_n F i ||| (1 <<< (nI i &&& 31))) = lb_n F (i + 1) := by
      rw [lb_n]
      by_cases cF : F i = true
      · rw [if_pos cF, hr.mpr cF, i1_0]
      · rw [if_neg cF]
        rcases r101 with c | c
        · rw [if_pos c]
        · exact absurd (hr.mp c) cF
    rw [f1, e2]
    exact ih f (i + 1) _ (by omega) (by omega)
/-- a guess, h hours on -/
def gs_p (pe : Nat) (a : Nat → Nat) (h : Nat) (w : s_W) : Prop := ∃ (he sp : Nat) (b : Nat → Nat) (K G B R : Nat → Int32), w = mk_w pe b he sp K G B R ∧ (he, sp, b) = hs_n pe h (0, 0, a) ∧ pt_w pe b K G B R
theorem gs_1 {a : Nat → Nat} {h : Nat} (ga : gd_s pe a) (h26 : a 26 + h ≤ 1999) (hf : 200 < f) (g : gs_p pe a h w) : ∃ w2, M_X5_passOne f w = some w2 ∧ gs_p pe a (h + 1) w2 := by
  obtain ⟨he, sp, b, K, G, B, R, rfl, hb, pt⟩ := g
  obtain ⟨i1, -, -, -, -⟩ := gd_hs h 0 0 a ga (by omega)
  rw [← hb] at i1
  obtain ⟨G2, e3, p3⟩ := cf_hr (f := f) (he := he) (sp := sp) i1 hf pt
  refine ⟨_, e3, _, _, _, _, _, _, _, rfl, ?_, p3⟩
  rw [hs_s, ← hb]
theorem gs_g {a : Nat → Nat} {h q : Nat} (g : gs_p pe a h w) (hq : q < pe) : w.2.2.2.2.2.2.2.2.1 q = nI ((hs_n pe h (0, 0, a)).2.2 (3 * q + 1)) := by
  obtain ⟨he, sp, b, K, G, B, R, rfl, hb, pt⟩ := g
  rw [← hb]
  exact (pt.1 q hq).2.1
/-- the griefs of the guesses -/
def gg_n (w3 w2 w1 w0 : s_W) (q k : Nat) : Int32 := if k = 0 then w0.2.2.2.2.2.2.2.2.1 q else if k = 1 then w1.2.2.2.2.2.2.2.2.1 q else if k = 2 then w2.2.2.2.2.2.2.2.2.1 q else w3.2.2.2.2.2.2.2.2.1 q
theorem ma_0 {k5 : Int32 → Int32 → Int32 → Int32 → Option (Int32)} {k17 : Int32 → Int32 → Int32 → Int32 → Int32 → Int32 → Option (Int32)} {w3 w2 w1 w0 : s_W} {F : Nat → Bool} {q i j : Nat} {a b : Int32} (hq : q < 5) (hi : i < 4) (hj : j < 4) : B_X6_mostAlike_17 k5 k17 w3 w2 w1 w0 f (lb_n F 4) (nI q) a (nI i) b (nI j) = k17 (lb_n F 4) (nI q) a (nI i) (if (F i = true ∧ F j = true) ∧ gg_n w3 w2 w1 w0 q i = gg_n w3 w2 w1 w0 q j then b + 1 else b) (nI (j + 1)) := by
  have ht := lb_t F i j hi hj
  unfold B_X6_mostAlike_17 B_X6_mostAlike_68
  rw [if_neg (show ¬ (4 : Int32) ≤ nI j from fun q => by have := (nI_leI (a := 4) (b := j) (by omega) (by omega)).mp q; omega)]
  by_cases hc : F i = true ∧ F j = true
  · rw [if_pos (ht.mpr hc)]
    have hi2 : i = 0 ∨ i = 1 ∨ i = 2 ∨ i = 3 := by omega
    have hj2 : j = 0 ∨ j = 1 ∨ j = 2 ∨ j = 3 := by omega
    have e : (if (F i = true ∧ F j = true) ∧ gg_n w3 w2 w1 w0 q i = gg_n w3 w2 w1 w0 q j then b + 1 else b) = if gg_n w3 w2 w1 w0 q i = gg_n w3 w2 w1 w0 q j then b + 1 else b := by
      by_cases c : gg_n w3 w2 w1 w0 q i = gg_n w3 w2 w1 w0 q j
      · rw [if_pos c, if_pos ⟨hc, c⟩]
      · rw [if_neg c, if_neg (fun z => c z.2)]
    rw [e]
    clear e ht hc
    rcases hi2 with rfl | rfl | rfl | rfl <;> rcases hj2 with rfl | rfl | rfl | rfl <;> simp (disch := omega) only [↓reduceIte, show (0 : Int32) = nI 0 from rfl, show (2 : Int32) = nI 2 from rfl, show (3 : Int32) = nI 3 from rfl, show (1 : Int32) = nI 1 from rfl, nI_eq, gg_n, Nat.reduceEqDiff, gi_k, nI_clamp, nI_add, Nat.reduceAdd, eq_self, Nat.zero_add] <;> split <;> rfl
  · rw [if_neg (fun z => hc (ht.mp z)), if_neg (fun z => hc z.1), nI_1]
end
