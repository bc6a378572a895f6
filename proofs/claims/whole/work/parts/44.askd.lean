/-! ask -/
section
variable {pe f : Nat} {S N : Nat → Nat} {w t : s_W} {v : s_V} {x y : Int32}
theorem gk_0 {p : Nat} (h : bk_s pe S w v) (hp : p < pe) (t : s_W) : ∃ K G B R : Nat → Int32, M_X5_become w t = some (mk_w pe S 0 0 K G B R) ∧ ∀ k, k < 4 → gs_p pe (up_n S (3 * p) k) 0 (mk_w pe S 0 0 (upd K p (nI k)) G B R) := by
  have h5 := h.2.1.1
  obtain ⟨K, G, B, R, eb, pt, g, g26, hw⟩ := sb_s h S t
  rw [show cp_n S S = S from by funext j; unfold cp_n; split <;> rfl] at *
  refine ⟨K, G, B, R, eb, fun k hk => ⟨0, 0, up_n S (3 * p) k, upd K p (nI k), G, B, R, ?_, rfl, pt_K g hp pt⟩⟩
  exact (mk_p (p := 0) (by omega)).symm
theorem as_s {g3 g2 g1 g0 : s_W} (v1 v2 v3 v4 v5 v6 : Int32) : M_X6_ask_41 w v (f + 1) t g3 g2 g1 g0 v1 v2 v3 v4 v5 v6 = B_X6_ask_41 (M_X6_ask_41 w v f) w v f t g3 g2 g1 g0 v1 v2 v3 v4 v5 v6 := rfl
theorem as_0 {k41 : (s_W → s_W → s_W → s_W → s_W → Int32 → Int32 → Int32 → Int32 → Int32 → Int32 → Option (Int32 × s_W × s_W × s_W × s_W × s_W))} {p : Nat} {g3 g2 g1 g0 : s_W} {K G B R : Nat → Int32} {z b1 b2 b3 : Int32} (hp : p < 5) (e : M_X5_become w g0 = some (mk_w pe S 0 0 K G B R)) : B_X6_ask_41 k41 w v f t g3 g2 g1 g0 (nI p) z b1 b2 b3 (nI 0) = k41 t g3 g2 g1 (mk_w pe S 0 0 (upd K p (nI 0)) G B R) (nI p) z b1 b2 b3 (nI 1) := by
  unfold B_X6_ask_41
  rw [e]
  simp (disch := omega) only [↓reduceIte, bn_s, show (0 : Int32) = nI 0 from rfl, show (1 : Int32) = nI 1 from rfl, show (2 : Int32) = nI 2 from rfl, show (3 : Int32) = nI 3 from rfl, show (4 : Int32) = nI 4 from rfl, nI_leI, Nat.reduceLeDiff, nI_eq, Nat.reduceEqDiff, eq_self, gi_k, nI_clamp, nI_add, Nat.reduceAdd]
theorem as_1 {k41 : (s_W → s_W → s_W → s_W → s_W → Int32 → Int32 → Int32 → Int32 → Int32 → Int32 → Option (Int32 × s_W × s_W × s_W × s_W × s_W))} {p : Nat} {g3 g2 g1 g0 : s_W} {K G B R : Nat → Int32} {z b1 b2 b3 : Int32} (hp : p < 5) (e : M_X5_become w g1 = some (mk_w pe S 0 0 K G B R)) : B_X6_ask_41 k41 w v f t g3 g2 g1 g0 (nI p) z b1 b2 b3 (nI 1) = k41 t g3 g2 (mk_w pe S 0 0 (upd K p (nI 1)) G B R) g0 (nI p) z b1 b2 b3 (nI 2) := by
  unfold B_X6_ask_41
  rw [e]
  simp (disch := omega) only [↓reduceIte, bn_s, show (0 : Int32) = nI 0 from rfl, show (1 : Int32) = nI 1 from rfl, show (2 : Int32) = nI 2 from rfl, show (3 : Int32) = nI 3 from rfl, show (4 : Int32) = nI 4 from rfl, nI_leI, Nat.reduceLeDiff, nI_eq, Nat.reduceEqDiff, eq_self, gi_k, nI_clamp, nI_add, Nat.reduceAdd]
theorem as_2 {k41 : (s_W → s_W → s_W → s_W → s_W → Int32 → Int32 → Int32 → Int32 → Int32 → Int32 → Option (Int32 × s_W × s_W × s_W × s_W × s_W))} {p : Nat} {g3 g2 g1 g0 : s_W} {K G B R : Nat → Int32} {z b1 b2 b3 : Int32} (hp : p < 5) (e : M_X5_become w g2 = some (mk_w pe S 0 0 K G B R)) : B_X6_ask_41 k41 w v f t g3 g2 g1 g0 (nI p) z b1 b2 b3 (nI 2) = k41 t g3 (mk_w pe S 0 0 (upd K p (nI 2)) G B R) g1 g0 (nI p) z b1 b2 b3 (nI 3) := by
  unfold B_X6_ask_41
  rw [e]
  simp (disch := omega) only [↓reduceIte, bn_s, show (0 : Int32) = nI 0 from rfl, show (1 : Int32) = nI 1 from rfl, show (2 : Int32) = nI 2 from rfl, show (3 : Int32) = nI 3 from rfl, show (4 : Int32) = nI 4 from rfl, nI_leI, Nat.reduceLeDiff, nI_eq, Nat.reduceEqDiff, eq_self, gi_k, nI_clamp, nI_add, Nat.reduceAdd]
theorem as_3 {k41 : (s_W → s_W → s_W → s_W → s_W → Int32 → Int32 → Int32 → Int32 → Int32 → Int32 → Option (Int32 × s_W × s_W × s_W × s_W × s_W))} {p : Nat} {g3 g2 g1 g0 : s_W} {K G B R : Nat → Int32} {z b1 b2 b3 : Int32} (hp : p < 5) (e : M_X5_become w g3 = some (mk_w pe S 0 0 K G B R)) : B_X6_ask_41 k41 w v f t g3 g2 g1 g0 (nI p) z b1 b2 b3 (nI 3) = k41 t (mk_w pe S 0 0 (upd K p (nI 3)) G B R) g2 g1 g0 (nI p) z b1 b2 b3 (nI 4) := by
  unfold B_X6_ask_41
  rw [e]
  simp (disch := omega) only [↓reduceIte, bn_s, show (0 : Int32) = nI 0 from rfl, show (1 : Int32) = nI 1 from rfl, show (2 : Int32) = nI 2 from rfl, show (3 : Int32) = nI 3 from rfl, show (4 : Int32) = nI 4 from rfl, nI_leI, Nat.reduceLeDiff, nI_eq, Nat.reduceEqDiff, eq_self, gi_k, nI_clamp, nI_add, Nat.reduceAdd]
theorem as_4 {k41 : (s_W → s_W → s_W → s_W → s_W → Int32 → Int32 → Int32 → Int32 → Int32 → Int32 → Option (Int32 × s_W × s_W × s_W × s_W × s_W))} {p : Nat} {g3 g2 g1 g0 : s_W} {z b1 b2 b3 : Int32} : B_X6_ask_41 k41 w v f t g3 g2 g1 g0 (nI p) z b1 b2 b3 (nI 4) = M_X6_ask_84 w v f t g3 g2 g1 g0 z b1 b2 b3 0 := by
  unfold B_X6_ask_41
  rw [if_pos (by decide)]
theorem ca_41 {p : Nat} {z b1 b2 b3 : Int32} {w3 w2 w1 w0 : s_W} (h : bk_s pe S w v) (hp : p < pe) : ∃ u3 u2 u1 u0, M_X6_ask_41 w v (f + 5) t w3 w2 w1 w0 (nI p) z b1 b2 b3 (nI 0) = M_X6_ask_84 w v f t u3 u2 u1 u0 z b1 b2 b3 0 ∧ g4_p pe (fun k => up_n S (3 * p) k) 0 u3 u2 u1 u0 := by
  have h5 := h.2.1.1
  obtain ⟨K0, G0, B0, R0, e0, p0⟩ := gk_0 h hp w0
  obtain ⟨K1, G1, B1, R1, e1, p1⟩ := gk_0 h hp w1
  obtain ⟨K2, G2, B2, R2, e2, p2⟩ := gk_0 h hp w2
  obtain ⟨K3, G3, B3, R3, e3, p3⟩ := gk_0 h hp w3
  refine ⟨mk_w pe S 0 0 (upd K3 p (nI 3)) G3 B3 R3, mk_w pe S 0 0 (upd K2 p (nI 2)) G2 B2 R2, mk_w pe S 0 0 (upd K1 p (nI 1)) G1 B1 R1, mk_w pe S 0 0 (upd K0 p (nI 0)) G0 B0 R0, ?_, p0 0 (by omega), p1 1 (by omega), p2 2 (by omega), p3 3 (by omega)⟩
  exact (as_s (f := f + 4) _ _ _ _ _ _).trans ((as_0 (by omega) e0).trans ((as_s (f := f + 3) _ _ _ _ _ _).trans ((as_1 (by omega) e1).trans ((as_s (f := f + 2) _ _ _ _ _ _).trans ((as_2 (by omega) e2).trans ((as_s (f := f + 1) _ _ _ _ _ _).trans ((as_3 (by omega) e3).trans ((as_s (f := f) _ _ _ _ _ _).trans as_4))))))))
theorem op_ask {bc bm : Int32} {H BK : Nat → Int32} {g3 g2 g1 g0 : s_W} (h : bk_s pe S w v) (hf : 2000 < f) (z1 z2 : Int32) : ∃ r q1 q2, M_X6_ask w v f t g3 g2 g1 g0 z1 z2 = some (r, q1) ∧ M_X7_ask (nI pe) (nf_a S) f x y bc bm (nf_a N) H BK z1 z2 = some (r, q2) := by
  obtain ⟨K, G, B, R, eb, pt, g, g26, hw⟩ := sb_s h N t
  have h5 := g.1
  unfold M_X6_ask B_X6_ask_0 M_X7_ask B_X7_ask_0
  rw [pa_e]
  rcases on_c z1 g.1 with ⟨p, hp, rfl, e1, e2⟩ | ⟨e1, e2⟩
  · rw [e1 _ hw, e2]
    simp only [bn_s, i1_0]
    rcases wi_c z2 0 1 0 1 rfl rfl (by omega) (by omega) with ⟨m, m1, m2, rfl, e4⟩ | e4
    · rw [e4]
      simp only [bn_s, i1_0]
      obtain ⟨F, hF⟩ : ∃ F : Nat → Bool, ∀ k, k < 4 → (F k = true ↔ so_p pe S (up_n S (3 * p) k)) := ⟨fun k => @decide _ (Classical.propDecidable (so_p pe S (up_n S (3 * p) k))), fun k _ => by simp⟩
      obtain ⟨t2, e5⟩ := fk_4 h hp hF 4 f 0 t (by omega) (by omega)
      rw [show M_X6_fittingKinds w v f t (nI p) = _ from e5]
      simp only [bn_s]
      rw [lb_c]
      simp only [bn_s]
      obtain ⟨f2, x2, y2, nw2, H2, BK2, r1, r2, r3⟩ := ra_22 (z := nI m) h hp hF 4 f 0 x y bc bm N H BK (by omega) (by omega) (fun k hk => absurd hk (by omega))
      rw [show M_X7_ask_22 (nI pe) (nf_a S) f x y bc bm (nf_a N) H BK (nI p) (nI m) 0 0 = _ from r2]
      obtain ⟨u3, u2, u1, u0, r4, r5⟩ := ca_41 (f := f - 5) (t := t2) (z := nI m) (b1 := lb_n F 4) (b2 := nI (fc_n F 4)) (b3 := -4) (w3 := g3) (w2 := g2) (w1 := g1) (w0 := g0) h hp
      rw [show f - 5 + 5 = f by omega] at r4
      rw [show M_X6_ask_41 w v f t2 g3 g2 g1 g0 (nI p) (nI m) (lb_n F 4) (nI (fc_n F 4)) (-4) 0 = _ from r4]
      exact aj_l (a := fun k => up_n S (3 * p) k) h5 hw (fun k hk => ⟨gd_K h.2.1 hp (by omega), by
        show up_n S (3 * p) k 26 ≤ 1100
        rw [up_o (by omega)]
        have := h.2.2.1
        omega⟩) r3 25 (f - 5) f2 0 (fc_n F 4) (-4) u3 u2 u1 u0 (by omega) (by omega) (by omega) (fc_le F 4) r5
    · rw [e4]
      exact ⟨_, _, _, rfl, rfl⟩
  · rw [e1 _ hw, e2]
    exact ⟨_, _, _, rfl, rfl⟩
end
