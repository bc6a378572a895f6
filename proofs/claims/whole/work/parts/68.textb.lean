/-! a text, in both -/
section
variable {n : Nat} {b : Nat → Nat} {B T : Nat → Int32}
/-- what class and reference have behind the lines of a text -/
def tx_p (n : Nat) (pp : Int32) (S : Nat → Nat) (kp : Nat → Int32) (cls : Option (Int32 × s_R × s_W × s_T)) (rf : Option (Int32 × Int32 × Int32 × Int32 × Int32 × Int32 × Int32 × Int32 × Int32 × Int32 × Int32 × Int32 × Int32 × (Nat → Int32) × (Nat → Int32) × (Nat → Int32))) : Prop := ∃ r R' w' t' dp hb hr hi' po be so va wr dr pp' S' kp', cls = some (r, R', w', t') ∧ rf = some (r, pp', dp, hb, hr, hi', 0, po, be, so, va, R'.2.2, wr, dr, nf_a S', kp') ∧ ((R'.2.2 = 0 ∧ ∃ pe' d' hi2, dw_p pe' d' hi2 w' ∧ (∀ j, j < d' 17 → d' (18 + j) < pe') ∧ pp' = nI pe' ∧ S' = cp_n d' S ∧ kp' = upd (upd kp 0 0) 1 0) ∨ (¬ R'.2.2 = 0 ∧ pp' = pp ∧ S' = S ∧ kp' = kp))
theorem tx_e {f x : Nat} {pp dp hb hr hi tp ps bg so va fa wr v1 : Int32} {dr st kp : Nat → Int32} (h1 : 1 ≤ x) (h2 : x ≤ 6) (e : fa = nI x) : M_X7_text_20 T (f + 1) pp dp hb hr hi tp ps bg so va fa wr dr st kp v1 = some (-10 - wr, pp, dp, hb, hr, hi, 0, ps, bg, so, va, fa, wr, dr, st, kp) := by
  have n0 : ¬ fa = 0 := by rw [e]; exact nI_ne0 (by omega) (by omega)
  have n1 : ¬ fa ≤ 0 := by rw [e]; exact nI_nle (by omega) (by omega)
  show B_X7_text_20 _ _ _ _ _ _ _ _ _ _ _ _ _ _ _ _ _ _ _ = _
  unfold B_X7_text_20 B_X7_text_44 B_X7_text_73
  rw [if_neg n0, if_neg n0, if_neg n1]
theorem tx_z {f pe m : Nat} {pp hb hr hi ps va wr : Int32} {d S : Nat → Nat} {kp : Nat → Int32} {t : s_T} {w : s_W} {R : s_R} (hf : 100 < f) (ht : t.1 = nI n) (h0 : t.2.2.1 = 0) (hR : R.2.2 = 0) (hd : dw_p pe d hi w) : tx_p n pp S kp (M_X1_tell_39 (f + 1) R w t (nI m)) (M_X7_text_20 T (f + 1) pp (nI pe) hb hr hi (nI n) ps (nI n) 0 va 0 wr (nf_a d) (nf_a S) kp (nI m)) := by
  obtain ⟨⟨h5, h15, h16, h17, hq, hr5, hz⟩, hh, K, G, B2, R2, rfl, pt1, pt2⟩ := id hd
  have e1 : M_X1_tell_39 (f + 1) R (mk_w pe d 0 0 K G B2 R2) t (nI m) = M_X1_tell_89 f R (mk_w pe d 0 0 K G B2 R2) t (nI m) 0 := by
    show B_X1_tell_39 _ _ _ _ _ _ = _
    unfold B_X1_tell_39 B_X1_tell_87
    rw [if_pos h0]
  have e2 : M_X7_text_20 T (f + 1) pp (nI pe) hb hr hi (nI n) ps (nI n) 0 va 0 wr (nf_a d) (nf_a S) kp (nI m) = if nI pe ≤ hi then some (-10 - nI n, pp, nI pe, hb, hr, hi, 0, ps, nI n, 0, va, 6, nI n, nf_a d, nf_a S, kp) else some (nI m, nI pe, nI pe, hb, hr, hi, 0, ps, nI n, 0, va, 0, wr, nf_a d, nf_a (cp_n d S), upd (upd kp 0 0) 1 0) := by
    show B_X7_text_20 _ _ _ _ _ _ _ _ _ _ _ _ _ _ _ _ _ _ _ = _
    unfold B_X7_text_20 B_X7_text_44 B_X7_text_68
    rw [i0_0, i0_0, i0_0]
    by_cases c : nI pe ≤ hi
    · rw [if_pos c, if_pos c]
      rfl
    · rw [if_neg c, if_neg c]
      rw [show M_X7_needs (nI n) 0 wr 1 6 = some (0, wr) from rfl]
      simp only [bn_s]
      unfold B_X7_text_73
      rw [if_pos (by decide), kd_r (by omega)]
      rfl
  have hiff : nI pe ≤ hi ↔ ∃ j, j < d 17 ∧ pe ≤ d (18 + j) := by
    rcases hh with ⟨z, rfl⟩ | ⟨m2, rfl, m5, m1, i0, i1, i2⟩
    · constructor
      · intro q
        have : ∀ y, y < 6 → ¬ nI y ≤ (-4 : Int32) := by decide
        exact absurd q (this pe (by omega))
      · rintro ⟨j, j1, -⟩
        omega
    · constructor
      · intro q
        have := (nI_leI (by omega) (by omega)).mp q
        exact ⟨i0, i1, by omega⟩
      · rintro ⟨j, j1, j2⟩
        have := m1 j j1
        exact (nI_leI (by omega) (by omega)).mpr (by omega)
  rw [e1, e2]
  rcases te_l (K := K) (G := G) (B := B2) (Rd := R) (t := t) (v1 := nI m) h5 h17 hr5 pt2 (d 17) f 0 (by omega) (by omega) (fun j z => absurd z (by omega)) with ⟨g1, g2⟩ | ⟨g1, g2⟩
  · rw [if_neg (fun z => by obtain ⟨j, j1, j2⟩ := hiff.mp z; have := g1 j j1; omega), show M_X1_tell_89 f R (mk_w pe d 0 0 K G B2 R2) t (nI m) 0 = _ from g2]
    exact ⟨_, R, _, t, _, _, _, _, _, _, _, _, _, _, _, _, _, rfl, by rw [hR], Or.inl ⟨hR, pe, d, hi, hd, g1, rfl, rfl, rfl⟩⟩
  · rw [if_pos (hiff.mpr g1), show M_X1_tell_89 f R (mk_w pe d 0 0 K G B2 R2) t (nI m) 0 = _ from g2, ht]
    exact ⟨_, (R.1, R.2.1, 6), _, t, _, _, _, _, _, _, _, _, _, _, _, _, _, rfl, rfl, Or.inr ⟨(by decide : ¬ (6 : Int32) = 0), rfl, rfl, rfl⟩⟩
/-- a turn of the loop over the lines; behind a whole line it goes on by G -/
theorem tx_s {pp : Int32} {S : Nat → Nat} {kp : Nat → Int32} {f pe x y : Nat} {d : Nat → Nat} {hi wr0 : Int32} {t : s_T} {q : Int32 × Int32 × Int32 × Int32 × Int32 × Int32} {w : s_W} (h : tb_p n b B T) (hm : pe + x + y ≤ 7) (hf : 800 < f) (hx : x ≤ 1) (hy : y ≤ 1) (hd : dw_p pe d hi w) (h0 : y = 0 → d 17 = 0) (al : tk_p n B wr0 t q) (ih : ∀ (pe' x' y' : Nat) (d' : Nat → Nat) (hi' wr' : Int32) (t' : s_T) (q' : Int32 × Int32 × Int32 × Int32 × Int32 × Int32) (w' : s_W), pe' + x' + y' = pe + x + y + 1 → x' ≤ 1 → y' ≤ 1 → dw_p pe' d' hi' w' → (y' = 0 → d' 17 = 0) → tk_p n B wr' t' q' → tx_p n pp S kp (M_X1_tell_39 f (nI x', nI y', 0) w' t' (nI (pe' + x' + y'))) (M_X7_text_20 T f pp (nI pe') (nI x') (nI y') hi' (nI n) q'.1 q'.2.1 q'.2.2.1 q'.2.2.2.1 q'.2.2.2.2.1 q'.2.2.2.2.2 (nf_a d') (nf_a S) kp (nI (pe' + x' + y')))) : tx_p n pp S kp (M_X1_tell_39 (f + 1) (nI x, nI y, 0) w t (nI (pe + x + y))) (M_X7_text_20 T (f + 1) pp (nI pe) (nI x) (nI y) hi (nI n) q.1 q.2.1 q.2.2.1 q.2.2.2.1 q.2.2.2.2.1 q.2.2.2.2.2 (nf_a d) (nf_a S) kp (nI (pe + x + y))) := by
  have cl : ¬ t.2.2.1 = 0 → M_X1_tell_39 (f + 1) (nI x, nI y, 0) w t (nI (pe + x + y)) = (M_X1_readLine f (nI x, nI y, 0) t w).bind (fun u57 => if u57.1 = 0 then (some (((-10) - u57.2.2.1.2.2.2.1), u57.2.1, u57.2.2.2, u57.2.2.1)) else ((M_X4_advance f u57.2.2.1).bind (fun u81 => M_X1_tell_39 f u57.2.1 u57.2.2.2 u81 (nI (pe + x + y + 1))))) := by
    intro c
    show B_X1_tell_39 _ _ _ _ _ _ = _
    unfold B_X1_tell_39
    rw [if_neg c, if_neg (fun z => by have := (nI_leI (a := 160) (b := pe + x + y) (by omega) (by omega)).mp z; omega), nI_1]
  obtain ⟨f', rfl⟩ : ∃ g, f = g + 1 := ⟨f - 1, by omega⟩
  by_cases c : q.2.2.2.2.1 = 0
  · by_cases c2 : q.2.2.1 = 0
    · obtain ⟨a, p, tk, nu, so, va, fa, wr, rfl, rfl, h1, h2, h3⟩ := al
      have c : fa = 0 := c
      have c2 : so = 0 := c2
      subst c c2
      rcases h3 with ⟨-, z, -⟩ | ⟨-, rfl, rfl, h4⟩
      · exact absurd z (by decide)
      obtain rfl : p = n := by
        rcases h4 with ⟨-, z⟩ | z | ⟨z, -⟩ | z
        · exact z
        · exact absurd z (by decide)
        · exact absurd z (by decide)
        · exact absurd z (by decide)
      exact tx_z (by omega) rfl rfl rfl hd
    · have ht : ¬ t.2.2.1 = 0 := by
        obtain ⟨a, p, tk, nu, so, va, fa, wr, rfl, rfl, h1, h2, h3⟩ := al
        rcases h3 with ⟨rfl, -, -⟩ | ⟨-, -, rfl, -⟩
        · exact (by decide : ¬ (4 : Int32) = 0)
        · exact c2
      rw [cl ht]
      have rl : M_X7_text_20 T (f' + 1 + 1) pp (nI pe) (nI x) (nI y) hi (nI n) q.1 q.2.1 q.2.2.1 q.2.2.2.1 q.2.2.2.2.1 q.2.2.2.2.2 (nf_a d) (nf_a S) kp (nI (pe + x + y)) = (M_X7_readLine (nI n) T (f' + 1) (nI pe) (nI x) (nI y) hi q.1 q.2.1 q.2.2.1 q.2.2.2.1 q.2.2.2.2.1 q.2.2.2.2.2 (nf_a d)).bind (fun u35 => M_X7_text_20 T (f' + 1) pp u35.1 u35.2.1 u35.2.2.1 u35.2.2.2.1 (nI n) u35.2.2.2.2.1 u35.2.2.2.2.2.1 u35.2.2.2.2.2.2.1 u35.2.2.2.2.2.2.2.1 u35.2.2.2.2.2.2.2.2.1 u35.2.2.2.2.2.2.2.2.2.1 u35.2.2.2.2.2.2.2.2.2.2 (nf_a S) kp (nI (pe + x + y + 1))) := by
        show B_X7_text_20 _ _ _ _ _ _ _ _ _ _ _ _ _ _ _ _ _ _ _ = _
        unfold B_X7_text_20
        rw [if_pos c, if_neg c2, nI_1]
      rw [rl]
      obtain ⟨ok, R', t2, w', e1, h1⟩ := lr_r h (show 700 < f' + 1 by omega) hx hy hd h0 al c
      rw [e1]
      simp only [bn_s]
      rcases h1 with ⟨rfl, pe', x', y', d', hi', t3, q3, wr3, rfl, g1, g2, g3, g4, g5, g6, g7, g8⟩ | ⟨rfl, fa2, wr2, fx, u, g1, g2, g3⟩
      · rw [i1_0, g6, g8]
        simp only [bn_s]
        rw [← g1]
        exact ih pe' x' y' d' hi' wr3 t3 q3 w' g1 g2 g3 g5 g4 g7
      · rw [i0_0, g1]
        simp only [bn_s]
        obtain ⟨z, y1, y2, y3, y4, y5⟩ := fx
        have nz : ¬ R'.2.2 = 0 := by rw [y3]; exact nI_ne0 (by omega) (by omega)
        rw [tx_e (x := z) y1 y2 (g2.trans y4), g3, g2, y4, y5, ← y3]
        exact ⟨-10 - t2.2.2.2.1, R', w', t2, _, _, _, _, _, _, _, _, _, _, _, _, _, rfl, rfl, Or.inr ⟨nz, rfl, rfl, rfl⟩⟩
  · obtain ⟨a, p, tk, nu, so, va, fa, wr, rfl, rfl, h1, h2, h3⟩ := al
    have c : ¬ fa = 0 := c
    rcases h3 with ⟨rfl, rfl, rfl⟩ | ⟨z, -⟩
    · rw [cl (show ¬ (4 : Int32) = 0 by decide)]
      simp only
      rw [tx_e (x := 1) (fa := 1) (by omega) (by omega) rfl]
      unfold M_X1_readLine B_X1_readLine_0
      rw [ex_4 rfl]
      simp only [bn_s]
      rw [if_pos trivial]
      exact ⟨-10 - nI p, (nI x, nI y, 1), w, _, _, _, _, _, _, _, _, _, _, _, _, _, _, rfl, rfl, Or.inr ⟨(by decide : ¬ (1 : Int32) = 0), rfl, rfl, rfl⟩⟩
    · exact absurd z c
theorem tx_l {pp : Int32} {S : Nat → Nat} {kp : Nat → Int32} (h : tb_p n b B T) : ∀ (k f pe x y : Nat) (d : Nat → Nat) (hi wr0 : Int32) (t : s_T) (q : Int32 × Int32 × Int32 × Int32 × Int32 × Int32) (w : s_W), pe + x + y + k = 7 → k + 900 < f → x ≤ 1 → y ≤ 1 → dw_p pe d hi w → (y = 0 → d 17 = 0) → tk_p n B wr0 t q → tx_p n pp S kp (M_X1_tell_39 f (nI x, nI y, 0) w t (nI (pe + x + y))) (M_X7_text_20 T f pp (nI pe) (nI x) (nI y) hi (nI n) q.1 q.2.1 q.2.2.1 q.2.2.2.1 q.2.2.2.2.1 q.2.2.2.2.2 (nf_a d) (nf_a S) kp (nI (pe + x + y))) := by
  intro k
  induction k with
  | zero =>
    intro f pe x y d hi wr0 t q w hk hf hx hy hd h0 al
    obtain ⟨f, rfl⟩ : ∃ g, f = g + 1 := ⟨f - 1, by omega⟩
    refine tx_s h (by omega) (by omega) hx hy hd h0 al (fun pe' x' y' d' hi' wr' t' q' w' e1 e2 e3 e4 e5 e6 => ?_)
    have := e4.1.1
    omega
  | succ k ih =>
    intro f pe x y d hi wr0 t q w hk hf hx hy hd h0 al
    obtain ⟨f, rfl⟩ : ∃ g, f = g + 1 := ⟨f - 1, by omega⟩
    exact tx_s h (by omega) (by omega) hx hy hd h0 al (fun pe' x' y' d' hi' wr' t' q' w' e1 e2 e3 e4 e5 e6 => ih f pe' x' y' d' hi' wr' t' q' w' (by omega) (by omega) e2 e3 e4 e5 e6)
end
/-! text() -/
theorem op_text {pe f tn : Nat} {S D : Nat → Nat} {kp tape : Nat → Int32} {k0 k1 dp hb hr hi po be so va fa wr : Int32} {w w0 w1 tr : s_W} {v v0 v1 : s_V} {t : s_T} {R : s_R} (h : bk_s pe S w v) (i0 : im_r pe S 0 k0 (kp 0) w0 v0) (i1 : im_r pe S 1 k1 (kp 1) w1 v1) (ht : tp_r t tn tape) (hf : 1000 < f) : ∃ r R' tr' t' w' v' k1' k0' pe' dp' hb' hr' hi' po' be' so' va' wr' dr' S' kp', M_X6_text f R tr t w v k1 k0 = some (r, R', tr', t', w', v', k1', k0') ∧ M_X7_text tape f (nI pe) dp hb hr hi (nI tn) po be so va fa wr (nf_a D) (nf_a S) kp = some (r, nI pe', dp', hb', hr', hi', nI 0, po', be', so', va', R'.2.2, wr', dr', nf_a S', kp') ∧ bk_s pe' S' w' v' ∧ im_r pe' S' 0 k0' (kp' 0) w0 v0 ∧ im_r pe' S' 1 k1' (kp' 1) w1 v1 ∧ tp_r t' 0 tape := by
  obtain ⟨t1, t2, t3⟩ := ht
  obtain ⟨bb, hbb⟩ : ∃ bb : Nat → Nat, tb_p tn bb t.2.2.2.2.2 tape := by
    have ch : ∀ i, ∃ c, i < tn → c ≤ 127 ∧ tape i = nI c := fun i => by
      by_cases z : i < tn
      · obtain ⟨c, c1, c2⟩ := (t3 i z).2
        exact ⟨c, fun _ => ⟨c1, c2⟩⟩
      · exact ⟨0, fun q => absurd q z⟩
    refine ⟨fun i => Classical.choose (ch i), t2, fun i z => ?_⟩
    obtain ⟨c1, c2⟩ := Classical.choose_spec (ch i) z
    exact ⟨(t3 i z).1.trans c2, c2, c1⟩
  obtain ⟨tq, q, e1, e2, al⟩ := rd_r (f := f) (a := 0) (wr := wr) (tk := t.2.2.1) (pl := t.2.2.2.1) (nu := t.2.2.2.2.1) (bg := be) (so := so) (va := va) hbb (Nat.zero_le _) (by omega)
  have hd : dw_p 0 (d0_n D) (-4) (mk_w 0 (d0_n D) 0 0 tr.2.2.2.2.2.2.2.1 tr.2.2.2.2.2.2.2.2.1 tr.2.2.2.2.2.2.2.2.2.1 tr.2.2.2.2.2.2.2.2.2.2) := by
    have z17 : d0_n D 17 = 0 := d0_o (by omega) (by omega)
    exact ⟨⟨by omega, by rw [d0_15]; omega, by rw [d0_o (by omega) (by omega)]; omega, by rw [z17]; omega, fun p hp => absurd hp (by omega), fun i hi => absurd hi (by rw [z17]; omega), fun i h1 h2 => d0_o h2 (by omega)⟩, Or.inl ⟨z17, rfl⟩, _, _, _, _, rfl, fun p hp => absurd hp (by omega), fun i hi => absurd hi (by rw [z17]; omega)⟩
  have ew : mk_w 0 (d0_n D) 0 0 tr.2.2.2.2.2.2.2.1 tr.2.2.2.2.2.2.2.2.1 tr.2.2.2.2.2.2.2.2.2.1 tr.2.2.2.2.2.2.2.2.2.2 = (0, 0, 30, 0, 0, 0, 0, tr.2.2.2.2.2.2.2.1, tr.2.2.2.2.2.2.2.2.1, tr.2.2.2.2.2.2.2.2.2.1, tr.2.2.2.2.2.2.2.2.2.2) := by
    simp only [mk_w]
    rw [d0_15, d0_o (by omega) (by omega), d0_o (by omega) (by omega), d0_o (by omega) (by omega)]
    rfl
  have main := tx_l (pp := nI pe) (S := S) (kp := kp) hbb 7 f 0 0 0 (d0_n D) (-4) wr tq q _ (by omega) (by omega) (by omega) (by omega) hd (fun _ => d0_o (by omega) (by omega)) al
  obtain ⟨r, R', w', t', dp', hb', hr', hi', po', be', so', va', wr', dr', pp', S', kp', m1, m2, m3⟩ := main
  have ecls : M_X1_tell f R tr t = some (r, R', w', t') := by
    unfold M_X1_tell B_X1_tell_0 M_X5_clear B_X5_clear_0
    simp only [bn_s]
    rw [t1, show M_X4_advance f (nI tn, 0, t.2.2.1, t.2.2.2.1, t.2.2.2.2.1, t.2.2.2.2.2) = some tq from e1]
    simp only [bn_s]
    rw [← ew]
    exact m1
  have eref : M_X7_text tape f (nI pe) dp hb hr hi (nI tn) po be so va fa wr (nf_a D) (nf_a S) kp = some (r, pp', dp', hb', hr', hi', 0, po', be', so', va', R'.2.2, wr', dr', nf_a S', kp') := by
    unfold M_X7_text B_X7_text_0
    rw [fd_r (by omega)]
    simp only [bn_s]
    rw [show M_X7_reads (nI tn) tape f 0 be so va 0 wr = some q from e2]
    simp only [bn_s]
    exact m2
  rw [eref]
  unfold M_X6_text B_X6_text_0
  rw [ecls]
  simp only [bn_s]
  rcases m3 with ⟨z, pe', d', hi2, hd', g1, rfl, rfl, rfl⟩ | ⟨z, rfl, rfl, rfl⟩
  · rw [if_pos z]
    obtain ⟨⟨h5, h15, h16, h17, hq, hr5, hz⟩, hh, K, G, B2, R2, rfl, pt⟩ := hd'
    have gd : gd_s pe' d' := ⟨h5, h15, h16, h17, by rw [hz 26 (by omega) (by omega)]; omega, hq, g1⟩
    obtain ⟨K3, G3, B3, R3, eb, pt3⟩ := cf_bc (he := 0) (sp := 0) gd pt w
    rw [eb]
    simp only [bn_s]
    obtain ⟨f', rfl⟩ : ∃ g, f = g + 3 := ⟨f - 3, by omega⟩
    have bk : bk_s pe' d' (mk_w pe' d' 0 0 K3 G3 B3 R3) (0, v.2.1, v.2.2.1, v.2.2.2) := ⟨⟨0, 0, K3, G3, B3, R3, rfl, pt3⟩, gd, by rw [hz 26 (by omega) (by omega)]; omega, by
      have z27 := hz 27 (by omega) (by omega)
      exact ⟨by rw [z27]; rfl, by rw [z27]; omega, fun i hi => absurd hi (by rw [z27]; omega)⟩⟩
    refine ⟨r, R', _, _, _, _, 0, 0, pe', dp', hb', hr', hi', po', be', so', va', wr', dr', cp_n d' S, _, rfl, rfl, bk_cg (fun i hi => cp_i hi) bk, ⟨?_, Or.inl rfl⟩, ⟨?_, Or.inl rfl⟩, rfl, by omega, fun i hi => absurd hi (by omega)⟩
    · rw [pk_un (by omega), pk_us]
    · rw [pk_us]
  · rw [if_neg z]
    exact ⟨r, R', _, _, _, _, k1, k0, pe, dp', hb', hr', hi', po', be', so', va', wr', dr', S', kp', rfl, rfl, h, i0, i1, rfl, by omega, fun i hi => absurd hi (by omega)⟩
