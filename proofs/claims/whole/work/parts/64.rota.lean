/-! the rota's line, in both -/
/-- the bounds of a draft; the greatest turn; draft and world -/
def dg_p (pe : Nat) (d : Nat → Nat) : Prop := pe ≤ 5 ∧ (1 ≤ d 15 ∧ d 15 ≤ 99) ∧ d 16 ≤ 99 ∧ d 17 ≤ 8 ∧ (∀ p, p < pe → d (3 * p) ≤ 3 ∧ d (3 * p + 1) ≤ 99 ∧ 1 ≤ d (3 * p + 2) ∧ d (3 * p + 2) ≤ 99) ∧ (∀ i, i < d 17 → d (18 + i) < 5) ∧ ∀ i, 26 ≤ i → i < 46 → d i = 0
def hi_p (d : Nat → Nat) (hi : Int32) : Prop := (d 17 = 0 ∧ hi = -4) ∨ ∃ m, hi = nI m ∧ m < 5 ∧ (∀ i, i < d 17 → d (18 + i) ≤ m) ∧ ∃ i, i < d 17 ∧ d (18 + i) = m
def dw_p (pe : Nat) (d : Nat → Nat) (hi : Int32) (w : s_W) : Prop := dg_p pe d ∧ hi_p d hi ∧ ∃ K G B R, w = mk_w pe d 0 0 K G B R ∧ pt_w pe d K G B R
theorem at_r {w : s_W} {j : Nat} {v : Int32} (hw : w.2.1 = nI j) (h : j < 8) : M_X5_addTurn w v = some (w.1, nI (j + 1), w.2.2.1, w.2.2.2.1, w.2.2.2.2.1, w.2.2.2.2.2.1, w.2.2.2.2.2.2.1, w.2.2.2.2.2.2.2.1, w.2.2.2.2.2.2.2.2.1, w.2.2.2.2.2.2.2.2.2.1, upd w.2.2.2.2.2.2.2.2.2.2 j v) := by
  unfold M_X5_addTurn B_X5_addTurn_0
  rw [hw]
  simp (disch := omega) only [gi_k, nI_clamp, nm_s, nI_1]
  rw [if_neg (fun q => by have := (nI_leI (a := 8) (b := j) (by omega) (by omega)).mp q; omega)]
theorem dw_t {pe x : Nat} {d : Nat → Nat} {hi : Int32} {w : s_W} (h : dw_p pe d hi w) (hj : d 17 < 8) (hx : x < 5) : ∃ w', M_X5_addTurn w (nI x) = some w' ∧ dw_p pe (up_n (up_n d (18 + d 17) x) 17 (d 17 + 1)) (if nI x ≤ hi then hi else nI x) w' := by
  obtain ⟨⟨h5, h15, h16, h17, hq, hr, hz⟩, hh, K, G, B, R, rfl, pt1, pt2⟩ := h
  refine ⟨_, at_r (j := d 17) rfl hj, ⟨h5, ?_, ?_, ?_, fun p hp => ?_, fun i hi => ?_, fun i h1 h2 => ?_⟩, ?_, K, G, B, upd R (d 17) (nI x), ?_, fun p hp => ?_, fun i hi => ?_⟩
  · rw [up_o (by omega), up_o (by omega)]; exact h15
  · rw [up_o (by omega), up_o (by omega)]; exact h16
  · rw [up_s]; omega
  · rw [up_o (by omega), up_o (by omega), up_o (by omega), up_o (by omega), up_o (by omega), up_o (by omega)]; exact hq p hp
  · rw [up_s] at hi
    rw [up_o (by omega)]
    by_cases e : i = d 17
    · rw [e, up_s]; exact hx
    · rw [up_o (by omega)]; exact hr i (by omega)
  · rw [up_o (by omega), up_o (by omega)]; exact hz i h1 h2
  · right
    rcases hh with ⟨z, rfl⟩ | ⟨m, rfl, m5, m1, i0, i1, i2⟩
    · rw [if_neg (fun q => absurd q (by
        have : ∀ y, y < 5 → ¬ nI y ≤ (-4 : Int32) := by decide
        exact this x hx))]
      refine ⟨x, rfl, hx, fun i hi => ?_, d 17, by rw [up_s]; omega, by rw [up_o (by omega), up_s]⟩
      rw [up_s] at hi
      rw [show i = d 17 by omega, up_o (by omega), up_s]
      exact Nat.le_refl _
    · by_cases c : x ≤ m
      · rw [if_pos ((nI_leI (by omega) (by omega)).mpr c)]
        refine ⟨m, rfl, m5, fun i hi => ?_, i0, by rw [up_s]; omega, by rw [up_o (by omega), up_o (by omega)]; exact i2⟩
        rw [up_s] at hi
        rw [up_o (by omega)]
        by_cases e : i = d 17
        · rw [e, up_s]; exact c
        · rw [up_o (by omega)]; exact m1 i (by omega)
      · rw [if_neg (fun q => c ((nI_leI (by omega) (by omega)).mp q))]
        refine ⟨x, rfl, hx, fun i hi => ?_, d 17, by rw [up_s]; omega, by rw [up_o (by omega), up_s]⟩
        rw [up_s] at hi
        rw [up_o (by omega)]
        by_cases e : i = d 17
        · rw [e, up_s]; exact Nat.le_refl _
        · rw [up_o (by omega)]
          have := m1 i (by omega)
          omega
  · simp (disch := omega) only [mk_w, up_s, up_o]
  · rw [up_o (by omega), up_o (by omega), up_o (by omega), up_o (by omega), up_o (by omega), up_o (by omega)]; exact pt1 p hp
  · rw [up_s] at hi
    rw [up_o (by omega)]
    by_cases e : i = d 17
    · rw [e, up_s, pk_us]
    · rw [up_o (by omega), pk_un e]; exact pt2 i (by omega)
section
variable {n : Nat} {b : Nat → Nat} {B T : Nat → Int32}
theorem lk_4 {p x : Nat} {wr : Int32} (hx : x ≤ 99) : M_X7_looked (nI p) 2 (nI x) 0 wr 0 4 = some (if x < 5 then (nI x, 0, wr) else (0, 3, nI p)) := by
  unfold M_X7_looked B_X7_looked_0 B_X7_looked_21
  rw [i0_0, if_pos rfl, show M_X7_needs (nI p) 0 wr 1 2 = some (0, wr) from rfl]
  simp only [bn_s]
  unfold B_X7_looked_25
  rw [i0_0, in_e, show (4 : Int32) = nI 4 from rfl, show (0 : Int32) = nI 0 from rfl, iw_n (by omega) (by omega) (by omega)]
  simp only [bn_s]
  by_cases c : x < 5
  · rw [if_pos ⟨Nat.zero_le _, by omega⟩, if_pos c]
    rfl
  · rw [if_neg (fun q => by omega), if_neg c]
    rfl
theorem rl_x {f j : Nat} {ps bg so va fa wr hi : Int32} {dr : Nat → Int32} {t : s_T} {w : s_W} {R : s_R} (hj : j ≤ 8) (hq : ¬ (fa = 0 ∧ so = 2)) (ht : ¬ t.2.2.1 = 2) : M_X1_readRota_27 (f + 1) R t w (nI j) = B_X1_readRota_100 (f + 1) R t w ∧ M_X7_readRota_0 (nI n) T (f + 1) hi ps bg so va fa wr dr = some (hi, ps, bg, so, va, fa, wr, dr) := by
  constructor
  · show B_X1_readRota_27 _ _ _ _ _ _ = _
    unfold B_X1_readRota_27
    rw [if_neg (fun q => by have := (nI_ltI (a := 8) (b := j) (by omega) (by omega)).mp q; omega), if_neg ht]
    rfl
  · show B_X7_readRota_0 _ _ _ _ _ _ _ _ _ _ _ _ = _
    unfold B_X7_readRota_0
    by_cases c : fa = 0
    · rw [if_pos c, if_neg (fun z => hq ⟨c, z⟩)]
    · rw [if_neg c]
theorem rl_r {pe : Nat} {R : s_R} (h : tb_p n b B T) : ∀ (k f : Nat) (d : Nat → Nat) (hi wr0 : Int32) (t : s_T) (q : Int32 × Int32 × Int32 × Int32 × Int32 × Int32) (w : s_W), d 17 + k = 8 → k + 600 < f → dw_p pe d hi w → tk_p n B wr0 t q → (∃ d' hi' w' t' q' wr', dw_p pe d' hi' w' ∧ tk_p n B wr' t' q' ∧ M_X1_readRota_27 f R t w (nI (d 17)) = B_X1_readRota_100 f R t' w' ∧ M_X7_readRota_0 (nI n) T f hi q.1 q.2.1 q.2.2.1 q.2.2.2.1 q.2.2.2.2.1 q.2.2.2.2.2 (nf_a d) = some (hi', q'.1, q'.2.1, q'.2.2.1, q'.2.2.2.1, q'.2.2.2.2.1, q'.2.2.2.2.2, nf_a d')) ∨ (∃ R' t' w' u, M_X1_readRota_27 f R t w (nI (d 17)) = some (0, R', t', w') ∧ M_X7_readRota_0 (nI n) T f hi q.1 q.2.1 q.2.2.1 q.2.2.2.1 q.2.2.2.2.1 q.2.2.2.2.2 (nf_a d) = some u ∧ fx_p R' t' u.2.2.2.2.2.1 u.2.2.2.2.2.2.1) := by
  intro k
  induction k with
  | zero =>
    intro f d hi wr0 t q w hk hf hd al
    obtain ⟨f, rfl⟩ : ∃ g, f = g + 2 := ⟨f - 2, by omega⟩
    obtain ⟨a, p, tk, nu, so, va, fa, wr, rfl, rfl, h1, h2, h3⟩ := id al
    by_cases c : fa = 0 ∧ so = 2
    · obtain ⟨rfl, rfl⟩ := c
      rcases h3 with ⟨-, z, -⟩ | ⟨-, rfl, rfl, h4⟩
      · exact absurd z (by decide)
      right
      refine ⟨(R.1, R.2.1, 5), (nI n, nI a, 2, nI p, nu, B), w, (hi, nI a, nI p, 2, va, 5, nI p, nf_a d), ?_, ?_, 5, by omega, by omega, rfl, rfl, rfl⟩
      · rw [show d 17 = 8 by omega]
        rfl
      · show B_X7_readRota_0 _ _ _ _ _ _ _ _ _ _ _ _ = _
        unfold B_X7_readRota_0
        simp (disch := omega) only [i0_0, if_true, show (17 : Int32) = nI 17 from rfl, gi_k, nI_clamp, nf_e]
        rw [show d 17 = 8 by omega, if_pos (by decide)]
        unfold B_X7_readRota_33
        rw [show M_X7_needs (nI p) 0 wr 0 5 = some (5, nI p) from rfl]
        rfl
    · left
      have ht : ¬ tk = 2 := by
        rcases h3 with ⟨rfl, -, -⟩ | ⟨z, -, rfl, -⟩
        · decide
        · exact fun e => c ⟨z, e⟩
      have ex := rl_x (n := n) (T := T) (f := f + 1) (j := d 17) (ps := nI a) (bg := nI p) (va := va) (wr := wr) (hi := hi) (dr := nf_a d) (w := w) (R := R) (t := (nI n, nI a, tk, nI p, nu, B)) (by omega) c ht
      exact ⟨d, hi, w, _, _, _, hd, al, ex.1, ex.2⟩
  | succ k ih =>
    intro f d hi wr0 t q w hk hf hd al
    obtain ⟨f, rfl⟩ : ∃ g, f = g + 2 := ⟨f - 2, by omega⟩
    obtain ⟨a, p, tk, nu, so, va, fa, wr, rfl, rfl, h1, h2, h3⟩ := id al
    by_cases c : fa = 0 ∧ so = 2
    · obtain ⟨rfl, rfl⟩ := c
      rcases h3 with ⟨-, z, -⟩ | ⟨-, rfl, rfl, h4⟩
      · exact absurd z (by decide)
      obtain ⟨x, x9, rfl, rfl⟩ : ∃ v, v ≤ 99 ∧ nu = nI v ∧ va = nI v := by
        rcases h4 with ⟨z, -⟩ | z | ⟨-, z⟩ | z
        · exact absurd z (by decide)
        · exact absurd z (by decide)
        · exact z
        · exact absurd z (by decide)
      have eref : ∀ E : Int32, M_X7_readRota_0 (nI n) T (f + 2) hi (nI a) (nI p) 2 (nI x) 0 wr (nf_a d) = (if x < 5 then B_X7_readRota_95 (M_X7_readRota_0 (nI n) T (f + 1)) (nI n) T (f + 1) hi (nI a) (nI p) 2 (nI x) 0 wr (nf_a (up_n (up_n d (18 + d 17) x) 17 (d 17 + 1))) (if nI x ≤ hi then hi else nI x) else B_X7_readRota_95 (M_X7_readRota_0 (nI n) T (f + 1)) (nI n) T (f + 1) hi (nI a) (nI p) 2 (nI x) 3 (nI p) (nf_a (up_n (up_n d (18 + d 17) 0) 17 (d 17 + 1))) (if 0 ≤ hi then hi else 0)) := by
        intro _
        show B_X7_readRota_0 _ _ _ _ _ _ _ _ _ _ _ _ = _
        unfold B_X7_readRota_0
        simp (disch := omega) only [i0_0, if_true, show (17 : Int32) = nI 17 from rfl, gi_k, nI_clamp, nf_e]
        rw [if_neg (fun q => by have := (nI_leI (a := 8) (b := d 17) (by omega) (by omega)).mp q; omega)]
        unfold B_X7_readRota_33
        rw [show M_X7_needs (nI p) 0 wr 1 5 = some (0, wr) from rfl]
        simp only [bn_s]
        rw [if_pos trivial, lk_4 x9]
        simp (disch := omega) only [bn_s, show (17 : Int32) = nI 17 from rfl, show (18 : Int32) = nI 18 from rfl, nI_add, gi_k, nI_clamp, nf_e, nm_s, nI_1]
        by_cases c5 : x < 5
        · rw [if_pos c5, if_pos c5]
          simp (disch := omega) only [nf_u, nf_e, up_o, nI_1]
          by_cases c6 : nI x ≤ hi
          · rw [if_pos c6, if_pos c6]
          · rw [if_neg c6, if_neg c6]
        · rw [if_neg c5, if_neg c5]
          have eu : upd (upd (nf_a d) (18 + d 17) 0) 17 (upd (nf_a d) (18 + d 17) 0 17 + 1) = nf_a (up_n (up_n d (18 + d 17) 0) 17 (d 17 + 1)) := by
            show upd (upd (nf_a d) (18 + d 17) (nI 0)) 17 (upd (nf_a d) (18 + d 17) (nI 0) 17 + 1) = _
            rw [nf_u, nf_e, up_o (by omega), nI_1, nf_u]
          simp only
          rw [eu]
          by_cases c6 : (0 : Int32) ≤ hi
          · rw [if_pos c6, if_pos c6]
          · rw [if_neg c6, if_neg c6]
      have ecls : M_X1_readRota_27 (f + 2) R (nI n, nI a, 2, nI p, nI x, B) w (nI (d 17)) = (if x < 5 then (M_X5_addTurn w (nI x)).bind (fun u84 => (M_X4_advance (f + 1) (nI n, nI a, 2, nI p, nI x, B)).bind (fun u91 => M_X1_readRota_27 (f + 1) R u91 u84 (nI (d 17 + 1)))) else some (0, (R.1, R.2.1, 3), (nI n, nI a, 2, nI p, nI x, B), w)) := by
        show B_X1_readRota_27 _ _ _ _ _ _ = _
        unfold B_X1_readRota_27
        rw [if_neg (fun q => by have := (nI_ltI (a := 8) (b := d 17) (by omega) (by omega)).mp q; omega), if_pos rfl, if_neg (fun q => by have := (nI_eq (a := d 17) (b := 8) (by omega) (by omega)).mp q; omega), nI_1]
        by_cases c5 : x < 5
        · rw [if_pos c5, if_pos (show nI x < (5 : Int32) from (nI_ltI (a := x) (b := 5) (by omega) (by omega)).mpr c5)]
        · rw [if_neg c5, if_neg (show ¬ nI x < (5 : Int32) from fun q => c5 ((nI_ltI (a := x) (b := 5) (by omega) (by omega)).mp q))]
          rfl
      rw [ecls]
      simp only
      rw [eref 0]
      by_cases c5 : x < 5
      · rw [if_pos c5, if_pos c5]
        obtain ⟨w', e1, hd2⟩ := dw_t hd (by omega) c5
        obtain ⟨t2, q2, e2, e3, al2⟩ := rd_n (f := f + 1) (bg := nI p) (so := 2) (va := nI x) (wr := wr) h al (by omega)
        rw [e1]
        simp only [bn_s]
        rw [e2]
        simp only [bn_s]
        unfold B_X7_readRota_95
        rw [show M_X7_reads (nI n) T (f + 1) (nI a) (nI p) 2 (nI x) 0 wr = some q2 from e3]
        simp only [bn_s]
        have e17 : (up_n (up_n d (18 + d 17) x) 17 (d 17 + 1)) 17 = d 17 + 1 := up_s _ _ _
        have r := ih (f + 1) (up_n (up_n d (18 + d 17) x) 17 (d 17 + 1)) (if nI x ≤ hi then hi else nI x) wr t2 q2 w' (by omega) (by omega) hd2 al2
        rw [e17] at r
        exact r
      · rw [if_neg c5, if_neg c5]
        right
        refine ⟨(R.1, R.2.1, 3), (nI n, nI a, 2, nI p, nI x, B), w, (if 0 ≤ hi then hi else 0, nI a, nI p, 2, nI x, 3, nI p, nf_a (up_n (up_n d (18 + d 17) 0) 17 (d 17 + 1))), rfl, ?_, 3, by omega, by omega, rfl, rfl, rfl⟩
        unfold B_X7_readRota_95
        rw [rd_f (x := 3) (fa := 3) (by omega) (by omega) rfl]
        rfl
    · left
      have ht : ¬ tk = 2 := by
        rcases h3 with ⟨rfl, -, -⟩ | ⟨z, -, rfl, -⟩
        · decide
        · exact fun e => c ⟨z, e⟩
      have ex := rl_x (n := n) (T := T) (f := f + 1) (j := d 17) (ps := nI a) (bg := nI p) (va := va) (wr := wr) (hi := hi) (dr := nf_a d) (w := w) (R := R) (t := (nI n, nI a, tk, nI p, nu, B)) (by omega) c ht
      exact ⟨d, hi, w, _, _, _, hd, al, ex.1, ex.2⟩
end
