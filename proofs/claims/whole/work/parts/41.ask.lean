/-! ask: the reference's rows by kind; the most alike of an hour and a one -/
section
variable {pe f : Nat} {S N : Nat → Nat} {w t : s_W} {v : s_V} {x y : Int32}
theorem ra_45 {k22 : Int32 → Int32 → Int32 → Int32 → (Nat → Int32) → (Nat → Int32) → (Nat → Int32) → Int32 → Int32 → Int32 → Int32 → Option (Int32 × Int32 × Int32 × Int32 × Int32 × (Nat → Int32) × (Nat → Int32) × (Nat → Int32))} {P bc bm z1 z2 : Int32} {st nw H : Nat → Int32} {m k : Nat} (hm : m < 4) : ∀ (d f c : Nat) (BK : Nat → Int32), c + d = 125 → d < f → ∃ BK2 : Nat → Int32, M_X7_ask_45 k22 P st f x y bc bm nw H BK z1 z2 (nI m) (nI k) (nI c) = k22 x y bc bm nw H BK2 z1 z2 (nI (m + 1)) (nI (k + 1)) ∧ ∀ j, BK2 j = if 125 * m + c ≤ j ∧ j < 125 * m + 125 then H (j - 125 * m) else BK j := by
  intro d
  induction d with
  | zero =>
    intro f c BK hc hf
    obtain ⟨f, rfl⟩ : ∃ g, f = g + 1 := ⟨f - 1, by omega⟩
    refine ⟨BK, ?_, fun j => by rw [if_neg (by omega)]⟩
    show B_X7_ask_45 _ _ _ _ _ _ _ _ _ _ _ _ _ _ _ _ _ = _
    unfold B_X7_ask_45 B_X7_ask_80
    simp (disch := omega) only [show (125 : Int32) = nI 125 from rfl, nI_leI, nI_1]
    rw [if_pos (by omega)]
  | succ d ih =>
    intro f c BK hc hf
    obtain ⟨f, rfl⟩ : ∃ g, f = g + 1 := ⟨f - 1, by omega⟩
    obtain ⟨BK2, e, p⟩ := ih f (c + 1) (upd BK (125 * m + c) (H c)) (by omega) (by omega)
    refine ⟨BK2, ?_, fun j => ?_⟩
    · rw [← e]
      show B_X7_ask_45 _ _ _ _ _ _ _ _ _ _ _ _ _ _ _ _ _ = _
      unfold B_X7_ask_45
      simp (disch := omega) only [show (125 : Int32) = nI 125 from rfl, nI_leI, nI_1, nm_s, pk_mul, nI_add, gi_k, nI_clamp]
      rw [if_neg (by omega)]
    · rw [p j]
      by_cases c1 : 125 * m + (c + 1) ≤ j ∧ j < 125 * m + 125
      · rw [if_pos c1, if_pos (by omega)]
      · rw [if_neg c1]
        by_cases c2 : j = 125 * m + c
        · rw [c2, pk_us, if_pos (by omega), show 125 * m + c - 125 * m = c by omega]
        · rw [pk_un c2, if_neg (by omega)]
theorem ra_22 {p : Nat} {F : Nat → Bool} {z : Int32} (h : bk_s pe S w v) (hp : p < pe) (hF : ∀ k, k < 4 → (F k = true ↔ so_p pe S (up_n S (3 * p) k))) : ∀ (d f i : Nat) (x y bc bm : Int32) (N : Nat → Nat) (H BK : Nat → Int32), i + d = 4 → d + 1000 < f → (∀ k, k < i → F k = true → hv_p pe (up_n S (3 * p) k) (fun c => BK (125 * fc_n F k + c)) 25) → ∃ (f2 : Nat) (x2 y2 : Int32) (nw2 H2 BK2 : Nat → Int32), 900 < f2 ∧ M_X7_ask_22 (nI pe) (nf_a S) f x y bc bm (nf_a N) H BK (nI p) z (nI (fc_n F i)) (nI i) = M_X7_ask_94 (nI pe) (nf_a S) f2 x2 y2 (-4) (nI (fc_n F 4)) nw2 H2 BK2 z (nI (fc_n F 4)) 0 ∧ ∀ k, k < 4 → F k = true → hv_p pe (up_n S (3 * p) k) (fun c => BK2 (125 * fc_n F k + c)) 25 := by
  have h5 := h.2.1.1
  have sg := h.2.2.2
  intro d
  induction d with
  | zero =>
    intro f i x y bc bm N H BK hi hf hv
    obtain ⟨f, rfl⟩ : ∃ g, f = g + 1 := ⟨f - 1, by omega⟩
    obtain rfl : i = 4 := by omega
    refine ⟨f, x, y, nf_a N, H, BK, by omega, ?_, hv⟩
    show B_X7_ask_22 _ _ _ _ _ _ _ _ _ _ _ _ _ _ _ = _
    unfold B_X7_ask_22
    rw [if_pos (show (4 : Int32) ≤ nI 4 from (nI_leI (a := 4) (b := 4) (by omega) (by omega)).mpr (by omega))]
    rfl
  | succ d ih =>
    intro f i x y bc bm N H BK hi hf hv
    obtain ⟨f, rfl⟩ : ∃ g, f = g + 1 := ⟨f - 1, by omega⟩
    have gS := gd_K (x := i) h.2.1 hp (by omega)
    have s26 : up_n S (3 * p) i 26 ≤ 1100 := by rw [up_o (by omega)]; have := h.2.2.1; omega
    have cg : ∀ j, j < 46 → up_n (cp_n S N) (3 * p) i j = up_n S (3 * p) i j := up_cg (fun j hj => cp_i hj)
    have ga : gd_s pe (up_n (cp_n S N) (3 * p) i) := gd_cg cg gS
    have a26 : up_n (cp_n S N) (3 * p) i 26 ≤ 1100 := by rw [cg 26 (by omega)]; exact s26
    obtain ⟨r2, he2, sp2, N2, H2, e2, r201, rr2, hv2⟩ := rf_so (x := x) (y := y) (f := f) (H := H) sg (show 3 * p < 46 by omega) ga a26 (by omega)
    have hv3 := hv_cg gS s26 cg hv2
    have hr : r2 = 1 ↔ F i = true := rr2.trans ((so_cg sg gS s26 cg).trans (hF i (by omega)).symm)
    have c3 : (3 * nI p) + 0 = nI (3 * p) := by rw [show (3 : Int32) = nI 3 from rfl, pk_mul, show (0 : Int32) = nI 0 from rfl, nI_add, Nat.add_zero]
    have e1 : M_X7_ask_22 (nI pe) (nf_a S) (f + 1) x y bc bm (nf_a N) H BK (nI p) z (nI (fc_n F i)) (nI i) = if r2 = 0 then M_X7_ask_22 (nI pe) (nf_a S) f he2 sp2 bc bm (nf_a N2) H2 BK (nI p) z (nI (fc_n F i)) (nI (i + 1)) else M_X7_ask_45 (M_X7_ask_22 (nI pe) (nf_a S) f) (nI pe) (nf_a S) f he2 sp2 bc bm (nf_a N2) H2 BK (nI p) z (nI (fc_n F i)) (nI i) (nI 0) := by
      show B_X7_ask_22 _ _ _ _ _ _ _ _ _ _ _ _ _ _ _ = _
      unfold B_X7_ask_22 B_X7_ask_80
      rw [c3, e2]
      simp only [bn_s, nI_1]
      rw [if_neg (fun q => by have := (nI_leI (a := 4) (b := i) (by omega) (by omega)).mp q; omega)]
      rfl
    rw [e1]
    by_cases cF : F i = true
    · have hr1 := hr.mpr cF
      rw [hr1, i1_0]
      have hm : fc_n F i < 4 := by have := fc_le F i; omega
      obtain ⟨BK2, e3, p3⟩ := ra_45 (k22 := M_X7_ask_22 (nI pe) (nf_a S) f) (P := nI pe) (x := he2) (y := sp2) (bc := bc) (bm := bm) (z1 := nI p) (z2 := z) (st := nf_a S) (nw := nf_a N2) (H := H2) (k := i) hm 125 f 0 BK (by omega) (by omega)
      rw [e3, show fc_n F i + 1 = fc_n F (i + 1) by rw [fc_n, if_pos cF]]
      refine ih f (i + 1) _ _ _ _ _ _ _ (by omega) (by omega) (fun k hk hFk => ?_)
      intro j hj q hq
      show BK2 (125 * fc_n F k + (5 * j + q)) = _
      rw [p3]
      by_cases ek : k = i
      · subst ek
        rw [if_pos (by omega), show 125 * fc_n F k + (5 * j + q) - 125 * fc_n F k = 5 * j + q by omega]
        exact hv3 j hj q hq
      · have l1 : fc_n F (k + 1) ≤ fc_n F i := by have := fc_mo F (i - (k + 1)) (k + 1); rw [show k + 1 + (i - (k + 1)) = i by omega] at this; exact this
        rw [fc_n, if_pos hFk] at l1
        rw [if_neg (by omega)]
        exact hv k (by omega) hFk j hj q hq
    · have hr0 : r2 = 0 := by
        rcases r201 with c | c
        · exact c
        · exact absurd (hr.mp c) cF
      rw [hr0, i0_0, show fc_n F i = fc_n F (i + 1) by rw [fc_n, if_neg cF, Nat.add_zero]]
      refine ih f (i + 1) _ _ _ _ _ _ _ (by omega) (by omega) (fun k hk hFk => ?_)
      by_cases ek : k = i
      · rw [ek] at hFk; exact absurd hFk cF
      · exact hv k (by omega) hFk
theorem ra_119 {k94 : Int32 → Int32 → Int32 → Int32 → (Nat → Int32) → (Nat → Int32) → (Nat → Int32) → Int32 → Int32 → Int32 → Option (Int32 × Int32 × Int32 × Int32 × Int32 × (Nat → Int32) × (Nat → Int32) × (Nat → Int32))} {k107 : Int32 → Int32 → Int32 → Int32 → (Nat → Int32) → (Nat → Int32) → (Nat → Int32) → Int32 → Int32 → Int32 → Int32 → Int32 → Option (Int32 × Int32 × Int32 × Int32 × Int32 × (Nat → Int32) × (Nat → Int32) × (Nat → Int32))} {P bc bm z : Int32} {st nw H BK : Nat → Int32} {F : Nat → Bool} {g : Nat → Int32} {c m i : Nat} (hc : c < 125) (hg : ∀ k, k < 4 → F k = true → BK (125 * fc_n F k + c) = g k) (hm : m ≤ 4) (hi : i < 4) : ∀ (d f k : Nat), k + d = 4 → d < f → M_X7_ask_119 k94 k107 P st f x y bc bm nw H BK z (nI (fc_n F 4)) (nI c) (nI m) (nI i) (nI (cn_n F g (BK (125 * i + c)) k)) (nI (fc_n F k)) = k107 x y bc bm nw H BK z (nI (fc_n F 4)) (nI c) (nI (max m (cn_n F g (BK (125 * i + c)) 4))) (nI (i + 1)) := by
  have l4 := fc_le F 4
  intro d
  induction d with
  | zero =>
    intro f k hk hf
    obtain ⟨f, rfl⟩ : ∃ g, f = g + 1 := ⟨f - 1, by omega⟩
    obtain rfl : k = 4 := by omega
    have lc := cn_le F g (BK (125 * i + c)) 4
    show B_X7_ask_119 _ _ _ _ _ _ _ _ _ _ _ _ _ _ _ _ _ _ _ _ = _
    unfold B_X7_ask_119 B_X7_ask_187
    simp (disch := omega) only [nI_leI, nI_1]
    rw [if_pos (Nat.le_refl _)]
    by_cases q : cn_n F g (BK (125 * i + c)) 4 ≤ m
    · rw [if_pos q, show max m (cn_n F g (BK (125 * i + c)) 4) = m by omega]
    · rw [if_neg q, show max m (cn_n F g (BK (125 * i + c)) 4) = cn_n F g (BK (125 * i + c)) 4 by omega]
  | succ d ih =>
    intro f k hk hf
    have lk := fc_le F k
    have lc := cn_le F g (BK (125 * i + c)) k
    by_cases cF : F k = true
    · obtain ⟨f, rfl⟩ : ∃ g, f = g + 1 := ⟨f - 1, by omega⟩
      have l1 : fc_n F (k + 1) ≤ fc_n F 4 := by have := fc_mo F (4 - (k + 1)) (k + 1); rw [show k + 1 + (4 - (k + 1)) = 4 by omega] at this; exact this
      rw [fc_n, if_pos cF] at l1
      have e := ih f (k + 1) (by omega) (by omega)
      rw [← e]
      show B_X7_ask_119 _ _ _ _ _ _ _ _ _ _ _ _ _ _ _ _ _ _ _ _ = _
      unfold B_X7_ask_119 B_X7_ask_161
      simp (disch := omega) only [show (125 : Int32) = nI 125 from rfl, nI_leI, pk_mul, nI_add, gi_k, nI_clamp, hg k (by omega) cF, nm_s, nI_1]
      rw [if_neg (by omega), show fc_n F (k + 1) = fc_n F k + 1 by rw [fc_n, if_pos cF]]
      by_cases q : BK (125 * i + c) = g k
      · rw [if_pos q, show M_X7_flag 1 = some (nI 1) from rfl, show cn_n F g (BK (125 * i + c)) (k + 1) = cn_n F g (BK (125 * i + c)) k + 1 by rw [cn_n, if_pos ⟨cF, q⟩]]
        simp only [bn_s, nI_add]
      · rw [if_neg q, show M_X7_flag 0 = some (nI 0) from rfl, show cn_n F g (BK (125 * i + c)) (k + 1) = cn_n F g (BK (125 * i + c)) k + 0 by rw [cn_n, if_neg (fun z => q z.2)]]
        simp only [bn_s, nI_add]
    · have e := ih f (k + 1) (by omega) (by omega)
      rw [show fc_n F (k + 1) = fc_n F k by rw [fc_n, if_neg cF, Nat.add_zero], show cn_n F g (BK (125 * i + c)) (k + 1) = cn_n F g (BK (125 * i + c)) k by rw [cn_n, if_neg (fun z => cF z.1), Nat.add_zero]] at e
      exact e
theorem ra_107 {k94 : Int32 → Int32 → Int32 → Int32 → (Nat → Int32) → (Nat → Int32) → (Nat → Int32) → Int32 → Int32 → Int32 → Option (Int32 × Int32 × Int32 × Int32 × Int32 × (Nat → Int32) × (Nat → Int32) × (Nat → Int32))} {bc z : Int32} {st nw H BK : Nat → Int32} {F : Nat → Bool} {g : Nat → Int32} {c bm : Nat} (h5 : pe ≤ 5) (hb : bm ≤ 4) (hc : c < 125) (hg : ∀ k, k < 4 → F k = true → BK (125 * fc_n F k + c) = g k) : ∀ (d f k : Nat), k + d = 4 → d + 10 < f → M_X7_ask_107 k94 (nI pe) st f x y bc (nI bm) nw H BK z (nI (fc_n F 4)) (nI c) (nI (mx_n F g k)) (nI (fc_n F k)) = k94 x y (if c % 5 < pe ∧ mx_n F g 4 < bm then nI (10 * (c / 5) + c % 5) else bc) (nI (if c % 5 < pe ∧ mx_n F g 4 < bm then mx_n F g 4 else bm)) nw H BK z (nI (fc_n F 4)) (nI (c + 1)) := by
  have l4 := fc_le F 4
  intro d
  induction d with
  | zero =>
    intro f k hk hf
    obtain ⟨f, rfl⟩ : ∃ g, f = g + 1 := ⟨f - 1, by omega⟩
    obtain rfl : k = 4 := by omega
    have lm := mx_le F g 4
    have hq : nI c - nI c / 5 * 5 = nI (c % 5) := by
      rw [show (5 : Int32) = nI 5 from rfl, pk_div (by omega) (by omega) (by omega), pk_mul, pk_sub (by omega)]
      congr 1
      omega
    have hd : (10 : Int32) * (nI c / 5) + nI (c % 5) = nI (10 * (c / 5) + c % 5) := by
      rw [show (5 : Int32) = nI 5 from rfl, show (10 : Int32) = nI 10 from rfl, pk_div (by omega) (by omega) (by omega), pk_mul, nI_add]
    show B_X7_ask_107 _ _ _ _ _ _ _ _ _ _ _ _ _ _ _ _ _ = _
    unfold B_X7_ask_107 B_X7_ask_224
    rw [hq, hd, rf_jd (by omega) (by omega)]
    simp (disch := omega) only [nI_leI, nI_1, bn_s]
    rw [if_pos (Nat.le_refl _)]
    by_cases q1 : pe ≤ c % 5
    · rw [if_pos q1, if_neg (by omega), if_neg (by omega)]
    · rw [if_neg q1]
      by_cases q2 : bm ≤ mx_n F g 4
      · rw [if_pos q2, if_neg (by omega), if_neg (by omega)]
      · rw [if_neg q2, if_pos (by omega), if_pos (by omega)]
  | succ d ih =>
    intro f k hk hf
    have lk := fc_le F k
    have lm := mx_le F g k
    by_cases cF : F k = true
    · obtain ⟨f, rfl⟩ : ∃ g, f = g + 1 := ⟨f - 1, by omega⟩
      have l1 : fc_n F (k + 1) ≤ fc_n F 4 := by have := fc_mo F (4 - (k + 1)) (k + 1); rw [show k + 1 + (4 - (k + 1)) = 4 by omega] at this; exact this
      rw [fc_n, if_pos cF] at l1
      have e := ih f (k + 1) (by omega) (by omega)
      rw [← e]
      have e2 := ra_119 (k94 := k94) (k107 := M_X7_ask_107 k94 (nI pe) st f) (P := nI pe) (x := x) (y := y) (bc := bc) (bm := nI bm) (z := z) (st := st) (nw := nw) (H := H) hc hg (m := mx_n F g k) lm (show fc_n F k < 4 by omega) 4 f 0 (by omega) (by omega)
      rw [hg k (by omega) cF] at e2
      show B_X7_ask_107 _ _ _ _ _ _ _ _ _ _ _ _ _ _ _ _ _ = _
      unfold B_X7_ask_107
      rw [if_neg (fun q => by have := (nI_leI (by omega) (by omega)).mp q; omega), show fc_n F (k + 1) = fc_n F k + 1 by rw [fc_n, if_pos cF], show mx_n F g (k + 1) = max (mx_n F g k) (cn_n F g (g k) 4) by rw [mx_n, if_pos cF]]
      exact e2
    · have e := ih f (k + 1) (by omega) (by omega)
      rw [show fc_n F (k + 1) = fc_n F k by rw [fc_n, if_neg cF, Nat.add_zero], show mx_n F g (k + 1) = mx_n F g k by rw [mx_n, if_neg cF]; omega] at e
      exact e
theorem ra_94 {bc z : Int32} {st nw H BK : Nat → Int32} {F : Nat → Bool} {g : Nat → Int32} {c bm : Nat} (h5 : pe ≤ 5) (hb : bm ≤ 4) (hc : c < 125) (hg : ∀ k, k < 4 → F k = true → BK (125 * fc_n F k + c) = g k) (hf : 20 < f) : M_X7_ask_94 (nI pe) st (f + 1) x y bc (nI bm) nw H BK z (nI (fc_n F 4)) (nI c) = M_X7_ask_94 (nI pe) st f x y (if c % 5 < pe ∧ mx_n F g 4 < bm then nI (10 * (c / 5) + c % 5) else bc) (nI (if c % 5 < pe ∧ mx_n F g 4 < bm then mx_n F g 4 else bm)) nw H BK z (nI (fc_n F 4)) (nI (c + 1)) := by
  have e := ra_107 (k94 := M_X7_ask_94 (nI pe) st f) (x := x) (y := y) (bc := bc) (z := z) (st := st) (nw := nw) (H := H) h5 hb hc hg 4 f 0 (by omega) (by omega)
  rw [← e]
  show B_X7_ask_94 _ _ _ _ _ _ _ _ _ _ _ _ _ _ = _
  unfold B_X7_ask_94
  rw [if_neg (fun q => by have := (nI_leI (a := 125) (b := c) (by omega) (by omega)).mp q; omega)]
  rfl
end
