/-! hours -/
theorem cf_wh {pe p f he sp : Nat} {a : Nat → Nat} {K G B R : Nat → Int32} (g : gd_s pe a) (hp : p < pe) (hf : 200 < f) (pt : pt_w pe a K G B R) : ∃ G2 : Nat → Int32, M_X5_wheel f (mk_w pe a he sp K G B R) (nI p) = some (mk_w pe (wh_n pe p (he, sp, a)).2.2 (wh_n pe p (he, sp, a)).1 (wh_n pe p (he, sp, a)).2.1 K G2 B R) ∧ pt_w pe (wh_n pe p (he, sp, a)).2.2 K G2 B R := by
  obtain ⟨h5, ⟨h15, h15'⟩, h16, h17, h26, hq, hr⟩ := g
  obtain ⟨q0, q1, q2, q3⟩ := hq p hp
  obtain ⟨pt1, pt2⟩ := pt
  obtain ⟨t0, t1, t2⟩ := pt1 p hp
  have e8 := hd_8 (a (3 * p))
  have el := hl_le (a (3 * p)) (a 16 + min (min (hd_n (a (3 * p))) (a (3 * p + 1))) (a 15 - a 16))
  have eput : (if (if nI (a 15) - nI (a 16) < 0 then 0 else nI (a 15) - nI (a 16)) < (if nI (a (3 * p + 1)) < nI (hd_n (a (3 * p))) then nI (a (3 * p + 1)) else nI (hd_n (a (3 * p)))) then (if nI (a 15) - nI (a 16) < 0 then 0 else nI (a 15) - nI (a 16)) else (if nI (a (3 * p + 1)) < nI (hd_n (a (3 * p))) then nI (a (3 * p + 1)) else nI (hd_n (a (3 * p))))) = nI (min (min (hd_n (a (3 * p))) (a (3 * p + 1))) (a 15 - a 16)) := by
    have e1 : (if nI (a (3 * p + 1)) < nI (hd_n (a (3 * p))) then nI (a (3 * p + 1)) else nI (hd_n (a (3 * p)))) = nI (min (hd_n (a (3 * p))) (a (3 * p + 1))) := by
      simp (disch := omega) only [nI_ltI]
      split
      · congr 1; omega
      · congr 1; omega
    have e2 : (if nI (a 15) - nI (a 16) < 0 then 0 else nI (a 15) - nI (a 16)) = nI (a 15 - a 16) := by
      by_cases c : a 15 < a 16
      · rw [if_pos (pk_sneg (by omega) c), show a 15 - a 16 = 0 by omega]; rfl
      · rw [pk_sub (by omega), if_neg (nI_pos (by omega))]
    rw [e1, e2]
    simp (disch := omega) only [nI_ltI]
    split
    · congr 1; omega
    · congr 1; omega
  have hh : ∀ w : s_W, w.1 = nI pe → M_X5_has w (nI p) = some 1 := fun w hw => by rw [cf_has hw h5 (by omega), if_pos hp]
  unfold M_X5_wheel B_X5_wheel_0
  rw [hh _ rfl, bn_s, if_neg (by decide)]
  simp (disch := omega) only [mk_w, gi_k, nI_clamp, t0, t1, t2, cf_hd, bn_s, eput, nm_s]
  have ep : min (min (hd_n (a (3 * p))) (a (3 * p + 1))) (a 15 - a 16) ≤ a 15 - a 16 := by omega
  have ep2 : min (min (hd_n (a (3 * p))) (a (3 * p + 1))) (a 15 - a 16) ≤ a (3 * p + 1) := by omega
  simp only [wh_n]
  generalize min (min (hd_n (a (3 * p))) (a (3 * p + 1))) (a 15 - a 16) = put at *
  simp (disch := omega) only [nI_add, cf_hl, bn_s]
  generalize hl_n (a (3 * p)) (a 16 + put) = much at *
  simp (disch := omega) only [pk_sub, nI_leI]
  have pts : ∀ (a2 : Nat → Nat) (G2 : Nat → Int32), (∀ i, i ≠ 16 → (∀ q, q < pe → i ≠ 3 * q + 1) → a2 i = a i) → (∀ q, q < pe → G2 q = nI (a2 (3 * q + 1))) → pt_w pe a2 K G2 B R := by
    intro a2 G2 ho hG
    refine ⟨fun q hq2 => ⟨?_, hG q hq2, ?_⟩, fun i hi => ?_⟩
    · rw [ho _ (by omega) (by omega)]; exact (pt1 q hq2).1
    · rw [ho _ (by omega) (by omega)]; exact (pt1 q hq2).2.2
    · rw [ho 17 (by omega) (by omega)] at hi
      rw [ho _ (by omega) (by omega)]; exact pt2 i hi
  have oth : ∀ i, i ≠ 16 → (∀ q, q < pe → i ≠ 3 * q + 1) → up_n (up_n a (3 * p + 1) (a (3 * p + 1) - put)) 16 (a 16 + put - much) i = a i := fun i h1 h2 => by rw [up_o h1, up_o (h2 p hp)]
  have g99 : ∀ q, q < pe → up_n (up_n a (3 * p + 1) (a (3 * p + 1) - put)) 16 (a 16 + put - much) (3 * q + 1) ≤ 99 := fun q hq2 => by
    rw [up_o (by omega)]
    by_cases e : q = p
    · rw [e, up_s]; omega
    · rw [up_o (by omega)]; exact (hq q hq2).2.1
  have gG : ∀ q, q < pe → upd G p (nI (a (3 * p + 1) - put)) q = nI (up_n (up_n a (3 * p + 1) (a (3 * p + 1) - put)) 16 (a 16 + put - much) (3 * q + 1)) := fun q hq2 => by
    rw [up_o (by omega)]
    by_cases e : q = p
    · rw [e, up_s, pk_us]
    · rw [up_o (by omega), pk_un e]; exact (pt1 q hq2).2.1
  by_cases hc : a 16 + put - much ≤ a (3 * p + 2)
  · rw [if_pos hc, show a 16 + put - much - a (3 * p + 2) = 0 by omega]
    refine ⟨upd G p (nI (a (3 * p + 1) - put)), ?_, pts _ _ oth gG⟩
    simp (disch := omega) only [sl_n, up_s, up_o, Nat.add_zero]
  · rw [if_neg hc]
    simp only [M_X5_spill, B_X5_spill_0, nm_s]
    obtain ⟨G2, e2, p2⟩ := cf_sp (x2 := nI (a 17)) (x3 := nI (a 15)) (x4 := nI (a 16 + put - much)) (x5 := nI (a 26)) (x6 := nI (he + much)) (x7 := nI (sp + (a 16 + put - much - a (3 * p + 2)))) (pe := pe) (much := a 16 + put - much - a (3 * p + 2)) (K := K) (B := B) (R := R) h5 (by omega) (a 16 + put - much - a (3 * p + 2)) f p 0 _ _ (by omega) (by omega) hp g99 gG
    rw [nI_add, show (0 : Int32) = nI 0 from rfl, e2, bn_s]
    simp only [t2]
    have o2 : ∀ i, i ≠ 16 → (∀ q, q < pe → i ≠ 3 * q + 1) → sl_n pe (a 16 + put - much - a (3 * p + 2)) p (up_n (up_n a (3 * p + 1) (a (3 * p + 1) - put)) 16 (a 16 + put - much)) i = a i := fun i h1 h2 => by
      rw [sl_o pe (by omega) _ _ _ _ h1 h2, oth i h1 h2]
    refine ⟨G2, ?_, pts _ _ o2 p2⟩
    rw [o2 17 (by omega) (by omega), o2 15 (by omega) (by omega), o2 26 (by omega) (by omega), sl_16 pe h5 (by omega), up_s, show a 16 + put - much - (a 16 + put - much - a (3 * p + 2)) = a (3 * p + 2) by omega]
