/-! single changes of a state -/
theorem gd_15 {pe x : Nat} {a : Nat → Nat} (g : gd_s pe a) (h1 : 1 ≤ x) (h2 : x ≤ 99) : gd_s pe (up_n a 15 x) := by
  obtain ⟨h5, h15, h16, h17, h26, hq, hr⟩ := g
  refine ⟨h5, ?_, ?_, ?_, ?_, fun q hq2 => ?_, fun i hi => ?_⟩
  · rw [up_s]; omega
  · simp (disch := omega) only [up_o]; exact h16
  · simp (disch := omega) only [up_o]; exact h17
  · simp (disch := omega) only [up_o]; exact h26
  · simp (disch := omega) only [up_o]; exact hq q hq2
  · simp (disch := omega) only [up_o] at *; exact hr i hi
theorem pt_15 {pe x : Nat} {a : Nat → Nat} {K G B R : Nat → Int32} (g : gd_s pe a) (pt : pt_w pe a K G B R) : pt_w pe (up_n a 15 x) K G B R := by
  have h5 := g.1
  refine ⟨fun q hq2 => ?_, fun i hi => ?_⟩
  · simp (disch := omega) only [up_o]; exact pt.1 q hq2
  · simp (disch := omega) only [up_o] at *; exact pt.2 i hi
theorem gd_K {pe p x : Nat} {a : Nat → Nat} (g : gd_s pe a) (hp : p < pe) (h2 : x ≤ 3) : gd_s pe (up_n a (3 * p) x) := by
  obtain ⟨h5, h15, h16, h17, h26, hq, hr⟩ := g
  refine ⟨h5, ?_, ?_, ?_, ?_, fun q hq2 => ?_, fun i hi => ?_⟩
  · simp (disch := omega) only [up_o]; exact h15
  · simp (disch := omega) only [up_o]; exact h16
  · simp (disch := omega) only [up_o]; exact h17
  · simp (disch := omega) only [up_o]; exact h26
  · by_cases e : q = p
    · subst e; simp (disch := omega) only [up_o, up_s]; exact ⟨h2, (hq q hq2).2⟩
    · simp (disch := omega) only [up_o]; exact hq q hq2
  · simp (disch := omega) only [up_o] at *; exact hr i hi
theorem pt_K {pe p x : Nat} {a : Nat → Nat} {K G B R : Nat → Int32} (g : gd_s pe a) (hp : p < pe) (pt : pt_w pe a K G B R) : pt_w pe (up_n a (3 * p) x) (upd K p (nI x)) G B R := by
  have h5 := g.1
  refine ⟨fun q hq2 => ?_, fun i hi => ?_⟩
  · by_cases e : q = p
    · subst e; simp (disch := omega) only [up_o, up_s, pk_us]; exact ⟨trivial, (pt.1 q hq2).2⟩
    · rw [pk_un e]; simp (disch := omega) only [up_o]; exact pt.1 q hq2
  · simp (disch := omega) only [up_o] at *; exact pt.2 i hi
theorem gd_G {pe p x : Nat} {a : Nat → Nat} (g : gd_s pe a) (hp : p < pe) (h2 : x ≤ 99) : gd_s pe (up_n a (3 * p + 1) x) := by
  obtain ⟨h5, h15, h16, h17, h26, hq, hr⟩ := g
  refine ⟨h5, ?_, ?_, ?_, ?_, fun q hq2 => ?_, fun i hi => ?_⟩
  · simp (disch := omega) only [up_o]; exact h15
  · simp (disch := omega) only [up_o]; exact h16
  · simp (disch := omega) only [up_o]; exact h17
  · simp (disch := omega) only [up_o]; exact h26
  · by_cases e : q = p
    · subst e; simp (disch := omega) only [up_o, up_s]; exact ⟨(hq q hq2).1, h2, (hq q hq2).2.2⟩
    · simp (disch := omega) only [up_o]; exact hq q hq2
  · simp (disch := omega) only [up_o] at *; exact hr i hi
theorem pt_G {pe p x : Nat} {a : Nat → Nat} {K G B R : Nat → Int32} (g : gd_s pe a) (hp : p < pe) (pt : pt_w pe a K G B R) : pt_w pe (up_n a (3 * p + 1) x) K (upd G p (nI x)) B R := by
  have h5 := g.1
  refine ⟨fun q hq2 => ?_, fun i hi => ?_⟩
  · by_cases e : q = p
    · subst e; simp (disch := omega) only [up_o, up_s, pk_us]; exact ⟨(pt.1 q hq2).1, trivial, (pt.1 q hq2).2.2⟩
    · rw [pk_un e]; simp (disch := omega) only [up_o]; exact pt.1 q hq2
  · simp (disch := omega) only [up_o] at *; exact pt.2 i hi
theorem gd_B {pe p x : Nat} {a : Nat → Nat} (g : gd_s pe a) (hp : p < pe) (h1 : 1 ≤ x) (h2 : x ≤ 99) : gd_s pe (up_n a (3 * p + 2) x) := by
  obtain ⟨h5, h15, h16, h17, h26, hq, hr⟩ := g
  refine ⟨h5, ?_, ?_, ?_, ?_, fun q hq2 => ?_, fun i hi => ?_⟩
  · simp (disch := omega) only [up_o]; exact h15
  · simp (disch := omega) only [up_o]; exact h16
  · simp (disch := omega) only [up_o]; exact h17
  · simp (disch := omega) only [up_o]; exact h26
  · by_cases e : q = p
    · subst e; simp (disch := omega) only [up_o, up_s]; exact ⟨(hq q hq2).1, (hq q hq2).2.1, h1, h2⟩
    · simp (disch := omega) only [up_o]; exact hq q hq2
  · simp (disch := omega) only [up_o] at *; exact hr i hi
theorem pt_B {pe p x : Nat} {a : Nat → Nat} {K G B R : Nat → Int32} (g : gd_s pe a) (hp : p < pe) (pt : pt_w pe a K G B R) : pt_w pe (up_n a (3 * p + 2) x) K G (upd B p (nI x)) R := by
  have h5 := g.1
  refine ⟨fun q hq2 => ?_, fun i hi => ?_⟩
  · by_cases e : q = p
    · subst e; simp (disch := omega) only [up_o, up_s, pk_us]; exact ⟨(pt.1 q hq2).1, (pt.1 q hq2).2.1, trivial⟩
    · rw [pk_un e]; simp (disch := omega) only [up_o]; exact pt.1 q hq2
  · simp (disch := omega) only [up_o] at *; exact pt.2 i hi
theorem mk_p {pe p j x he sp : Nat} {a : Nat → Nat} {K G B R : Nat → Int32} (hj : j < 15) : mk_w pe (up_n a j x) he sp K G B R = mk_w pe a he sp K G B R := by
  unfold mk_w
  simp (disch := omega) only [up_o]
theorem mk_15 {pe x he sp : Nat} {a : Nat → Nat} {K G B R : Nat → Int32} : mk_w pe (up_n a 15 x) he sp K G B R = (nI pe, nI (a 17), nI x, nI (a 16), nI (a 26), nI he, nI sp, K, G, B, R) := by
  unfold mk_w
  simp (disch := omega) only [up_o, up_s]
/-- a turn more -/
def ad_n (a : Nat → Nat) (p : Nat) : Nat → Nat := up_n (up_n a (18 + a 17) p) 17 (a 17 + 1)
theorem gd_ad {pe p : Nat} {a : Nat → Nat} (g : gd_s pe a) (hp : p < pe) (h8 : a 17 < 8) : gd_s pe (ad_n a p) := by
  obtain ⟨h5, h15, h16, h17, h26, hq, hr⟩ := g
  unfold ad_n
  refine ⟨h5, ?_, ?_, ?_, ?_, fun q hq2 => ?_, fun i hi => ?_⟩
  · simp (disch := omega) only [up_o]; exact h15
  · simp (disch := omega) only [up_o]; exact h16
  · rw [up_s]; omega
  · simp (disch := omega) only [up_o]; exact h26
  · simp (disch := omega) only [up_o]; exact hq q hq2
  · rw [up_s] at hi
    rw [up_o (by omega)]
    by_cases ei : i = a 17
    · rw [ei, up_s]; exact hp
    · rw [up_o (by omega)]; exact hr i (by omega)
theorem cf_ad {pe p he sp : Nat} {a : Nat → Nat} {K G B R : Nat → Int32} (g : gd_s pe a) (hp : p < pe) (h8 : a 17 < 8) (pt : pt_w pe a K G B R) : M_X5_addTurn (mk_w pe a he sp K G B R) (nI p) = some (mk_w pe (ad_n a p) he sp K G B (upd R (a 17) (nI p))) ∧ pt_w pe (ad_n a p) K G B (upd R (a 17) (nI p)) := by
  obtain ⟨h5, h15, h16, h17, h26, hq, hr⟩ := g
  constructor
  · unfold M_X5_addTurn B_X5_addTurn_0 ad_n mk_w
    simp (disch := omega) only [show (8 : Int32) = nI 8 from rfl, nI_leI, gi_k, nI_clamp, nm_s, up_o, up_s, nI_1]
    rw [if_neg (by omega)]
  · unfold ad_n
    refine ⟨fun q hq2 => ?_, fun i hi => ?_⟩
    · simp (disch := omega) only [up_o]; exact pt.1 q hq2
    · rw [up_s] at hi
      rw [up_o (by omega)]
      by_cases ei : i = a 17
      · rw [ei, up_s, pk_us]
      · rw [up_o (by omega), pk_un ei]; exact pt.2 i (by omega)
