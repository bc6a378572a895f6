/-! the reference's best row; order -/
theorem al_cg {pe : Nat} {a b : Nat → Nat} (h5 : pe ≤ 5) (h : ∀ i, i < 46 → b i = a i) : al_n pe b = al_n pe a := by
  have e : ∀ (k i : Nat), i + k ≤ 5 → sr_n (fun q => b (3 * q + 1)) i k = sr_n (fun q => a (3 * q + 1)) i k := by
    intro k
    induction k with
    | zero => intro i _; rfl
    | succ k ih =>
      intro i hi
      rw [sr_n, sr_n, ih (i + 1) (by omega)]
      simp only [h (3 * i + 1) (by omega)]
  unfold al_n
  rw [e pe 0 (by omega), h 16 (by omega)]
theorem sb_4 {a b c d : Int32} : a - b + (c - d) = (a + c) - (b + d) := by
  simp only [Int32.sub_eq_add_neg, Int32.neg_add]
  ac_rfl
section
variable {pe f n : Nat} {S N : Nat → Nat} {w t : s_W} {v : s_V} {x y : Int32}
theorem ir_15 {st : Nat → Int32} {q : Int32} (hn : n ≤ 5) : ∀ (k f c : Nat) (R : Nat → Int32), k ≤ n → k + 50 < f → c < 5000 → ∃ f2 R2, 40 < f2 ∧ M_X7_isRow_15 st f R (nI c) q (nI k - 1) = M_X7_isRow_43 st f2 R2 q 0 ∧ (∀ i, i < k → R2 i = nI (c / 5 ^ (k - 1 - i) % 5)) ∧ ∀ i, k ≤ i → R2 i = R i := by
  intro k
  induction k with
  | zero =>
    intro f c R hk hf hc
    obtain ⟨f, rfl⟩ : ∃ g, f = g + 1 := ⟨f - 1, by omega⟩
    refine ⟨f, R, by omega, ?_, fun i hi => absurd hi (by omega), fun i _ => rfl⟩
    show B_X7_isRow_15 _ _ _ _ _ _ _ = _
    unfold B_X7_isRow_15
    rw [if_pos (by decide)]
  | succ k ih =>
    intro f c R hk hf hc
    obtain ⟨f, rfl⟩ : ∃ g, f = g + 1 := ⟨f - 1, by omega⟩
    obtain ⟨f2, R2, h1, h2, h3, h4⟩ := ih f (c / 5) (upd R k (nI (c % 5))) (by omega) (by omega) (by omega)
    refine ⟨f2, R2, h1, ?_, fun i hi => ?_, fun i hi => ?_⟩
    · rw [← h2, nI_pred]
      show B_X7_isRow_15 _ _ _ _ _ _ _ = _
      unfold B_X7_isRow_15
      rw [show (5 : Int32) = nI 5 from rfl, pk_rem (by omega) (by omega) (by omega), pk_div (by omega) (by omega) (by omega)]
      rw [if_neg (show ¬ nI k < 0 from nI_nlt (a := k) (b := 0) (by omega) (by omega))]
      simp (disch := omega) only [nm_s, gi_k, nI_clamp]
      rw [Int32.sub_eq_add_neg]
    · by_cases e : i = k
      · subst e
        rw [h4 i (by omega), pk_us, show i + 1 - 1 - i = 0 by omega, Nat.pow_zero, Nat.div_one]
      · rw [h3 i (by omega), show k + 1 - 1 - i = (k - 1 - i) + 1 by omega, Nat.pow_succ, Nat.mul_comm, Nat.div_div_eq_div_mul]
    · rw [h4 i (by omega), pk_un (by omega)]
theorem ir_55 {k43 : (Nat → Int32) → Int32 → Int32 → Option (Int32 × (Nat → Int32))} {R : Nat → Int32} {r : Nat → Nat} {q : Int32} {u : Nat} (hn : n ≤ 5) (h17 : S 17 = n) (hS : ∀ i, i < n → S (18 + i) < 5) (a : ar_p n R r) (hu : u < 5) : ∀ (k f i : Nat), i + k = n → k < f → M_X7_isRow_55 k43 (nf_a S) f R q (nI u) (nI (cw_n r u i) - nI (cw_n (fun i => S (18 + i)) u i)) (nI i) = k43 R (if q = 0 then 0 else if cw_n r u n = cw_n (fun i => S (18 + i)) u n then 1 else 0) (nI (u + 1)) := by
  intro k
  induction k with
  | zero =>
    intro f i hi hf
    obtain ⟨f, rfl⟩ : ∃ g, f = g + 1 := ⟨f - 1, by omega⟩
    obtain rfl : i = n := by omega
    have l1 := cw_le (r := r) (w := u) i
    have l2 := cw_le (r := fun i => S (18 + i)) (w := u) i
    show B_X7_isRow_55 _ _ _ _ _ _ _ _ _ = _
    unfold B_X7_isRow_55 B_X7_isRow_135 B_X7_isRow_136
    simp (disch := omega) only [show (17 : Int32) = nI 17 from rfl, gi_k, nI_clamp, nf_e, h17, nI_leI, nI_1]
    rw [if_pos (Nat.le_refl _)]
    by_cases q0 : q = 0
    · rw [if_pos q0, if_pos q0]
    · rw [if_neg q0, if_neg q0]
      by_cases c : cw_n r u i = cw_n (fun i => S (18 + i)) u i
      · rw [if_pos c, c, if_pos (by rw [pk_sub (Nat.le_refl _), Nat.sub_self]; rfl)]
      · rw [if_neg c, if_neg (fun z => by
          have := pk_sub_toInt (a := cw_n r u i) (b := cw_n (fun i => S (18 + i)) u i) (by omega) (by omega)
          rw [z, Int32.toInt_zero] at this
          omega)]
  | succ k ih =>
    intro f i hi hf
    obtain ⟨f, rfl⟩ : ∃ g, f = g + 1 := ⟨f - 1, by omega⟩
    have hA := a i (by omega)
    have hB := hS i (by omega)
    rw [← ih f (i + 1) (by omega) (by omega)]
    show B_X7_isRow_55 _ _ _ _ _ _ _ _ _ = _
    unfold B_X7_isRow_55 B_X7_isRow_86 B_X7_isRow_109
    simp (disch := omega) only [show (17 : Int32) = nI 17 from rfl, show (18 : Int32) = nI 18 from rfl, gi_k, nI_clamp, nf_e, h17, nI_leI, nI_1, nI_add, hA.1, nI_eq, nm_s]
    rw [if_neg (by omega), show M_X7_flag 1 = some (nI 1) from rfl, show M_X7_flag 0 = some (nI 0) from rfl]
    simp only [bn_s, sb_4, nI_add]
    rw [show cw_n r u (i + 1) = cw_n r u i + (if r i = u then 1 else 0) from rfl, show cw_n (fun i => S (18 + i)) u (i + 1) = cw_n (fun i => S (18 + i)) u i + (if S (18 + i) = u then 1 else 0) from rfl]
    by_cases c1 : r i = u
    · by_cases c2 : S (18 + i) = u
      · simp only [c1, c2, if_true]
      · simp only [c1, c2, if_true, if_false]
    · by_cases c2 : S (18 + i) = u
      · simp only [c1, c2, if_true, if_false]
      · simp only [c1, c2, if_false]
theorem ir_43 {R : Nat → Int32} {r : Nat → Nat} (hn : n ≤ 5) (h17 : S 17 = n) (hS : ∀ i, i < n → S (18 + i) < 5) (a : ar_p n R r) : ∀ (k f u : Nat) (q : Int32), u + k = 5 → k + 10 < f → (q = 0 ∨ q = 1) → (q = 1 ↔ ∀ w, w < u → cw_n r w n = cw_n (fun i => S (18 + i)) w n) → ∃ q2, M_X7_isRow_43 (nf_a S) f R q (nI u) = some (q2, R) ∧ (q2 = 0 ∨ q2 = 1) ∧ (q2 = 1 ↔ ∀ w, w < 5 → cw_n r w n = cw_n (fun i => S (18 + i)) w n) := by
  intro k
  induction k with
  | zero =>
    intro f u q hu hf q01 hq
    obtain ⟨f, rfl⟩ : ∃ g, f = g + 1 := ⟨f - 1, by omega⟩
    obtain rfl : u = 5 := by omega
    refine ⟨q, ?_, q01, hq⟩
    show B_X7_isRow_43 _ _ _ _ _ _ = _
    unfold B_X7_isRow_43
    rw [if_pos (by decide)]
    rcases q01 with rfl | rfl <;> rfl
  | succ k ih =>
    intro f u q hu hf q01 hq
    obtain ⟨f, rfl⟩ : ∃ g, f = g + 1 := ⟨f - 1, by omega⟩
    have e := ir_55 (k43 := M_X7_isRow_43 (nf_a S) f) (q := q) hn h17 hS a (show u < 5 by omega) n f 0 (by omega) (by omega)
    have e1 : M_X7_isRow_43 (nf_a S) (f + 1) R q (nI u) = M_X7_isRow_43 (nf_a S) f R (if q = 0 then 0 else if cw_n r u n = cw_n (fun i => S (18 + i)) u n then 1 else 0) (nI (u + 1)) := by
      rw [← e]
      show B_X7_isRow_43 _ _ _ _ _ _ = _
      unfold B_X7_isRow_43
      rw [if_neg (fun z => by have := (nI_leI (a := 5) (b := u) (by omega) (by omega)).mp z; omega)]
      rw [show nI (cw_n r u 0) - nI (cw_n (fun i => S (18 + i)) u 0) = 0 from (show nI 0 - nI 0 = 0 by decide)]
      rfl
    rw [e1]
    refine ih f (u + 1) _ (by omega) (by omega) ?_ ?_
    · split
      · exact Or.inl rfl
      · split
        · exact Or.inr rfl
        · exact Or.inl rfl
    · by_cases q0 : q = 0
      · rw [if_pos q0]
        refine ⟨fun z => absurd z (by decide), fun z => ?_⟩
        have := hq.mpr (fun w hw => z w (by omega))
        rw [q0] at this
        exact absurd this (by decide)
      · have q1 := q01.resolve_left q0
        rw [if_neg q0]
        by_cases c : cw_n r u n = cw_n (fun i => S (18 + i)) u n
        · rw [if_pos c]
          refine ⟨fun _ w hw => ?_, fun _ => rfl⟩
          by_cases ew : w = u
          · rw [ew]; exact c
          · exact hq.mp q1 w (by omega)
        · rw [if_neg c]
          exact ⟨fun z => absurd z (by decide), fun z => absurd (z u (by omega)) c⟩
theorem ir_r {c : Nat} {R : Nat → Int32} (hn : n ≤ 5) (h17 : S 17 = n) (hS : ∀ i, i < n → S (18 + i) < 5) (hc : c < 5000) (hf : 100 < f) : ∃ q R2, M_X7_isRow (nf_a S) f R (nI c) = some (q, R2) ∧ (q = 0 ∨ q = 1) ∧ (q = 1 ↔ ke_n n (dg_n n c) = ke_n n (fun i => S (18 + i))) ∧ ar_p n R2 (dg_n n c) := by
  obtain ⟨f2, R2, h1, h2, h3, -⟩ := ir_15 (st := nf_a S) (q := 1) hn n f c R (Nat.le_refl _) (by omega) hc
  have a2 : ar_p n R2 (dg_n n c) := fun i hi => ⟨h3 i hi, dg_5 n c i⟩
  obtain ⟨q, e, q01, hq⟩ := ir_43 hn h17 hS a2 5 f2 0 1 (by omega) (by omega) (Or.inr rfl) ⟨fun _ w hw => absurd hw (by omega), fun _ => rfl⟩
  refine ⟨q, R2, ?_, q01, hq.trans (ke_i hn).symm, a2⟩
  unfold M_X7_isRow B_X7_isRow_0
  simp (disch := omega) only [show (17 : Int32) = nI 17 from rfl, gi_k, nI_clamp, nf_e, h17, nm_s]
  rw [h2]
  exact e
end
