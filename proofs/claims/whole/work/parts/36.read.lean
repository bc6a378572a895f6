/-! count; read -/
section
variable {pe f : Nat} {S N : Nat → Nat} {w t : s_W} {v : s_V} {x y : Int32}
theorem rf_cn {T z : Int32} {L Z kp : Nat → Int32} (h5 : pe ≤ 5) : ∀ (k f i a b : Nat), i + k = pe → k < f → M_X7_count_7 (nI pe) T (nf_a S) L Z kp f z (nI a) (nI b) (nI i) = B_X7_count_7 (fun _ _ _ _ => none) (nI pe) T (nf_a S) L Z kp 0 z (nI (a + sr_n (fun q => S (3 * q + 1)) i k)) (nI (b + sr_n (fun q => S (3 * q + 2)) i k)) (nI pe) := by
  intro k
  induction k with
  | zero =>
    intro f i a b hi hf
    obtain ⟨f, rfl⟩ : ∃ g, f = g + 1 := ⟨f - 1, by omega⟩
    obtain rfl : i = pe := by omega
    show B_X7_count_7 _ _ _ _ _ _ _ _ _ _ _ _ = _
    unfold B_X7_count_7
    simp (disch := omega) only [nI_leI, Nat.le_refl, if_true]
    rfl
  | succ k ih =>
    intro f i a b hi hf
    obtain ⟨f, rfl⟩ : ∃ g, f = g + 1 := ⟨f - 1, by omega⟩
    have e1 : M_X7_count_7 (nI pe) T (nf_a S) L Z kp (f + 1) z (nI a) (nI b) (nI i) = M_X7_count_7 (nI pe) T (nf_a S) L Z kp f z (nI (a + S (3 * i + 1))) (nI (b + S (3 * i + 2))) (nI (i + 1)) := by
      show B_X7_count_7 _ _ _ _ _ _ _ _ _ _ _ _ = _
      unfold B_X7_count_7
      simp (disch := omega) only [nI_leI]
      rw [if_neg (by omega), show (3 * nI i) + 1 = nI (3 * i + 1) by rw [show (3 : Int32) = nI 3 from rfl, pk_mul, nI_1], show (3 * nI i) + 2 = nI (3 * i + 2) by rw [show (3 : Int32) = nI 3 from rfl, pk_mul, show (2 : Int32) = nI 2 from rfl, nI_add]]
      simp (disch := omega) only [gi_k, nI_clamp, nf_e, nI_add, nm_s, nI_1]
    rw [e1, ih f (i + 1) _ _ (by omega) (by omega), sr_n, sr_n, Nat.add_assoc, Nat.add_assoc]
theorem op_count {kp L Z C : Nat → Int32} {k0 k1 : Int32} {w0 w1 : s_W} {v0 v1 : s_V} {sf : Nat → s_S} {t : s_T} {tn : Nat} {tape : Nat → Int32} (h : bk_s pe S w v) (i0 : im_r pe S 0 k0 (kp 0) w0 v0) (i1 : im_r pe S 1 k1 (kp 1) w1 v1) (hs : sr_4 L Z C sf) (ht : tp_r t tn tape) (hf : 100 < f) (z : Int32) : ∃ r, M_X6_count w (sf 0) t k0 k1 v f z = some r ∧ M_X7_count (nI pe) (nI tn) (nf_a S) L Z kp f z = some r := by
  obtain ⟨⟨he, sp, K, G, B, R, rfl, pt⟩, g, g2, g3⟩ := h
  have h5 := g.1
  have fl : ∀ b : Int32, b = 0 ∨ b = 1 → M_X7_flag b = some b := by
    intro b hb
    rcases hb with rfl | rfl <;> rfl
  have hk0 : k0 = 0 ∨ k0 = 1 := i0.2.imp id (fun q => q.1)
  have hk1 : k1 = 0 ∨ k1 = 1 := i1.2.imp id (fun q => q.1)
  have er := rf_cn (S := S) (T := nI tn) (z := z) (L := L) (Z := Z) (kp := kp) h5 pe f 0 0 0 (by omega) (by omega)
  have eg : M_X5_sum 5 G f (nI pe) = _ := cf_sm (N := 5) (n := pe) (A := G) (g := fun q => S (3 * q + 1)) h5 (by omega) (fun q hq => (pt.1 q hq).2.1) pe f 0 0 (by omega) (by omega)
  have eb : M_X5_sum 5 B f (nI pe) = _ := cf_sm (N := 5) (n := pe) (A := B) (g := fun q => S (3 * q + 2)) h5 (by omega) (fun q hq => (pt.1 q hq).2.2) pe f 0 0 (by omega) (by omega)
  unfold M_X6_count B_X6_count_0 M_X7_count B_X7_count_0
  rw [show M_X7_count_7 (nI pe) (nI tn) (nf_a S) L Z kp f z 0 0 0 = _ from er, eg, eb]
  unfold B_X7_count_7
  simp (disch := omega) only [nI_leI, Nat.le_refl, if_true, bn_s]
  by_cases c0 : z = 0
  · simp only [if_pos c0]
    rw [show (27 : Int32) = nI 27 from rfl, gi_k (by omega) (by omega), nI_clamp (by omega), nf_e, g3.1]
    exact ⟨_, rfl, rfl⟩
  simp only [if_neg c0]
  by_cases c1 : z = 1
  · simp only [if_pos c1]
    rw [show gi_n 0 2 ((M_X7_flag (kp (0 : Int32).toNatClampNeg)).bind fun u102 => gi_n 1 2 ((M_X7_flag (kp (1 : Int32).toNatClampNeg)).bind fun u111 => some (u102 + u111))) = (M_X7_flag (kp 0)).bind fun u102 => (M_X7_flag (kp 1)).bind fun u111 => some (u102 + u111) from rfl, ← i0.1, ← i1.1, fl _ hk0, fl _ hk1]
    unfold B_X6_count_65
    rcases hk0 with rfl | rfl <;> rcases hk1 with rfl | rfl <;> exact ⟨_, rfl, rfl⟩
  simp only [if_neg c1]
  by_cases c2 : z = 2
  · simp only [if_pos c2]
    rw [ht.1]
    exact ⟨_, rfl, rfl⟩
  simp only [if_neg c2]
  by_cases c3 : z = 3
  · simp only [if_pos c3]
    rw [show gi_n 0 4 (if L (0 : Int32).toNatClampNeg = -4 then some (-4) else gi_n 0 4 (some (Z (0 : Int32).toNatClampNeg))) = if L 0 = -4 then some (-4) else some (Z 0) from rfl]
    unfold M_X2_isNothing B_X2_isNothing_0
    rcases hs 0 (by omega) with ⟨hl, hs⟩ | ⟨l, n, a1, a2, a3, a4, a5, a6, a7⟩
    · rw [if_pos hl, if_pos hs]
      exact ⟨_, rfl, rfl⟩
    · have nl : ¬ L 0 = -4 := by rw [a3]; exact n4_ne (by omega)
      have ns : ¬ (sf 0).1 = -1 := by
        rw [a4]
        intro e
        have e2 := congrArg Int32.toInt e
        rw [nI_toInt (by omega)] at e2
        have e3 : (-1 : Int32).toInt = -1 := by decide
        omega
      rw [if_neg nl, if_neg ns, a5]
      simp only [bn_s, i0_0]
      rw [a6]
      exact ⟨_, rfl, rfl⟩
  simp only [if_neg c3]
  by_cases c4 : z = 4
  · simp only [if_pos c4]
    exact ⟨_, rfl, rfl⟩
  simp only [if_neg c4]
  by_cases c5 : z = 5
  · simp only [if_pos c5]
    exact ⟨_, rfl, rfl⟩
  simp only [if_neg c5]
  exact ⟨_, rfl, rfl⟩
/-- a grief that may be written, or not -/
theorem al_c (a b : Int32) (h5 : pe ≤ 5) (T : Nat → Nat) : (∃ p g, p < pe ∧ a = nI p ∧ g ≤ 99 ∧ b = nI g ∧ (∀ w : s_W, w.1 = nI pe → M_X5_mayAlter w a 1 b = some 1) ∧ M_X7_alter (nI pe) (nf_a T) a 1 b = some (nI (T (3 * p + 1)), nf_a (up_n T (3 * p + 1) g))) ∨ ((∀ w : s_W, w.1 = nI pe → M_X5_mayAlter w a 1 b = some 0) ∧ M_X7_alter (nI pe) (nf_a T) a 1 b = some (-1, nf_a T)) := by
  have cl : ∀ w : s_W, M_X5_mayAlter w a 1 b = (M_X5_has w a).bind (fun u2 => if u2 = 0 then some 0 else (M_X6_within b 0 99).bind (fun u47 => gq_b u47 (some u47))) := fun w => rfl
  have rl : M_X7_alter (nI pe) (nf_a T) a 1 b = (M_X6_within b 0 99).bind (fun u27 => B_X7_alter_55 (nI pe) (nf_a T) a 1 b u27) := by
    rw [← in_k b 0 99 0 99 (by decide) (by decide)]
    rfl
  rw [rl]
  rcases wi_c b 0 99 0 99 rfl rfl (by omega) (by omega) with ⟨g, g1, g2, rfl, e⟩ | e
  · rcases on_c a h5 with ⟨p, hp, rfl, e1, e2⟩ | ⟨e1, e2⟩
    · left
      refine ⟨p, g, hp, rfl, g2, rfl, fun w hw => by rw [cl, e1 w hw, e]; rfl, ?_⟩
      rw [e]
      unfold B_X7_alter_55 M_X7_becomes B_X7_becomes_0
      simp only [bn_s]
      rw [e2]
      simp only [bn_s, i1_0]
      rw [show 3 * nI p + 1 = nI (3 * p + 1) by rw [show (3 : Int32) = nI 3 from rfl, pk_mul, nI_1]]
      simp (disch := omega) only [gi_k, nI_clamp, nf_e, nm_s, nf_u, bn_s]
    · right
      refine ⟨fun w hw => by rw [cl, e1 w hw]; rfl, ?_⟩
      rw [e]
      unfold B_X7_alter_55
      simp only [bn_s]
      rw [e2]
      rfl
  · right
    rw [e]
    refine ⟨fun w hw => ?_, ?_⟩
    · rw [cl]
      rcases on_c a h5 with ⟨p, hp, rfl, e1, e2⟩ | ⟨e1, e2⟩
      · rw [e1 w hw, e]; rfl
      · rw [e1 w hw]; rfl
    · unfold B_X7_alter_55
      simp only [bn_s]
      rcases on_c a h5 with ⟨p, hp, rfl, e1, e2⟩ | ⟨e1, e2⟩
      · rw [e2]; rfl
      · rw [e2]; rfl
theorem ix_c (F : Int32) {m n : Nat} (hm : m ≤ 100) (hn : n ≤ 100) : (∃ q, q < n ∧ F + nI m = nI q ∧ F.toInt + m = q ∧ M_X6_within (F + nI m) 0 (nI n - 1) = some 1) ∨ (M_X6_within (F + nI m) 0 (nI n - 1) = some 0 ∧ (F.toInt + m < 0 ∨ (n : Int) ≤ F.toInt + m)) := by
  have l1 := F.le_toInt
  have l2 := F.toInt_lt
  have ea : (F + nI m).toInt = (F.toInt + m).bmod (2 ^ 32) := by rw [Int32.toInt_add, nI_toInt (by omega)]
  rw [Int.bmod_def] at ea
  simp only [show ((2 ^ 32 : Nat) : Int) = 4294967296 from rfl] at ea
  have hb : (F + nI m).toInt = F.toInt + m ∨ (2147483648 ≤ F.toInt + m ∧ (F + nI m).toInt = F.toInt + m - 4294967296) := by
    split at ea <;> omega
  rcases wt_c (F + nI m) (n := n) (by omega) with ⟨q, hq, e, e2⟩ | ⟨e2, hne⟩
  · left
    refine ⟨q, hq, e, ?_, e2⟩
    have : (F + nI m).toInt = q := by rw [e, nI_toInt (by omega)]
    omega
  · right
    refine ⟨e2, ?_⟩
    rcases hb with hb | hb
    · rcases Int.lt_or_le (F.toInt + m) 0 with c | c
      · exact Or.inl c
      · rcases Int.lt_or_le (F.toInt + m) n with c2 | c2
        · exfalso
          obtain ⟨q, hq⟩ := Int.eq_ofNat_of_zero_le c
          refine hne q (by omega) (Int32.toInt_inj.mp ?_)
          rw [nI_toInt (by omega), hb]
          exact hq
        · exact Or.inr c2
    · right; omega
theorem lg_c {F : Int32} {a c n : Nat} (ha : a ≤ 100) (hc : c ≤ 100) : (lg_cmp (F.toInt64 + (nI a).toInt64 + (nI c).toInt64) 0 < 0 ↔ F.toInt + ((a + c : Nat) : Int) < 0) ∧ ∀ n : Nat, n ≤ 100 → (lg_cmp (F.toInt64 + (nI a).toInt64 + (nI c).toInt64) (nI n).toInt64 < 0 ↔ F.toInt + ((a + c : Nat) : Int) < n) := by
  have l1 := F.le_toInt
  have l2 := F.toInt_lt
  have ea : (F.toInt64 + (nI a).toInt64 + (nI c).toInt64).toInt = F.toInt + ((a + c : Nat) : Int) := by
    rw [Int64.toInt_add, Int64.toInt_add, Int32.toInt_toInt64, Int32.toInt_toInt64, Int32.toInt_toInt64, nI_toInt (by omega), nI_toInt (by omega), Int.bmod_def, Int.bmod_def]
    simp only [show ((2 ^ 64 : Nat) : Int) = 18446744073709551616 from rfl]
    split <;> split <;> omega
  have key : ∀ y : Int64, (lg_cmp (F.toInt64 + (nI a).toInt64 + (nI c).toInt64) y < 0 ↔ F.toInt + ((a + c : Nat) : Int) < y.toInt) := by
    intro y
    have h := not_congr (lg_cmp_ge (F.toInt64 + (nI a).toInt64 + (nI c).toInt64) y)
    simp only [Int32.lt_iff_toInt_lt, Int32.le_iff_toInt_le, Int64.le_iff_toInt_le] at *
    omega
  refine ⟨key 0, fun n hn => ?_⟩
  rw [key, Int32.toInt_toInt64, nI_toInt (by omega)]
end
