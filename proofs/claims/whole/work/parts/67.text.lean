/-! a text, in both: the draft is begun, the draft is kept, the turns are looked at -/
theorem fd_l : ∀ (k f j : Nat) (d : Nat → Nat) (a1 a2 a3 a4 : Int32), j + k = 46 → k < f → M_X7_firstDraft_2 f a1 a2 a3 a4 (nf_a d) (nI j) = some (0, 0, 0, -4, nf_a (up_n (fun i => if j ≤ i ∧ i < 46 then 0 else d i) 15 30)) := by
  intro k
  induction k with
  | zero =>
    intro f j d a1 a2 a3 a4 hj hf
    obtain ⟨f, rfl⟩ : ∃ g, f = g + 1 := ⟨f - 1, by omega⟩
    obtain rfl : j = 46 := by omega
    show B_X7_firstDraft_2 _ _ _ _ _ _ _ _ = _
    unfold B_X7_firstDraft_2
    rw [if_pos (by decide)]
    simp (disch := omega) only [show (15 : Int32) = nI 15 from rfl, gi_k, nI_clamp, show (30 : Int32) = nI 30 from rfl, nf_u]
    have e : (fun i => if 46 ≤ i ∧ i < 46 then 0 else d i) = d := by
      funext i
      rw [if_neg (by omega)]
    rw [e]
  | succ k ih =>
    intro f j d a1 a2 a3 a4 hj hf
    obtain ⟨f, rfl⟩ : ∃ g, f = g + 1 := ⟨f - 1, by omega⟩
    have st : M_X7_firstDraft_2 (f + 1) a1 a2 a3 a4 (nf_a d) (nI j) = M_X7_firstDraft_2 f a1 a2 a3 a4 (nf_a (up_n d j 0)) (nI (j + 1)) := by
      show B_X7_firstDraft_2 _ _ _ _ _ _ _ _ = _
      unfold B_X7_firstDraft_2
      rw [if_neg (fun q => by have := (nI_leI (a := 46) (b := j) (by omega) (by omega)).mp q; omega), gi_k (by omega) (by omega), nI_1, nI_clamp (by omega), show (0 : Int32) = nI 0 from rfl, nf_u]
    rw [st, ih f (j + 1) (up_n d j 0) a1 a2 a3 a4 (by omega) (by omega)]
    have e : (fun i => if j + 1 ≤ i ∧ i < 46 then 0 else up_n d j 0 i) = (fun i => if j ≤ i ∧ i < 46 then 0 else d i) := by
      funext i
      by_cases e1 : i = j
      · subst e1
        rw [if_neg (by omega), up_s, if_pos (by omega)]
      · rw [up_o e1]
        by_cases e2 : j + 1 ≤ i ∧ i < 46
        · rw [if_pos e2, if_pos (by omega)]
        · rw [if_neg e2, if_neg (by omega)]
    rw [e]
/-- the first draft -/
def d0_n (d : Nat → Nat) : Nat → Nat := up_n (fun i => if 0 ≤ i ∧ i < 46 then 0 else d i) 15 30
theorem fd_r {f : Nat} {d : Nat → Nat} {a1 a2 a3 a4 : Int32} (hf : 60 < f) : M_X7_firstDraft f a1 a2 a3 a4 (nf_a d) = some (0, 0, 0, -4, nf_a (d0_n d)) := fd_l 46 f 0 d a1 a2 a3 a4 (by omega) (by omega)
theorem d0_15 (d : Nat → Nat) : d0_n d 15 = 30 := up_s _ _ _
theorem d0_o {d : Nat → Nat} {i : Nat} (h : i < 46) (h2 : i ≠ 15) : d0_n d i = 0 := by
  unfold d0_n
  rw [up_o h2]
  exact if_pos ⟨Nat.zero_le _, h⟩
theorem kd_l {D : Nat → Nat} {dp : Int32} {kp : Nat → Int32} : ∀ (k f j : Nat) (S : Nat → Nat) (pp : Int32), j + k = 46 → k < f → M_X7_keepDraft_2 dp (nf_a D) f pp (nf_a S) kp (nI j) = some (dp, nf_a (fun i => if j ≤ i ∧ i < 46 then D i else S i), upd (upd kp 0 0) 1 0) := by
  intro k
  induction k with
  | zero =>
    intro f j S pp hj hf
    obtain ⟨f, rfl⟩ : ∃ g, f = g + 1 := ⟨f - 1, by omega⟩
    obtain rfl : j = 46 := by omega
    show B_X7_keepDraft_2 _ _ _ _ _ _ _ _ = _
    unfold B_X7_keepDraft_2
    rw [if_pos (by decide)]
    have e : (fun i => if 46 ≤ i ∧ i < 46 then D i else S i) = S := by
      funext i
      rw [if_neg (by omega)]
    rw [e]
    rfl
  | succ k ih =>
    intro f j S pp hj hf
    obtain ⟨f, rfl⟩ : ∃ g, f = g + 1 := ⟨f - 1, by omega⟩
    have st : M_X7_keepDraft_2 dp (nf_a D) (f + 1) pp (nf_a S) kp (nI j) = M_X7_keepDraft_2 dp (nf_a D) f pp (nf_a (up_n S j (D j))) kp (nI (j + 1)) := by
      show B_X7_keepDraft_2 _ _ _ _ _ _ _ _ = _
      unfold B_X7_keepDraft_2
      rw [if_neg (fun q => by have := (nI_leI (a := 46) (b := j) (by omega) (by omega)).mp q; omega), gi_k (by omega) (by omega), nm_s, gi_k (by omega) (by omega), nI_1, nI_clamp (by omega), nf_e, nf_u]
    rw [st, ih f (j + 1) (up_n S j (D j)) pp (by omega) (by omega)]
    have e : (fun i => if j + 1 ≤ i ∧ i < 46 then D i else up_n S j (D j) i) = (fun i => if j ≤ i ∧ i < 46 then D i else S i) := by
      funext i
      by_cases e1 : i = j
      · subst e1
        rw [if_neg (by omega), up_s, if_pos (by omega)]
      · rw [up_o e1]
        by_cases e2 : j + 1 ≤ i ∧ i < 46
        · rw [if_pos e2, if_pos (by omega)]
        · rw [if_neg e2, if_neg (by omega)]
    rw [e]
theorem kd_r {D S : Nat → Nat} {dp pp : Int32} {kp : Nat → Int32} {f : Nat} (hf : 60 < f) : M_X7_keepDraft dp (nf_a D) f pp (nf_a S) kp = some (dp, nf_a (cp_n D S), upd (upd kp 0 0) 1 0) := by
  have e := kd_l (D := D) (dp := dp) (kp := kp) 46 f 0 S pp (by omega) (by omega)
  have e2 : (fun i => if 0 ≤ i ∧ i < 46 then D i else S i) = cp_n D S := by
    funext i
    unfold cp_n
    by_cases c : i < 46
    · rw [if_pos ⟨Nat.zero_le _, c⟩, if_pos c]
    · rw [if_neg (fun z => c z.2), if_neg c]
  rw [e2] at e
  exact e
theorem te_l {pe : Nat} {d : Nat → Nat} {K G B R : Nat → Int32} {Rd : s_R} {t : s_T} {v1 : Int32} (h5 : pe ≤ 5) (h8 : d 17 ≤ 8) (ht : ∀ i, i < d 17 → d (18 + i) < 5) (pt : ∀ i, i < d 17 → R i = nI (d (18 + i))) : ∀ (k f i : Nat), i + k = d 17 → k < f → (∀ j, j < i → d (18 + j) < pe) → ((∀ j, j < d 17 → d (18 + j) < pe) ∧ M_X1_tell_89 f Rd (mk_w pe d 0 0 K G B R) t v1 (nI i) = some (v1, Rd, mk_w pe d 0 0 K G B R, t)) ∨ ((∃ j, j < d 17 ∧ pe ≤ d (18 + j)) ∧ M_X1_tell_89 f Rd (mk_w pe d 0 0 K G B R) t v1 (nI i) = some (-10 - t.1, (Rd.1, Rd.2.1, 6), mk_w pe d 0 0 K G B R, t)) := by
  intro k
  induction k with
  | zero =>
    intro f i hi hf hj
    obtain ⟨f, rfl⟩ : ∃ g, f = g + 1 := ⟨f - 1, by omega⟩
    refine Or.inl ⟨fun j z => hj j (by omega), ?_⟩
    show B_X1_tell_89 _ _ _ _ _ _ _ = _
    unfold B_X1_tell_89
    rw [if_pos (show nI (d 17) ≤ nI i from (nI_leI (by omega) (by omega)).mpr (by omega))]
  | succ k ih =>
    intro f i hi hf hj
    obtain ⟨f, rfl⟩ : ∃ g, f = g + 1 := ⟨f - 1, by omega⟩
    have q5 := ht i (by omega)
    have st : M_X1_tell_89 (f + 1) Rd (mk_w pe d 0 0 K G B R) t v1 (nI i) = if d (18 + i) < pe then M_X1_tell_89 f Rd (mk_w pe d 0 0 K G B R) t v1 (nI (i + 1)) else some (-10 - t.1, (Rd.1, Rd.2.1, 6), mk_w pe d 0 0 K G B R, t) := by
      show B_X1_tell_89 _ _ _ _ _ _ _ = _
      unfold B_X1_tell_89
      rw [if_neg (show ¬ nI (d 17) ≤ nI i from fun q => by have := (nI_leI (a := d 17) (b := i) (by omega) (by omega)).mp q; omega), gi_k (by omega) (by omega), nI_clamp (by omega), nI_1, show (mk_w pe d 0 0 K G B R).2.2.2.2.2.2.2.2.2.2 i = nI (d (18 + i)) from pt i (by omega), cf_has (pe := pe) rfl h5 (by omega)]
      simp only [bn_s]
      by_cases c : d (18 + i) < pe
      · rw [if_pos c, i1_0, if_pos c]
      · rw [if_neg c, i0_0, if_neg c]
    rw [st]
    by_cases c : d (18 + i) < pe
    · rw [if_pos c]
      refine ih f (i + 1) (by omega) (by omega) (fun j z => ?_)
      by_cases e : j = i
      · rw [e]; exact c
      · exact hj j (by omega)
    · rw [if_neg c]
      exact Or.inr ⟨⟨i, by omega, by omega⟩, rfl⟩
