/-! a token -/
section
variable {n : Nat} {b : Nat → Nat} {B T : Nat → Int32}
/-- the class's tape and the reference's, a token read: a fault of letters, or the same token -/
def tk_p (n : Nat) (B : Nat → Int32) (wr0 : Int32) (t : s_T) (q : Int32 × Int32 × Int32 × Int32 × Int32 × Int32) : Prop := ∃ (a p : Nat) (tk nu so va fa wr : Int32), t = (nI n, nI a, tk, nI p, nu, B) ∧ q = (nI a, nI p, so, va, fa, wr) ∧ p ≤ a ∧ a ≤ n ∧ ((tk = 4 ∧ fa = 1 ∧ wr = nI p) ∨ (fa = 0 ∧ wr = wr0 ∧ tk = so ∧ ((so = 0 ∧ p = n) ∨ so = 1 ∨ (so = 2 ∧ ∃ v, v ≤ 99 ∧ nu = nI v ∧ va = nI v) ∨ so = 3)))
theorem rd_8 {wr : Int32} (h : tb_p n b B T) : ∀ (k f e a : Nat) (tk pl nu bg so va : Int32), a + k = n → k + 200 < f → k + 200 < e → ∃ t q, M_X4_advance_0 f (nI n, nI a, tk, pl, nu, B) = some t ∧ M_X7_reads_8 (nI n) T e (nI a) bg so va 0 wr = some q ∧ tk_p n B wr t q := by
  have hn := h.1
  intro k
  induction k with
  | zero =>
    intro f e a tk pl nu bg so va ha hf he
    obtain ⟨f, rfl⟩ : ∃ g, f = g + 1 := ⟨f - 1, by omega⟩
    obtain ⟨e, rfl⟩ : ∃ g, e = g + 1 := ⟨e - 1, by omega⟩
    refine ⟨(nI n, nI a, 0, nI a, nu, B), (nI a, nI a, 0, va, 0, wr), ?_, ?_, a, a, 0, nu, 0, va, 0, wr, rfl, rfl, Nat.le_refl _, by omega, Or.inr ⟨rfl, rfl, rfl, Or.inl ⟨rfl, by omega⟩⟩⟩
    · show B_X4_advance_0 _ _ _ = _
      unfold B_X4_advance_0 B_X4_advance_38
      simp (disch := omega) only [nI_leI, nI_ltI]
      rw [if_pos (by omega), if_neg (by omega)]
    · show B_X7_reads_8 _ _ _ _ _ _ _ _ _ _ = _
      unfold B_X7_reads_8
      rw [ba_n h (by omega), if_neg (by omega)]
      rfl
  | succ k ih =>
    intro f e a tk pl nu bg so va ha hf he
    obtain ⟨f, rfl⟩ : ∃ g, f = g + 1 := ⟨f - 1, by omega⟩
    obtain ⟨e, rfl⟩ : ∃ g, e = g + 1 := ⟨e - 1, by omega⟩
    obtain ⟨h1, h2, h3⟩ := h.2 a (by omega)
    have e1 : M_X4_advance_0 (f + 1) (nI n, nI a, tk, pl, nu, B) = if b a = 32 then M_X4_advance_0 f (nI n, nI (a + 1), tk, pl, nu, B) else if 97 ≤ b a ∧ b a ≤ 122 then M_X4_endName_0 f (nI n, nI (a + 1), tk, nI a, nu, B) else if 48 ≤ b a ∧ b a ≤ 57 then M_X4_endNumber_5 f (nI n, nI (a + 1), tk, nI a, nI (b a) - 48, B) else some (nI n, nI (a + 1), if b a = 59 then 3 else 4, nI a, nu, B) := by
      show B_X4_advance_0 _ _ _ = _
      unfold B_X4_advance_0 B_X4_advance_38 B_X4_advance_102 B_X4_advance_125
      rw [if_neg (fun q => by have := (nI_leI (by omega) (by omega)).mp q; omega)]
      rw [if_pos (show nI a < nI n from (nI_ltI (by omega) (by omega)).mpr (by omega))]
      simp (disch := omega) only [gi_k, nI_clamp, h1, nm_s, nI_1]
      have i32 : (nI (b a) = 32) = (b a = 32) := propext (nI_eq (a := b a) (b := 32) (by omega) (by omega))
      have i59 : (nI (b a) = 59) = (b a = 59) := propext (nI_eq (a := b a) (b := 59) (by omega) (by omega))
      have i97 : (nI (b a) < 97) = (b a < 97) := propext (nI_ltI (a := b a) (b := 97) (by omega) (by omega))
      have i122 : (122 < nI (b a)) = (122 < b a) := propext (nI_ltI (a := 122) (b := b a) (by omega) (by omega))
      have i48 : (nI (b a) < 48) = (b a < 48) := propext (nI_ltI (a := b a) (b := 48) (by omega) (by omega))
      have i57 : (57 < nI (b a)) = (57 < b a) := propext (nI_ltI (a := 57) (b := b a) (by omega) (by omega))
      simp only [i32, i59, i97, i122, i48, i57]
      by_cases c1 : b a = 32
      · rw [if_pos c1, if_pos c1]
      · rw [if_neg c1, if_neg c1]
        by_cases c2 : 97 ≤ b a ∧ b a ≤ 122
        · rw [if_pos c2, if_neg (by omega), if_neg (by omega)]
          cases hx : M_X4_endName f (nI n, nI (a + 1), tk, nI a, nu, B) with
          | none => exact hx.symm
          | some z => exact hx.symm
        · rw [if_neg c2]
          by_cases c3 : 48 ≤ b a ∧ b a ≤ 57
          · rw [if_pos c3, if_pos (by omega), if_neg (by omega), if_neg (by omega)]
            cases hx : M_X4_endNumber f (nI n, nI (a + 1), tk, nI a, nu, B) (nI (b a) - 48) with
            | none => exact hx.symm
            | some z => exact hx.symm
          · rw [if_neg c3]
            by_cases c4 : b a = 59
            · simp only [c4, if_true]
              rfl
            · simp only [c4, if_false]
              by_cases c5 : b a < 48
              · simp only [c5, if_true, ite_self]
                by_cases c6 : b a < 97
                · rw [if_pos c6]
                · rw [if_neg c6, if_pos (by omega)]
              · simp only [c5, show 57 < b a by omega, if_true, if_false, ite_self]
                by_cases c6 : b a < 97
                · rw [if_pos c6]
                · rw [if_neg c6, if_pos (by omega)]
    have e2 : M_X7_reads_8 (nI n) T (e + 1) (nI a) bg so va 0 wr = if b a = 32 then M_X7_reads_8 (nI n) T e (nI (a + 1)) bg so va 0 wr else if 97 ≤ b a ∧ b a ≤ 122 then M_X7_reads_82 (nI n) T e (nI a) (nI a) 1 va 0 wr else if 48 ≤ b a ∧ b a ≤ 57 then M_X7_reads_140 (nI n) T e (nI a) (nI a) 2 0 0 wr else some (nI (a + 1), nI a, 3, va, if b a = 59 then 0 else 1, if b a = 59 then wr else nI a) := by
      show B_X7_reads_8 _ _ _ _ _ _ _ _ _ _ = _
      unfold B_X7_reads_8 B_X7_reads_260
      rw [ba_n h (by omega), if_pos (by omega)]
      simp only [bn_s, nm_s, nI_1]
      rw [if_pos (show (0 : Int32) ≤ nI (b a) from nI_pos' (by omega)), in_k (nI (b a)) (nI 48) (nI 57) 48 57 (by decide) (by decide), in_k (nI (b a)) (nI 97) (nI 122) 97 122 (by decide) (by decide), iw_n h3 (by omega) (by omega), iw_n h3 (by omega) (by omega)]
      have i32 : (nI (b a) = 32) = (b a = 32) := propext (nI_eq (a := b a) (b := 32) (by omega) (by omega))
      have i59 : (nI (b a) = 59) = (b a = 59) := propext (nI_eq (a := b a) (b := 59) (by omega) (by omega))
      simp only [bn_s, i32, i59]
      by_cases c1 : b a = 32
      · rw [if_pos c1, if_pos c1]
      · rw [if_neg c1, if_neg c1]
        by_cases c2 : 97 ≤ b a ∧ b a ≤ 122
        · rw [if_pos c2, if_pos c2, i1_0]
        · rw [if_neg c2, if_neg c2, i0_0]
          by_cases c3 : 48 ≤ b a ∧ b a ≤ 57
          · rw [if_pos c3, if_pos c3, i1_0]
          · rw [if_neg c3, if_neg c3, i0_0]
            by_cases c4 : b a = 59
            · simp only [c4, if_true]; rfl
            · simp only [c4, if_false]; rfl
    rw [e1, e2]
    by_cases c1 : b a = 32
    · rw [if_pos c1, if_pos c1]
      exact ih f e (a + 1) tk pl nu bg so va (by omega) (by omega) (by omega)
    · rw [if_neg c1, if_neg c1]
      by_cases c2 : 97 ≤ b a ∧ b a ≤ 122
      · rw [if_pos c2, if_pos c2]
        obtain ⟨e, rfl⟩ : ∃ g, e = g + 1 := ⟨e - 1, by omega⟩
        obtain ⟨a2, r1, r2, r3, r4⟩ := nm_l (tk := tk) (pl := nI a) (nu := nu) (bg := nI a) (va := va) (fa := 0) (wr := wr) h k f e (a + 1) (by omega) (by omega) (by omega)
        refine ⟨_, _, r3, ?_, a2, a, 1, nu, 1, va, 0, wr, rfl, rfl, by omega, r2, Or.inr ⟨rfl, rfl, rfl, Or.inr (Or.inl rfl)⟩⟩
        rw [← r4]
        show B_X7_reads_82 _ _ _ _ _ _ _ _ _ _ = _
        unfold B_X7_reads_82
        rw [ba_n h (by omega), if_pos (by omega)]
        simp only [bn_s]
        rw [in_k (nI (b a)) (nI 97) (nI 122) 97 122 (by decide) (by decide), iw_n h3 (by omega) (by omega), if_pos c2]
        simp only [bn_s, nm_s, nI_1, i1_0]
      · rw [if_neg c2, if_neg c2]
        by_cases c3 : 48 ≤ b a ∧ b a ≤ 57
        · rw [if_pos c3, if_pos c3]
          obtain ⟨e, rfl⟩ : ∃ g, e = g + 1 := ⟨e - 1, by omega⟩
          have es : M_X7_reads_140 (nI n) T (e + 1) (nI a) (nI a) 2 0 0 wr = M_X7_reads_140 (nI n) T e (nI (a + 1)) (nI a) 2 (nI (b a - 48)) 0 wr := by
            show B_X7_reads_140 _ _ _ _ _ _ _ _ _ _ = _
            unfold B_X7_reads_140 B_X7_reads_201
            rw [ba_n h (by omega), if_pos (by omega)]
            simp only [bn_s]
            rw [in_k (nI (b a)) (nI 48) (nI 57) 48 57 (by decide) (by decide), iw_n h3 (by omega) (by omega), if_pos c3]
            simp only [bn_s, i1_0, nm_s, nI_1]
            rw [pk_sub (Nat.le_refl a), Nat.sub_self, if_neg (by decide), show (10 : Int32) * 0 + nI (b a) - 48 = nI (b a - 48) by rw [show (10 : Int32) * 0 = nI 0 from rfl, nI_add, Nat.zero_add, show (48 : Int32) = nI 48 from rfl, pk_sub (by omega)]]
          rw [es, show nI (b a) - 48 = nI (b a - 48) by rw [show (48 : Int32) = nI 48 from rfl, pk_sub (by omega)]]
          obtain ⟨a2, r1, r2, r3⟩ := du_l (tk := tk) (wr := wr) (p := a) h k f e (a + 1) (nI (b a - 48)) (nI (b a - 48)) (by omega) (by omega) (by omega) (by omega) (fun _ => ⟨b a - 48, by omega, rfl, rfl, fun _ => by omega⟩)
          rcases r3 with ⟨nu2, va2, r4, r5⟩ | ⟨v, v1, r4, r5⟩
          · exact ⟨_, _, r4, r5, a2, a, 4, nu2, 2, va2, 1, nI a, rfl, rfl, by omega, r2, Or.inl ⟨rfl, rfl, rfl⟩⟩
          · exact ⟨_, _, r4, r5, a2, a, 2, nI v, 2, nI v, 0, wr, rfl, rfl, by omega, r2, Or.inr ⟨rfl, rfl, rfl, Or.inr (Or.inr (Or.inl ⟨rfl, v, v1, rfl, rfl⟩))⟩⟩
        · rw [if_neg c3, if_neg c3]
          by_cases c4 : b a = 59
          · rw [if_pos c4, if_pos c4, if_pos c4]
            exact ⟨_, _, rfl, rfl, a + 1, a, 3, nu, 3, va, 0, wr, rfl, rfl, by omega, by omega, Or.inr ⟨rfl, rfl, rfl, Or.inr (Or.inr (Or.inr rfl))⟩⟩
          · rw [if_neg c4, if_neg c4, if_neg c4]
            exact ⟨_, _, rfl, rfl, a + 1, a, 4, nu, 3, va, 1, nI a, rfl, rfl, by omega, by omega, Or.inl ⟨rfl, rfl, rfl⟩⟩
theorem rd_r {f a : Nat} {wr tk pl nu bg so va : Int32} (h : tb_p n b B T) (ha : a ≤ n) (hf : 500 < f) : ∃ t q, M_X4_advance f (nI n, nI a, tk, pl, nu, B) = some t ∧ M_X7_reads (nI n) T f (nI a) bg so va 0 wr = some q ∧ tk_p n B wr t q := by
  have hn := h.1
  exact rd_8 h (n - a) f f a tk pl nu bg so va (by omega) (by omega) (by omega)
end
