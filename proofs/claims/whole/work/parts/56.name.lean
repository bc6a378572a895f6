/-! names: the class's words, the reference's letters -/
def wl_L : List (List Nat) := [[112, 108, 97, 105, 110], [115, 116, 111, 117, 116], [99, 104, 105, 108, 100], [119, 105, 100, 111, 119], [98, 97, 114, 114, 111, 119], [114, 111, 116, 97]]
theorem wl_e : ∀ k, k < 6 → ∀ j, j < sl_L.getD k 0 → (sy_n k j = nI ((wl_L.getD k []).getD j 0) ∧ (wl_L.getD k []).getD j 0 ≤ 127) := by decide +kernel
def sp_p (b : Nat → Nat) (a p k : Nat) : Prop := a - p = sl_L.getD k 0 ∧ ∀ j, j < sl_L.getD k 0 → b (p + j) = (wl_L.getD k []).getD j 0
section
variable {n a p : Nat} {b : Nat → Nat} {B T : Nat → Int32} {tk nu : Int32}
theorem sp_20 {k : Nat} (hk : k < 6) (h : tb_p n b B T) (hp : p ≤ a) (ha : a ≤ n) (hl : a - p = sl_L.getD k 0) : ∀ (d f i : Nat), i + d = sl_L.getD k 0 → d < f → ∃ r, M_X4_spells_20 k (nI n, nI a, tk, nI p, nu, B) f (nI i) = some r ∧ (r = 0 ∨ r = 1) ∧ (r = 1 ↔ ∀ j, i ≤ j → j < sl_L.getD k 0 → b (p + j) = (wl_L.getD k []).getD j 0) := by
  have hn := h.1
  have h6 := (sl_6 k hk).1
  intro d
  induction d with
  | zero =>
    intro f i hi hf
    obtain ⟨f, rfl⟩ : ∃ g, f = g + 1 := ⟨f - 1, by omega⟩
    refine ⟨1, ?_, Or.inr rfl, fun _ j h1 h2 => absurd h1 (by omega), fun _ => rfl⟩
    show B_X4_spells_20 _ _ _ _ _ = _
    unfold B_X4_spells_20
    rw [gs_o _ hk, if_pos ((nI_leI (by omega) (by omega)).mpr (by omega))]
  | succ d ih =>
    intro f i hi hf
    obtain ⟨f, rfl⟩ : ∃ g, f = g + 1 := ⟨f - 1, by omega⟩
    obtain ⟨w1, w2⟩ := wl_e k hk i (by omega)
    obtain ⟨h1, h2, h3⟩ := h.2 (p + i) (by omega)
    obtain ⟨r, e, r01, rr⟩ := ih f (i + 1) (by omega) (by omega)
    have e1 : M_X4_spells_20 k (nI n, nI a, tk, nI p, nu, B) (f + 1) (nI i) = if b (p + i) = (wl_L.getD k []).getD i 0 then M_X4_spells_20 k (nI n, nI a, tk, nI p, nu, B) f (nI (i + 1)) else some 0 := by
      show B_X4_spells_20 _ _ _ _ _ = _
      unfold B_X4_spells_20
      rw [gs_o _ hk, gs_o _ hk]
      simp (disch := omega) only [nI_leI, nI_add, gi_k, nI_clamp, h1, w1, nI_eq, nI_1]
      rw [if_neg (by omega), if_neg (by omega)]
    rw [e1, e]
    by_cases c : b (p + i) = (wl_L.getD k []).getD i 0
    · rw [if_pos c]
      refine ⟨r, rfl, r01, rr.trans ⟨fun q j q1 q2 => ?_, fun q j q1 q2 => q j (by omega) q2⟩⟩
      by_cases ej : j = i
      · rw [ej]; exact c
      · exact q j (by omega) q2
    · rw [if_neg c]
      exact ⟨0, rfl, Or.inl rfl, fun q => absurd q (by decide), fun q => absurd (q i (Nat.le_refl _) (by omega)) c⟩
theorem sp_r {k f : Nat} (hk : k < 6) (h : tb_p n b B T) (hp : p ≤ a) (ha : a ≤ n) (hf : 20 < f) : ∃ r, M_X4_spells k (nI n, nI a, tk, nI p, nu, B) f = some r ∧ (r = 0 ∨ r = 1) ∧ (r = 1 ↔ sp_p b a p k) := by
  have hn := h.1
  have h6 := (sl_6 k hk).1
  unfold M_X4_spells B_X4_spells_0 sp_p
  rw [gs_o _ hk]
  simp only
  rw [pk_sub hp]
  by_cases c : a - p = sl_L.getD k 0
  · obtain ⟨r, e, r01, rr⟩ := sp_20 (tk := tk) (nu := nu) hk h hp ha c (sl_L.getD k 0) f 0 (by omega) (by omega)
    rw [if_pos (by rw [c]), show M_X4_spells_20 k (nI n, nI a, tk, nI p, nu, B) f 0 = _ from e]
    exact ⟨r, rfl, r01, rr.trans ⟨fun q => ⟨c, fun j z => q j (by omega) z⟩, fun q j _ z => q.2 j z⟩⟩
  · rw [if_neg (fun q => c ((nI_eq (by omega) (by omega)).mp q))]
    exact ⟨0, rfl, Or.inl rfl, fun q => absurd q (by decide), fun q => absurd q.1 c⟩
theorem is_r {L c0 c1 c2 c3 : Nat} (h : tb_p n b B T) (hp : p ≤ a) (ha : a ≤ n) (hL : 4 ≤ L) (hL6 : L ≤ 6) (q0 : c0 ≤ 127) (q1 : c1 ≤ 127) (q2 : c2 ≤ 127) (q3 : c3 ≤ 127) : M_X7_is (nI n) (nI a) (nI p) T (nI L) (nI c0) (nI c1) (nI c2) (nI c3) = some (if a - p = L ∧ b p = c0 ∧ b (p + 1) = c1 ∧ b (p + 2) = c2 ∧ b (p + 3) = c3 then 1 else 0) := by
  have hn := h.1
  unfold M_X7_is B_X7_is_0
  rw [pk_sub hp]
  by_cases c : a - p = L
  · have z0 := (h.2 p (by omega)).2.2
    have z1 := (h.2 (p + 1) (by omega)).2.2
    have z2 := (h.2 (p + 2) (by omega)).2.2
    have z3 := (h.2 (p + 3) (by omega)).2.2
    rw [if_pos (by rw [c]), show (1 : Int32) = nI 1 from rfl, show (2 : Int32) = nI 2 from rfl, show (3 : Int32) = nI 3 from rfl, nI_add, nI_add, nI_add, ba_n h (by omega), ba_n h (by omega), ba_n h (by omega), ba_n h (by omega), if_pos (show p < n by omega), if_pos (show p + 1 < n by omega), if_pos (show p + 2 < n by omega), if_pos (show p + 3 < n by omega)]
    simp (disch := omega) only [bn_s, nI_eq]
    by_cases d0 : b p = c0
    · rw [if_pos d0]
      by_cases d1 : b (p + 1) = c1
      · rw [if_pos d1]
        by_cases d2 : b (p + 2) = c2
        · rw [if_pos d2]
          by_cases d3 : b (p + 3) = c3
          · rw [if_pos d3, if_pos ⟨c, d0, d1, d2, d3⟩]
          · rw [if_neg d3, if_neg (fun q => d3 q.2.2.2.2)]
        · rw [if_neg d2, if_neg (fun q => d2 q.2.2.2.1)]
      · rw [if_neg d1, if_neg (fun q => d1 q.2.2.1)]
    · rw [if_neg d0, if_neg (fun q => d0 q.2.1)]
  · rw [if_neg (fun q => c ((nI_eq (by omega) (by omega)).mp q)), if_neg (fun q => c q.1)]
end
