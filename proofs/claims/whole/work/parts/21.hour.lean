/-! an hour: in naturals, in the reference, in the class -/
/-- n units go round from behind nx on -/
def sl_n (pe : Nat) : Nat → Nat → (Nat → Nat) → (Nat → Nat)
  | 0, _, a => a
  | n + 1, nx, a => sl_n pe n ((nx + 1) % pe) (up_n (up_n a (3 * ((nx + 1) % pe) + 1) (min 99 (a (3 * ((nx + 1) % pe) + 1) + 1))) 16 (a 16 - 1))
theorem sl_16 (pe : Nat) (h5 : pe ≤ 5) (h0 : 0 < pe) : ∀ (n nx : Nat) (a : Nat → Nat), sl_n pe n nx a 16 = a 16 - n := by
  intro n
  induction n with
  | zero => intro nx a; rfl
  | succ n ih =>
    intro nx a
    rw [sl_n, ih, up_s]
    omega
theorem sl_o (pe : Nat) (h0 : 0 < pe) : ∀ (n nx i : Nat) (a : Nat → Nat), i ≠ 16 → (∀ q, q < pe → i ≠ 3 * q + 1) → sl_n pe n nx a i = a i := by
  intro n
  induction n with
  | zero => intro nx i a _ _; rfl
  | succ n ih =>
    intro nx i a h1 h2
    have hm : (nx + 1) % pe < pe := Nat.mod_lt _ h0
    rw [sl_n, ih _ _ _ h1 h2, up_o h1, up_o (h2 _ hm)]
theorem sl_99 (pe : Nat) (h5 : pe ≤ 5) (h0 : 0 < pe) : ∀ (n nx : Nat) (a : Nat → Nat), (∀ q, q < pe → a (3 * q + 1) ≤ 99) → ∀ q, q < pe → sl_n pe n nx a (3 * q + 1) ≤ 99 := by
  intro n
  induction n with
  | zero => intro nx a h; exact h
  | succ n ih =>
    intro nx a h
    have hm : (nx + 1) % pe < pe := Nat.mod_lt _ h0
    rw [sl_n]
    refine ih _ _ (fun q hq => ?_)
    rw [up_o (by omega)]
    by_cases e : q = (nx + 1) % pe
    · rw [e, up_s]; omega
    · rw [up_o (by omega)]; exact h q hq
theorem rf_sp (pe p : Nat) (hp : p < pe) (h5 : pe ≤ 5) : ∀ (n f sp nx : Nat) (a : Nat → Nat), n < f → n = a 16 - a (3 * p + 2) → a 16 < 2 ^ 30 → a (3 * p + 2) < 2 ^ 30 → nx < pe → (∀ q, q < pe → a (3 * q + 1) ≤ 99) → M_X7_spills_2 (nI pe) f (nI sp) (nf_a a) (nI p) (nI nx) = some (nI (sp + n), nf_a (sl_n pe n nx a)) := by
  intro n
  induction n with
  | zero =>
    intro f sp nx a hf h16 hb hb2 hn hg
    obtain ⟨f, rfl⟩ : ∃ g, f = g + 1 := ⟨f - 1, by omega⟩
    show B_X7_spills_2 _ _ _ _ _ _ _ = _
    simp (disch := omega) only [B_X7_spills_2, nl_l, gi_k, rf_of, bn_s, nf_e, nI_clamp, nI_leI]
    rw [if_pos (by omega)]
    rfl
  | succ n ih =>
    intro f sp nx a hf h16 hb hb2 hn hg
    obtain ⟨f, rfl⟩ : ∃ g, f = g + 1 := ⟨f - 1, by omega⟩
    have hm : (nx + 1) % pe < pe := Nat.mod_lt _ (by omega)
    have hq := hg _ hm
    show B_X7_spills_2 _ _ _ _ _ _ _ = _
    simp (disch := omega) only [B_X7_spills_2, nl_l, gi_k, gz_k, rf_of, bn_s, nm_s, nf_e, nI_clamp, nI_leI, nI_add, pk_rem, rf_le, rf_bo, nf_u, up_o, pk_sub]
    rw [if_neg (by omega)]
    rw [ih f (sp + 1) _ _ (by omega) (by rw [up_s, up_o (by omega), up_o (by omega)]; omega) (by rw [up_s]; omega) (by rw [up_o (by omega), up_o (by omega)]; omega) hm (fun q hq => by
      rw [up_o (by omega)]
      by_cases e : q = (nx + 1) % pe
      · rw [e, up_s]; omega
      · rw [up_o (by omega)]; exact hg q hq)]
    rw [show sp + 1 + n = sp + (n + 1) by omega]
    rfl
theorem uu_n (a : Nat → Nat) (k v w : Nat) : up_n (up_n a k v) k w = up_n a k w := by
  funext i
  by_cases h : i = k <;> simp [up_n, h]
/-- a one's hour -/
def wh_n (pe p : Nat) (x : Nat × Nat × (Nat → Nat)) : Nat × Nat × (Nat → Nat) :=
  let a := x.2.2
  let put := min (min (hd_n (a (3 * p))) (a (3 * p + 1))) (a 15 - a 16)
  let much := hl_n (a (3 * p)) (a 16 + put)
  let n := a 16 + put - much - a (3 * p + 2)
  (x.1 + much, x.2.1 + n, sl_n pe n p (up_n (up_n a (3 * p + 1) (a (3 * p + 1) - put)) 16 (a 16 + put - much)))
theorem hl_le (k lo : Nat) : hl_n k lo ≤ lo := by
  unfold hl_n
  repeat' split
  all_goals omega
theorem hd_8 (k : Nat) : hd_n k ≤ 8 := by
  unfold hd_n
  repeat' split
  all_goals omega
/-- the bounds of a state -/
def gd_s (pe : Nat) (a : Nat → Nat) : Prop := pe ≤ 5 ∧ (1 ≤ a 15 ∧ a 15 ≤ 99) ∧ a 16 ≤ 99 ∧ a 17 ≤ 8 ∧ a 26 ≤ 2000 ∧ (∀ p, p < pe → a (3 * p) ≤ 3 ∧ a (3 * p + 1) ≤ 99 ∧ 1 ≤ a (3 * p + 2) ∧ a (3 * p + 2) ≤ 99) ∧ ∀ i, i < a 17 → a (18 + i) < pe
theorem rf_wh {pe p f he sp : Nat} {a : Nat → Nat} (g : gd_s pe a) (hp : p < pe) (hf : 200 < f) : M_X7_wheels (nI pe) f (nI he) (nI sp) (nf_a a) (nI p) = some (nI (wh_n pe p (he, sp, a)).1, nI (wh_n pe p (he, sp, a)).2.1, nf_a (wh_n pe p (he, sp, a)).2.2) := by
  obtain ⟨h5, ⟨h15, h15'⟩, h16, h17, h26, hq, hr⟩ := g
  obtain ⟨q0, q1, q2, q3⟩ := hq p hp
  have e8 := hd_8 (a (3 * p))
  have key : ∀ room : Nat, room < 2 ^ 30 → room = a 15 - a 16 → B_X7_wheels_36 (nI pe) f (nI he) (nI sp) (nf_a a) (nI p) (nI room) = some (nI (wh_n pe p (he, sp, a)).1, nI (wh_n pe p (he, sp, a)).2.1, nf_a (wh_n pe p (he, sp, a)).2.2) := by
    intro room hroom hroom2
    subst hroom2
    have el := hl_le (a (3 * p)) (a 16 + min (min (hd_n (a (3 * p))) (a (3 * p + 1))) (a 15 - a 16))
    simp (disch := omega) only [B_X7_wheels_36, nl_l, Nat.add_zero, gi_k, rf_of, rf_hd, rf_le, bn_s, nm_s, nf_e, nI_clamp, nI_add, rf_bo, nf_u, up_o, up_s, pk_sub, rf_hl, uu_n, wh_n]
    have ep : min (min (hd_n (a (3 * p))) (a (3 * p + 1))) (a 15 - a 16) ≤ a 15 - a 16 := by omega
    generalize min (min (hd_n (a (3 * p))) (a (3 * p + 1))) (a 15 - a 16) = put at *
    generalize hl_n (a (3 * p)) (a 16 + put) = much at *
    rw [M_X7_spills, B_X7_spills_0, rf_sp pe p hp h5 (a 16 + put - much - a (3 * p + 2)) f sp p _ (by omega) (by rw [up_s, up_o (by omega), up_o (by omega)]) (by rw [up_s]; omega) (by rw [up_o (by omega), up_o (by omega)]; omega) hp (fun q hq2 => by
      rw [up_o (by omega)]
      by_cases e : q = p
      · rw [e, up_s]; omega
      · rw [up_o (by omega)]; exact (hq q hq2).2.1)]
    rfl
  simp (disch := omega) only [M_X7_wheels, B_X7_wheels_0, nl_l, gi_k, nf_e, nI_clamp, nI_leI]
  split
  · exact key 0 (by omega) (by omega)
  · rw [pk_sub (by omega)]
    exact key _ (by omega) rfl
/-- the class's world, by a state of naturals -/
abbrev mk_w (pe : Nat) (a : Nat → Nat) (he sp : Nat) (K G B R : Nat → Int32) : s_W := (nI pe, nI (a 17), nI (a 15), nI (a 16), nI (a 26), nI he, nI sp, K, G, B, R)
def pt_w (pe : Nat) (a : Nat → Nat) (K G B R : Nat → Int32) : Prop := (∀ p, p < pe → K p = nI (a (3 * p)) ∧ G p = nI (a (3 * p + 1)) ∧ B p = nI (a (3 * p + 2))) ∧ ∀ i, i < a 17 → R i = nI (a (18 + i))
theorem cf_has {w : s_W} {pe p : Nat} (hw : w.1 = nI pe) (h5 : pe ≤ 5) (hp : p < 2 ^ 31) : M_X5_has w (nI p) = some (if p < pe then 1 else 0) := by
  simp (disch := omega) only [M_X5_has, B_X5_has_0, hw, nl_l, nI_ltI, nI_leI, Nat.not_lt_zero, if_false]
  by_cases h : p < pe
  · rw [if_neg (by omega), if_pos h]
  · rw [if_pos (by omega), if_neg h]
theorem md_s {nx pe : Nat} (h : nx < pe) : (nx + 1) % pe = if nx + 1 < pe then nx + 1 else 0 := by
  by_cases e : nx + 1 < pe
  · rw [if_pos e, Nat.mod_eq_of_lt e]
  · rw [if_neg e, show nx + 1 = pe by omega, Nat.mod_self]
theorem cf_gr {x1 x2 x3 x4 x5 x6 x7 : Int32} {pe p v g : Nat} {K G B R : Nat → Int32} (h1 : x1 = nI pe) (h5 : pe ≤ 5) (hp : p < pe) (hg : G p = nI g) (h9 : g ≤ 99) (hv : v ≤ 99) : M_X5_grieve (x1, x2, x3, x4, x5, x6, x7, K, G, B, R) (nI p) (nI v) = some (x1, x2, x3, x4, x5, x6, x7, K, upd G p (nI (min 99 (g + v))), B, R) := by
  rw [M_X5_grieve, B_X5_grieve_0, cf_has (pe := pe) h1 h5 (by omega), bn_s, if_pos hp, if_neg (by decide)]
  simp (disch := omega) only [gi_k, nI_clamp, hg, nm_s, nI_add, nl_l, nI_ltI]
  congr 9
  split
  · rw [show min 99 (g + v) = 99 by omega]
  · rw [show min 99 (g + v) = g + v by omega]
/-- one spilt: at c10e3dd the class writes it into the row itself -/
theorem cf_38 {x2 x3 x4 x5 x6 x7 y : Int32} {f pe p i g : Nat} {K G B R : Nat → Int32} {k : s_W → Int32 → Int32 → Int32 → Option s_W} (h5 : pe ≤ 5) (hp : p < pe) (hg : G p = nI g) (h9 : g ≤ 99) : B_X5_spill_38 k f (nI pe, x2, x3, x4, x5, x6, x7, K, G, B, R) y (nI i) (nI p) = k (nI pe, x2, x3, x4, x5, x6, x7, K, upd G p (nI (min 99 (g + 1))), B, R) y (nI p) (nI (i + 1)) := by
  rw [B_X5_spill_38]
  simp (disch := omega) only [gi_k, nI_clamp, hg, nm_s, nI_add, nl_l, nI_ltI]
  split
  · rw [show min 99 (g + 1) = 99 by omega]
  · rw [show min 99 (g + 1) = g + 1 by omega]
theorem cf_sp {x2 x3 x4 x5 x6 x7 : Int32} {pe much : Nat} {K B R : Nat → Int32} (h5 : pe ≤ 5) (hm : much < 2 ^ 30) : ∀ (n f nx i : Nat) (G : Nat → Int32) (a : Nat → Nat), n < f → i + n = much → nx < pe → (∀ q, q < pe → a (3 * q + 1) ≤ 99) → (∀ q, q < pe → G q = nI (a (3 * q + 1))) →
    ∃ G2 : Nat → Int32, M_X5_spill_15 f (nI pe, x2, x3, x4, x5, x6, x7, K, G, B, R) (nI much) (nI nx) (nI i) = some (nI pe, x2, x3, x4, x5, x6, x7, K, G2, B, R) ∧ ∀ q, q < pe → G2 q = nI (sl_n pe n nx a (3 * q + 1)) := by
  intro n
  induction n with
  | zero =>
    intro f nx i G a hf hi hn h9 hG
    obtain ⟨f, rfl⟩ : ∃ g, f = g + 1 := ⟨f - 1, by omega⟩
    refine ⟨G, ?_, hG⟩
    show B_X5_spill_15 _ _ _ _ _ _ = _
    simp (disch := omega) only [B_X5_spill_15, nI_leI]
    rw [if_pos (by omega)]
  | succ n ih =>
    intro f nx i G a hf hi hn h9 hG
    obtain ⟨f, rfl⟩ : ∃ g, f = g + 1 := ⟨f - 1, by omega⟩
    have hmd : (nx + 1) % pe < pe := Nat.mod_lt _ (by omega)
    have step : M_X5_spill_15 (f + 1) (nI pe, x2, x3, x4, x5, x6, x7, K, G, B, R) (nI much) (nI nx) (nI i) = M_X5_spill_15 f (nI pe, x2, x3, x4, x5, x6, x7, K, upd G ((nx + 1) % pe) (nI (min 99 (a (3 * ((nx + 1) % pe) + 1) + 1))), B, R) (nI much) (nI ((nx + 1) % pe)) (nI (i + 1)) := by
      show B_X5_spill_15 _ _ _ _ _ _ = _
      simp (disch := omega) only [B_X5_spill_15, nl_l, nI_leI, nI_add]
      rw [if_neg (by omega)]
      have e := md_s hn
      by_cases hc : nx + 1 < pe
      · rw [if_pos hc] at e
        rw [if_neg (by omega), cf_38 h5 hc (hG _ hc) (h9 _ hc), e]
      · rw [if_neg hc] at e
        have h0 : 0 < pe := by omega
        rw [if_pos (by omega), cf_38 h5 h0 (hG _ h0) (h9 _ h0), e]
    obtain ⟨G2, e2, p2⟩ := ih f ((nx + 1) % pe) (i + 1) (upd G ((nx + 1) % pe) (nI (min 99 (a (3 * ((nx + 1) % pe) + 1) + 1)))) (up_n (up_n a (3 * ((nx + 1) % pe) + 1) (min 99 (a (3 * ((nx + 1) % pe) + 1) + 1))) 16 (a 16 - 1)) (by omega) (by omega) hmd (fun q hq => by
      rw [up_o (by omega)]
      by_cases e : q = (nx + 1) % pe
      · rw [e, up_s]; omega
      · rw [up_o (by omega)]; exact h9 q hq) (fun q hq => by
      rw [up_o (by omega)]
      by_cases e : q = (nx + 1) % pe
      · rw [e, up_s, pk_us]
      · rw [up_o (by omega), pk_un e]; exact hG q hq)
    exact ⟨G2, step.trans e2, p2⟩
