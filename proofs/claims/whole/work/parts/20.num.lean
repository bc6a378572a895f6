/-! numbers: naturals as ints; rows of naturals as rows of ints -/
theorem nl_l (n : Nat) : (OfNat.ofNat n : Int32) = nI n := rfl
theorem gi_k {α : Type} {n N : Nat} {E : Option α} (h : n < N) (hN : N < 2 ^ 31) : gi_n (nI n) N E = E := gi_ok E (vp_in_nI h hN)
theorem gz_k {α : Type} {n : Nat} {E : Option α} (h : n ≠ 0) (hN : n < 2 ^ 31) : gz_i (nI n) E = E := if_neg (nI_ne0 (Nat.pos_of_ne_zero h) hN)
def nf_a (a : Nat → Nat) : Nat → Int32 := fun i => nI (a i)
def up_n (a : Nat → Nat) (k v : Nat) : Nat → Nat := fun i => if i = k then v else a i
theorem nf_u (a : Nat → Nat) (k v : Nat) : upd (nf_a a) k (nI v) = nf_a (up_n a k v) := by
  funext i
  by_cases h : i = k
  · subst h; rw [pk_us]; simp [nf_a, up_n]
  · rw [pk_un h]; simp [nf_a, up_n, h]
theorem nf_e (a : Nat → Nat) (i : Nat) : nf_a a i = nI (a i) := rfl
theorem up_s (a : Nat → Nat) (k v : Nat) : up_n a k v k = v := if_pos rfl
theorem up_o {a : Nat → Nat} {k v i : Nat} (h : i ≠ k) : up_n a k v i = a i := if_neg h
theorem bn_s {α β : Type} (a : α) (f : α → Option β) : (some a).bind f = f a := rfl
theorem nm_s {α β : Type} (x : α) (f : α → Option β) : nm_v x f = f x := rfl
/-- the hand of a kind; what a kind heals of a load -/
def hd_n (k : Nat) : Nat := if k = 1 then 8 else if k = 2 then 2 else if k = 3 then 5 else 4
def hl_n (k lo : Nat) : Nat := if k = 1 then lo / 4 / 2 else if k = 2 then min lo (lo / 4 + 1) else if k = 3 then min lo (2 * (lo / 4 / 2) + 1) else lo / 4
theorem rf_of {a : Nat → Nat} {p k : Nat} (h : 3 * p + k < 46) : M_X7_of (nf_a a) (nI p) (nI k) = some (nI (a (3 * p + k))) := by
  simp (disch := omega) only [M_X7_of, B_X7_of_0, nl_l, pk_mul, nI_add, gi_k, nI_clamp, nf_e]
theorem rf_bo {a : Nat → Nat} {p k v : Nat} (h : 3 * p + k < 46) : M_X7_becomesOf (nf_a a) (nI p) (nI k) (nI v) = some (nf_a (up_n a (3 * p + k) v)) := by
  simp (disch := omega) only [M_X7_becomesOf, B_X7_becomesOf_0, nl_l, pk_mul, nI_add, gi_k, nI_clamp, nf_e, nf_u]
theorem rf_le {x y : Nat} (hx : x < 2 ^ 31) (hy : y < 2 ^ 31) : M_X7_lesser (nI x) (nI y) = some (nI (min x y)) := by
  simp (disch := omega) only [M_X7_lesser, B_X7_lesser_0, nI_leI]
  split
  · rw [show min x y = y by omega]
  · rw [show min x y = x by omega]
theorem rf_hd {k : Nat} (h : k < 2 ^ 31) : M_X7_hand (nI k) = some (nI (hd_n k)) := by
  simp (disch := omega) only [M_X7_hand, B_X7_hand_0, nl_l, nI_eq, hd_n]
  repeat' split
  all_goals rfl
theorem cf_hd {k : Nat} (h : k < 2 ^ 31) : M_X5_hand (nI k) = some (nI (hd_n k)) := rf_hd h
theorem rf_hl {k lo : Nat} (h : k < 2 ^ 31) (hl : lo < 2 ^ 30) : M_X7_heals (nI k) (nI lo) = some (nI (hl_n k lo)) := by
  simp (disch := omega) only [M_X7_heals, B_X7_heals_0, nl_l, nI_eq, hl_n, nm_s, pk_div, rf_le, bn_s, nI_add, pk_mul]
  repeat' split
  all_goals rfl
theorem cf_hl {k lo : Nat} (h : k < 2 ^ 31) (hl : lo < 2 ^ 30) : M_X5_heals (nI k) (nI lo) = some (nI (hl_n k lo)) := by
  simp (disch := omega) only [M_X5_heals, B_X5_heals_0, nl_l, nI_eq, hl_n, nm_s, pk_div, nI_add, pk_mul, nI_ltI]
  repeat' split
  all_goals first | rfl | (congr 2; omega)
