/-! rows of turns, by their numbers: the next one, the first one -/
def ex_n (r : Nat → Nat) (i j : Nat) : Nat → Nat := up_n (up_n r i (r j)) j (r i)
def la_n (r : Nat → Nat) : Nat → Option Nat
  | 0 => none
  | k + 1 => if r k < r (k + 1) then some k else la_n r k
def jd_n (r : Nat → Nat) (i : Nat) : Nat → Nat
  | 0 => i
  | d + 1 => if r i < r (i + (d + 1)) then i + (d + 1) else jd_n r i d
def rw_v : Nat → (Nat → Nat) → Nat → Nat → (Nat → Nat)
  | 0, r, _, _ => r
  | k + 1, r, lo, hi => if hi ≤ lo then r else rw_v k (ex_n r lo hi) (lo + 1) (hi - 1)
def nx_n (n : Nat) (r : Nat → Nat) : Option (Nat → Nat) := (la_n r (n - 1)).map (fun i => rw_v 5 (ex_n r i (jd_n r i (n - 1 - i))) (i + 1) (n - 1))
def sj_n : Nat → (Nat → Nat) → Nat → Nat → (Nat → Nat)
  | 0, r, _, _ => r
  | k + 1, r, i, j => sj_n k (if r j < r i then ex_n r i j else r) i (j + 1)
def sn_n (n : Nat) : Nat → (Nat → Nat) → Nat → (Nat → Nat)
  | 0, r, _ => r
  | k + 1, r, i => sn_n n k (sj_n (n - (i + 1)) r i (i + 1)) (i + 1)
def cd_n (r : Nat → Nat) : Nat → Nat
  | 0 => 0
  | n + 1 => 5 * cd_n r n + r n
def dg_n (n c : Nat) : Nat → Nat := fun i => c / 5 ^ (n - 1 - i) % 5
def cw_n (r : Nat → Nat) (w : Nat) : Nat → Nat
  | 0 => 0
  | n + 1 => cw_n r w n + (if r n = w then 1 else 0)
def ke_n (n : Nat) (r : Nat → Nat) : Nat := cw_n r 0 n + 6 * cw_n r 1 n + 36 * cw_n r 2 n + 216 * cw_n r 3 n + 1296 * cw_n r 4 n
/-- the first row of a key -/
def rp_m (d : Nat) : Nat → Nat → Nat
  | 0, c => c
  | k + 1, c => rp_m d k (5 * c + d)
def fk_n (k : Nat) : Nat := rp_m 4 (k / 1296 % 6) (rp_m 3 (k / 216 % 6) (rp_m 2 (k / 36 % 6) (rp_m 1 (k / 6 % 6) (rp_m 0 (k % 6) 0))))
/-- the number of the next row -/
def nc_n (n c : Nat) : Option Nat := (nx_n n (dg_n n c)).map (fun r => cd_n r n)
/-- the rows that are reached from a row -/
def ic_n (n s : Nat) : Nat → Option Nat
  | 0 => some s
  | k + 1 => (ic_n n s k).bind (nc_n n)
def rx_p (n s c : Nat) : Prop := ∃ k, ic_n n s k = some c
def fo_n {α : Type} (x : Nat) (k : Nat → α) : α := match x with
  | 0 => k 0
  | n + 1 => k (n + 1)
theorem fo_e {α : Type} (x : Nat) (k : Nat → α) : fo_n x k = k x := by cases x <;> rfl
/-- from here on less than so many steps -/
def ed_n (n : Nat) : Nat → Nat → Bool
  | 0, _ => false
  | k + 1, c => match nc_n n c with
    | none => true
    | some d => fo_n d (ed_n n k)
def al_t : Nat → (Nat → Bool) → Bool
  | 0, _ => true
  | k + 1, p => (p k) && (al_t k p)
theorem al_e {p : Nat → Bool} : ∀ {n : Nat}, al_t n p = true → ∀ c, c < n → p c = true := by
  intro n
  induction n with
  | zero => intro _ c hc; exact absurd hc (by omega)
  | succ n ih =>
    intro h c hc
    rw [al_t, Bool.and_eq_true] at h
    by_cases e : c = n
    · rw [e]; exact h.1
    · exact ih h.2 c (by omega)
/-- what is checked of a row: its sorted one, the next one, the one before -/
def c1_b (n c : Nat) : Bool := cd_n (sn_n n n (dg_n n c) 0) n == fk_n (ke_n n (dg_n n c)) && al_t n (fun i => dg_n n (cd_n (sn_n n n (dg_n n c) 0) n) i == sn_n n n (dg_n n c) 0 i)
def c3_b (n c : Nat) : Bool := match nx_n n (dg_n n c) with
  | none => true
  | some r => Nat.blt c (cd_n r n) && Nat.blt (cd_n r n) (5 ^ n) && ke_n n (dg_n n (cd_n r n)) == ke_n n (dg_n n c) && al_t n (fun i => dg_n n (cd_n r n) i == r i)
def c2_b (n c : Nat) : Bool := c == fk_n (ke_n n (dg_n n c)) || (match nc_n n (5 ^ n - 1 - c) with
  | none => false
  | some d => Nat.blt (5 ^ n - 1 - d) c && nc_n n (5 ^ n - 1 - d) == some c && ke_n n (dg_n n (5 ^ n - 1 - d)) == ke_n n (dg_n n c))
def c4_b (n c : Nat) : Bool := !(c == fk_n (ke_n n (dg_n n c))) || ed_n n 120 c
theorem k1_0 : al_t 1 (c1_b 0) = true := by decide +kernel
theorem k2_0 : al_t 1 (c2_b 0) = true := by decide +kernel
theorem k3_0 : al_t 1 (c3_b 0) = true := by decide +kernel
theorem k4_0 : al_t 1 (c4_b 0) = true := by decide +kernel
theorem k1_1 : al_t 5 (c1_b 1) = true := by decide +kernel
theorem k2_1 : al_t 5 (c2_b 1) = true := by decide +kernel
theorem k3_1 : al_t 5 (c3_b 1) = true := by decide +kernel
theorem k4_1 : al_t 5 (c4_b 1) = true := by decide +kernel
theorem k1_2 : al_t 25 (c1_b 2) = true := by decide +kernel
theorem k2_2 : al_t 25 (c2_b 2) = true := by decide +kernel
theorem k3_2 : al_t 25 (c3_b 2) = true := by decide +kernel
theorem k4_2 : al_t 25 (c4_b 2) = true := by decide +kernel
theorem k1_3 : al_t 125 (c1_b 3) = true := by decide +kernel
theorem k2_3 : al_t 125 (c2_b 3) = true := by decide +kernel
theorem k3_3 : al_t 125 (c3_b 3) = true := by decide +kernel
theorem k4_3 : al_t 125 (c4_b 3) = true := by decide +kernel
theorem k1_4 : al_t 625 (c1_b 4) = true := by decide +kernel
theorem k2_4 : al_t 625 (c2_b 4) = true := by decide +kernel
theorem k3_4 : al_t 625 (c3_b 4) = true := by decide +kernel
theorem k4_4 : al_t 625 (c4_b 4) = true := by decide +kernel
theorem k1_5 : al_t 3125 (c1_b 5) = true := by decide +kernel
theorem k2_5 : al_t 3125 (c2_b 5) = true := by decide +kernel
theorem k3_5 : al_t 3125 (c3_b 5) = true := by decide +kernel
theorem k4_5 : al_t 3125 (c4_b 5) = true := by decide +kernel
