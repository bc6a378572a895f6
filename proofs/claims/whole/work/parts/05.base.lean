/-! words of this claim's own: guards and names of the pictures, the context that every contract carries, calls in one row -/
def gi_n {α : Type} (i : Int32) (n : Nat) (E : Option α) : Option α := if i < 0 ∨ n ≤ i.toNatClampNeg then none else E
def gz_i {α : Type} (d : Int32) (E : Option α) : Option α := if d = 0 then none else E
def gz_l {α : Type} (d : Int64) (E : Option α) : Option α := if d = 0 then none else E
def gb_c {α : Type} (b : Bool) (E : Option α) : Option α := if b = true then E else none
def nm_v {α β : Type} (x : α) (f : α → Option β) : Option β := f x
theorem gi_d {α : Type} {i : Int32} {n : Nat} {E : Option α} {r : α} (h : gi_n i n E = some r) : vp_in i n ∧ E = some r := by
  unfold gi_n at h
  by_cases c : i < 0 ∨ n ≤ i.toNatClampNeg
  · rw [if_pos c] at h; cases h
  · rw [if_neg c] at h; exact ⟨c, h⟩
theorem gi_ok {α : Type} {i : Int32} {n : Nat} (E : Option α) (h : vp_in i n) : gi_n i n E = E := if_neg h
theorem gz_d {α : Type} {d : Int32} {E : Option α} {r : α} (h : gz_i d E = some r) : ¬ d = 0 ∧ E = some r := by
  unfold gz_i at h
  by_cases c : d = 0
  · rw [if_pos c] at h; cases h
  · rw [if_neg c] at h; exact ⟨c, h⟩
theorem gl_d {α : Type} {d : Int64} {E : Option α} {r : α} (h : gz_l d E = some r) : ¬ d = 0 ∧ E = some r := by
  unfold gz_l at h
  by_cases c : d = 0
  · rw [if_pos c] at h; cases h
  · rw [if_neg c] at h; exact ⟨c, h⟩
theorem gb_d {α : Type} {b : Bool} {E : Option α} {r : α} (h : gb_c b E = some r) : b = true ∧ E = some r := by
  unfold gb_c at h
  by_cases c : b = true
  · rw [if_pos c] at h; exact ⟨c, h⟩
  · rw [if_neg c] at h; cases h
theorem nm_d {α β : Type} {x a : α} {f : α → Option β} {r : β} (e : a = x) (h : nm_v x f = some r) : f a = some r := by subst e; exact h
theorem bd_d {α β : Type} {x : Option α} {f : α → Option β} {r : β} (h : x.bind f = some r) : ∃ a, x = some a ∧ f a = some r := by
  cases x with
  | none => cases h
  | some a => exact ⟨a, rfl, h⟩
theorem it_p {α : Type} {c : Prop} {dc : Decidable c} {E F : Option α} {r : α} (hc : c) (h : @ite (Option α) c dc E F = some r) : E = some r := by rw [if_pos hc] at h; exact h
theorem it_n {α : Type} {c : Prop} {dc : Decidable c} {E F : Option α} {r : α} (hc : ¬ c) (h : @ite (Option α) c dc E F = some r) : F = some r := by rw [if_neg hc] at h; exact h
/-- the array classes: 0 byte, 1 int, 2 boolean, 3 Image, 4 Sheet, 5 World -/
abbrev ty_L (cy : Nat → ClassId) : List (ClassId × FieldType) := [(cy 0, .byte), (cy 1, .int), (cy 2, .boolean), (cy 3, .object "BarrowGrief$Image"), (cy 4, .object "BarrowGrief$Sheet"), (cy 5, .object "BarrowGrief$World")]
/-- the links of nest mates -/
def nw_L : List Cond := [.methodLinkNest RX2 28 yX6_within RX6, .methodLinkNest RX5 56 yX6_within RX6]
def nw_A (U : State) : Prop := va_Nw (.methodLinkNest RX2 28 yX6_within RX6) U ∧ va_Nw (.methodLinkNest RX5 56 yX6_within RX6) U
def kk_K (D : va_G) (cy : Nat → ClassId) (U : State) : Prop := va_K D vwCl (ty_L cy) U ∧ nw_A U
theorem kk_warm {D : va_G} {cy : Nat → ClassId} {s U : State} (hW : s.WarmedH U.vm) (h : kk_K D cy s) : kk_K D cy U := ⟨va_K.moved hW.alike h.1, h.2.1.warmM hW, h.2.2.warmM hW⟩
theorem kk_call {D : va_G} {cy : Nat → ClassId} {U : State} {g : JFrame} {mk : MethodId} {a : Array Value} (h : kk_K D cy U) : kk_K D cy (U.calling g mk a) := ⟨va_K.moved (u := U) (U := U.calling g mk a) (Vm.Alike.refl U.vm) h.1, h.2.1.same rfl rfl, h.2.2.same rfl rfl⟩
/-- a contract's start: the cells ws, at the values vals -/
def st_P (D : va_G) (cy : Nat → ClassId) (sz : Nat) (ws : va_W) (vals : List Value) : Array Value → State → Prop := va_Pc vals (fun U => U.heap.size = sz ∧ va_P D vwCl ws U.heap ∧ kk_K D cy U ∧ va_D (fun _ => True) ws)
/-- a contract's end: the cells ws -/
def st_B (D : va_G) (cy : Nat → ClassId) (A : Nat → Prop) (ws : va_W) (t : State) : Prop := va_P D vwCl ws t.heap ∧ kk_K D cy t ∧ va_D A ws
theorem st_blind {D : va_G} {cy : Nat → ClassId} {sz : Nat} {ws : va_W} {vals : List Value} : FrameBlind (st_P D cy sz ws vals) := by
  intro a U g mk q
  obtain ⟨q0, q1, qP, qK, qD⟩ := q
  exact ⟨q0, q1, qP, kk_call qK, qD⟩
theorem st_pre {D : va_G} {cy : Nat → ClassId} {A : Nat → Prop} {ws : va_W} {vals : List Value} {s U : State} {H : Heap} (hK : kk_K D cy s) (hP : va_P D vwCl ws H) (hD : va_D A ws) (hU : U.heap = H) (hW : s.WarmedH U.vm) : st_P D cy H.size ws vals vals.toArray U := by
  subst hU
  exact ⟨rfl, rfl, hP, kk_warm hW hK, hD.weaken (fun _ _ _ _ => trivial)⟩
def ct_i (l : Launch) (y : MethodName) (wy : List Cond) (rm : Room) (D : va_G) (cy : Nat → ClassId) (sz : Nat) (wc : va_W) (vals : List Value) {S : Type} (post : Int32 → S → Prop) (w1 : S → va_W) : Prop :=
  Met l y wy rm (st_P D cy sz wc vals) (va_Qi post (fun u t => st_B D cy (va_A wc sz) (w1 u) t) (va_A wc sz)) 0 0 (va_A wc sz)
def ct_l (l : Launch) (y : MethodName) (wy : List Cond) (rm : Room) (D : va_G) (cy : Nat → ClassId) (sz : Nat) (wc : va_W) (vals : List Value) {S : Type} (post : Int64 → S → Prop) (w1 : S → va_W) : Prop :=
  Met l y wy rm (st_P D cy sz wc vals) (va_Ql post (fun u t => st_B D cy (va_A wc sz) (w1 u) t) (va_A wc sz)) 0 0 (va_A wc sz)
def ct_v (l : Launch) (y : MethodName) (wy : List Cond) (rm : Room) (D : va_G) (cy : Nat → ClassId) (sz : Nat) (wc : va_W) (vals : List Value) {S : Type} (post : S → Prop) (w1 : S → va_W) : Prop :=
  Met l y wy rm (st_P D cy sz wc vals) (va_Qv post (fun u t => st_B D cy (va_A wc sz) (w1 u) t) (va_A wc sz)) 0 0 (va_A wc sz)
section
variable {p : Program} {l : Launch} {e : Env} {R : Room} {s : State} {m : MethodId} {args a : Array Value} {below : List Frame} {meth : Method} {c : Code} {H : Heap} {locs : List Loc} {cells slots : Nat} {Q : State → Prop} {D : va_G} {cy : Nat → ClassId} {A : Nat → Prop} {ws wc : va_W} {rest st : List Value} {pc : Nat} {ls : Array Slot}
/-- behind a call: the callee's cells as it left them, the others as they were, in the caller's order -/
theorem jn_r {w1 w2 : va_W} {H1 : Heap} (hP : va_P D vwCl ws H) (hD : va_D A ws) (hS : va_S A s.heap H locs) (hA : ∀ q, s.heap.size ≤ q → A q) (isC isR is2 : List Nat) (hC : isC.map (fun i => ws[i]?) = wc.map some) (hR : isR.map (fun i => ws[i]?) = (isR.filterMap (fun i => ws[i]?)).map some) (hn : va_nd isR = true) (hdis : ∀ i ∈ isR, i ∉ isC) (hn2 : va_nd is2 = true) (h2 : is2.map (fun i => (isR.filterMap (fun i => ws[i]?) ++ w1)[i]?) = w2.map some)
    (hk : ∀ q : Nat, q < H.size → ¬ va_A wc H.size q → H1[q]? = H[q]?) (hP1 : va_P D vwCl w1 H1) (hD1 : va_D (va_A wc H.size) w1) : va_P D vwCl w2 H1 ∧ va_D A w2 := by
  have hF := va_free (wc := wc) hD hS hA isC hC
  obtain ⟨a, b⟩ := va_join hP hD isC isR hC hR hn hdis hk hF hP1 hD1
  refine ⟨?_, b.sub is2 hn2 h2⟩
  refine a.sub is2 ?_
  have h3 := congrArg (fun l => l.filterMap id) h2
  simpa [List.filterMap_map] using h3
theorem cl_i {S : Type} {post : Int32 → S → Prop} {w1 : S → va_W} (w2 : S → va_W) (hr : va_Run p l e R s m args below meth c H locs cells slots 0 0 (F0 m pc ls st) rest (va_Qi post (fun u t => st_B D cy (va_A wc H.size) (w1 u) t) (va_A wc H.size) a) (va_A wc H.size)) (hP : va_P D vwCl ws H) (hD : va_D A ws) (hS : va_S A s.heap H locs) (hA : ∀ q, s.heap.size ≤ q → A q) (isC isR is2 : List Nat) (hC : isC.map (fun i => ws[i]?) = wc.map some) (hR : isR.map (fun i => ws[i]?) = (isR.filterMap (fun i => ws[i]?)).map some) (hn : va_nd isR = true) (hdis : ∀ i ∈ isR, i ∉ isC) (hn2 : va_nd is2 = true) (h2 : ∀ u, is2.map (fun i => (isR.filterMap (fun i => ws[i]?) ++ w1 u)[i]?) = (w2 u).map some)
    (kk : ∀ (r : Int32) (u : S) (H1 : Heap) (locs1 : List Loc), post r u → va_P D vwCl (w2 u) H1 → va_D A (w2 u) → va_S A s.heap H1 locs1 → W p l e R s m args below meth c H1 locs1 cells slots Q (F0 m (pc + 3) ls (.int r :: rest))) : W p l e R s m args below meth c H locs cells slots Q (F0 m pc ls st) := by
  have hF := va_free (wc := wc) hD hS hA isC hC
  refine va_calli hr hS (fun q _ h => hF q h) hF (fun r u t H1 locs1 ht hvm hw hB hz1 hk1 hS1 => ?_)
  obtain ⟨hP1, -, hD1⟩ := hB
  rw [ht] at hP1
  obtain ⟨a1, b1⟩ := jn_r hP hD hS hA isC isR is2 hC hR hn hdis hn2 (h2 u) hk1 hP1 hD1
  exact kk r u H1 locs1 hw a1 b1 hS1
theorem cl_l {S : Type} {post : Int64 → S → Prop} {w1 : S → va_W} (w2 : S → va_W) (hr : va_Run p l e R s m args below meth c H locs cells slots 0 0 (F0 m pc ls st) rest (va_Ql post (fun u t => st_B D cy (va_A wc H.size) (w1 u) t) (va_A wc H.size) a) (va_A wc H.size)) (hP : va_P D vwCl ws H) (hD : va_D A ws) (hS : va_S A s.heap H locs) (hA : ∀ q, s.heap.size ≤ q → A q) (isC isR is2 : List Nat) (hC : isC.map (fun i => ws[i]?) = wc.map some) (hR : isR.map (fun i => ws[i]?) = (isR.filterMap (fun i => ws[i]?)).map some) (hn : va_nd isR = true) (hdis : ∀ i ∈ isR, i ∉ isC) (hn2 : va_nd is2 = true) (h2 : ∀ u, is2.map (fun i => (isR.filterMap (fun i => ws[i]?) ++ w1 u)[i]?) = (w2 u).map some)
    (kk : ∀ (r : Int64) (u : S) (H1 : Heap) (locs1 : List Loc), post r u → va_P D vwCl (w2 u) H1 → va_D A (w2 u) → va_S A s.heap H1 locs1 → W p l e R s m args below meth c H1 locs1 cells slots Q (F0 m (pc + 3) ls (.long r :: rest))) : W p l e R s m args below meth c H locs cells slots Q (F0 m pc ls st) := by
  have hF := va_free (wc := wc) hD hS hA isC hC
  refine va_calll hr hS (fun q _ h => hF q h) hF (fun r u t H1 locs1 ht hvm hw hB hz1 hk1 hS1 => ?_)
  obtain ⟨hP1, -, hD1⟩ := hB
  rw [ht] at hP1
  obtain ⟨a1, b1⟩ := jn_r hP hD hS hA isC isR is2 hC hR hn hdis hn2 (h2 u) hk1 hP1 hD1
  exact kk r u H1 locs1 hw a1 b1 hS1
theorem cl_v {S : Type} {post : S → Prop} {w1 : S → va_W} (w2 : S → va_W) (hr : va_Run p l e R s m args below meth c H locs cells slots 0 0 (F0 m pc ls st) rest (va_Qv post (fun u t => st_B D cy (va_A wc H.size) (w1 u) t) (va_A wc H.size) a) (va_A wc H.size)) (hP : va_P D vwCl ws H) (hD : va_D A ws) (hS : va_S A s.heap H locs) (hA : ∀ q, s.heap.size ≤ q → A q) (isC isR is2 : List Nat) (hC : isC.map (fun i => ws[i]?) = wc.map some) (hR : isR.map (fun i => ws[i]?) = (isR.filterMap (fun i => ws[i]?)).map some) (hn : va_nd isR = true) (hdis : ∀ i ∈ isR, i ∉ isC) (hn2 : va_nd is2 = true) (h2 : ∀ u, is2.map (fun i => (isR.filterMap (fun i => ws[i]?) ++ w1 u)[i]?) = (w2 u).map some)
    (kk : ∀ (u : S) (H1 : Heap) (locs1 : List Loc), post u → va_P D vwCl (w2 u) H1 → va_D A (w2 u) → va_S A s.heap H1 locs1 → W p l e R s m args below meth c H1 locs1 cells slots Q (F0 m (pc + 3) ls rest)) : W p l e R s m args below meth c H locs cells slots Q (F0 m pc ls st) := by
  have hF := va_free (wc := wc) hD hS hA isC hC
  refine va_callv hr hS (fun q _ h => hF q h) hF (fun u t H1 locs1 ht hvm hw hB hz1 hk1 hS1 => ?_)
  obtain ⟨hP1, -, hD1⟩ := hB
  rw [ht] at hP1
  obtain ⟨a1, b1⟩ := jn_r hP hD hS hA isC isR is2 hC hR hn hdis hn2 (h2 u) hk1 hP1 hD1
  exact kk u H1 locs1 hw a1 b1 hS1
end
/-- what every stretch of a method knows -/
def cx_C (cc : ByteArray) (ret : Option FieldType) (nL : Nat) (own : String) (Ts : List Cond) (p : Program) (s : State) (m : MethodId) (args : Array Value) (meth : Method) (c : Code) (D : va_G) (cy : Nat → ClassId) (A : Nat → Prop) : Prop :=
  p.tables.exec = Jvm.exec ∧ c.code = cc ∧ meth.sig.returnType = ret ∧ c.maxLocals = nL ∧ s.vm.findClass own = some m.cls ∧ (∀ w ∈ Ts, w.before args s = true) ∧ kk_K D cy s ∧ meth.locks = false ∧ ∀ q, s.heap.size ≤ q → A q
/-- a boolean, as an int -/
def gq_b {α : Type} (x : Int32) (E : Option α) : Option α := if x = 0 ∨ x = 1 then E else none
theorem gq_d {α : Type} {x : Int32} {E : Option α} {r : α} (h : gq_b x E = some r) : (narrow .boolean (.int x) = .int x ∧ fits .boolean (.int x) = true) ∧ E = some r := by
  unfold gq_b at h
  by_cases c : x = 0 ∨ x = 1
  · rw [if_pos c] at h
    refine ⟨?_, h⟩
    rcases c with rfl | rfl <;> exact ⟨by decide, by decide⟩
  · rw [if_neg c] at h; cases h
/-- a switch's value that is none of its cases -/
theorem sw_ne {x : Int32} (n : Nat) (hn : n < 2 ^ 31) (h : ¬ x = Int32.ofNat n) : x.toInt ≠ (n : Int) := by
  intro e
  exact h (Int32.toInt_inj.mp (by rw [e]; exact (nI_toInt (n := n) hn).symm))
/-- a copy of n from the start of a row of n0 to that of one of n1 -/
def gy_c {α : Type} (n : Int32) (n0 n1 : Nat) (E : Option α) : Option α := if n < 0 ∨ n0 < n.toNatClampNeg ∨ n1 < n.toNatClampNeg then none else E
theorem gy_d {α : Type} {n : Int32} {n0 n1 : Nat} {E : Option α} {r : α} (h : gy_c n n0 n1 E = some r) : (¬ n < 0 ∧ n.toNatClampNeg ≤ n0 ∧ n.toNatClampNeg ≤ n1) ∧ E = some r := by
  unfold gy_c at h
  by_cases c : n < 0 ∨ n0 < n.toNatClampNeg ∨ n1 < n.toNatClampNeg
  · rw [if_pos c] at h; cases h
  · rw [if_neg c] at h
    exact ⟨⟨fun q => c (Or.inl q), Nat.le_of_not_lt (fun q => c (Or.inr (Or.inl q))), Nat.le_of_not_lt (fun q => c (Or.inr (Or.inr q)))⟩, h⟩
abbrev s_W : Type := Int32 × Int32 × Int32 × Int32 × Int32 × Int32 × Int32 × (Nat → Int32) × (Nat → Int32) × (Nat → Int32) × (Nat → Int32)
abbrev s_V : Type := Int32 × (Nat → Int32) × (Nat → Int32) × (Nat → Int32)
abbrev s_S : Type := Int32 × Int32 × (Nat → Int32)
abbrev s_T : Type := Int32 × Int32 × Int32 × Int32 × Int32 × (Nat → Int32)
abbrev s_R : Type := Int32 × Int32 × Int32
