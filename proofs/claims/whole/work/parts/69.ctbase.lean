/-! constructors: array classes by their names; calls that make cells; the words of nest mates -/
theorem cy_b {D : va_G} {cy : Nat → ClassId} {s : State} {cA : ClassId} (h : va_K D vwCl (ty_L cy ++ [(cA, .byte)]) s) : cA = cy 0 := by
  have a : va_RA s (cy 0) .byte := (h.2 0 (cy 0, .byte) rfl).2
  have b : va_RA s cA .byte := (h.2 6 (cA, .byte) rfl).2
  exact Option.some.inj (b.symm.trans a)
theorem cy_i {D : va_G} {cy : Nat → ClassId} {s : State} {cA : ClassId} (h : va_K D vwCl (ty_L cy ++ [(cA, .int)]) s) : cA = cy 1 := by
  have a : va_RA s (cy 1) .int := (h.2 1 (cy 1, .int) rfl).2
  have b : va_RA s cA .int := (h.2 6 (cA, .int) rfl).2
  exact Option.some.inj (b.symm.trans a)
theorem cy_z {D : va_G} {cy : Nat → ClassId} {s : State} {cA : ClassId} (h : va_K D vwCl (ty_L cy ++ [(cA, .boolean)]) s) : cA = cy 2 := by
  have a : va_RA s (cy 2) .boolean := (h.2 2 (cy 2, .boolean) rfl).2
  have b : va_RA s cA .boolean := (h.2 6 (cA, .boolean) rfl).2
  exact Option.some.inj (b.symm.trans a)
theorem cy_q3 {D : va_G} {cy : Nat → ClassId} {s : State} {cA : ClassId} (h : va_K D vwCl (ty_L cy ++ [(cA, .object "BarrowGrief$Image")]) s) : cA = cy 3 := by
  obtain ⟨-, -, -, -, -, a⟩ : va_RA s (cy 3) (.object "BarrowGrief$Image") := (h.2 3 (cy 3, .object "BarrowGrief$Image") rfl).2
  obtain ⟨-, -, -, -, -, b⟩ : va_RA s cA (.object "BarrowGrief$Image") := (h.2 6 (cA, .object "BarrowGrief$Image") rfl).2
  exact Option.some.inj (b.symm.trans a)
theorem cy_q4 {D : va_G} {cy : Nat → ClassId} {s : State} {cA : ClassId} (h : va_K D vwCl (ty_L cy ++ [(cA, .object "BarrowGrief$Sheet")]) s) : cA = cy 4 := by
  obtain ⟨-, -, -, -, -, a⟩ : va_RA s (cy 4) (.object "BarrowGrief$Sheet") := (h.2 4 (cy 4, .object "BarrowGrief$Sheet") rfl).2
  obtain ⟨-, -, -, -, -, b⟩ : va_RA s cA (.object "BarrowGrief$Sheet") := (h.2 6 (cA, .object "BarrowGrief$Sheet") rfl).2
  exact Option.some.inj (b.symm.trans a)
theorem cy_q5 {D : va_G} {cy : Nat → ClassId} {s : State} {cA : ClassId} (h : va_K D vwCl (ty_L cy ++ [(cA, .object "BarrowGrief$World")]) s) : cA = cy 5 := by
  obtain ⟨-, -, -, -, -, a⟩ : va_RA s (cy 5) (.object "BarrowGrief$World") := (h.2 5 (cy 5, .object "BarrowGrief$World") rfl).2
  obtain ⟨-, -, -, -, -, b⟩ : va_RA s cA (.object "BarrowGrief$World") := (h.2 6 (cA, .object "BarrowGrief$World") rfl).2
  exact Option.some.inj (b.symm.trans a)
section
variable {p : Program} {l : Launch} {e : Env} {R : Room} {s : State} {m : MethodId} {args a : Array Value} {below : List Frame} {meth : Method} {c : Code} {H : Heap} {locs : List Loc} {cells slots : Nat} {Q : State → Prop} {D : va_G} {cy : Nat → ClassId} {A : Nat → Prop} {ws wc : va_W} {rest st : List Value} {pc : Nat} {ls : Array Slot}
theorem cl_c {mc ms : Nat} {S : Type} {post : S → Prop} {w1 : S → va_W} (w2 : S → va_W) (hr : va_Run p l e R s m args below meth c H locs cells slots mc ms (F0 m pc ls st) rest (va_Qv post (fun u t => st_B D cy (va_A wc H.size) (w1 u) t) (va_A wc H.size) a) (va_A wc H.size)) (hP : va_P D vwCl ws H) (hD : va_D A ws) (hS : va_S A s.heap H locs) (hA : ∀ q, s.heap.size ≤ q → A q) (isC isR is2 : List Nat) (hC : isC.map (fun i => ws[i]?) = wc.map some) (hR : isR.map (fun i => ws[i]?) = (isR.filterMap (fun i => ws[i]?)).map some) (hn : va_nd isR = true) (hdis : ∀ i ∈ isR, i ∉ isC) (hn2 : va_nd is2 = true) (h2 : ∀ u, is2.map (fun i => (isR.filterMap (fun i => ws[i]?) ++ w1 u)[i]?) = (w2 u).map some)
    (kk : ∀ (u : S) (H1 : Heap) (locs1 : List Loc), post u → va_P D vwCl (w2 u) H1 → va_D A (w2 u) → va_S A s.heap H1 locs1 → W p l e R s m args below meth c H1 locs1 (cells + mc) (slots + ms) Q (F0 m (pc + 3) ls rest)) : W p l e R s m args below meth c H locs cells slots Q (F0 m pc ls st) := by
  have hF := va_free (wc := wc) hD hS hA isC hC
  refine va_callv hr hS (fun q _ h => hF q h) hF (fun u t H1 locs1 ht hvm hw hB hz1 hk1 hS1 => ?_)
  obtain ⟨hP1, -, hD1⟩ := hB
  rw [ht] at hP1
  obtain ⟨a1, b1⟩ := jn_r hP hD hS hA isC isR is2 hC hR hn hdis hn2 (h2 u) hk1 hP1 hD1
  exact kk u H1 locs1 hw a1 b1 hS1
end
/-- the links of an Image's constructor, and of BarrowGrief's -/
def n0_A (U : State) : Prop := va_Nw (.methodLinkNest RX0 9 yX5_init RX6) U ∧ va_Nw (.methodLinkNest RX0 18 yX3_init RX6) U
def n6_A (U : State) : Prop := n0_A U ∧ va_Nw (.methodLinkNest RX6 9 yX5_init RX6) U ∧ va_Nw (.methodLinkNest RX6 25 yX3_init RX6) U ∧ va_Nw (.methodLinkNest RX6 44 yX4_init RX6) U ∧ va_Nw (.methodLinkNest RX6 65 yX0_init RX6) U ∧ va_Nw (.methodLinkNest RX6 66 yX2_init RX6) U ∧ va_AO "BarrowGrief$World" U ∧ va_AO "BarrowGrief$Image" U ∧ va_AO "BarrowGrief$Sheet" U
theorem n0_warm {s U : State} (hW : s.WarmedH U.vm) (h : n0_A s) : n0_A U := ⟨h.1.warmM hW, h.2.warmM hW⟩
theorem n0_call {U : State} {g : JFrame} {mk : MethodId} {a : Array Value} (h : n0_A U) : n0_A (U.calling g mk a) := ⟨h.1.same rfl rfl, h.2.same rfl rfl⟩
theorem n6_warm {s U : State} (hW : s.WarmedH U.vm) (h : n6_A s) : n6_A U := by
  obtain ⟨h0, h1, h2, h3, h4, h5, h6, h7, h8⟩ := h
  exact ⟨n0_warm hW h0, h1.warmM hW, h2.warmM hW, h3.warmM hW, h4.warmM hW, h5.warmM hW, h6.moved hW.alike, h7.moved hW.alike, h8.moved hW.alike⟩
theorem n6_call {U : State} {g : JFrame} {mk : MethodId} {a : Array Value} (h : n6_A U) : n6_A (U.calling g mk a) := by
  obtain ⟨h0, h1, h2, h3, h4, h5, h6, h7, h8⟩ := h
  exact ⟨n0_call h0, h1.same rfl rfl, h2.same rfl rfl, h3.same rfl rfl, h4.same rfl rfl, h5.same rfl rfl, h6.moved (U := U.calling g mk a) (Vm.Alike.refl U.vm), h7.moved (U := U.calling g mk a) (Vm.Alike.refl U.vm), h8.moved (U := U.calling g mk a) (Vm.Alike.refl U.vm)⟩
def sn_P (N : State → Prop) (D : va_G) (cy : Nat → ClassId) (sz : Nat) (ws : va_W) (vals : List Value) : Array Value → State → Prop := va_Pc vals (fun U => U.heap.size = sz ∧ va_P D vwCl ws U.heap ∧ kk_K D cy U ∧ va_D (fun _ => True) ws ∧ N U)
theorem sn_blind {N : State → Prop} {D : va_G} {cy : Nat → ClassId} {sz : Nat} {ws : va_W} {vals : List Value} (hN : ∀ {U : State} {g : JFrame} {mk : MethodId} {a : Array Value}, N U → N (U.calling g mk a)) : FrameBlind (sn_P N D cy sz ws vals) := by
  intro a U g mk q
  obtain ⟨q0, q1, qP, qK, qD, qN⟩ := q
  exact ⟨q0, q1, qP, kk_call qK, qD, hN qN⟩
theorem sn_pre {N : State → Prop} {D : va_G} {cy : Nat → ClassId} {A : Nat → Prop} {ws : va_W} {vals : List Value} {s U : State} {H : Heap} (hK : kk_K D cy s) (hP : va_P D vwCl ws H) (hD : va_D A ws) (hN : N U) (hU : U.heap = H) (hW : s.WarmedH U.vm) : sn_P N D cy H.size ws vals vals.toArray U := by
  subst hU
  exact ⟨rfl, rfl, hP, kk_warm hW hK, hD.weaken (fun _ _ _ _ => trivial), hN⟩
def cc_v (l : Launch) (y : MethodName) (wy : List Cond) (rm : Room) (D : va_G) (cy : Nat → ClassId) (sz : Nat) (wc : va_W) (vals : List Value) {S : Type} (w1 : S → va_W) (mc ms : Nat) : Prop :=
  Met l y wy rm (st_P D cy sz wc vals) (va_Qv (fun (_ : S) => True) (fun u t => st_B D cy (va_A wc sz) (w1 u) t) (va_A wc sz)) mc ms (va_A wc sz)
def cn_v (N : State → Prop) (l : Launch) (y : MethodName) (wy : List Cond) (rm : Room) (D : va_G) (cy : Nat → ClassId) (sz : Nat) (wc : va_W) (vals : List Value) {S : Type} (w1 : S → va_W) (mc ms : Nat) : Prop :=
  Met l y wy rm (sn_P N D cy sz wc vals) (va_Qv (fun (_ : S) => True) (fun u t => st_B D cy (va_A wc sz) (w1 u) t) (va_A wc sz)) mc ms (va_A wc sz)
theorem up_2 (a b : Nat) : va_up (va_up (fun _ => none) 0 (some a)) 1 (some b) = fun j => if j = 0 then some a else if j = 1 then some b else none := by
  funext j
  unfold va_up
  by_cases h0 : j = 0
  · subst h0; rfl
  by_cases h1 : j = 1
  · subst h1; rfl
  rw [if_neg h1, if_neg h0, if_neg h0, if_neg h1]
theorem up_4 (a b c d : Nat) : va_up (va_up (va_up (va_up (fun _ => none) 0 (some a)) 1 (some b)) 2 (some c)) 3 (some d) = fun j => if j = 0 then some a else if j = 1 then some b else if j = 2 then some c else if j = 3 then some d else none := by
  funext j
  unfold va_up
  by_cases h0 : j = 0
  · subst h0; rfl
  by_cases h1 : j = 1
  · subst h1; rfl
  by_cases h2 : j = 2
  · subst h2; rfl
  by_cases h3 : j = 3
  · subst h3; rfl
  rw [if_neg h3, if_neg h2, if_neg h1, if_neg h0, if_neg h0, if_neg h1, if_neg h2, if_neg h3]
