/-! ### BarrowGrief$World.has(I)Z -/
abbrev wc_X5_has (cy : Nat → ClassId) (q_t q_t_kind q_t_grief q_t_bears q_t_rota : Nat) (w_t : t_W) : va_W := [(q_t, .inr (5, [.ref q_t_kind, .ref q_t_grief, .ref q_t_bears, .ref q_t_rota, .int w_t.1, .int w_t.2.1, .int w_t.2.2.1, .int w_t.2.2.2.1, .int w_t.2.2.2.2.1, .int w_t.2.2.2.2.2.1, .int w_t.2.2.2.2.2.2.1])), (q_t_kind, .inl (cy 1, 5, .inl w_t.2.2.2.2.2.2.2.1)), (q_t_grief, .inl (cy 1, 5, .inl w_t.2.2.2.2.2.2.2.2.1)), (q_t_bears, .inl (cy 1, 5, .inl w_t.2.2.2.2.2.2.2.2.2.1)), (q_t_rota, .inl (cy 1, 8, .inl w_t.2.2.2.2.2.2.2.2.2.2))]
abbrev rm_X5_has : Room := { frames := 0, cells := 0, slots := 0, locals := 0 }
abbrev qq_X5_has (below : List Frame) (args : Array Value) (s : State) (D : va_G) (cy : Nat → ClassId) (A : Nat → Prop) (q_t : Nat) (q_t_kind : Nat) (q_t_grief : Nat) (q_t_bears : Nat) (q_t_rota : Nat) (w_t : t_W) (res : Int32) : State → Prop := MQ below (va_Qi (fun r (_ : Unit) => r = res) (fun u t => st_B D cy A ((fun (u : Unit) => wc_X5_has cy q_t q_t_kind q_t_grief q_t_bears q_t_rota w_t) u) t) A) args s 0 0 A
def B_X5_has_0  (w_t : t_W)   (v1 : Int32) : Option (Int32) := if v1 < 0 then (some 0) else (if w_t.1 ≤ v1 then (some 0) else (some 1))
set_option maxHeartbeats 4000000 in
set_option maxRecDepth 100000 in
theorem b_X5_has_0 {p : Program} {l : Launch} {e : Env} {s : State} {m : MethodId} {args : Array Value} {below : List Frame} {meth : Method} {c : Code} {D : va_G} {cy : Nat → ClassId} {A : Nat → Prop} {q_t : Nat} {q_t_kind : Nat} {q_t_grief : Nat} {q_t_bears : Nat} {q_t_rota : Nat} {w_t : t_W} {res : Int32}    {v1 : Int32} (C0 : cx_C cX5_has ((some .boolean)) 2 RX5 (.code yX5_has cX5_has 2 ((some .boolean)) :: wg_L) p s m args meth c D cy A)  (h : B_X5_has_0 w_t v1 = some res) {H : Heap} {locs : List Loc} {ls : Array Slot} (hP : va_P D vwCl (wc_X5_has cy q_t q_t_kind q_t_grief q_t_bears q_t_rota w_t) H) (hD : va_D A (wc_X5_has cy q_t q_t_kind q_t_grief q_t_bears q_t_rota w_t)) (hS : va_S A s.heap H locs) (hl : lv_has ls 2 [(0, .ref q_t), (1, .int v1)]) : W p l e rm_X5_has s m args below meth c H locs 0 0 (qq_X5_has below args s D cy A q_t q_t_kind q_t_grief q_t_bears q_t_rota w_t res) (F0 m 0 ls []) := by
  obtain ⟨hx, hb, hr, hml, hown, hts, hK, hlocks, hA⟩ := id C0
  unfold B_X5_has_0 at h
  refine lv_iload_n hx hb dX5_has_0 rfl (lv_at hl 1 rfl) ?_
  refine lv_if_lt (tgt := 16) hx hb dX5_has_1 (by decide) (fun c1 => ?_) (fun c1 => ?_)
  · replace h := it_p c1 h
    refine lv_iconst (v := 0) hx hb dX5_has_16 (by decide) ?_
    obtain rfl := Option.some.inj h
    exact W.zret (v := 0) hx hb hr (by decide) (fun tt ht hW => ⟨⟨0, (), rfl, rfl, by rw [ht]; exact hP, kk_warm hW hK, hD⟩, hS.F ht⟩) hS.2.2 dX5_has_17
  · replace h := it_n c1 h
    refine lv_iload_n hx hb dX5_has_4 rfl (lv_at hl 1 rfl) ?_
    refine lv_aload_n hx hb dX5_has_5 rfl (lv_at hl 0 rfl) ?_
    refine va_get (D := D) (ci := 5) (v := .int w_t.1) (C := RX5) (T := TX5) (N := 11) hx hb hts (fun w hw => List.mem_cons_of_mem _ (uw_X5 w hw)) hown hK.1 hP 0 rfl rfl 4 (by decide) (hts _ (List.mem_cons_of_mem _ k_41)) (fun _ h9 => h9) rfl dX5_has_6 ?_
    refine lv_icmp_ge (tgt := 16) hx hb dX5_has_9 (by decide) (fun c9 => ?_) (fun c9 => ?_)
    · replace h := it_p c9 h
      refine lv_iconst (v := 0) hx hb dX5_has_16 (by decide) ?_
      obtain rfl := Option.some.inj h
      exact W.zret (v := 0) hx hb hr (by decide) (fun tt ht hW => ⟨⟨0, (), rfl, rfl, by rw [ht]; exact hP, kk_warm hW hK, hD⟩, hS.F ht⟩) hS.2.2 dX5_has_17
    · replace h := it_n c9 h
      refine lv_iconst (v := 1) hx hb dX5_has_12 (by decide) ?_
      refine lv_goto (tgt := 17) hx hb dX5_has_13 (by decide) ?_
      obtain rfl := Option.some.inj h
      exact W.zret (v := 1) hx hb hr (by decide) (fun tt ht hW => ⟨⟨1, (), rfl, rfl, by rw [ht]; exact hP, kk_warm hW hK, hD⟩, hS.F ht⟩) hS.2.2 dX5_has_17
def M_X5_has  (w_t : t_W)   (v1 : Int32) : Option (Int32) := B_X5_has_0 w_t v1
set_option maxHeartbeats 4000000 in
set_option maxRecDepth 100000 in
theorem c_X5_has (l : Launch) (D : va_G) (cy : Nat → ClassId) (sz : Nat) (q_t : Nat) (q_t_kind : Nat) (q_t_grief : Nat) (q_t_bears : Nat) (q_t_rota : Nat) (w_t : t_W) (v1 : Int32)  {res : Int32} (h : M_X5_has w_t v1 = some res) : ct_i l yX5_has (.code yX5_has cX5_has 2 ((some .boolean)) :: wg_L) rm_X5_has D cy sz (wc_X5_has cy q_t q_t_kind q_t_grief q_t_bears q_t_rota w_t) [.ref q_t, .int v1] (fun r (_ : Unit) => r = res) (fun (u : Unit) => wc_X5_has cy q_t q_t_kind q_t_grief q_t_bears q_t_rota w_t) := by
  refine Met.ofW (cc := cX5_has) (maxL := 2) (ret := (some .boolean)) (by decide) rfl ?_
  intro p e s m args below meth c s₁ B hml hv
  obtain ⟨rfl, hsz, hP, hK, hD0⟩ := hv
  subst hsz
  have hD := hD0.self (sz := s.heap.size)
  have hl := lv_entry ([.ref q_t, .int v1]) (n := 2) (Nat.le_of_ble_eq_true rfl)
  rw [lg_entry_eq]
  have C0 : cx_C cX5_has ((some .boolean)) 2 RX5 (.code yX5_has cX5_has 2 ((some .boolean)) :: wg_L) p s m [.ref q_t, .int v1].toArray meth c D cy (va_A (wc_X5_has cy q_t q_t_kind q_t_grief q_t_bears q_t_rota w_t) s.heap.size) := ⟨B.exec, B.bytes, B.returns, hml, findClass_of_methodNamed B.named, atoms_spec (ws := .code yX5_has cX5_has 2 ((some .boolean)) :: wg_L) B.pre, hK, B.notSynchronized, fun q h => Or.inr h⟩
  exact b_X5_has_0 C0 h hP hD va_S.rf (lv_sub hl [0, 1] rfl)
/-! ### BarrowGrief$World.hand(I)I -/
abbrev wc_X5_hand (cy : Nat → ClassId) : va_W := []
abbrev rm_X5_hand : Room := { frames := 0, cells := 0, slots := 0, locals := 0 }
abbrev qq_X5_hand (below : List Frame) (args : Array Value) (s : State) (D : va_G) (cy : Nat → ClassId) (A : Nat → Prop)  (res : Int32) : State → Prop := MQ below (va_Qi (fun r (_ : Unit) => r = res) (fun u t => st_B D cy A ((fun (u : Unit) => wc_X5_hand cy ) u) t) A) args s 0 0 A
def B_X5_hand_0     (v0 : Int32) : Option (Int32) := if v0 = 1 then (some 8) else (if v0 = 2 then (some 2) else (if v0 = 3 then (some 5) else (some 4)))
set_option maxHeartbeats 4000000 in
set_option maxRecDepth 100000 in
theorem b_X5_hand_0 {p : Program} {l : Launch} {e : Env} {s : State} {m : MethodId} {args : Array Value} {below : List Frame} {meth : Method} {c : Code} {D : va_G} {cy : Nat → ClassId} {A : Nat → Prop}  {res : Int32}    {v0 : Int32} (C0 : cx_C cX5_hand ((some .int)) 1 RX5 (.code yX5_hand cX5_hand 1 ((some .int)) :: wg_L) p s m args meth c D cy A)  (h : B_X5_hand_0 v0 = some res) {H : Heap} {locs : List Loc} {ls : Array Slot} (hP : va_P D vwCl (wc_X5_hand cy ) H) (hD : va_D A (wc_X5_hand cy )) (hS : va_S A s.heap H locs) (hl : lv_has ls 1 [(0, .int v0)]) : W p l e rm_X5_hand s m args below meth c H locs 0 0 (qq_X5_hand below args s D cy A  res) (F0 m 0 ls []) := by
  obtain ⟨hx, hb, hr, hml, hown, hts, hK, hlocks, hA⟩ := id C0
  unfold B_X5_hand_0 at h
  refine lv_iload_n hx hb dX5_hand_0 rfl (lv_at hl 0 rfl) ?_
  by_cases c1_1 : v0 = 1
  · replace h := it_p c1_1 h
    refine lv_tableIn (tgt := 28) hx hb dX5_hand_1 (by rw [c1_1]; decide) (by rw [c1_1]; decide) (by rw [c1_1]; rfl) (by decide) ?_
    refine lv_bipush (v := 8) hx hb dX5_hand_28 (by decide) ?_
    obtain rfl := Option.some.inj h
    exact W.iret (v := 8) hx hb hr (fun tt ht hW => ⟨⟨8, (), rfl, rfl, by rw [ht]; exact hP, kk_warm hW hK, hD⟩, hS.F ht⟩) hS.2.2 dX5_hand_30
  replace h := it_n c1_1 h
  by_cases c1_2 : v0 = 2
  · replace h := it_p c1_2 h
    refine lv_tableIn (tgt := 31) hx hb dX5_hand_1 (by rw [c1_2]; decide) (by rw [c1_2]; decide) (by rw [c1_2]; rfl) (by decide) ?_
    refine lv_iconst (v := 2) hx hb dX5_hand_31 (by decide) ?_
    obtain rfl := Option.some.inj h
    exact W.iret (v := 2) hx hb hr (fun tt ht hW => ⟨⟨2, (), rfl, rfl, by rw [ht]; exact hP, kk_warm hW hK, hD⟩, hS.F ht⟩) hS.2.2 dX5_hand_32
  replace h := it_n c1_2 h
  by_cases c1_3 : v0 = 3
  · replace h := it_p c1_3 h
    refine lv_tableIn (tgt := 33) hx hb dX5_hand_1 (by rw [c1_3]; decide) (by rw [c1_3]; decide) (by rw [c1_3]; rfl) (by decide) ?_
    refine lv_iconst (v := 5) hx hb dX5_hand_33 (by decide) ?_
    obtain rfl := Option.some.inj h
    exact W.iret (v := 5) hx hb hr (fun tt ht hW => ⟨⟨5, (), rfl, rfl, by rw [ht]; exact hP, kk_warm hW hK, hD⟩, hS.F ht⟩) hS.2.2 dX5_hand_34
  replace h := it_n c1_3 h
  have n1_1 := sw_ne 1 (by decide) c1_1
  have n1_2 := sw_ne 2 (by decide) c1_2
  have n1_3 := sw_ne 3 (by decide) c1_3
  refine lv_tableOut (tgt := 35) hx hb dX5_hand_1 (by omega) (by decide) ?_
  refine lv_iconst (v := 4) hx hb dX5_hand_35 (by decide) ?_
  obtain rfl := Option.some.inj h
  exact W.iret (v := 4) hx hb hr (fun tt ht hW => ⟨⟨4, (), rfl, rfl, by rw [ht]; exact hP, kk_warm hW hK, hD⟩, hS.F ht⟩) hS.2.2 dX5_hand_36
def M_X5_hand     (v0 : Int32) : Option (Int32) := B_X5_hand_0 v0
set_option maxHeartbeats 4000000 in
set_option maxRecDepth 100000 in
theorem c_X5_hand (l : Launch) (D : va_G) (cy : Nat → ClassId) (sz : Nat)  (v0 : Int32)  {res : Int32} (h : M_X5_hand v0 = some res) : ct_i l yX5_hand (.code yX5_hand cX5_hand 1 ((some .int)) :: wg_L) rm_X5_hand D cy sz (wc_X5_hand cy ) [.int v0] (fun r (_ : Unit) => r = res) (fun (u : Unit) => wc_X5_hand cy ) := by
  refine Met.ofW (cc := cX5_hand) (maxL := 1) (ret := (some .int)) (by decide) rfl ?_
  intro p e s m args below meth c s₁ B hml hv
  obtain ⟨rfl, hsz, hP, hK, hD0⟩ := hv
  subst hsz
  have hD := hD0.self (sz := s.heap.size)
  have hl := lv_entry ([.int v0]) (n := 1) (Nat.le_of_ble_eq_true rfl)
  rw [lg_entry_eq]
  have C0 : cx_C cX5_hand ((some .int)) 1 RX5 (.code yX5_hand cX5_hand 1 ((some .int)) :: wg_L) p s m [.int v0].toArray meth c D cy (va_A (wc_X5_hand cy ) s.heap.size) := ⟨B.exec, B.bytes, B.returns, hml, findClass_of_methodNamed B.named, atoms_spec (ws := .code yX5_hand cX5_hand 1 ((some .int)) :: wg_L) B.pre, hK, B.notSynchronized, fun q h => Or.inr h⟩
  exact b_X5_hand_0 C0 h hP hD va_S.rf (lv_sub hl [0] rfl)
/-! ### BarrowGrief$World.heals(II)I -/
abbrev wc_X5_heals (cy : Nat → ClassId) : va_W := []
abbrev rm_X5_heals : Room := { frames := 1, cells := 0, slots := 0, locals := 21 }
abbrev qq_X5_heals (below : List Frame) (args : Array Value) (s : State) (D : va_G) (cy : Nat → ClassId) (A : Nat → Prop)  (res : Int32) : State → Prop := MQ below (va_Qi (fun r (_ : Unit) => r = res) (fun u t => st_B D cy A ((fun (u : Unit) => wc_X5_heals cy ) u) t) A) args s 0 0 A
def B_X5_heals_0     (v0 : Int32) (v1 : Int32) : Option (Int32) := nm_v (v1 / 4) (fun v2_3 => nm_v (v2_3 / 2) (fun v3_7 => if v0 = 1 then (some v3_7) else (if v0 = 2 then (some (if v1 < (v2_3 + 1) then v1 else (v2_3 + 1))) else (if v0 = 3 then (some (if v1 < ((2 * v3_7) + 1) then v1 else ((2 * v3_7) + 1))) else (some v2_3)))))
set_option maxHeartbeats 4000000 in
set_option maxRecDepth 100000 in
theorem b_X5_heals_0 {p : Program} {l : Launch} {e : Env} {s : State} {m : MethodId} {args : Array Value} {below : List Frame} {meth : Method} {c : Code} {D : va_G} {cy : Nat → ClassId} {A : Nat → Prop}  {res : Int32}    {v0 : Int32} {v1 : Int32} (C0 : cx_C cX5_heals ((some .int)) 4 RX5 (.code yX5_heals cX5_heals 4 ((some .int)) :: wg_L) p s m args meth c D cy A)  (h : B_X5_heals_0 v0 v1 = some res) {H : Heap} {locs : List Loc} {ls : Array Slot} (hP : va_P D vwCl (wc_X5_heals cy ) H) (hD : va_D A (wc_X5_heals cy )) (hS : va_S A s.heap H locs) (hl : lv_has ls 4 [(0, .int v0), (1, .int v1)]) : W p l e rm_X5_heals s m args below meth c H locs 0 0 (qq_X5_heals below args s D cy A  res) (F0 m 0 ls []) := by
  obtain ⟨hx, hb, hr, hml, hown, hts, hK, hlocks, hA⟩ := id C0
  unfold B_X5_heals_0 at h
  refine lv_iload_n hx hb dX5_heals_0 rfl (lv_at hl 1 rfl) ?_
  refine lv_iconst (v := 4) hx hb dX5_heals_1 (by decide) ?_
  refine lv_idiv hx hb dX5_heals_2 (by decide) ?_
  refine lv_topi (fun v2_3 ev2_3 => ?_)
  replace h := nm_d ev2_3 h
  refine lv_istore_n (lv' := [(2, .int v2_3), (0, .int v0), (1, .int v1)]) hx hb dX5_heals_3 rfl hl (by decide) rfl (fun ls hl => ?_)
  refine lv_iload_n hx hb dX5_heals_4 rfl (lv_at hl 0 rfl) ?_
  refine lv_iconst (v := 2) hx hb dX5_heals_5 (by decide) ?_
  refine lv_idiv hx hb dX5_heals_6 (by decide) ?_
  refine lv_topi (fun v3_7 ev3_7 => ?_)
  replace h := nm_d ev3_7 h
  refine lv_istore_n (lv' := [(3, .int v3_7), (2, .int v2_3), (0, .int v0), (1, .int v1)]) hx hb dX5_heals_7 rfl hl (by decide) rfl (fun ls hl => ?_)
  refine lv_iload_n hx hb dX5_heals_8 rfl (lv_at hl 2 rfl) ?_
  by_cases c9_1 : v0 = 1
  · replace h := it_p c9_1 h
    refine lv_tableIn (tgt := 36) hx hb dX5_heals_9 (by rw [c9_1]; decide) (by rw [c9_1]; decide) (by rw [c9_1]; rfl) (by decide) ?_
    refine lv_iload_n hx hb dX5_heals_36 rfl (lv_at hl 0 rfl) ?_
    obtain rfl := Option.some.inj h
    exact W.iret (v := v3_7) hx hb hr (fun tt ht hW => ⟨⟨v3_7, (), rfl, rfl, by rw [ht]; exact hP, kk_warm hW hK, hD⟩, hS.F ht⟩) hS.2.2 dX5_heals_37
  replace h := it_n c9_1 h
  by_cases c9_2 : v0 = 2
  · replace h := it_p c9_2 h
    refine lv_tableIn (tgt := 38) hx hb dX5_heals_9 (by rw [c9_2]; decide) (by rw [c9_2]; decide) (by rw [c9_2]; rfl) (by decide) ?_
    refine lv_iload_n hx hb dX5_heals_38 rfl (lv_at hl 1 rfl) ?_
    refine lv_iconst (v := 1) hx hb dX5_heals_39 (by decide) ?_
    refine lv_iadd hx hb dX5_heals_40 ?_
    refine lv_iload_n hx hb dX5_heals_41 rfl (lv_at hl 3 rfl) ?_
    refine va_mmin (own := RX5) hx hb (by rw [hml]; exact hl.1.symm) hown (hts _ (List.mem_cons_of_mem _ k_418)) (hts _ (List.mem_cons_of_mem _ k_419)) (hts _ (List.mem_cons_of_mem _ k_14)) (hts _ (List.mem_cons_of_mem _ k_420)) (by decide) (Nat.le_of_ble_eq_true rfl) (by decide) (by decide) dX5_heals_42 ?_
    obtain rfl := Option.some.inj h
    exact W.iret (v := (if v1 < (v2_3 + 1) then v1 else (v2_3 + 1))) hx hb hr (fun tt ht hW => ⟨⟨(if v1 < (v2_3 + 1) then v1 else (v2_3 + 1)), (), rfl, rfl, by rw [ht]; exact hP, kk_warm hW hK, hD⟩, hS.F ht⟩) hS.2.2 dX5_heals_45
  replace h := it_n c9_2 h
  by_cases c9_3 : v0 = 3
  · replace h := it_p c9_3 h
    refine lv_tableIn (tgt := 46) hx hb dX5_heals_9 (by rw [c9_3]; decide) (by rw [c9_3]; decide) (by rw [c9_3]; rfl) (by decide) ?_
    refine lv_iconst (v := 2) hx hb dX5_heals_46 (by decide) ?_
    refine lv_iload_n hx hb dX5_heals_47 rfl (lv_at hl 0 rfl) ?_
    refine lv_imul hx hb dX5_heals_48 ?_
    refine lv_iconst (v := 1) hx hb dX5_heals_49 (by decide) ?_
    refine lv_iadd hx hb dX5_heals_50 ?_
    refine lv_iload_n hx hb dX5_heals_51 rfl (lv_at hl 3 rfl) ?_
    refine va_mmin (own := RX5) hx hb (by rw [hml]; exact hl.1.symm) hown (hts _ (List.mem_cons_of_mem _ k_418)) (hts _ (List.mem_cons_of_mem _ k_419)) (hts _ (List.mem_cons_of_mem _ k_14)) (hts _ (List.mem_cons_of_mem _ k_420)) (by decide) (Nat.le_of_ble_eq_true rfl) (by decide) (by decide) dX5_heals_52 ?_
    obtain rfl := Option.some.inj h
    exact W.iret (v := (if v1 < ((2 * v3_7) + 1) then v1 else ((2 * v3_7) + 1))) hx hb hr (fun tt ht hW => ⟨⟨(if v1 < ((2 * v3_7) + 1) then v1 else ((2 * v3_7) + 1)), (), rfl, rfl, by rw [ht]; exact hP, kk_warm hW hK, hD⟩, hS.F ht⟩) hS.2.2 dX5_heals_55
  replace h := it_n c9_3 h
  have n9_1 := sw_ne 1 (by decide) c9_1
  have n9_2 := sw_ne 2 (by decide) c9_2
  have n9_3 := sw_ne 3 (by decide) c9_3
  refine lv_tableOut (tgt := 56) hx hb dX5_heals_9 (by omega) (by decide) ?_
  refine lv_iload_n hx hb dX5_heals_56 rfl (lv_at hl 1 rfl) ?_
  obtain rfl := Option.some.inj h
  exact W.iret (v := v2_3) hx hb hr (fun tt ht hW => ⟨⟨v2_3, (), rfl, rfl, by rw [ht]; exact hP, kk_warm hW hK, hD⟩, hS.F ht⟩) hS.2.2 dX5_heals_57
def M_X5_heals     (v0 : Int32) (v1 : Int32) : Option (Int32) := B_X5_heals_0 v0 v1
set_option maxHeartbeats 4000000 in
set_option maxRecDepth 100000 in
theorem c_X5_heals (l : Launch) (D : va_G) (cy : Nat → ClassId) (sz : Nat)  (v0 : Int32) (v1 : Int32)  {res : Int32} (h : M_X5_heals v0 v1 = some res) : ct_i l yX5_heals (.code yX5_heals cX5_heals 4 ((some .int)) :: wg_L) rm_X5_heals D cy sz (wc_X5_heals cy ) [.int v0, .int v1] (fun r (_ : Unit) => r = res) (fun (u : Unit) => wc_X5_heals cy ) := by
  refine Met.ofW (cc := cX5_heals) (maxL := 4) (ret := (some .int)) (by decide) rfl ?_
  intro p e s m args below meth c s₁ B hml hv
  obtain ⟨rfl, hsz, hP, hK, hD0⟩ := hv
  subst hsz
  have hD := hD0.self (sz := s.heap.size)
  have hl := lv_entry ([.int v0, .int v1]) (n := 4) (Nat.le_of_ble_eq_true rfl)
  rw [lg_entry_eq]
  have C0 : cx_C cX5_heals ((some .int)) 4 RX5 (.code yX5_heals cX5_heals 4 ((some .int)) :: wg_L) p s m [.int v0, .int v1].toArray meth c D cy (va_A (wc_X5_heals cy ) s.heap.size) := ⟨B.exec, B.bytes, B.returns, hml, findClass_of_methodNamed B.named, atoms_spec (ws := .code yX5_heals cX5_heals 4 ((some .int)) :: wg_L) B.pre, hK, B.notSynchronized, fun q h => Or.inr h⟩
  exact b_X5_heals_0 C0 h hP hD va_S.rf (lv_sub hl [0, 1] rfl)
/-! ### BarrowGrief$World.sum([II)I -/
abbrev wc_X5_sum (cy : Nat → ClassId) (q_a0 : Nat) (n_a0 : Nat) (a0 : Nat → Int32) : va_W := [(q_a0, .inl (cy 1, n_a0, .inl a0))]
abbrev rm_X5_sum : Room := { frames := 0, cells := 0, slots := 0, locals := 0 }
abbrev qq_X5_sum (below : List Frame) (args : Array Value) (s : State) (D : va_G) (cy : Nat → ClassId) (A : Nat → Prop) (q_a0 : Nat) (n_a0 : Nat) (a0 : Nat → Int32) (res : Int32) : State → Prop := MQ below (va_Qi (fun r (_ : Unit) => r = res) (fun u t => st_B D cy A ((fun (u : Unit) => wc_X5_sum cy q_a0 n_a0 a0) u) t) A) args s 0 0 A
def B_X5_sum_4 (k4 : Int32 → Int32 → Int32 → Option (Int32)) (n_a0 : Nat) (a0 : Nat → Int32) (f : Nat)  (v1 : Int32) (v2 : Int32) (v3 : Int32) : Option (Int32) := if v1 ≤ v3 then (some v2) else (gi_n v3 n_a0 (nm_v (v2 + (a0 v3.toNatClampNeg)) (fun v2_14 => k4 v1 v2_14 (v3 + 1))))
set_option maxHeartbeats 4000000 in
set_option maxRecDepth 100000 in
theorem b_X5_sum_4 {p : Program} {l : Launch} {e : Env} {s : State} {m : MethodId} {args : Array Value} {below : List Frame} {meth : Method} {c : Code} {D : va_G} {cy : Nat → ClassId} {A : Nat → Prop} {q_a0 : Nat} {n_a0 : Nat} {a0 : Nat → Int32} {res : Int32} {k4 : Int32 → Int32 → Int32 → Option (Int32)} {f : Nat}  {v1 : Int32} {v2 : Int32} {v3 : Int32} (C0 : cx_C cX5_sum ((some .int)) 4 RX5 (.code yX5_sum cX5_sum 4 ((some .int)) :: wg_L) p s m args meth c D cy A) (hk4 : ∀  (v1 : Int32) (v2 : Int32) (v3 : Int32), k4 v1 v2 v3 = some res → ∀ (H : Heap) (locs : List Loc) (ls : Array Slot), va_P D vwCl (wc_X5_sum cy q_a0 n_a0 a0) H → va_D A (wc_X5_sum cy q_a0 n_a0 a0) → va_S A s.heap H locs → lv_has ls 4 [(0, .ref q_a0), (1, .int v1), (2, .int v2), (3, .int v3)] → W p l e rm_X5_sum s m args below meth c H locs 0 0 (qq_X5_sum below args s D cy A q_a0 n_a0 a0 res) (F0 m 4 ls [])) (h : B_X5_sum_4 k4 n_a0 a0 f v1 v2 v3 = some res) {H : Heap} {locs : List Loc} {ls : Array Slot} (hP : va_P D vwCl (wc_X5_sum cy q_a0 n_a0 a0) H) (hD : va_D A (wc_X5_sum cy q_a0 n_a0 a0)) (hS : va_S A s.heap H locs) (hl : lv_has ls 4 [(0, .ref q_a0), (1, .int v1), (2, .int v2), (3, .int v3)]) : W p l e rm_X5_sum s m args below meth c H locs 0 0 (qq_X5_sum below args s D cy A q_a0 n_a0 a0 res) (F0 m 4 ls []) := by
  obtain ⟨hx, hb, hr, hml, hown, hts, hK, hlocks, hA⟩ := id C0
  unfold B_X5_sum_4 at h
  refine lv_iload_n hx hb dX5_sum_4 rfl (lv_at hl 3 rfl) ?_
  refine lv_iload_n hx hb dX5_sum_5 rfl (lv_at hl 1 rfl) ?_
  refine lv_icmp_ge (tgt := 21) hx hb dX5_sum_6 (by decide) (fun c6 => ?_) (fun c6 => ?_)
  · replace h := it_p c6 h
    refine lv_iload_n hx hb dX5_sum_21 rfl (lv_at hl 2 rfl) ?_
    obtain rfl := Option.some.inj h
    exact W.iret (v := v2) hx hb hr (fun tt ht hW => ⟨⟨v2, (), rfl, rfl, by rw [ht]; exact hP, kk_warm hW hK, hD⟩, hS.F ht⟩) hS.2.2 dX5_sum_22
  · replace h := it_n c6 h
    refine lv_iload_n hx hb dX5_sum_9 rfl (lv_at hl 2 rfl) ?_
    refine lv_aload_n hx hb dX5_sum_10 rfl (lv_at hl 0 rfl) ?_
    refine lv_iload_n hx hb dX5_sum_11 rfl (lv_at hl 3 rfl) ?_
    obtain ⟨hi1, h⟩ := gi_d h
    refine va_iald hx hb hK.1 hP 0 1 rfl rfl hi1 dX5_sum_12 ?_
    refine lv_iadd hx hb dX5_sum_13 ?_
    refine lv_topi (fun v2_14 ev2_14 => ?_)
    replace h := nm_d ev2_14 h
    refine lv_istore_n (lv' := [(2, .int v2_14), (0, .ref q_a0), (1, .int v1), (3, .int v3)]) hx hb dX5_sum_14 rfl hl (by decide) rfl (fun ls hl => ?_)
    refine lv_iinc (v := (v3 + 1)) (lv' := [(3, .int (v3 + 1)), (2, .int v2_14), (0, .ref q_a0), (1, .int v1)]) hx hb dX5_sum_15 hl (k := 3) rfl (by rfl) (by decide) rfl (fun ls hl => ?_)
    refine lv_goto (tgt := 4) hx hb dX5_sum_18 (by decide) ?_
    exact hk4 _ _ _ h _ _ _ hP hD hS (lv_sub hl [2, 3, 1, 0] rfl)
def M_X5_sum_4  (n_a0 : Nat) (a0 : Nat → Int32) : Nat → Int32 → Int32 → Int32 → Option (Int32)
  | 0, _, _, _ => none
  | f + 1, v1, v2, v3 => B_X5_sum_4 (M_X5_sum_4 n_a0 a0 f) n_a0 a0 f v1 v2 v3
theorem t_X5_sum_4 {p : Program} {l : Launch} {e : Env} {s : State} {m : MethodId} {args : Array Value} {below : List Frame} {meth : Method} {c : Code} {D : va_G} {cy : Nat → ClassId} {A : Nat → Prop} {q_a0 : Nat} {n_a0 : Nat} {a0 : Nat → Int32} {res : Int32}  (C0 : cx_C cX5_sum ((some .int)) 4 RX5 (.code yX5_sum cX5_sum 4 ((some .int)) :: wg_L) p s m args meth c D cy A)  : ∀ (f : Nat)  (v1 : Int32) (v2 : Int32) (v3 : Int32), M_X5_sum_4 n_a0 a0 f v1 v2 v3 = some res → ∀ (H : Heap) (locs : List Loc) (ls : Array Slot), va_P D vwCl (wc_X5_sum cy q_a0 n_a0 a0) H → va_D A (wc_X5_sum cy q_a0 n_a0 a0) → va_S A s.heap H locs → lv_has ls 4 [(0, .ref q_a0), (1, .int v1), (2, .int v2), (3, .int v3)] → W p l e rm_X5_sum s m args below meth c H locs 0 0 (qq_X5_sum below args s D cy A q_a0 n_a0 a0 res) (F0 m 4 ls []) := by
  intro f
  induction f with
  | zero =>
    intro _ _ _ h
    exact absurd (show (none : Option (Int32)) = some res from h) (fun q => by cases q)
  | succ f ih =>
    intro v1 v2 v3 h H locs ls hP hD hS hl
    have h : B_X5_sum_4 (M_X5_sum_4 n_a0 a0 f) n_a0 a0 f v1 v2 v3 = some res := h
    exact b_X5_sum_4 C0 ih h hP hD hS hl
def B_X5_sum_0  (n_a0 : Nat) (a0 : Nat → Int32) (f : Nat)  (v1 : Int32) : Option (Int32) := M_X5_sum_4 n_a0 a0 f v1 0 0
set_option maxHeartbeats 4000000 in
set_option maxRecDepth 100000 in
theorem b_X5_sum_0 {p : Program} {l : Launch} {e : Env} {s : State} {m : MethodId} {args : Array Value} {below : List Frame} {meth : Method} {c : Code} {D : va_G} {cy : Nat → ClassId} {A : Nat → Prop} {q_a0 : Nat} {n_a0 : Nat} {a0 : Nat → Int32} {res : Int32}  {f : Nat}  {v1 : Int32} (C0 : cx_C cX5_sum ((some .int)) 4 RX5 (.code yX5_sum cX5_sum 4 ((some .int)) :: wg_L) p s m args meth c D cy A)  (h : B_X5_sum_0 n_a0 a0 f v1 = some res) {H : Heap} {locs : List Loc} {ls : Array Slot} (hP : va_P D vwCl (wc_X5_sum cy q_a0 n_a0 a0) H) (hD : va_D A (wc_X5_sum cy q_a0 n_a0 a0)) (hS : va_S A s.heap H locs) (hl : lv_has ls 4 [(0, .ref q_a0), (1, .int v1)]) : W p l e rm_X5_sum s m args below meth c H locs 0 0 (qq_X5_sum below args s D cy A q_a0 n_a0 a0 res) (F0 m 0 ls []) := by
  obtain ⟨hx, hb, hr, hml, hown, hts, hK, hlocks, hA⟩ := id C0
  unfold B_X5_sum_0 at h
  refine lv_iconst (v := 0) hx hb dX5_sum_0 (by decide) ?_
  refine lv_istore_n (lv' := [(2, .int 0), (0, .ref q_a0), (1, .int v1)]) hx hb dX5_sum_1 rfl hl (by decide) rfl (fun ls hl => ?_)
  refine lv_iconst (v := 0) hx hb dX5_sum_2 (by decide) ?_
  refine lv_istore_n (lv' := [(3, .int 0), (2, .int 0), (0, .ref q_a0), (1, .int v1)]) hx hb dX5_sum_3 rfl hl (by decide) rfl (fun ls hl => ?_)
  exact t_X5_sum_4 C0 _ _ _ _ h _ _ _ hP hD hS (lv_sub hl [2, 3, 1, 0] rfl)
def M_X5_sum  (n_a0 : Nat) (a0 : Nat → Int32) (f : Nat)  (v1 : Int32) : Option (Int32) := B_X5_sum_0 n_a0 a0 f v1
set_option maxHeartbeats 4000000 in
set_option maxRecDepth 100000 in
theorem c_X5_sum (l : Launch) (D : va_G) (cy : Nat → ClassId) (sz : Nat) (q_a0 : Nat) (n_a0 : Nat) (a0 : Nat → Int32) (v1 : Int32) {f : Nat} {res : Int32} (h : M_X5_sum n_a0 a0 f v1 = some res) : ct_i l yX5_sum (.code yX5_sum cX5_sum 4 ((some .int)) :: wg_L) rm_X5_sum D cy sz (wc_X5_sum cy q_a0 n_a0 a0) [.ref q_a0, .int v1] (fun r (_ : Unit) => r = res) (fun (u : Unit) => wc_X5_sum cy q_a0 n_a0 a0) := by
  refine Met.ofW (cc := cX5_sum) (maxL := 4) (ret := (some .int)) (by decide) rfl ?_
  intro p e s m args below meth c s₁ B hml hv
  obtain ⟨rfl, hsz, hP, hK, hD0⟩ := hv
  subst hsz
  have hD := hD0.self (sz := s.heap.size)
  have hl := lv_entry ([.ref q_a0, .int v1]) (n := 4) (Nat.le_of_ble_eq_true rfl)
  rw [lg_entry_eq]
  have C0 : cx_C cX5_sum ((some .int)) 4 RX5 (.code yX5_sum cX5_sum 4 ((some .int)) :: wg_L) p s m [.ref q_a0, .int v1].toArray meth c D cy (va_A (wc_X5_sum cy q_a0 n_a0 a0) s.heap.size) := ⟨B.exec, B.bytes, B.returns, hml, findClass_of_methodNamed B.named, atoms_spec (ws := .code yX5_sum cX5_sum 4 ((some .int)) :: wg_L) B.pre, hK, B.notSynchronized, fun q h => Or.inr h⟩
  exact b_X5_sum_0 C0 h hP hD va_S.rf (lv_sub hl [0, 1] rfl)
/-! ### BarrowGrief$World.all()I -/
abbrev wc_X5_all (cy : Nat → ClassId) (q_t q_t_kind q_t_grief q_t_bears q_t_rota : Nat) (w_t : t_W) : va_W := [(q_t, .inr (5, [.ref q_t_kind, .ref q_t_grief, .ref q_t_bears, .ref q_t_rota, .int w_t.1, .int w_t.2.1, .int w_t.2.2.1, .int w_t.2.2.2.1, .int w_t.2.2.2.2.1, .int w_t.2.2.2.2.2.1, .int w_t.2.2.2.2.2.2.1])), (q_t_kind, .inl (cy 1, 5, .inl w_t.2.2.2.2.2.2.2.1)), (q_t_grief, .inl (cy 1, 5, .inl w_t.2.2.2.2.2.2.2.2.1)), (q_t_bears, .inl (cy 1, 5, .inl w_t.2.2.2.2.2.2.2.2.2.1)), (q_t_rota, .inl (cy 1, 8, .inl w_t.2.2.2.2.2.2.2.2.2.2))]
abbrev rm_X5_all : Room := { frames := 1, cells := 0, slots := 0, locals := 23 }
abbrev qq_X5_all (below : List Frame) (args : Array Value) (s : State) (D : va_G) (cy : Nat → ClassId) (A : Nat → Prop) (q_t : Nat) (q_t_kind : Nat) (q_t_grief : Nat) (q_t_bears : Nat) (q_t_rota : Nat) (w_t : t_W) (res : Int32) : State → Prop := MQ below (va_Qi (fun r (_ : Unit) => r = res) (fun u t => st_B D cy A ((fun (u : Unit) => wc_X5_all cy q_t q_t_kind q_t_grief q_t_bears q_t_rota w_t) u) t) A) args s 0 0 A
def B_X5_all_0  (w_t : t_W) (f : Nat)   : Option (Int32) := (M_X5_sum 5 w_t.2.2.2.2.2.2.2.2.1 f w_t.1).bind (fun u8 => some (u8 + w_t.2.2.2.1))
set_option maxHeartbeats 4000000 in
set_option maxRecDepth 100000 in
theorem b_X5_all_0 {p : Program} {l : Launch} {e : Env} {s : State} {m : MethodId} {args : Array Value} {below : List Frame} {meth : Method} {c : Code} {D : va_G} {cy : Nat → ClassId} {A : Nat → Prop} {q_t : Nat} {q_t_kind : Nat} {q_t_grief : Nat} {q_t_bears : Nat} {q_t_rota : Nat} {w_t : t_W} {res : Int32}  {f : Nat}   (C0 : cx_C cX5_all ((some .int)) 1 RX5 (.code yX5_all cX5_all 1 ((some .int)) :: wg_L) p s m args meth c D cy A)  (h : B_X5_all_0 w_t f = some res) {H : Heap} {locs : List Loc} {ls : Array Slot} (hP : va_P D vwCl (wc_X5_all cy q_t q_t_kind q_t_grief q_t_bears q_t_rota w_t) H) (hD : va_D A (wc_X5_all cy q_t q_t_kind q_t_grief q_t_bears q_t_rota w_t)) (hS : va_S A s.heap H locs) (hl : lv_has ls 1 [(0, .ref q_t)]) : W p l e rm_X5_all s m args below meth c H locs 0 0 (qq_X5_all below args s D cy A q_t q_t_kind q_t_grief q_t_bears q_t_rota w_t res) (F0 m 0 ls []) := by
  obtain ⟨hx, hb, hr, hml, hown, hts, hK, hlocks, hA⟩ := id C0
  unfold B_X5_all_0 at h
  refine lv_aload_n hx hb dX5_all_0 rfl (lv_at hl 0 rfl) ?_
  refine va_get (D := D) (ci := 5) (v := .ref q_t_grief) (C := RX5) (T := TX5) (N := 11) hx hb hts (fun w hw => List.mem_cons_of_mem _ (uw_X5 w hw)) hown hK.1 hP 0 rfl rfl 1 (by decide) (hts _ (List.mem_cons_of_mem _ k_33)) (fun _ h9 => h9) rfl dX5_all_1 ?_
  refine lv_aload_n hx hb dX5_all_4 rfl (lv_at hl 0 rfl) ?_
  refine va_get (D := D) (ci := 5) (v := .int w_t.1) (C := RX5) (T := TX5) (N := 11) hx hb hts (fun w hw => List.mem_cons_of_mem _ (uw_X5 w hw)) hown hK.1 hP 0 rfl rfl 4 (by decide) (hts _ (List.mem_cons_of_mem _ k_41)) (fun _ h9 => h9) rfl dX5_all_5 ?_
  obtain ⟨u8, hc8, h⟩ := bd_d h
  have hPc := hP.sub (ws' := wc_X5_sum cy q_t_grief 5 w_t.2.2.2.2.2.2.2.2.1) [2] rfl
  have hDc := hD.sub (ws' := wc_X5_sum cy q_t_grief 5 w_t.2.2.2.2.2.2.2.2.1) [2] (by decide) rfl
  refine cl_i (fun (u : Unit) => wc_X5_all cy q_t q_t_kind q_t_grief q_t_bears q_t_rota w_t) (va_runS (As := [.ref q_t_grief, .int w_t.1]) (rest := []) ⟨hx, hb, hml, hown, hts⟩ (c_X5_sum l D cy H.size q_t_grief 5 w_t.2.2.2.2.2.2.2.2.1 w_t.1 hc8) ⟨callB_of 2 hts (wg_in k_398) rfl rfl rfl (hts _ (List.mem_cons_of_mem _ k_2)) (hts _ (List.mem_cons_of_mem _ k_396)) (by decide +kernel) ⟨by decide, by decide⟩, (hts _ (List.mem_cons_of_mem _ k_397))⟩ ⟨st_blind, fun U hU hW => st_pre hK hPc hDc hU hW⟩ rfl rfl hl.1 rfl (lv_room (Nat.le_of_ble_eq_true rfl)) dX5_all_8 ⟨by decide, by decide⟩) hP hD hS hA [2] [0, 1, 3, 4] [0, 1, 4, 2, 3] rfl rfl (by decide) (by decide) (by decide) (fun _ => rfl) (fun r u H locs hw hP hD hS => ?_)
  obtain rfl := hw
  refine lv_aload_n hx hb dX5_all_11 rfl (lv_at hl 0 rfl) ?_
  refine va_get (D := D) (ci := 5) (v := .int w_t.2.2.2.1) (C := RX5) (T := TX5) (N := 11) hx hb hts (fun w hw => List.mem_cons_of_mem _ (uw_X5 w hw)) hown hK.1 hP 0 rfl rfl 7 (by decide) (hts _ (List.mem_cons_of_mem _ k_50)) (fun _ h9 => h9) rfl dX5_all_12 ?_
  refine lv_iadd hx hb dX5_all_15 ?_
  obtain rfl := Option.some.inj h
  exact W.iret (v := (u8 + w_t.2.2.2.1)) hx hb hr (fun tt ht hW => ⟨⟨(u8 + w_t.2.2.2.1), (), rfl, rfl, by rw [ht]; exact hP, kk_warm hW hK, hD⟩, hS.F ht⟩) hS.2.2 dX5_all_16
def M_X5_all  (w_t : t_W) (f : Nat)   : Option (Int32) := B_X5_all_0 w_t f
set_option maxHeartbeats 4000000 in
set_option maxRecDepth 100000 in
theorem c_X5_all (l : Launch) (D : va_G) (cy : Nat → ClassId) (sz : Nat) (q_t : Nat) (q_t_kind : Nat) (q_t_grief : Nat) (q_t_bears : Nat) (q_t_rota : Nat) (w_t : t_W)  {f : Nat} {res : Int32} (h : M_X5_all w_t f = some res) : ct_i l yX5_all (.code yX5_all cX5_all 1 ((some .int)) :: wg_L) rm_X5_all D cy sz (wc_X5_all cy q_t q_t_kind q_t_grief q_t_bears q_t_rota w_t) [.ref q_t] (fun r (_ : Unit) => r = res) (fun (u : Unit) => wc_X5_all cy q_t q_t_kind q_t_grief q_t_bears q_t_rota w_t) := by
  refine Met.ofW (cc := cX5_all) (maxL := 1) (ret := (some .int)) (by decide) rfl ?_
  intro p e s m args below meth c s₁ B hml hv
  obtain ⟨rfl, hsz, hP, hK, hD0⟩ := hv
  subst hsz
  have hD := hD0.self (sz := s.heap.size)
  have hl := lv_entry ([.ref q_t]) (n := 1) (Nat.le_of_ble_eq_true rfl)
  rw [lg_entry_eq]
  have C0 : cx_C cX5_all ((some .int)) 1 RX5 (.code yX5_all cX5_all 1 ((some .int)) :: wg_L) p s m [.ref q_t].toArray meth c D cy (va_A (wc_X5_all cy q_t q_t_kind q_t_grief q_t_bears q_t_rota w_t) s.heap.size) := ⟨B.exec, B.bytes, B.returns, hml, findClass_of_methodNamed B.named, atoms_spec (ws := .code yX5_all cX5_all 1 ((some .int)) :: wg_L) B.pre, hK, B.notSynchronized, fun q h => Or.inr h⟩
  exact b_X5_all_0 C0 h hP hD va_S.rf (lv_sub hl [0] rfl)
/-! ### BarrowGrief$World.grieve(II)V -/
abbrev wc_X5_grieve (cy : Nat → ClassId) (q_t q_t_kind q_t_grief q_t_bears q_t_rota : Nat) (w_t : t_W) : va_W := [(q_t, .inr (5, [.ref q_t_kind, .ref q_t_grief, .ref q_t_bears, .ref q_t_rota, .int w_t.1, .int w_t.2.1, .int w_t.2.2.1, .int w_t.2.2.2.1, .int w_t.2.2.2.2.1, .int w_t.2.2.2.2.2.1, .int w_t.2.2.2.2.2.2.1])), (q_t_kind, .inl (cy 1, 5, .inl w_t.2.2.2.2.2.2.2.1)), (q_t_grief, .inl (cy 1, 5, .inl w_t.2.2.2.2.2.2.2.2.1)), (q_t_bears, .inl (cy 1, 5, .inl w_t.2.2.2.2.2.2.2.2.2.1)), (q_t_rota, .inl (cy 1, 8, .inl w_t.2.2.2.2.2.2.2.2.2.2))]
abbrev rm_X5_grieve : Room := { frames := 1, cells := 0, slots := 0, locals := 21 }
abbrev qq_X5_grieve (below : List Frame) (args : Array Value) (s : State) (D : va_G) (cy : Nat → ClassId) (A : Nat → Prop) (q_t : Nat) (q_t_kind : Nat) (q_t_grief : Nat) (q_t_bears : Nat) (q_t_rota : Nat) (res : t_W) : State → Prop := MQ below (va_Qv (fun (u : t_W) => u = res) (fun u t => st_B D cy A ((fun (u : t_W) => wc_X5_grieve cy q_t q_t_kind q_t_grief q_t_bears q_t_rota u) u) t) A) args s 0 0 A
def B_X5_grieve_0    (w_t : t_W) (v1 : Int32) (v2 : Int32) : Option (t_W) := (M_X5_has w_t v1).bind (fun u2 => if u2 = 0 then (some w_t) else (gi_n v1 5 (nm_v (if 99 < ((w_t.2.2.2.2.2.2.2.2.1 v1.toNatClampNeg) + v2) then 99 else ((w_t.2.2.2.2.2.2.2.2.1 v1.toNatClampNeg) + v2)) (fun z26 => gi_n v1 5 (some (w_t.1, w_t.2.1, w_t.2.2.1, w_t.2.2.2.1, w_t.2.2.2.2.1, w_t.2.2.2.2.2.1, w_t.2.2.2.2.2.2.1, w_t.2.2.2.2.2.2.2.1, (upd w_t.2.2.2.2.2.2.2.2.1 v1.toNatClampNeg z26), w_t.2.2.2.2.2.2.2.2.2.1, w_t.2.2.2.2.2.2.2.2.2.2))))))
set_option maxHeartbeats 4000000 in
set_option maxRecDepth 100000 in
theorem b_X5_grieve_0 {p : Program} {l : Launch} {e : Env} {s : State} {m : MethodId} {args : Array Value} {below : List Frame} {meth : Method} {c : Code} {D : va_G} {cy : Nat → ClassId} {A : Nat → Prop} {q_t : Nat} {q_t_kind : Nat} {q_t_grief : Nat} {q_t_bears : Nat} {q_t_rota : Nat} {res : t_W}   {w_t : t_W} {v1 : Int32} {v2 : Int32} (C0 : cx_C cX5_grieve (none) 3 RX5 (.code yX5_grieve cX5_grieve 3 (none) :: wg_L) p s m args meth c D cy A)  (h : B_X5_grieve_0 w_t v1 v2 = some res) {H : Heap} {locs : List Loc} {ls : Array Slot} (hP : va_P D vwCl (wc_X5_grieve cy q_t q_t_kind q_t_grief q_t_bears q_t_rota w_t) H) (hD : va_D A (wc_X5_grieve cy q_t q_t_kind q_t_grief q_t_bears q_t_rota w_t)) (hS : va_S A s.heap H locs) (hl : lv_has ls 3 [(0, .ref q_t), (1, .int v1), (2, .int v2)]) : W p l e rm_X5_grieve s m args below meth c H locs 0 0 (qq_X5_grieve below args s D cy A q_t q_t_kind q_t_grief q_t_bears q_t_rota res) (F0 m 0 ls []) := by
  obtain ⟨hx, hb, hr, hml, hown, hts, hK, hlocks, hA⟩ := id C0
  unfold B_X5_grieve_0 at h
  refine lv_aload_n hx hb dX5_grieve_0 rfl (lv_at hl 0 rfl) ?_
  refine lv_iload_n hx hb dX5_grieve_1 rfl (lv_at hl 1 rfl) ?_
  obtain ⟨u2, hc2, h⟩ := bd_d h
  have hPc := hP.sub (ws' := wc_X5_has cy q_t q_t_kind q_t_grief q_t_bears q_t_rota w_t) [0, 1, 2, 3, 4] rfl
  have hDc := hD.sub (ws' := wc_X5_has cy q_t q_t_kind q_t_grief q_t_bears q_t_rota w_t) [0, 1, 2, 3, 4] (by decide) rfl
  refine cl_i (fun (u : Unit) => wc_X5_grieve cy q_t q_t_kind q_t_grief q_t_bears q_t_rota w_t) (va_runV (As := [.int v1]) (rest := []) (C := RX5) ⟨hx, hb, hml, hown, hts⟩ (c_X5_has l D cy H.size q_t q_t_kind q_t_grief q_t_bears q_t_rota w_t v1 hc2) ⟨callB_of 1 hts (wg_in k_376) rfl rfl rfl (hts _ (List.mem_cons_of_mem _ k_2)) (hts _ (List.mem_cons_of_mem _ k_433)) (by decide +kernel) ⟨by decide, by decide⟩, (hts _ (List.mem_cons_of_mem _ k_374)), (hts _ (List.mem_cons_of_mem _ k_375))⟩ ⟨st_blind, va_recv hK.1 hPc (ci := 5) (q0 := 0) rfl rfl, fun U hU hW => st_pre hK hPc hDc hU hW⟩ rfl rfl hl.1 rfl (lv_room (Nat.le_of_ble_eq_true rfl)) dX5_grieve_2 ⟨by decide, by decide⟩) hP hD hS hA [0, 1, 2, 3, 4] [] [0, 1, 2, 3, 4] rfl rfl (by decide) (by decide) (by decide) (fun _ => rfl) (fun r u H locs hw hP hD hS => ?_)
  obtain rfl := hw
  refine lv_if_eq (tgt := 27) hx hb dX5_grieve_5 (by decide) (fun c5 => ?_) (fun c5 => ?_)
  · replace h := it_p c5 h
    obtain rfl := Option.some.inj h
    exact W.vret hx hb hr (fun tt ht hW => ⟨⟨w_t, rfl, rfl, by rw [ht]; exact hP, kk_warm hW hK, hD⟩, hS.F ht⟩) hS.2.2 dX5_grieve_27
  · replace h := it_n c5 h
    refine lv_aload_n hx hb dX5_grieve_8 rfl (lv_at hl 0 rfl) ?_
    refine va_get (D := D) (ci := 5) (v := .ref q_t_grief) (C := RX5) (T := TX5) (N := 11) hx hb hts (fun w hw => List.mem_cons_of_mem _ (uw_X5 w hw)) hown hK.1 hP 0 rfl rfl 1 (by decide) (hts _ (List.mem_cons_of_mem _ k_33)) (fun _ h9 => h9) rfl dX5_grieve_9 ?_
    refine lv_iload_n hx hb dX5_grieve_12 rfl (lv_at hl 1 rfl) ?_
    refine lv_aload_n hx hb dX5_grieve_13 rfl (lv_at hl 0 rfl) ?_
    refine va_get (D := D) (ci := 5) (v := .ref q_t_grief) (C := RX5) (T := TX5) (N := 11) hx hb hts (fun w hw => List.mem_cons_of_mem _ (uw_X5 w hw)) hown hK.1 hP 0 rfl rfl 1 (by decide) (hts _ (List.mem_cons_of_mem _ k_33)) (fun _ h9 => h9) rfl dX5_grieve_14 ?_
    refine lv_iload_n hx hb dX5_grieve_17 rfl (lv_at hl 1 rfl) ?_
    obtain ⟨hi1, h⟩ := gi_d h
    refine va_iald hx hb hK.1 hP 2 1 rfl rfl hi1 dX5_grieve_18 ?_
    refine lv_iload_n hx hb dX5_grieve_19 rfl (lv_at hl 2 rfl) ?_
    refine lv_iadd hx hb dX5_grieve_20 ?_
    refine lv_bipush (v := 99) hx hb dX5_grieve_21 (by decide) ?_
    refine va_mmin (own := RX5) hx hb (by rw [hml]; exact hl.1.symm) hown (hts _ (List.mem_cons_of_mem _ k_418)) (hts _ (List.mem_cons_of_mem _ k_419)) (hts _ (List.mem_cons_of_mem _ k_14)) (hts _ (List.mem_cons_of_mem _ k_420)) (by decide) (Nat.le_of_ble_eq_true rfl) (by decide) (by decide) dX5_grieve_23 ?_
    refine lv_topi (fun z26 ez26 => ?_)
    replace h := nm_d ez26 h
    obtain ⟨hi2, h⟩ := gi_d h
    refine va_iast hx hb hK.1 hP hD hS 2 1 rfl rfl hi2 dX5_grieve_26 (fun H locs hP hD hS => ?_)
    have hP : va_P D vwCl (wc_X5_grieve cy q_t q_t_kind q_t_grief q_t_bears q_t_rota (w_t.1, w_t.2.1, w_t.2.2.1, w_t.2.2.2.1, w_t.2.2.2.2.1, w_t.2.2.2.2.2.1, w_t.2.2.2.2.2.2.1, w_t.2.2.2.2.2.2.2.1, (upd w_t.2.2.2.2.2.2.2.2.1 v1.toNatClampNeg z26), w_t.2.2.2.2.2.2.2.2.2.1, w_t.2.2.2.2.2.2.2.2.2.2)) H := hP
    have hD : va_D A (wc_X5_grieve cy q_t q_t_kind q_t_grief q_t_bears q_t_rota (w_t.1, w_t.2.1, w_t.2.2.1, w_t.2.2.2.1, w_t.2.2.2.2.1, w_t.2.2.2.2.2.1, w_t.2.2.2.2.2.2.1, w_t.2.2.2.2.2.2.2.1, (upd w_t.2.2.2.2.2.2.2.2.1 v1.toNatClampNeg z26), w_t.2.2.2.2.2.2.2.2.2.1, w_t.2.2.2.2.2.2.2.2.2.2)) := hD
    obtain rfl := Option.some.inj h
    exact W.vret hx hb hr (fun tt ht hW => ⟨⟨(w_t.1, w_t.2.1, w_t.2.2.1, w_t.2.2.2.1, w_t.2.2.2.2.1, w_t.2.2.2.2.2.1, w_t.2.2.2.2.2.2.1, w_t.2.2.2.2.2.2.2.1, (upd w_t.2.2.2.2.2.2.2.2.1 v1.toNatClampNeg z26), w_t.2.2.2.2.2.2.2.2.2.1, w_t.2.2.2.2.2.2.2.2.2.2), rfl, rfl, by rw [ht]; exact hP, kk_warm hW hK, hD⟩, hS.F ht⟩) hS.2.2 dX5_grieve_27
def M_X5_grieve    (w_t : t_W) (v1 : Int32) (v2 : Int32) : Option (t_W) := B_X5_grieve_0 w_t v1 v2
set_option maxHeartbeats 4000000 in
set_option maxRecDepth 100000 in
theorem c_X5_grieve (l : Launch) (D : va_G) (cy : Nat → ClassId) (sz : Nat) (q_t : Nat) (q_t_kind : Nat) (q_t_grief : Nat) (q_t_bears : Nat) (q_t_rota : Nat) (w_t : t_W) (v1 : Int32) (v2 : Int32)  {res : t_W} (h : M_X5_grieve w_t v1 v2 = some res) : ct_v l yX5_grieve (.code yX5_grieve cX5_grieve 3 (none) :: wg_L) rm_X5_grieve D cy sz (wc_X5_grieve cy q_t q_t_kind q_t_grief q_t_bears q_t_rota w_t) [.ref q_t, .int v1, .int v2] (fun (u : t_W) => u = res) (fun (u : t_W) => wc_X5_grieve cy q_t q_t_kind q_t_grief q_t_bears q_t_rota u) := by
  refine Met.ofW (cc := cX5_grieve) (maxL := 3) (ret := none) (by decide) rfl ?_
  intro p e s m args below meth c s₁ B hml hv
  obtain ⟨rfl, hsz, hP, hK, hD0⟩ := hv
  subst hsz
  have hD := hD0.self (sz := s.heap.size)
  have hl := lv_entry ([.ref q_t, .int v1, .int v2]) (n := 3) (Nat.le_of_ble_eq_true rfl)
  rw [lg_entry_eq]
  have C0 : cx_C cX5_grieve (none) 3 RX5 (.code yX5_grieve cX5_grieve 3 (none) :: wg_L) p s m [.ref q_t, .int v1, .int v2].toArray meth c D cy (va_A (wc_X5_grieve cy q_t q_t_kind q_t_grief q_t_bears q_t_rota w_t) s.heap.size) := ⟨B.exec, B.bytes, B.returns, hml, findClass_of_methodNamed B.named, atoms_spec (ws := .code yX5_grieve cX5_grieve 3 (none) :: wg_L) B.pre, hK, B.notSynchronized, fun q h => Or.inr h⟩
  exact b_X5_grieve_0 C0 h hP hD va_S.rf (lv_sub hl [0, 1, 2] rfl)
/-! ### BarrowGrief$World.spill(II)V -/
abbrev wc_X5_spill (cy : Nat → ClassId) (q_t q_t_kind q_t_grief q_t_bears q_t_rota : Nat) (w_t : t_W) : va_W := [(q_t, .inr (5, [.ref q_t_kind, .ref q_t_grief, .ref q_t_bears, .ref q_t_rota, .int w_t.1, .int w_t.2.1, .int w_t.2.2.1, .int w_t.2.2.2.1, .int w_t.2.2.2.2.1, .int w_t.2.2.2.2.2.1, .int w_t.2.2.2.2.2.2.1])), (q_t_kind, .inl (cy 1, 5, .inl w_t.2.2.2.2.2.2.2.1)), (q_t_grief, .inl (cy 1, 5, .inl w_t.2.2.2.2.2.2.2.2.1)), (q_t_bears, .inl (cy 1, 5, .inl w_t.2.2.2.2.2.2.2.2.2.1)), (q_t_rota, .inl (cy 1, 8, .inl w_t.2.2.2.2.2.2.2.2.2.2))]
abbrev rm_X5_spill : Room := { frames := 2, cells := 0, slots := 0, locals := 43 }
abbrev qq_X5_spill (below : List Frame) (args : Array Value) (s : State) (D : va_G) (cy : Nat → ClassId) (A : Nat → Prop) (q_t : Nat) (q_t_kind : Nat) (q_t_grief : Nat) (q_t_bears : Nat) (q_t_rota : Nat) (res : t_W) : State → Prop := MQ below (va_Qv (fun (u : t_W) => u = res) (fun u t => st_B D cy A ((fun (u : t_W) => wc_X5_spill cy q_t q_t_kind q_t_grief q_t_bears q_t_rota u) u) t) A) args s 0 0 A
def B_X5_spill_15 (k15 : t_W → Int32 → Int32 → Int32 → Option (t_W))  (f : Nat) (w_t : t_W) (v2 : Int32) (v3 : Int32) (v4 : Int32) : Option (t_W) := if v2 ≤ v4 then (some w_t) else (if w_t.1 ≤ (v3 + 1) then ((M_X5_grieve w_t 0 1).bind (fun u42 => k15 u42 v2 0 (v4 + 1))) else (nm_v (v3 + 1) (fun v3_38 => (M_X5_grieve w_t v3_38 1).bind (fun u42 => k15 u42 v2 v3_38 (v4 + 1)))))
set_option maxHeartbeats 4000000 in
set_option maxRecDepth 100000 in
theorem b_X5_spill_15 {p : Program} {l : Launch} {e : Env} {s : State} {m : MethodId} {args : Array Value} {below : List Frame} {meth : Method} {c : Code} {D : va_G} {cy : Nat → ClassId} {A : Nat → Prop} {q_t : Nat} {q_t_kind : Nat} {q_t_grief : Nat} {q_t_bears : Nat} {q_t_rota : Nat} {res : t_W} {k15 : t_W → Int32 → Int32 → Int32 → Option (t_W)} {f : Nat} {w_t : t_W} {v2 : Int32} {v3 : Int32} {v4 : Int32} (C0 : cx_C cX5_spill (none) 5 RX5 (.code yX5_spill cX5_spill 5 (none) :: wg_L) p s m args meth c D cy A) (hk15 : ∀ (w_t : t_W) (v2 : Int32) (v3 : Int32) (v4 : Int32), k15 w_t v2 v3 v4 = some res → ∀ (H : Heap) (locs : List Loc) (ls : Array Slot), va_P D vwCl (wc_X5_spill cy q_t q_t_kind q_t_grief q_t_bears q_t_rota w_t) H → va_D A (wc_X5_spill cy q_t q_t_kind q_t_grief q_t_bears q_t_rota w_t) → va_S A s.heap H locs → lv_has ls 5 [(0, .ref q_t), (2, .int v2), (3, .int v3), (4, .int v4)] → W p l e rm_X5_spill s m args below meth c H locs 0 0 (qq_X5_spill below args s D cy A q_t q_t_kind q_t_grief q_t_bears q_t_rota res) (F0 m 15 ls [])) (h : B_X5_spill_15 k15 f w_t v2 v3 v4 = some res) {H : Heap} {locs : List Loc} {ls : Array Slot} (hP : va_P D vwCl (wc_X5_spill cy q_t q_t_kind q_t_grief q_t_bears q_t_rota w_t) H) (hD : va_D A (wc_X5_spill cy q_t q_t_kind q_t_grief q_t_bears q_t_rota w_t)) (hS : va_S A s.heap H locs) (hl : lv_has ls 5 [(0, .ref q_t), (2, .int v2), (3, .int v3), (4, .int v4)]) : W p l e rm_X5_spill s m args below meth c H locs 0 0 (qq_X5_spill below args s D cy A q_t q_t_kind q_t_grief q_t_bears q_t_rota res) (F0 m 15 ls []) := by
  obtain ⟨hx, hb, hr, hml, hown, hts, hK, hlocks, hA⟩ := id C0
  unfold B_X5_spill_15 at h
  refine lv_iload hx hb dX5_spill_15 (lv_at hl 3 rfl) ?_
  refine lv_iload_n hx hb dX5_spill_17 rfl (lv_at hl 1 rfl) ?_
  refine lv_icmp_ge (tgt := 51) hx hb dX5_spill_18 (by decide) (fun c18 => ?_) (fun c18 => ?_)
  · replace h := it_p c18 h
    obtain rfl := Option.some.inj h
    exact W.vret hx hb hr (fun tt ht hW => ⟨⟨w_t, rfl, rfl, by rw [ht]; exact hP, kk_warm hW hK, hD⟩, hS.F ht⟩) hS.2.2 dX5_spill_51
  · replace h := it_n c18 h
    refine lv_iload_n hx hb dX5_spill_21 rfl (lv_at hl 2 rfl) ?_
    refine lv_iconst (v := 1) hx hb dX5_spill_22 (by decide) ?_
    refine lv_iadd hx hb dX5_spill_23 ?_
    refine lv_aload_n hx hb dX5_spill_24 rfl (lv_at hl 0 rfl) ?_
    refine va_get (D := D) (ci := 5) (v := .int w_t.1) (C := RX5) (T := TX5) (N := 11) hx hb hts (fun w hw => List.mem_cons_of_mem _ (uw_X5 w hw)) hown hK.1 hP 0 rfl rfl 4 (by decide) (hts _ (List.mem_cons_of_mem _ k_41)) (fun _ h9 => h9) rfl dX5_spill_25 ?_
    refine lv_icmp_ge (tgt := 37) hx hb dX5_spill_28 (by decide) (fun c28 => ?_) (fun c28 => ?_)
    · replace h := it_p c28 h
      refine lv_iconst (v := 0) hx hb dX5_spill_37 (by decide) ?_
      refine lv_istore_n (lv' := [(3, .int 0), (0, .ref q_t), (2, .int v2), (4, .int v4)]) hx hb dX5_spill_38 rfl hl (by decide) rfl (fun ls hl => ?_)
      refine lv_aload_n hx hb dX5_spill_39 rfl (lv_at hl 1 rfl) ?_
      refine lv_iload_n hx hb dX5_spill_40 rfl (lv_at hl 0 rfl) ?_
      refine lv_iconst (v := 1) hx hb dX5_spill_41 (by decide) ?_
      obtain ⟨u42, hc42, h⟩ := bd_d h
      have hPc := hP.sub (ws' := wc_X5_grieve cy q_t q_t_kind q_t_grief q_t_bears q_t_rota w_t) [0, 1, 2, 3, 4] rfl
      have hDc := hD.sub (ws' := wc_X5_grieve cy q_t q_t_kind q_t_grief q_t_bears q_t_rota w_t) [0, 1, 2, 3, 4] (by decide) rfl
      refine cl_v (fun (u : t_W) => wc_X5_spill cy q_t q_t_kind q_t_grief q_t_bears q_t_rota u) (va_runV (As := [.int 0, .int 1]) (rest := []) (C := RX5) ⟨hx, hb, hml, hown, hts⟩ (c_X5_grieve l D cy H.size q_t q_t_kind q_t_grief q_t_bears q_t_rota w_t 0 1 hc42) ⟨callB_of 2 hts (wg_in k_481) rfl rfl rfl (hts _ (List.mem_cons_of_mem _ k_2)) (hts _ (List.mem_cons_of_mem _ k_478)) (by decide +kernel) ⟨by decide, by decide⟩, (hts _ (List.mem_cons_of_mem _ k_479)), (hts _ (List.mem_cons_of_mem _ k_480))⟩ ⟨st_blind, va_recv hK.1 hPc (ci := 5) (q0 := 0) rfl rfl, fun U hU hW => st_pre hK hPc hDc hU hW⟩ rfl rfl hl.1 rfl (lv_room (Nat.le_of_ble_eq_true rfl)) dX5_spill_42 ⟨by decide, by decide⟩) hP hD hS hA [0, 1, 2, 3, 4] [] [0, 1, 2, 3, 4] rfl rfl (by decide) (by decide) (by decide) (fun _ => rfl) (fun u H locs hw hP hD hS => ?_)
      obtain rfl := hw
      have hP : va_P D vwCl (wc_X5_spill cy q_t q_t_kind q_t_grief q_t_bears q_t_rota u42) H := hP
      have hD : va_D A (wc_X5_spill cy q_t q_t_kind q_t_grief q_t_bears q_t_rota u42) := hD
      refine lv_iinc (v := (v4 + 1)) (lv' := [(4, .int (v4 + 1)), (3, .int 0), (0, .ref q_t), (2, .int v2)]) hx hb dX5_spill_45 hl (k := 3) rfl (by rfl) (by decide) rfl (fun ls hl => ?_)
      refine lv_goto (tgt := 15) hx hb dX5_spill_48 (by decide) ?_
      exact hk15 _ _ _ _ h _ _ _ hP hD hS (lv_sub hl [2, 3, 1, 0] rfl)
    · replace h := it_n c28 h
      refine lv_iload_n hx hb dX5_spill_31 rfl (lv_at hl 2 rfl) ?_
      refine lv_iconst (v := 1) hx hb dX5_spill_32 (by decide) ?_
      refine lv_iadd hx hb dX5_spill_33 ?_
      refine lv_goto (tgt := 38) hx hb dX5_spill_34 (by decide) ?_
      refine lv_topi (fun v3_38 ev3_38 => ?_)
      replace h := nm_d ev3_38 h
      refine lv_istore_n (lv' := [(3, .int v3_38), (0, .ref q_t), (2, .int v2), (4, .int v4)]) hx hb dX5_spill_38 rfl hl (by decide) rfl (fun ls hl => ?_)
      refine lv_aload_n hx hb dX5_spill_39 rfl (lv_at hl 1 rfl) ?_
      refine lv_iload_n hx hb dX5_spill_40 rfl (lv_at hl 0 rfl) ?_
      refine lv_iconst (v := 1) hx hb dX5_spill_41 (by decide) ?_
      obtain ⟨u42, hc42, h⟩ := bd_d h
      have hPc := hP.sub (ws' := wc_X5_grieve cy q_t q_t_kind q_t_grief q_t_bears q_t_rota w_t) [0, 1, 2, 3, 4] rfl
      have hDc := hD.sub (ws' := wc_X5_grieve cy q_t q_t_kind q_t_grief q_t_bears q_t_rota w_t) [0, 1, 2, 3, 4] (by decide) rfl
      refine cl_v (fun (u : t_W) => wc_X5_spill cy q_t q_t_kind q_t_grief q_t_bears q_t_rota u) (va_runV (As := [.int v3_38, .int 1]) (rest := []) (C := RX5) ⟨hx, hb, hml, hown, hts⟩ (c_X5_grieve l D cy H.size q_t q_t_kind q_t_grief q_t_bears q_t_rota w_t v3_38 1 hc42) ⟨callB_of 2 hts (wg_in k_481) rfl rfl rfl (hts _ (List.mem_cons_of_mem _ k_2)) (hts _ (List.mem_cons_of_mem _ k_478)) (by decide +kernel) ⟨by decide, by decide⟩, (hts _ (List.mem_cons_of_mem _ k_479)), (hts _ (List.mem_cons_of_mem _ k_480))⟩ ⟨st_blind, va_recv hK.1 hPc (ci := 5) (q0 := 0) rfl rfl, fun U hU hW => st_pre hK hPc hDc hU hW⟩ rfl rfl hl.1 rfl (lv_room (Nat.le_of_ble_eq_true rfl)) dX5_spill_42 ⟨by decide, by decide⟩) hP hD hS hA [0, 1, 2, 3, 4] [] [0, 1, 2, 3, 4] rfl rfl (by decide) (by decide) (by decide) (fun _ => rfl) (fun u H locs hw hP hD hS => ?_)
      obtain rfl := hw
      have hP : va_P D vwCl (wc_X5_spill cy q_t q_t_kind q_t_grief q_t_bears q_t_rota u42) H := hP
      have hD : va_D A (wc_X5_spill cy q_t q_t_kind q_t_grief q_t_bears q_t_rota u42) := hD
      refine lv_iinc (v := (v4 + 1)) (lv' := [(4, .int (v4 + 1)), (3, .int v3_38), (0, .ref q_t), (2, .int v2)]) hx hb dX5_spill_45 hl (k := 3) rfl (by rfl) (by decide) rfl (fun ls hl => ?_)
      refine lv_goto (tgt := 15) hx hb dX5_spill_48 (by decide) ?_
      exact hk15 _ _ _ _ h _ _ _ hP hD hS (lv_sub hl [2, 3, 1, 0] rfl)
def M_X5_spill_15   : Nat → t_W → Int32 → Int32 → Int32 → Option (t_W)
  | 0, _, _, _, _ => none
  | f + 1, w_t, v2, v3, v4 => B_X5_spill_15 (M_X5_spill_15 f) f w_t v2 v3 v4
theorem t_X5_spill_15 {p : Program} {l : Launch} {e : Env} {s : State} {m : MethodId} {args : Array Value} {below : List Frame} {meth : Method} {c : Code} {D : va_G} {cy : Nat → ClassId} {A : Nat → Prop} {q_t : Nat} {q_t_kind : Nat} {q_t_grief : Nat} {q_t_bears : Nat} {q_t_rota : Nat} {res : t_W}  (C0 : cx_C cX5_spill (none) 5 RX5 (.code yX5_spill cX5_spill 5 (none) :: wg_L) p s m args meth c D cy A)  : ∀ (f : Nat) (w_t : t_W) (v2 : Int32) (v3 : Int32) (v4 : Int32), M_X5_spill_15 f w_t v2 v3 v4 = some res → ∀ (H : Heap) (locs : List Loc) (ls : Array Slot), va_P D vwCl (wc_X5_spill cy q_t q_t_kind q_t_grief q_t_bears q_t_rota w_t) H → va_D A (wc_X5_spill cy q_t q_t_kind q_t_grief q_t_bears q_t_rota w_t) → va_S A s.heap H locs → lv_has ls 5 [(0, .ref q_t), (2, .int v2), (3, .int v3), (4, .int v4)] → W p l e rm_X5_spill s m args below meth c H locs 0 0 (qq_X5_spill below args s D cy A q_t q_t_kind q_t_grief q_t_bears q_t_rota res) (F0 m 15 ls []) := by
  intro f
  induction f with
  | zero =>
    intro _ _ _ _ h
    exact absurd (show (none : Option (t_W)) = some res from h) (fun q => by cases q)
  | succ f ih =>
    intro w_t v2 v3 v4 h H locs ls hP hD hS hl
    have h : B_X5_spill_15 (M_X5_spill_15 f) f w_t v2 v3 v4 = some res := h
    exact b_X5_spill_15 C0 ih h hP hD hS hl
def B_X5_spill_0   (f : Nat) (w_t : t_W) (v1 : Int32) (v2 : Int32) : Option (t_W) := nm_v (w_t.2.2.2.2.2.2.1 + v2) (fun z7 => M_X5_spill_15 f (w_t.1, w_t.2.1, w_t.2.2.1, w_t.2.2.2.1, w_t.2.2.2.2.1, w_t.2.2.2.2.2.1, z7, w_t.2.2.2.2.2.2.2.1, w_t.2.2.2.2.2.2.2.2.1, w_t.2.2.2.2.2.2.2.2.2.1, w_t.2.2.2.2.2.2.2.2.2.2) v2 v1 0)
set_option maxHeartbeats 4000000 in
set_option maxRecDepth 100000 in
theorem b_X5_spill_0 {p : Program} {l : Launch} {e : Env} {s : State} {m : MethodId} {args : Array Value} {below : List Frame} {meth : Method} {c : Code} {D : va_G} {cy : Nat → ClassId} {A : Nat → Prop} {q_t : Nat} {q_t_kind : Nat} {q_t_grief : Nat} {q_t_bears : Nat} {q_t_rota : Nat} {res : t_W}  {f : Nat} {w_t : t_W} {v1 : Int32} {v2 : Int32} (C0 : cx_C cX5_spill (none) 5 RX5 (.code yX5_spill cX5_spill 5 (none) :: wg_L) p s m args meth c D cy A)  (h : B_X5_spill_0 f w_t v1 v2 = some res) {H : Heap} {locs : List Loc} {ls : Array Slot} (hP : va_P D vwCl (wc_X5_spill cy q_t q_t_kind q_t_grief q_t_bears q_t_rota w_t) H) (hD : va_D A (wc_X5_spill cy q_t q_t_kind q_t_grief q_t_bears q_t_rota w_t)) (hS : va_S A s.heap H locs) (hl : lv_has ls 5 [(0, .ref q_t), (1, .int v1), (2, .int v2)]) : W p l e rm_X5_spill s m args below meth c H locs 0 0 (qq_X5_spill below args s D cy A q_t q_t_kind q_t_grief q_t_bears q_t_rota res) (F0 m 0 ls []) := by
  obtain ⟨hx, hb, hr, hml, hown, hts, hK, hlocks, hA⟩ := id C0
  unfold B_X5_spill_0 at h
  refine lv_aload_n hx hb dX5_spill_0 rfl (lv_at hl 0 rfl) ?_
  refine lv_dup hx hb dX5_spill_1 rfl ?_
  refine va_get (D := D) (ci := 5) (v := .int w_t.2.2.2.2.2.2.1) (C := RX5) (T := TX5) (N := 11) hx hb hts (fun w hw => List.mem_cons_of_mem _ (uw_X5 w hw)) hown hK.1 hP 0 rfl rfl 10 (by decide) (hts _ (List.mem_cons_of_mem _ k_57)) (fun _ h9 => h9) rfl dX5_spill_2 ?_
  refine lv_iload_n hx hb dX5_spill_5 rfl (lv_at hl 2 rfl) ?_
  refine lv_iadd hx hb dX5_spill_6 ?_
  refine lv_topi (fun z7 ez7 => ?_)
  replace h := nm_d ez7 h
  refine va_put (D := D) (ci := 5) (v := .int z7) (ty := .int) (C := RX5) (T := TX5) (N := 11) hx hb hts (fun w hw => List.mem_cons_of_mem _ (uw_X5 w hw)) tyX5 tyX5_ok nmX5 hown hK.1 hP hD hS 0 rfl rfl 10 (by decide) (hts _ (List.mem_cons_of_mem _ k_57)) (fun _ h9 => h9) rfl (by decide +kernel) rfl rfl (Nat.le_of_ble_eq_true rfl) dX5_spill_7 (fun H locs hP hD hS => ?_)
  have hP : va_P D vwCl (wc_X5_spill cy q_t q_t_kind q_t_grief q_t_bears q_t_rota (w_t.1, w_t.2.1, w_t.2.2.1, w_t.2.2.2.1, w_t.2.2.2.2.1, w_t.2.2.2.2.2.1, z7, w_t.2.2.2.2.2.2.2.1, w_t.2.2.2.2.2.2.2.2.1, w_t.2.2.2.2.2.2.2.2.2.1, w_t.2.2.2.2.2.2.2.2.2.2)) H := hP
  have hD : va_D A (wc_X5_spill cy q_t q_t_kind q_t_grief q_t_bears q_t_rota (w_t.1, w_t.2.1, w_t.2.2.1, w_t.2.2.2.1, w_t.2.2.2.2.1, w_t.2.2.2.2.2.1, z7, w_t.2.2.2.2.2.2.2.1, w_t.2.2.2.2.2.2.2.2.1, w_t.2.2.2.2.2.2.2.2.2.1, w_t.2.2.2.2.2.2.2.2.2.2)) := hD
  refine lv_iload_n hx hb dX5_spill_10 rfl (lv_at hl 1 rfl) ?_
  refine lv_istore_n (lv' := [(3, .int v1), (0, .ref q_t), (1, .int v1), (2, .int v2)]) hx hb dX5_spill_11 rfl hl (by decide) rfl (fun ls hl => ?_)
  refine lv_iconst (v := 0) hx hb dX5_spill_12 (by decide) ?_
  refine lv_istore (lv' := [(4, .int 0), (3, .int v1), (0, .ref q_t), (1, .int v1), (2, .int v2)]) hx hb dX5_spill_13 hl (by decide) rfl (fun ls hl => ?_)
  exact t_X5_spill_15 C0 _ _ _ _ _ h _ _ _ hP hD hS (lv_sub hl [2, 4, 1, 0] rfl)
def M_X5_spill   (f : Nat) (w_t : t_W) (v1 : Int32) (v2 : Int32) : Option (t_W) := B_X5_spill_0 f w_t v1 v2
set_option maxHeartbeats 4000000 in
set_option maxRecDepth 100000 in
theorem c_X5_spill (l : Launch) (D : va_G) (cy : Nat → ClassId) (sz : Nat) (q_t : Nat) (q_t_kind : Nat) (q_t_grief : Nat) (q_t_bears : Nat) (q_t_rota : Nat) (w_t : t_W) (v1 : Int32) (v2 : Int32) {f : Nat} {res : t_W} (h : M_X5_spill f w_t v1 v2 = some res) : ct_v l yX5_spill (.code yX5_spill cX5_spill 5 (none) :: wg_L) rm_X5_spill D cy sz (wc_X5_spill cy q_t q_t_kind q_t_grief q_t_bears q_t_rota w_t) [.ref q_t, .int v1, .int v2] (fun (u : t_W) => u = res) (fun (u : t_W) => wc_X5_spill cy q_t q_t_kind q_t_grief q_t_bears q_t_rota u) := by
  refine Met.ofW (cc := cX5_spill) (maxL := 5) (ret := none) (by decide) rfl ?_
  intro p e s m args below meth c s₁ B hml hv
  obtain ⟨rfl, hsz, hP, hK, hD0⟩ := hv
  subst hsz
  have hD := hD0.self (sz := s.heap.size)
  have hl := lv_entry ([.ref q_t, .int v1, .int v2]) (n := 5) (Nat.le_of_ble_eq_true rfl)
  rw [lg_entry_eq]
  have C0 : cx_C cX5_spill (none) 5 RX5 (.code yX5_spill cX5_spill 5 (none) :: wg_L) p s m [.ref q_t, .int v1, .int v2].toArray meth c D cy (va_A (wc_X5_spill cy q_t q_t_kind q_t_grief q_t_bears q_t_rota w_t) s.heap.size) := ⟨B.exec, B.bytes, B.returns, hml, findClass_of_methodNamed B.named, atoms_spec (ws := .code yX5_spill cX5_spill 5 (none) :: wg_L) B.pre, hK, B.notSynchronized, fun q h => Or.inr h⟩
  exact b_X5_spill_0 C0 h hP hD va_S.rf (lv_sub hl [0, 1, 2] rfl)
