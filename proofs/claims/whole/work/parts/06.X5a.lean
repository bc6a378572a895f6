/-! ### BarrowGrief.within(III)Z -/
abbrev wc_X6_within (cy : Nat → ClassId) : va_W := []
abbrev rm_X6_within : Room := { frames := 0, cells := 0, slots := 0, locals := 0 }
abbrev qq_X6_within (below : List Frame) (args : Array Value) (s : State) (D : va_G) (cy : Nat → ClassId) (A : Nat → Prop)  (res : Int32) : State → Prop := MQ below (va_Qi (fun r (_ : Unit) => r = res) (fun u t => st_B D cy A ((fun (u : Unit) => wc_X6_within cy ) u) t) A) args s 0 0 A
def B_X6_within_0     (v0 : Int32) (v1 : Int32) (v2 : Int32) : Option (Int32) := if v0 < v1 then (some 0) else (if v2 < v0 then (some 0) else (some 1))
set_option maxHeartbeats 4000000 in
set_option maxRecDepth 100000 in
theorem b_X6_within_0 {p : Program} {l : Launch} {e : Env} {s : State} {m : MethodId} {args : Array Value} {below : List Frame} {meth : Method} {c : Code} {D : va_G} {cy : Nat → ClassId} {A : Nat → Prop}  {res : Int32}    {v0 : Int32} {v1 : Int32} {v2 : Int32} (C0 : cx_C cX6_within ((some .boolean)) 3 RX6 (.code yX6_within cX6_within 3 ((some .boolean)) :: wg_L) p s m args meth c D cy A)  (h : B_X6_within_0 v0 v1 v2 = some res) {H : Heap} {locs : List Loc} {ls : Array Slot} (hP : va_P D vwCl (wc_X6_within cy ) H) (hD : va_D A (wc_X6_within cy )) (hS : va_S A s.heap H locs) (hl : lv_has ls 3 [(0, .int v0), (1, .int v1), (2, .int v2)]) : W p l e rm_X6_within s m args below meth c H locs 0 0 (qq_X6_within below args s D cy A  res) (F0 m 0 ls []) := by
  obtain ⟨hx, hb, hr, hml, hown, hts, hK, hlocks, hA⟩ := id C0
  unfold B_X6_within_0 at h
  refine lv_iload_n hx hb dX6_within_0 rfl (lv_at hl 0 rfl) ?_
  refine lv_iload_n hx hb dX6_within_1 rfl (lv_at hl 1 rfl) ?_
  refine lv_icmp_lt (tgt := 14) hx hb dX6_within_2 (by decide) (fun c2 => ?_) (fun c2 => ?_)
  · replace h := it_p c2 h
    refine lv_iconst (v := 0) hx hb dX6_within_14 (by decide) ?_
    obtain rfl := Option.some.inj h
    exact W.zret (v := 0) hx hb hr (by decide) (fun tt ht hW => ⟨⟨0, (), rfl, rfl, by rw [ht]; exact hP, kk_warm hW hK, hD⟩, hS.F ht⟩) hS.2.2 dX6_within_15
  · replace h := it_n c2 h
    refine lv_iload_n hx hb dX6_within_5 rfl (lv_at hl 0 rfl) ?_
    refine lv_iload_n hx hb dX6_within_6 rfl (lv_at hl 2 rfl) ?_
    refine lv_icmp_gt (tgt := 14) hx hb dX6_within_7 (by decide) (fun c7 => ?_) (fun c7 => ?_)
    · replace h := it_p c7 h
      refine lv_iconst (v := 0) hx hb dX6_within_14 (by decide) ?_
      obtain rfl := Option.some.inj h
      exact W.zret (v := 0) hx hb hr (by decide) (fun tt ht hW => ⟨⟨0, (), rfl, rfl, by rw [ht]; exact hP, kk_warm hW hK, hD⟩, hS.F ht⟩) hS.2.2 dX6_within_15
    · replace h := it_n c7 h
      refine lv_iconst (v := 1) hx hb dX6_within_10 (by decide) ?_
      refine lv_goto (tgt := 15) hx hb dX6_within_11 (by decide) ?_
      obtain rfl := Option.some.inj h
      exact W.zret (v := 1) hx hb hr (by decide) (fun tt ht hW => ⟨⟨1, (), rfl, rfl, by rw [ht]; exact hP, kk_warm hW hK, hD⟩, hS.F ht⟩) hS.2.2 dX6_within_15
def M_X6_within     (v0 : Int32) (v1 : Int32) (v2 : Int32) : Option (Int32) := B_X6_within_0 v0 v1 v2
set_option maxHeartbeats 4000000 in
set_option maxRecDepth 100000 in
theorem c_X6_within (l : Launch) (D : va_G) (cy : Nat → ClassId) (sz : Nat)  (v0 : Int32) (v1 : Int32) (v2 : Int32)  {res : Int32} (h : M_X6_within v0 v1 v2 = some res) : ct_i l yX6_within (.code yX6_within cX6_within 3 ((some .boolean)) :: wg_L) rm_X6_within D cy sz (wc_X6_within cy ) [.int v0, .int v1, .int v2] (fun r (_ : Unit) => r = res) (fun (u : Unit) => wc_X6_within cy ) := by
  refine Met.ofW (cc := cX6_within) (maxL := 3) (ret := (some .boolean)) (by decide) rfl ?_
  intro p e s m args below meth c s₁ B hml hv
  obtain ⟨rfl, hsz, hP, hK, hD0⟩ := hv
  subst hsz
  have hD := hD0.self (sz := s.heap.size)
  have hl := lv_entry ([.int v0, .int v1, .int v2]) (n := 3) (Nat.le_of_ble_eq_true rfl)
  rw [lg_entry_eq]
  have C0 : cx_C cX6_within ((some .boolean)) 3 RX6 (.code yX6_within cX6_within 3 ((some .boolean)) :: wg_L) p s m [.int v0, .int v1, .int v2].toArray meth c D cy (va_A (wc_X6_within cy ) s.heap.size) := ⟨B.exec, B.bytes, B.returns, hml, findClass_of_methodNamed B.named, atoms_spec (ws := .code yX6_within cX6_within 3 ((some .boolean)) :: wg_L) B.pre, hK, B.notSynchronized, fun q h => Or.inr h⟩
  exact b_X6_within_0 C0 h hP hD va_S.rf (lv_sub hl [0, 1, 2] rfl)
/-! ### BarrowGrief$World.clear()V -/
abbrev wc_X5_clear (cy : Nat → ClassId) (q_t q_t_kind q_t_grief q_t_bears q_t_rota : Nat) (w_t : s_W) : va_W := [(q_t, .inr (5, [.ref q_t_kind, .ref q_t_grief, .ref q_t_bears, .ref q_t_rota, .int w_t.1, .int w_t.2.1, .int w_t.2.2.1, .int w_t.2.2.2.1, .int w_t.2.2.2.2.1, .int w_t.2.2.2.2.2.1, .int w_t.2.2.2.2.2.2.1])), (q_t_kind, .inl (cy 1, 5, .inl w_t.2.2.2.2.2.2.2.1)), (q_t_grief, .inl (cy 1, 5, .inl w_t.2.2.2.2.2.2.2.2.1)), (q_t_bears, .inl (cy 1, 5, .inl w_t.2.2.2.2.2.2.2.2.2.1)), (q_t_rota, .inl (cy 1, 8, .inl w_t.2.2.2.2.2.2.2.2.2.2))]
abbrev rm_X5_clear : Room := { frames := 0, cells := 0, slots := 0, locals := 0 }
abbrev qq_X5_clear (below : List Frame) (args : Array Value) (s : State) (D : va_G) (cy : Nat → ClassId) (A : Nat → Prop) (q_t : Nat) (q_t_kind : Nat) (q_t_grief : Nat) (q_t_bears : Nat) (q_t_rota : Nat) (res : s_W) : State → Prop := MQ below (va_Qv (fun (u : s_W) => u = res) (fun u t => st_B D cy A ((fun (u : s_W) => wc_X5_clear cy q_t q_t_kind q_t_grief q_t_bears q_t_rota u) u) t) A) args s 0 0 A
def B_X5_clear_0    (w_t : s_W)  : Option (s_W) := some (0, 0, 30, 0, 0, 0, 0, w_t.2.2.2.2.2.2.2.1, w_t.2.2.2.2.2.2.2.2.1, w_t.2.2.2.2.2.2.2.2.2.1, w_t.2.2.2.2.2.2.2.2.2.2)
set_option maxHeartbeats 4000000 in
set_option maxRecDepth 100000 in
theorem b_X5_clear_0 {p : Program} {l : Launch} {e : Env} {s : State} {m : MethodId} {args : Array Value} {below : List Frame} {meth : Method} {c : Code} {D : va_G} {cy : Nat → ClassId} {A : Nat → Prop} {q_t : Nat} {q_t_kind : Nat} {q_t_grief : Nat} {q_t_bears : Nat} {q_t_rota : Nat} {res : s_W}   {w_t : s_W}  (C0 : cx_C cX5_clear (none) 1 RX5 (.code yX5_clear cX5_clear 1 (none) :: wg_L) p s m args meth c D cy A)  (h : B_X5_clear_0 w_t = some res) {H : Heap} {locs : List Loc} {ls : Array Slot} (hP : va_P D vwCl (wc_X5_clear cy q_t q_t_kind q_t_grief q_t_bears q_t_rota w_t) H) (hD : va_D A (wc_X5_clear cy q_t q_t_kind q_t_grief q_t_bears q_t_rota w_t)) (hS : va_S A s.heap H locs) (hl : lv_has ls 1 [(0, .ref q_t)]) : W p l e rm_X5_clear s m args below meth c H locs 0 0 (qq_X5_clear below args s D cy A q_t q_t_kind q_t_grief q_t_bears q_t_rota res) (F0 m 0 ls []) := by
  obtain ⟨hx, hb, hr, hml, hown, hts, hK, hlocks, hA⟩ := id C0
  unfold B_X5_clear_0 at h
  refine lv_aload_n hx hb dX5_clear_0 rfl (lv_at hl 0 rfl) ?_
  refine lv_iconst (v := 0) hx hb dX5_clear_1 (by decide) ?_
  refine va_put (D := D) (ci := 5) (v := .int 0) (ty := .int) (C := RX5) (T := TX5) (N := 11) hx hb hts (fun w hw => List.mem_cons_of_mem _ (uw_X5 w hw)) tyX5 tyX5_ok nmX5 hown hK.1 hP hD hS 0 rfl rfl 4 (by decide) (hts _ (List.mem_cons_of_mem _ k_41)) (fun _ h9 => h9) rfl (by decide +kernel) rfl rfl (Nat.le_of_ble_eq_true rfl) dX5_clear_2 (fun H locs hP hD hS => ?_)
  have hP : va_P D vwCl (wc_X5_clear cy q_t q_t_kind q_t_grief q_t_bears q_t_rota (0, w_t.2.1, w_t.2.2.1, w_t.2.2.2.1, w_t.2.2.2.2.1, w_t.2.2.2.2.2.1, w_t.2.2.2.2.2.2.1, w_t.2.2.2.2.2.2.2.1, w_t.2.2.2.2.2.2.2.2.1, w_t.2.2.2.2.2.2.2.2.2.1, w_t.2.2.2.2.2.2.2.2.2.2)) H := hP
  have hD : va_D A (wc_X5_clear cy q_t q_t_kind q_t_grief q_t_bears q_t_rota (0, w_t.2.1, w_t.2.2.1, w_t.2.2.2.1, w_t.2.2.2.2.1, w_t.2.2.2.2.2.1, w_t.2.2.2.2.2.2.1, w_t.2.2.2.2.2.2.2.1, w_t.2.2.2.2.2.2.2.2.1, w_t.2.2.2.2.2.2.2.2.2.1, w_t.2.2.2.2.2.2.2.2.2.2)) := hD
  refine lv_aload_n hx hb dX5_clear_5 rfl (lv_at hl 0 rfl) ?_
  refine lv_iconst (v := 0) hx hb dX5_clear_6 (by decide) ?_
  refine va_put (D := D) (ci := 5) (v := .int 0) (ty := .int) (C := RX5) (T := TX5) (N := 11) hx hb hts (fun w hw => List.mem_cons_of_mem _ (uw_X5 w hw)) tyX5 tyX5_ok nmX5 hown hK.1 hP hD hS 0 rfl rfl 5 (by decide) (hts _ (List.mem_cons_of_mem _ k_44)) (fun _ h9 => h9) rfl (by decide +kernel) rfl rfl (Nat.le_of_ble_eq_true rfl) dX5_clear_7 (fun H locs hP hD hS => ?_)
  have hP : va_P D vwCl (wc_X5_clear cy q_t q_t_kind q_t_grief q_t_bears q_t_rota (0, 0, w_t.2.2.1, w_t.2.2.2.1, w_t.2.2.2.2.1, w_t.2.2.2.2.2.1, w_t.2.2.2.2.2.2.1, w_t.2.2.2.2.2.2.2.1, w_t.2.2.2.2.2.2.2.2.1, w_t.2.2.2.2.2.2.2.2.2.1, w_t.2.2.2.2.2.2.2.2.2.2)) H := hP
  have hD : va_D A (wc_X5_clear cy q_t q_t_kind q_t_grief q_t_bears q_t_rota (0, 0, w_t.2.2.1, w_t.2.2.2.1, w_t.2.2.2.2.1, w_t.2.2.2.2.2.1, w_t.2.2.2.2.2.2.1, w_t.2.2.2.2.2.2.2.1, w_t.2.2.2.2.2.2.2.2.1, w_t.2.2.2.2.2.2.2.2.2.1, w_t.2.2.2.2.2.2.2.2.2.2)) := hD
  refine lv_aload_n hx hb dX5_clear_10 rfl (lv_at hl 0 rfl) ?_
  refine lv_bipush (v := 30) hx hb dX5_clear_11 (by decide) ?_
  refine va_put (D := D) (ci := 5) (v := .int 30) (ty := .int) (C := RX5) (T := TX5) (N := 11) hx hb hts (fun w hw => List.mem_cons_of_mem _ (uw_X5 w hw)) tyX5 tyX5_ok nmX5 hown hK.1 hP hD hS 0 rfl rfl 6 (by decide) (hts _ (List.mem_cons_of_mem _ k_47)) (fun _ h9 => h9) rfl (by decide +kernel) rfl rfl (Nat.le_of_ble_eq_true rfl) dX5_clear_13 (fun H locs hP hD hS => ?_)
  have hP : va_P D vwCl (wc_X5_clear cy q_t q_t_kind q_t_grief q_t_bears q_t_rota (0, 0, 30, w_t.2.2.2.1, w_t.2.2.2.2.1, w_t.2.2.2.2.2.1, w_t.2.2.2.2.2.2.1, w_t.2.2.2.2.2.2.2.1, w_t.2.2.2.2.2.2.2.2.1, w_t.2.2.2.2.2.2.2.2.2.1, w_t.2.2.2.2.2.2.2.2.2.2)) H := hP
  have hD : va_D A (wc_X5_clear cy q_t q_t_kind q_t_grief q_t_bears q_t_rota (0, 0, 30, w_t.2.2.2.1, w_t.2.2.2.2.1, w_t.2.2.2.2.2.1, w_t.2.2.2.2.2.2.1, w_t.2.2.2.2.2.2.2.1, w_t.2.2.2.2.2.2.2.2.1, w_t.2.2.2.2.2.2.2.2.2.1, w_t.2.2.2.2.2.2.2.2.2.2)) := hD
  refine lv_aload_n hx hb dX5_clear_16 rfl (lv_at hl 0 rfl) ?_
  refine lv_iconst (v := 0) hx hb dX5_clear_17 (by decide) ?_
  refine va_put (D := D) (ci := 5) (v := .int 0) (ty := .int) (C := RX5) (T := TX5) (N := 11) hx hb hts (fun w hw => List.mem_cons_of_mem _ (uw_X5 w hw)) tyX5 tyX5_ok nmX5 hown hK.1 hP hD hS 0 rfl rfl 7 (by decide) (hts _ (List.mem_cons_of_mem _ k_50)) (fun _ h9 => h9) rfl (by decide +kernel) rfl rfl (Nat.le_of_ble_eq_true rfl) dX5_clear_18 (fun H locs hP hD hS => ?_)
  have hP : va_P D vwCl (wc_X5_clear cy q_t q_t_kind q_t_grief q_t_bears q_t_rota (0, 0, 30, 0, w_t.2.2.2.2.1, w_t.2.2.2.2.2.1, w_t.2.2.2.2.2.2.1, w_t.2.2.2.2.2.2.2.1, w_t.2.2.2.2.2.2.2.2.1, w_t.2.2.2.2.2.2.2.2.2.1, w_t.2.2.2.2.2.2.2.2.2.2)) H := hP
  have hD : va_D A (wc_X5_clear cy q_t q_t_kind q_t_grief q_t_bears q_t_rota (0, 0, 30, 0, w_t.2.2.2.2.1, w_t.2.2.2.2.2.1, w_t.2.2.2.2.2.2.1, w_t.2.2.2.2.2.2.2.1, w_t.2.2.2.2.2.2.2.2.1, w_t.2.2.2.2.2.2.2.2.2.1, w_t.2.2.2.2.2.2.2.2.2.2)) := hD
  refine lv_aload_n hx hb dX5_clear_21 rfl (lv_at hl 0 rfl) ?_
  refine lv_iconst (v := 0) hx hb dX5_clear_22 (by decide) ?_
  refine va_put (D := D) (ci := 5) (v := .int 0) (ty := .int) (C := RX5) (T := TX5) (N := 11) hx hb hts (fun w hw => List.mem_cons_of_mem _ (uw_X5 w hw)) tyX5 tyX5_ok nmX5 hown hK.1 hP hD hS 0 rfl rfl 8 (by decide) (hts _ (List.mem_cons_of_mem _ k_53)) (fun _ h9 => h9) rfl (by decide +kernel) rfl rfl (Nat.le_of_ble_eq_true rfl) dX5_clear_23 (fun H locs hP hD hS => ?_)
  have hP : va_P D vwCl (wc_X5_clear cy q_t q_t_kind q_t_grief q_t_bears q_t_rota (0, 0, 30, 0, 0, w_t.2.2.2.2.2.1, w_t.2.2.2.2.2.2.1, w_t.2.2.2.2.2.2.2.1, w_t.2.2.2.2.2.2.2.2.1, w_t.2.2.2.2.2.2.2.2.2.1, w_t.2.2.2.2.2.2.2.2.2.2)) H := hP
  have hD : va_D A (wc_X5_clear cy q_t q_t_kind q_t_grief q_t_bears q_t_rota (0, 0, 30, 0, 0, w_t.2.2.2.2.2.1, w_t.2.2.2.2.2.2.1, w_t.2.2.2.2.2.2.2.1, w_t.2.2.2.2.2.2.2.2.1, w_t.2.2.2.2.2.2.2.2.2.1, w_t.2.2.2.2.2.2.2.2.2.2)) := hD
  refine lv_aload_n hx hb dX5_clear_26 rfl (lv_at hl 0 rfl) ?_
  refine lv_iconst (v := 0) hx hb dX5_clear_27 (by decide) ?_
  refine va_put (D := D) (ci := 5) (v := .int 0) (ty := .int) (C := RX5) (T := TX5) (N := 11) hx hb hts (fun w hw => List.mem_cons_of_mem _ (uw_X5 w hw)) tyX5 tyX5_ok nmX5 hown hK.1 hP hD hS 0 rfl rfl 9 (by decide) (hts _ (List.mem_cons_of_mem _ k_55)) (fun _ h9 => h9) rfl (by decide +kernel) rfl rfl (Nat.le_of_ble_eq_true rfl) dX5_clear_28 (fun H locs hP hD hS => ?_)
  have hP : va_P D vwCl (wc_X5_clear cy q_t q_t_kind q_t_grief q_t_bears q_t_rota (0, 0, 30, 0, 0, 0, w_t.2.2.2.2.2.2.1, w_t.2.2.2.2.2.2.2.1, w_t.2.2.2.2.2.2.2.2.1, w_t.2.2.2.2.2.2.2.2.2.1, w_t.2.2.2.2.2.2.2.2.2.2)) H := hP
  have hD : va_D A (wc_X5_clear cy q_t q_t_kind q_t_grief q_t_bears q_t_rota (0, 0, 30, 0, 0, 0, w_t.2.2.2.2.2.2.1, w_t.2.2.2.2.2.2.2.1, w_t.2.2.2.2.2.2.2.2.1, w_t.2.2.2.2.2.2.2.2.2.1, w_t.2.2.2.2.2.2.2.2.2.2)) := hD
  refine lv_aload_n hx hb dX5_clear_31 rfl (lv_at hl 0 rfl) ?_
  refine lv_iconst (v := 0) hx hb dX5_clear_32 (by decide) ?_
  refine va_put (D := D) (ci := 5) (v := .int 0) (ty := .int) (C := RX5) (T := TX5) (N := 11) hx hb hts (fun w hw => List.mem_cons_of_mem _ (uw_X5 w hw)) tyX5 tyX5_ok nmX5 hown hK.1 hP hD hS 0 rfl rfl 10 (by decide) (hts _ (List.mem_cons_of_mem _ k_57)) (fun _ h9 => h9) rfl (by decide +kernel) rfl rfl (Nat.le_of_ble_eq_true rfl) dX5_clear_33 (fun H locs hP hD hS => ?_)
  have hP : va_P D vwCl (wc_X5_clear cy q_t q_t_kind q_t_grief q_t_bears q_t_rota (0, 0, 30, 0, 0, 0, 0, w_t.2.2.2.2.2.2.2.1, w_t.2.2.2.2.2.2.2.2.1, w_t.2.2.2.2.2.2.2.2.2.1, w_t.2.2.2.2.2.2.2.2.2.2)) H := hP
  have hD : va_D A (wc_X5_clear cy q_t q_t_kind q_t_grief q_t_bears q_t_rota (0, 0, 30, 0, 0, 0, 0, w_t.2.2.2.2.2.2.2.1, w_t.2.2.2.2.2.2.2.2.1, w_t.2.2.2.2.2.2.2.2.2.1, w_t.2.2.2.2.2.2.2.2.2.2)) := hD
  obtain rfl := Option.some.inj h
  exact W.vret hx hb hr (fun tt ht hW => ⟨⟨(0, 0, 30, 0, 0, 0, 0, w_t.2.2.2.2.2.2.2.1, w_t.2.2.2.2.2.2.2.2.1, w_t.2.2.2.2.2.2.2.2.2.1, w_t.2.2.2.2.2.2.2.2.2.2), rfl, rfl, by rw [ht]; exact hP, kk_warm hW hK, hD⟩, hS.F ht⟩) hS.2.2 dX5_clear_36
def M_X5_clear    (w_t : s_W)  : Option (s_W) := B_X5_clear_0 w_t
set_option maxHeartbeats 4000000 in
set_option maxRecDepth 100000 in
theorem c_X5_clear (l : Launch) (D : va_G) (cy : Nat → ClassId) (sz : Nat) (q_t : Nat) (q_t_kind : Nat) (q_t_grief : Nat) (q_t_bears : Nat) (q_t_rota : Nat) (w_t : s_W)   {res : s_W} (h : M_X5_clear w_t = some res) : ct_v l yX5_clear (.code yX5_clear cX5_clear 1 (none) :: wg_L) rm_X5_clear D cy sz (wc_X5_clear cy q_t q_t_kind q_t_grief q_t_bears q_t_rota w_t) [.ref q_t] (fun (u : s_W) => u = res) (fun (u : s_W) => wc_X5_clear cy q_t q_t_kind q_t_grief q_t_bears q_t_rota u) := by
  refine Met.ofW (cc := cX5_clear) (maxL := 1) (ret := none) (by decide) rfl ?_
  intro p e s m args below meth c s₁ B hml hv
  obtain ⟨rfl, hsz, hP, hK, hD0⟩ := hv
  subst hsz
  have hD := hD0.self (sz := s.heap.size)
  have hl := lv_entry ([.ref q_t]) (n := 1) (Nat.le_of_ble_eq_true rfl)
  rw [lg_entry_eq]
  have C0 : cx_C cX5_clear (none) 1 RX5 (.code yX5_clear cX5_clear 1 (none) :: wg_L) p s m [.ref q_t].toArray meth c D cy (va_A (wc_X5_clear cy q_t q_t_kind q_t_grief q_t_bears q_t_rota w_t) s.heap.size) := ⟨B.exec, B.bytes, B.returns, hml, findClass_of_methodNamed B.named, atoms_spec (ws := .code yX5_clear cX5_clear 1 (none) :: wg_L) B.pre, hK, B.notSynchronized, fun q h => Or.inr h⟩
  exact b_X5_clear_0 C0 h hP hD va_S.rf (lv_sub hl [0] rfl)
/-! ### BarrowGrief$World.addTurn(I)V -/
abbrev wc_X5_addTurn (cy : Nat → ClassId) (q_t q_t_kind q_t_grief q_t_bears q_t_rota : Nat) (w_t : s_W) : va_W := [(q_t, .inr (5, [.ref q_t_kind, .ref q_t_grief, .ref q_t_bears, .ref q_t_rota, .int w_t.1, .int w_t.2.1, .int w_t.2.2.1, .int w_t.2.2.2.1, .int w_t.2.2.2.2.1, .int w_t.2.2.2.2.2.1, .int w_t.2.2.2.2.2.2.1])), (q_t_kind, .inl (cy 1, 5, .inl w_t.2.2.2.2.2.2.2.1)), (q_t_grief, .inl (cy 1, 5, .inl w_t.2.2.2.2.2.2.2.2.1)), (q_t_bears, .inl (cy 1, 5, .inl w_t.2.2.2.2.2.2.2.2.2.1)), (q_t_rota, .inl (cy 1, 8, .inl w_t.2.2.2.2.2.2.2.2.2.2))]
abbrev rm_X5_addTurn : Room := { frames := 0, cells := 0, slots := 0, locals := 0 }
abbrev qq_X5_addTurn (below : List Frame) (args : Array Value) (s : State) (D : va_G) (cy : Nat → ClassId) (A : Nat → Prop) (q_t : Nat) (q_t_kind : Nat) (q_t_grief : Nat) (q_t_bears : Nat) (q_t_rota : Nat) (res : s_W) : State → Prop := MQ below (va_Qv (fun (u : s_W) => u = res) (fun u t => st_B D cy A ((fun (u : s_W) => wc_X5_addTurn cy q_t q_t_kind q_t_grief q_t_bears q_t_rota u) u) t) A) args s 0 0 A
def B_X5_addTurn_0    (w_t : s_W) (v1 : Int32) : Option (s_W) := if 8 ≤ w_t.2.1 then (some w_t) else (gi_n w_t.2.1 8 (nm_v (w_t.2.1 + 1) (fun z26 => some (w_t.1, z26, w_t.2.2.1, w_t.2.2.2.1, w_t.2.2.2.2.1, w_t.2.2.2.2.2.1, w_t.2.2.2.2.2.2.1, w_t.2.2.2.2.2.2.2.1, w_t.2.2.2.2.2.2.2.2.1, w_t.2.2.2.2.2.2.2.2.2.1, (upd w_t.2.2.2.2.2.2.2.2.2.2 w_t.2.1.toNatClampNeg v1)))))
set_option maxHeartbeats 4000000 in
set_option maxRecDepth 100000 in
theorem b_X5_addTurn_0 {p : Program} {l : Launch} {e : Env} {s : State} {m : MethodId} {args : Array Value} {below : List Frame} {meth : Method} {c : Code} {D : va_G} {cy : Nat → ClassId} {A : Nat → Prop} {q_t : Nat} {q_t_kind : Nat} {q_t_grief : Nat} {q_t_bears : Nat} {q_t_rota : Nat} {res : s_W}   {w_t : s_W} {v1 : Int32} (C0 : cx_C cX5_addTurn (none) 2 RX5 (.code yX5_addTurn cX5_addTurn 2 (none) :: wg_L) p s m args meth c D cy A)  (h : B_X5_addTurn_0 w_t v1 = some res) {H : Heap} {locs : List Loc} {ls : Array Slot} (hP : va_P D vwCl (wc_X5_addTurn cy q_t q_t_kind q_t_grief q_t_bears q_t_rota w_t) H) (hD : va_D A (wc_X5_addTurn cy q_t q_t_kind q_t_grief q_t_bears q_t_rota w_t)) (hS : va_S A s.heap H locs) (hl : lv_has ls 2 [(0, .ref q_t), (1, .int v1)]) : W p l e rm_X5_addTurn s m args below meth c H locs 0 0 (qq_X5_addTurn below args s D cy A q_t q_t_kind q_t_grief q_t_bears q_t_rota res) (F0 m 0 ls []) := by
  obtain ⟨hx, hb, hr, hml, hown, hts, hK, hlocks, hA⟩ := id C0
  unfold B_X5_addTurn_0 at h
  refine lv_aload_n hx hb dX5_addTurn_0 rfl (lv_at hl 0 rfl) ?_
  refine va_get (D := D) (ci := 5) (v := .int w_t.2.1) (C := RX5) (T := TX5) (N := 11) hx hb hts (fun w hw => List.mem_cons_of_mem _ (uw_X5 w hw)) hown hK.1 hP 0 rfl rfl 5 (by decide) (hts _ (List.mem_cons_of_mem _ k_44)) (fun _ h9 => h9) rfl dX5_addTurn_1 ?_
  refine lv_bipush (v := 8) hx hb dX5_addTurn_4 (by decide) ?_
  refine lv_icmp_ge (tgt := 29) hx hb dX5_addTurn_6 (by decide) (fun c6 => ?_) (fun c6 => ?_)
  · replace h := it_p c6 h
    obtain rfl := Option.some.inj h
    exact W.vret hx hb hr (fun tt ht hW => ⟨⟨w_t, rfl, rfl, by rw [ht]; exact hP, kk_warm hW hK, hD⟩, hS.F ht⟩) hS.2.2 dX5_addTurn_29
  · replace h := it_n c6 h
    refine lv_aload_n hx hb dX5_addTurn_9 rfl (lv_at hl 0 rfl) ?_
    refine va_get (D := D) (ci := 5) (v := .ref q_t_rota) (C := RX5) (T := TX5) (N := 11) hx hb hts (fun w hw => List.mem_cons_of_mem _ (uw_X5 w hw)) hown hK.1 hP 0 rfl rfl 3 (by decide) (hts _ (List.mem_cons_of_mem _ k_38)) (fun _ h9 => h9) rfl dX5_addTurn_10 ?_
    refine lv_aload_n hx hb dX5_addTurn_13 rfl (lv_at hl 0 rfl) ?_
    refine va_get (D := D) (ci := 5) (v := .int w_t.2.1) (C := RX5) (T := TX5) (N := 11) hx hb hts (fun w hw => List.mem_cons_of_mem _ (uw_X5 w hw)) hown hK.1 hP 0 rfl rfl 5 (by decide) (hts _ (List.mem_cons_of_mem _ k_44)) (fun _ h9 => h9) rfl dX5_addTurn_14 ?_
    refine lv_iload_n hx hb dX5_addTurn_17 rfl (lv_at hl 1 rfl) ?_
    obtain ⟨hi1, h⟩ := gi_d h
    refine va_iast hx hb hK.1 hP hD hS 4 1 rfl rfl hi1 dX5_addTurn_18 (fun H locs hP hD hS => ?_)
    have hP : va_P D vwCl (wc_X5_addTurn cy q_t q_t_kind q_t_grief q_t_bears q_t_rota (w_t.1, w_t.2.1, w_t.2.2.1, w_t.2.2.2.1, w_t.2.2.2.2.1, w_t.2.2.2.2.2.1, w_t.2.2.2.2.2.2.1, w_t.2.2.2.2.2.2.2.1, w_t.2.2.2.2.2.2.2.2.1, w_t.2.2.2.2.2.2.2.2.2.1, (upd w_t.2.2.2.2.2.2.2.2.2.2 w_t.2.1.toNatClampNeg v1))) H := hP
    have hD : va_D A (wc_X5_addTurn cy q_t q_t_kind q_t_grief q_t_bears q_t_rota (w_t.1, w_t.2.1, w_t.2.2.1, w_t.2.2.2.1, w_t.2.2.2.2.1, w_t.2.2.2.2.2.1, w_t.2.2.2.2.2.2.1, w_t.2.2.2.2.2.2.2.1, w_t.2.2.2.2.2.2.2.2.1, w_t.2.2.2.2.2.2.2.2.2.1, (upd w_t.2.2.2.2.2.2.2.2.2.2 w_t.2.1.toNatClampNeg v1))) := hD
    refine lv_aload_n hx hb dX5_addTurn_19 rfl (lv_at hl 0 rfl) ?_
    refine lv_dup hx hb dX5_addTurn_20 rfl ?_
    refine va_get (D := D) (ci := 5) (v := .int w_t.2.1) (C := RX5) (T := TX5) (N := 11) hx hb hts (fun w hw => List.mem_cons_of_mem _ (uw_X5 w hw)) hown hK.1 hP 0 rfl rfl 5 (by decide) (hts _ (List.mem_cons_of_mem _ k_44)) (fun _ h9 => h9) rfl dX5_addTurn_21 ?_
    refine lv_iconst (v := 1) hx hb dX5_addTurn_24 (by decide) ?_
    refine lv_iadd hx hb dX5_addTurn_25 ?_
    refine lv_topi (fun z26 ez26 => ?_)
    replace h := nm_d ez26 h
    refine va_put (D := D) (ci := 5) (v := .int z26) (ty := .int) (C := RX5) (T := TX5) (N := 11) hx hb hts (fun w hw => List.mem_cons_of_mem _ (uw_X5 w hw)) tyX5 tyX5_ok nmX5 hown hK.1 hP hD hS 0 rfl rfl 5 (by decide) (hts _ (List.mem_cons_of_mem _ k_44)) (fun _ h9 => h9) rfl (by decide +kernel) rfl rfl (Nat.le_of_ble_eq_true rfl) dX5_addTurn_26 (fun H locs hP hD hS => ?_)
    have hP : va_P D vwCl (wc_X5_addTurn cy q_t q_t_kind q_t_grief q_t_bears q_t_rota (w_t.1, z26, w_t.2.2.1, w_t.2.2.2.1, w_t.2.2.2.2.1, w_t.2.2.2.2.2.1, w_t.2.2.2.2.2.2.1, w_t.2.2.2.2.2.2.2.1, w_t.2.2.2.2.2.2.2.2.1, w_t.2.2.2.2.2.2.2.2.2.1, (upd w_t.2.2.2.2.2.2.2.2.2.2 w_t.2.1.toNatClampNeg v1))) H := hP
    have hD : va_D A (wc_X5_addTurn cy q_t q_t_kind q_t_grief q_t_bears q_t_rota (w_t.1, z26, w_t.2.2.1, w_t.2.2.2.1, w_t.2.2.2.2.1, w_t.2.2.2.2.2.1, w_t.2.2.2.2.2.2.1, w_t.2.2.2.2.2.2.2.1, w_t.2.2.2.2.2.2.2.2.1, w_t.2.2.2.2.2.2.2.2.2.1, (upd w_t.2.2.2.2.2.2.2.2.2.2 w_t.2.1.toNatClampNeg v1))) := hD
    obtain rfl := Option.some.inj h
    exact W.vret hx hb hr (fun tt ht hW => ⟨⟨(w_t.1, z26, w_t.2.2.1, w_t.2.2.2.1, w_t.2.2.2.2.1, w_t.2.2.2.2.2.1, w_t.2.2.2.2.2.2.1, w_t.2.2.2.2.2.2.2.1, w_t.2.2.2.2.2.2.2.2.1, w_t.2.2.2.2.2.2.2.2.2.1, (upd w_t.2.2.2.2.2.2.2.2.2.2 w_t.2.1.toNatClampNeg v1)), rfl, rfl, by rw [ht]; exact hP, kk_warm hW hK, hD⟩, hS.F ht⟩) hS.2.2 dX5_addTurn_29
def M_X5_addTurn    (w_t : s_W) (v1 : Int32) : Option (s_W) := B_X5_addTurn_0 w_t v1
set_option maxHeartbeats 4000000 in
set_option maxRecDepth 100000 in
theorem c_X5_addTurn (l : Launch) (D : va_G) (cy : Nat → ClassId) (sz : Nat) (q_t : Nat) (q_t_kind : Nat) (q_t_grief : Nat) (q_t_bears : Nat) (q_t_rota : Nat) (w_t : s_W) (v1 : Int32)  {res : s_W} (h : M_X5_addTurn w_t v1 = some res) : ct_v l yX5_addTurn (.code yX5_addTurn cX5_addTurn 2 (none) :: wg_L) rm_X5_addTurn D cy sz (wc_X5_addTurn cy q_t q_t_kind q_t_grief q_t_bears q_t_rota w_t) [.ref q_t, .int v1] (fun (u : s_W) => u = res) (fun (u : s_W) => wc_X5_addTurn cy q_t q_t_kind q_t_grief q_t_bears q_t_rota u) := by
  refine Met.ofW (cc := cX5_addTurn) (maxL := 2) (ret := none) (by decide) rfl ?_
  intro p e s m args below meth c s₁ B hml hv
  obtain ⟨rfl, hsz, hP, hK, hD0⟩ := hv
  subst hsz
  have hD := hD0.self (sz := s.heap.size)
  have hl := lv_entry ([.ref q_t, .int v1]) (n := 2) (Nat.le_of_ble_eq_true rfl)
  rw [lg_entry_eq]
  have C0 : cx_C cX5_addTurn (none) 2 RX5 (.code yX5_addTurn cX5_addTurn 2 (none) :: wg_L) p s m [.ref q_t, .int v1].toArray meth c D cy (va_A (wc_X5_addTurn cy q_t q_t_kind q_t_grief q_t_bears q_t_rota w_t) s.heap.size) := ⟨B.exec, B.bytes, B.returns, hml, findClass_of_methodNamed B.named, atoms_spec (ws := .code yX5_addTurn cX5_addTurn 2 (none) :: wg_L) B.pre, hK, B.notSynchronized, fun q h => Or.inr h⟩
  exact b_X5_addTurn_0 C0 h hP hD va_S.rf (lv_sub hl [0, 1] rfl)
/-! ### BarrowGrief$World.addOne(III)V -/
abbrev wc_X5_addOne (cy : Nat → ClassId) (q_t q_t_kind q_t_grief q_t_bears q_t_rota : Nat) (w_t : s_W) : va_W := [(q_t, .inr (5, [.ref q_t_kind, .ref q_t_grief, .ref q_t_bears, .ref q_t_rota, .int w_t.1, .int w_t.2.1, .int w_t.2.2.1, .int w_t.2.2.2.1, .int w_t.2.2.2.2.1, .int w_t.2.2.2.2.2.1, .int w_t.2.2.2.2.2.2.1])), (q_t_kind, .inl (cy 1, 5, .inl w_t.2.2.2.2.2.2.2.1)), (q_t_grief, .inl (cy 1, 5, .inl w_t.2.2.2.2.2.2.2.2.1)), (q_t_bears, .inl (cy 1, 5, .inl w_t.2.2.2.2.2.2.2.2.2.1)), (q_t_rota, .inl (cy 1, 8, .inl w_t.2.2.2.2.2.2.2.2.2.2))]
abbrev rm_X5_addOne : Room := { frames := 0, cells := 0, slots := 0, locals := 0 }
abbrev qq_X5_addOne (below : List Frame) (args : Array Value) (s : State) (D : va_G) (cy : Nat → ClassId) (A : Nat → Prop) (q_t : Nat) (q_t_kind : Nat) (q_t_grief : Nat) (q_t_bears : Nat) (q_t_rota : Nat) (res : s_W) : State → Prop := MQ below (va_Qv (fun (u : s_W) => u = res) (fun u t => st_B D cy A ((fun (u : s_W) => wc_X5_addOne cy q_t q_t_kind q_t_grief q_t_bears q_t_rota u) u) t) A) args s 0 0 A
def B_X5_addOne_0    (w_t : s_W) (v1 : Int32) (v2 : Int32) (v3 : Int32) : Option (s_W) := if 5 ≤ w_t.1 then (some w_t) else (gi_n w_t.1 5 (gi_n w_t.1 5 (gi_n w_t.1 5 (nm_v (w_t.1 + 1) (fun z45 => some (z45, w_t.2.1, w_t.2.2.1, w_t.2.2.2.1, w_t.2.2.2.2.1, w_t.2.2.2.2.2.1, w_t.2.2.2.2.2.2.1, (upd w_t.2.2.2.2.2.2.2.1 w_t.1.toNatClampNeg v1), (upd w_t.2.2.2.2.2.2.2.2.1 w_t.1.toNatClampNeg v2), (upd w_t.2.2.2.2.2.2.2.2.2.1 w_t.1.toNatClampNeg v3), w_t.2.2.2.2.2.2.2.2.2.2))))))
set_option maxHeartbeats 4000000 in
set_option maxRecDepth 100000 in
theorem b_X5_addOne_0 {p : Program} {l : Launch} {e : Env} {s : State} {m : MethodId} {args : Array Value} {below : List Frame} {meth : Method} {c : Code} {D : va_G} {cy : Nat → ClassId} {A : Nat → Prop} {q_t : Nat} {q_t_kind : Nat} {q_t_grief : Nat} {q_t_bears : Nat} {q_t_rota : Nat} {res : s_W}   {w_t : s_W} {v1 : Int32} {v2 : Int32} {v3 : Int32} (C0 : cx_C cX5_addOne (none) 4 RX5 (.code yX5_addOne cX5_addOne 4 (none) :: wg_L) p s m args meth c D cy A)  (h : B_X5_addOne_0 w_t v1 v2 v3 = some res) {H : Heap} {locs : List Loc} {ls : Array Slot} (hP : va_P D vwCl (wc_X5_addOne cy q_t q_t_kind q_t_grief q_t_bears q_t_rota w_t) H) (hD : va_D A (wc_X5_addOne cy q_t q_t_kind q_t_grief q_t_bears q_t_rota w_t)) (hS : va_S A s.heap H locs) (hl : lv_has ls 4 [(0, .ref q_t), (1, .int v1), (2, .int v2), (3, .int v3)]) : W p l e rm_X5_addOne s m args below meth c H locs 0 0 (qq_X5_addOne below args s D cy A q_t q_t_kind q_t_grief q_t_bears q_t_rota res) (F0 m 0 ls []) := by
  obtain ⟨hx, hb, hr, hml, hown, hts, hK, hlocks, hA⟩ := id C0
  unfold B_X5_addOne_0 at h
  refine lv_aload_n hx hb dX5_addOne_0 rfl (lv_at hl 0 rfl) ?_
  refine va_get (D := D) (ci := 5) (v := .int w_t.1) (C := RX5) (T := TX5) (N := 11) hx hb hts (fun w hw => List.mem_cons_of_mem _ (uw_X5 w hw)) hown hK.1 hP 0 rfl rfl 4 (by decide) (hts _ (List.mem_cons_of_mem _ k_41)) (fun _ h9 => h9) rfl dX5_addOne_1 ?_
  refine lv_iconst (v := 5) hx hb dX5_addOne_4 (by decide) ?_
  refine lv_icmp_ge (tgt := 48) hx hb dX5_addOne_5 (by decide) (fun c5 => ?_) (fun c5 => ?_)
  · replace h := it_p c5 h
    obtain rfl := Option.some.inj h
    exact W.vret hx hb hr (fun tt ht hW => ⟨⟨w_t, rfl, rfl, by rw [ht]; exact hP, kk_warm hW hK, hD⟩, hS.F ht⟩) hS.2.2 dX5_addOne_48
  · replace h := it_n c5 h
    refine lv_aload_n hx hb dX5_addOne_8 rfl (lv_at hl 0 rfl) ?_
    refine va_get (D := D) (ci := 5) (v := .ref q_t_kind) (C := RX5) (T := TX5) (N := 11) hx hb hts (fun w hw => List.mem_cons_of_mem _ (uw_X5 w hw)) hown hK.1 hP 0 rfl rfl 0 (by decide) (hts _ (List.mem_cons_of_mem _ k_31)) (fun _ h9 => h9) rfl dX5_addOne_9 ?_
    refine lv_aload_n hx hb dX5_addOne_12 rfl (lv_at hl 0 rfl) ?_
    refine va_get (D := D) (ci := 5) (v := .int w_t.1) (C := RX5) (T := TX5) (N := 11) hx hb hts (fun w hw => List.mem_cons_of_mem _ (uw_X5 w hw)) hown hK.1 hP 0 rfl rfl 4 (by decide) (hts _ (List.mem_cons_of_mem _ k_41)) (fun _ h9 => h9) rfl dX5_addOne_13 ?_
    refine lv_iload_n hx hb dX5_addOne_16 rfl (lv_at hl 1 rfl) ?_
    obtain ⟨hi1, h⟩ := gi_d h
    refine va_iast hx hb hK.1 hP hD hS 1 1 rfl rfl hi1 dX5_addOne_17 (fun H locs hP hD hS => ?_)
    have hP : va_P D vwCl (wc_X5_addOne cy q_t q_t_kind q_t_grief q_t_bears q_t_rota (w_t.1, w_t.2.1, w_t.2.2.1, w_t.2.2.2.1, w_t.2.2.2.2.1, w_t.2.2.2.2.2.1, w_t.2.2.2.2.2.2.1, (upd w_t.2.2.2.2.2.2.2.1 w_t.1.toNatClampNeg v1), w_t.2.2.2.2.2.2.2.2.1, w_t.2.2.2.2.2.2.2.2.2.1, w_t.2.2.2.2.2.2.2.2.2.2)) H := hP
    have hD : va_D A (wc_X5_addOne cy q_t q_t_kind q_t_grief q_t_bears q_t_rota (w_t.1, w_t.2.1, w_t.2.2.1, w_t.2.2.2.1, w_t.2.2.2.2.1, w_t.2.2.2.2.2.1, w_t.2.2.2.2.2.2.1, (upd w_t.2.2.2.2.2.2.2.1 w_t.1.toNatClampNeg v1), w_t.2.2.2.2.2.2.2.2.1, w_t.2.2.2.2.2.2.2.2.2.1, w_t.2.2.2.2.2.2.2.2.2.2)) := hD
    refine lv_aload_n hx hb dX5_addOne_18 rfl (lv_at hl 0 rfl) ?_
    refine va_get (D := D) (ci := 5) (v := .ref q_t_grief) (C := RX5) (T := TX5) (N := 11) hx hb hts (fun w hw => List.mem_cons_of_mem _ (uw_X5 w hw)) hown hK.1 hP 0 rfl rfl 1 (by decide) (hts _ (List.mem_cons_of_mem _ k_33)) (fun _ h9 => h9) rfl dX5_addOne_19 ?_
    refine lv_aload_n hx hb dX5_addOne_22 rfl (lv_at hl 0 rfl) ?_
    refine va_get (D := D) (ci := 5) (v := .int w_t.1) (C := RX5) (T := TX5) (N := 11) hx hb hts (fun w hw => List.mem_cons_of_mem _ (uw_X5 w hw)) hown hK.1 hP 0 rfl rfl 4 (by decide) (hts _ (List.mem_cons_of_mem _ k_41)) (fun _ h9 => h9) rfl dX5_addOne_23 ?_
    refine lv_iload_n hx hb dX5_addOne_26 rfl (lv_at hl 2 rfl) ?_
    obtain ⟨hi2, h⟩ := gi_d h
    refine va_iast hx hb hK.1 hP hD hS 2 1 rfl rfl hi2 dX5_addOne_27 (fun H locs hP hD hS => ?_)
    have hP : va_P D vwCl (wc_X5_addOne cy q_t q_t_kind q_t_grief q_t_bears q_t_rota (w_t.1, w_t.2.1, w_t.2.2.1, w_t.2.2.2.1, w_t.2.2.2.2.1, w_t.2.2.2.2.2.1, w_t.2.2.2.2.2.2.1, (upd w_t.2.2.2.2.2.2.2.1 w_t.1.toNatClampNeg v1), (upd w_t.2.2.2.2.2.2.2.2.1 w_t.1.toNatClampNeg v2), w_t.2.2.2.2.2.2.2.2.2.1, w_t.2.2.2.2.2.2.2.2.2.2)) H := hP
    have hD : va_D A (wc_X5_addOne cy q_t q_t_kind q_t_grief q_t_bears q_t_rota (w_t.1, w_t.2.1, w_t.2.2.1, w_t.2.2.2.1, w_t.2.2.2.2.1, w_t.2.2.2.2.2.1, w_t.2.2.2.2.2.2.1, (upd w_t.2.2.2.2.2.2.2.1 w_t.1.toNatClampNeg v1), (upd w_t.2.2.2.2.2.2.2.2.1 w_t.1.toNatClampNeg v2), w_t.2.2.2.2.2.2.2.2.2.1, w_t.2.2.2.2.2.2.2.2.2.2)) := hD
    refine lv_aload_n hx hb dX5_addOne_28 rfl (lv_at hl 0 rfl) ?_
    refine va_get (D := D) (ci := 5) (v := .ref q_t_bears) (C := RX5) (T := TX5) (N := 11) hx hb hts (fun w hw => List.mem_cons_of_mem _ (uw_X5 w hw)) hown hK.1 hP 0 rfl rfl 2 (by decide) (hts _ (List.mem_cons_of_mem _ k_36)) (fun _ h9 => h9) rfl dX5_addOne_29 ?_
    refine lv_aload_n hx hb dX5_addOne_32 rfl (lv_at hl 0 rfl) ?_
    refine va_get (D := D) (ci := 5) (v := .int w_t.1) (C := RX5) (T := TX5) (N := 11) hx hb hts (fun w hw => List.mem_cons_of_mem _ (uw_X5 w hw)) hown hK.1 hP 0 rfl rfl 4 (by decide) (hts _ (List.mem_cons_of_mem _ k_41)) (fun _ h9 => h9) rfl dX5_addOne_33 ?_
    refine lv_iload_n hx hb dX5_addOne_36 rfl (lv_at hl 3 rfl) ?_
    obtain ⟨hi3, h⟩ := gi_d h
    refine va_iast hx hb hK.1 hP hD hS 3 1 rfl rfl hi3 dX5_addOne_37 (fun H locs hP hD hS => ?_)
    have hP : va_P D vwCl (wc_X5_addOne cy q_t q_t_kind q_t_grief q_t_bears q_t_rota (w_t.1, w_t.2.1, w_t.2.2.1, w_t.2.2.2.1, w_t.2.2.2.2.1, w_t.2.2.2.2.2.1, w_t.2.2.2.2.2.2.1, (upd w_t.2.2.2.2.2.2.2.1 w_t.1.toNatClampNeg v1), (upd w_t.2.2.2.2.2.2.2.2.1 w_t.1.toNatClampNeg v2), (upd w_t.2.2.2.2.2.2.2.2.2.1 w_t.1.toNatClampNeg v3), w_t.2.2.2.2.2.2.2.2.2.2)) H := hP
    have hD : va_D A (wc_X5_addOne cy q_t q_t_kind q_t_grief q_t_bears q_t_rota (w_t.1, w_t.2.1, w_t.2.2.1, w_t.2.2.2.1, w_t.2.2.2.2.1, w_t.2.2.2.2.2.1, w_t.2.2.2.2.2.2.1, (upd w_t.2.2.2.2.2.2.2.1 w_t.1.toNatClampNeg v1), (upd w_t.2.2.2.2.2.2.2.2.1 w_t.1.toNatClampNeg v2), (upd w_t.2.2.2.2.2.2.2.2.2.1 w_t.1.toNatClampNeg v3), w_t.2.2.2.2.2.2.2.2.2.2)) := hD
    refine lv_aload_n hx hb dX5_addOne_38 rfl (lv_at hl 0 rfl) ?_
    refine lv_dup hx hb dX5_addOne_39 rfl ?_
    refine va_get (D := D) (ci := 5) (v := .int w_t.1) (C := RX5) (T := TX5) (N := 11) hx hb hts (fun w hw => List.mem_cons_of_mem _ (uw_X5 w hw)) hown hK.1 hP 0 rfl rfl 4 (by decide) (hts _ (List.mem_cons_of_mem _ k_41)) (fun _ h9 => h9) rfl dX5_addOne_40 ?_
    refine lv_iconst (v := 1) hx hb dX5_addOne_43 (by decide) ?_
    refine lv_iadd hx hb dX5_addOne_44 ?_
    refine lv_topi (fun z45 ez45 => ?_)
    replace h := nm_d ez45 h
    refine va_put (D := D) (ci := 5) (v := .int z45) (ty := .int) (C := RX5) (T := TX5) (N := 11) hx hb hts (fun w hw => List.mem_cons_of_mem _ (uw_X5 w hw)) tyX5 tyX5_ok nmX5 hown hK.1 hP hD hS 0 rfl rfl 4 (by decide) (hts _ (List.mem_cons_of_mem _ k_41)) (fun _ h9 => h9) rfl (by decide +kernel) rfl rfl (Nat.le_of_ble_eq_true rfl) dX5_addOne_45 (fun H locs hP hD hS => ?_)
    have hP : va_P D vwCl (wc_X5_addOne cy q_t q_t_kind q_t_grief q_t_bears q_t_rota (z45, w_t.2.1, w_t.2.2.1, w_t.2.2.2.1, w_t.2.2.2.2.1, w_t.2.2.2.2.2.1, w_t.2.2.2.2.2.2.1, (upd w_t.2.2.2.2.2.2.2.1 w_t.1.toNatClampNeg v1), (upd w_t.2.2.2.2.2.2.2.2.1 w_t.1.toNatClampNeg v2), (upd w_t.2.2.2.2.2.2.2.2.2.1 w_t.1.toNatClampNeg v3), w_t.2.2.2.2.2.2.2.2.2.2)) H := hP
    have hD : va_D A (wc_X5_addOne cy q_t q_t_kind q_t_grief q_t_bears q_t_rota (z45, w_t.2.1, w_t.2.2.1, w_t.2.2.2.1, w_t.2.2.2.2.1, w_t.2.2.2.2.2.1, w_t.2.2.2.2.2.2.1, (upd w_t.2.2.2.2.2.2.2.1 w_t.1.toNatClampNeg v1), (upd w_t.2.2.2.2.2.2.2.2.1 w_t.1.toNatClampNeg v2), (upd w_t.2.2.2.2.2.2.2.2.2.1 w_t.1.toNatClampNeg v3), w_t.2.2.2.2.2.2.2.2.2.2)) := hD
    obtain rfl := Option.some.inj h
    exact W.vret hx hb hr (fun tt ht hW => ⟨⟨(z45, w_t.2.1, w_t.2.2.1, w_t.2.2.2.1, w_t.2.2.2.2.1, w_t.2.2.2.2.2.1, w_t.2.2.2.2.2.2.1, (upd w_t.2.2.2.2.2.2.2.1 w_t.1.toNatClampNeg v1), (upd w_t.2.2.2.2.2.2.2.2.1 w_t.1.toNatClampNeg v2), (upd w_t.2.2.2.2.2.2.2.2.2.1 w_t.1.toNatClampNeg v3), w_t.2.2.2.2.2.2.2.2.2.2), rfl, rfl, by rw [ht]; exact hP, kk_warm hW hK, hD⟩, hS.F ht⟩) hS.2.2 dX5_addOne_48
def M_X5_addOne    (w_t : s_W) (v1 : Int32) (v2 : Int32) (v3 : Int32) : Option (s_W) := B_X5_addOne_0 w_t v1 v2 v3
set_option maxHeartbeats 4000000 in
set_option maxRecDepth 100000 in
theorem c_X5_addOne (l : Launch) (D : va_G) (cy : Nat → ClassId) (sz : Nat) (q_t : Nat) (q_t_kind : Nat) (q_t_grief : Nat) (q_t_bears : Nat) (q_t_rota : Nat) (w_t : s_W) (v1 : Int32) (v2 : Int32) (v3 : Int32)  {res : s_W} (h : M_X5_addOne w_t v1 v2 v3 = some res) : ct_v l yX5_addOne (.code yX5_addOne cX5_addOne 4 (none) :: wg_L) rm_X5_addOne D cy sz (wc_X5_addOne cy q_t q_t_kind q_t_grief q_t_bears q_t_rota w_t) [.ref q_t, .int v1, .int v2, .int v3] (fun (u : s_W) => u = res) (fun (u : s_W) => wc_X5_addOne cy q_t q_t_kind q_t_grief q_t_bears q_t_rota u) := by
  refine Met.ofW (cc := cX5_addOne) (maxL := 4) (ret := none) (by decide) rfl ?_
  intro p e s m args below meth c s₁ B hml hv
  obtain ⟨rfl, hsz, hP, hK, hD0⟩ := hv
  subst hsz
  have hD := hD0.self (sz := s.heap.size)
  have hl := lv_entry ([.ref q_t, .int v1, .int v2, .int v3]) (n := 4) (Nat.le_of_ble_eq_true rfl)
  rw [lg_entry_eq]
  have C0 : cx_C cX5_addOne (none) 4 RX5 (.code yX5_addOne cX5_addOne 4 (none) :: wg_L) p s m [.ref q_t, .int v1, .int v2, .int v3].toArray meth c D cy (va_A (wc_X5_addOne cy q_t q_t_kind q_t_grief q_t_bears q_t_rota w_t) s.heap.size) := ⟨B.exec, B.bytes, B.returns, hml, findClass_of_methodNamed B.named, atoms_spec (ws := .code yX5_addOne cX5_addOne 4 (none) :: wg_L) B.pre, hK, B.notSynchronized, fun q h => Or.inr h⟩
  exact b_X5_addOne_0 C0 h hP hD va_S.rf (lv_sub hl [0, 1, 2, 3] rfl)
/-! ### BarrowGrief$World.has(I)Z -/
abbrev wc_X5_has (cy : Nat → ClassId) (q_t q_t_kind q_t_grief q_t_bears q_t_rota : Nat) (w_t : s_W) : va_W := [(q_t, .inr (5, [.ref q_t_kind, .ref q_t_grief, .ref q_t_bears, .ref q_t_rota, .int w_t.1, .int w_t.2.1, .int w_t.2.2.1, .int w_t.2.2.2.1, .int w_t.2.2.2.2.1, .int w_t.2.2.2.2.2.1, .int w_t.2.2.2.2.2.2.1])), (q_t_kind, .inl (cy 1, 5, .inl w_t.2.2.2.2.2.2.2.1)), (q_t_grief, .inl (cy 1, 5, .inl w_t.2.2.2.2.2.2.2.2.1)), (q_t_bears, .inl (cy 1, 5, .inl w_t.2.2.2.2.2.2.2.2.2.1)), (q_t_rota, .inl (cy 1, 8, .inl w_t.2.2.2.2.2.2.2.2.2.2))]
abbrev rm_X5_has : Room := { frames := 0, cells := 0, slots := 0, locals := 0 }
abbrev qq_X5_has (below : List Frame) (args : Array Value) (s : State) (D : va_G) (cy : Nat → ClassId) (A : Nat → Prop) (q_t : Nat) (q_t_kind : Nat) (q_t_grief : Nat) (q_t_bears : Nat) (q_t_rota : Nat) (w_t : s_W) (res : Int32) : State → Prop := MQ below (va_Qi (fun r (_ : Unit) => r = res) (fun u t => st_B D cy A ((fun (u : Unit) => wc_X5_has cy q_t q_t_kind q_t_grief q_t_bears q_t_rota w_t) u) t) A) args s 0 0 A
def B_X5_has_0  (w_t : s_W)   (v1 : Int32) : Option (Int32) := if v1 < 0 then (some 0) else (if w_t.1 ≤ v1 then (some 0) else (some 1))
set_option maxHeartbeats 4000000 in
set_option maxRecDepth 100000 in
theorem b_X5_has_0 {p : Program} {l : Launch} {e : Env} {s : State} {m : MethodId} {args : Array Value} {below : List Frame} {meth : Method} {c : Code} {D : va_G} {cy : Nat → ClassId} {A : Nat → Prop} {q_t : Nat} {q_t_kind : Nat} {q_t_grief : Nat} {q_t_bears : Nat} {q_t_rota : Nat} {w_t : s_W} {res : Int32}    {v1 : Int32} (C0 : cx_C cX5_has ((some .boolean)) 2 RX5 (.code yX5_has cX5_has 2 ((some .boolean)) :: wg_L) p s m args meth c D cy A)  (h : B_X5_has_0 w_t v1 = some res) {H : Heap} {locs : List Loc} {ls : Array Slot} (hP : va_P D vwCl (wc_X5_has cy q_t q_t_kind q_t_grief q_t_bears q_t_rota w_t) H) (hD : va_D A (wc_X5_has cy q_t q_t_kind q_t_grief q_t_bears q_t_rota w_t)) (hS : va_S A s.heap H locs) (hl : lv_has ls 2 [(0, .ref q_t), (1, .int v1)]) : W p l e rm_X5_has s m args below meth c H locs 0 0 (qq_X5_has below args s D cy A q_t q_t_kind q_t_grief q_t_bears q_t_rota w_t res) (F0 m 0 ls []) := by
  obtain ⟨hx, hb, hr, hml, hown, hts, hK, hlocks, hA⟩ := id C0
  unfold B_X5_has_0 at h
  refine lv_iload_n hx hb dX5_has_0 rfl (lv_at hl 1 rfl) ?_
  refine lv_if_lt (tgt := 16) hx hb dX5_has_1 (by decide) (fun c1 => ?_) (fun c1 => ?_)
  · replace h := it_p c1 h
    refine lv_iconst (v := 0) hx hb dX5_has_16 (by decide) ?_
    obtain rfl := Option.some.inj h
    exact W.zret (v := 0) hx hb hr (by decide) (fun tt ht hW => ⟨⟨0, (), rfl, rfl, by rw [ht]; exact hP, kk_warm hW hK, hD⟩, hS.F ht⟩) hS.2.2 dX5_has_17
  · replace h := it_n c1 h
    refine lv_iload_n hx hb dX5_has_4 rfl (lv_at hl 1 rfl) ?_
    refine lv_aload_n hx hb dX5_has_5 rfl (lv_at hl 0 rfl) ?_
    refine va_get (D := D) (ci := 5) (v := .int w_t.1) (C := RX5) (T := TX5) (N := 11) hx hb hts (fun w hw => List.mem_cons_of_mem _ (uw_X5 w hw)) hown hK.1 hP 0 rfl rfl 4 (by decide) (hts _ (List.mem_cons_of_mem _ k_41)) (fun _ h9 => h9) rfl dX5_has_6 ?_
    refine lv_icmp_ge (tgt := 16) hx hb dX5_has_9 (by decide) (fun c9 => ?_) (fun c9 => ?_)
    · replace h := it_p c9 h
      refine lv_iconst (v := 0) hx hb dX5_has_16 (by decide) ?_
      obtain rfl := Option.some.inj h
      exact W.zret (v := 0) hx hb hr (by decide) (fun tt ht hW => ⟨⟨0, (), rfl, rfl, by rw [ht]; exact hP, kk_warm hW hK, hD⟩, hS.F ht⟩) hS.2.2 dX5_has_17
    · replace h := it_n c9 h
      refine lv_iconst (v := 1) hx hb dX5_has_12 (by decide) ?_
      refine lv_goto (tgt := 17) hx hb dX5_has_13 (by decide) ?_
      obtain rfl := Option.some.inj h
      exact W.zret (v := 1) hx hb hr (by decide) (fun tt ht hW => ⟨⟨1, (), rfl, rfl, by rw [ht]; exact hP, kk_warm hW hK, hD⟩, hS.F ht⟩) hS.2.2 dX5_has_17
def M_X5_has  (w_t : s_W)   (v1 : Int32) : Option (Int32) := B_X5_has_0 w_t v1
set_option maxHeartbeats 4000000 in
set_option maxRecDepth 100000 in
theorem c_X5_has (l : Launch) (D : va_G) (cy : Nat → ClassId) (sz : Nat) (q_t : Nat) (q_t_kind : Nat) (q_t_grief : Nat) (q_t_bears : Nat) (q_t_rota : Nat) (w_t : s_W) (v1 : Int32)  {res : Int32} (h : M_X5_has w_t v1 = some res) : ct_i l yX5_has (.code yX5_has cX5_has 2 ((some .boolean)) :: wg_L) rm_X5_has D cy sz (wc_X5_has cy q_t q_t_kind q_t_grief q_t_bears q_t_rota w_t) [.ref q_t, .int v1] (fun r (_ : Unit) => r = res) (fun (u : Unit) => wc_X5_has cy q_t q_t_kind q_t_grief q_t_bears q_t_rota w_t) := by
  refine Met.ofW (cc := cX5_has) (maxL := 2) (ret := (some .boolean)) (by decide) rfl ?_
  intro p e s m args below meth c s₁ B hml hv
  obtain ⟨rfl, hsz, hP, hK, hD0⟩ := hv
  subst hsz
  have hD := hD0.self (sz := s.heap.size)
  have hl := lv_entry ([.ref q_t, .int v1]) (n := 2) (Nat.le_of_ble_eq_true rfl)
  rw [lg_entry_eq]
  have C0 : cx_C cX5_has ((some .boolean)) 2 RX5 (.code yX5_has cX5_has 2 ((some .boolean)) :: wg_L) p s m [.ref q_t, .int v1].toArray meth c D cy (va_A (wc_X5_has cy q_t q_t_kind q_t_grief q_t_bears q_t_rota w_t) s.heap.size) := ⟨B.exec, B.bytes, B.returns, hml, findClass_of_methodNamed B.named, atoms_spec (ws := .code yX5_has cX5_has 2 ((some .boolean)) :: wg_L) B.pre, hK, B.notSynchronized, fun q h => Or.inr h⟩
  exact b_X5_has_0 C0 h hP hD va_S.rf (lv_sub hl [0, 1] rfl)
/-! ### BarrowGrief$World.whose()I -/
abbrev wc_X5_whose (cy : Nat → ClassId) (q_t q_t_kind q_t_grief q_t_bears q_t_rota : Nat) (w_t : s_W) : va_W := [(q_t, .inr (5, [.ref q_t_kind, .ref q_t_grief, .ref q_t_bears, .ref q_t_rota, .int w_t.1, .int w_t.2.1, .int w_t.2.2.1, .int w_t.2.2.2.1, .int w_t.2.2.2.2.1, .int w_t.2.2.2.2.2.1, .int w_t.2.2.2.2.2.2.1])), (q_t_kind, .inl (cy 1, 5, .inl w_t.2.2.2.2.2.2.2.1)), (q_t_grief, .inl (cy 1, 5, .inl w_t.2.2.2.2.2.2.2.2.1)), (q_t_bears, .inl (cy 1, 5, .inl w_t.2.2.2.2.2.2.2.2.2.1)), (q_t_rota, .inl (cy 1, 8, .inl w_t.2.2.2.2.2.2.2.2.2.2))]
abbrev rm_X5_whose : Room := { frames := 0, cells := 0, slots := 0, locals := 0 }
abbrev qq_X5_whose (below : List Frame) (args : Array Value) (s : State) (D : va_G) (cy : Nat → ClassId) (A : Nat → Prop) (q_t : Nat) (q_t_kind : Nat) (q_t_grief : Nat) (q_t_bears : Nat) (q_t_rota : Nat) (w_t : s_W) (res : Int32) : State → Prop := MQ below (va_Qi (fun r (_ : Unit) => r = res) (fun u t => st_B D cy A ((fun (u : Unit) => wc_X5_whose cy q_t q_t_kind q_t_grief q_t_bears q_t_rota w_t) u) t) A) args s 0 0 A
def B_X5_whose_0  (w_t : s_W)    : Option (Int32) := if w_t.2.1 ≤ 0 then (some (-4)) else (gz_i w_t.2.1 (gi_n (w_t.2.2.2.2.1 - w_t.2.2.2.2.1 / w_t.2.1 * w_t.2.1) 8 (some (w_t.2.2.2.2.2.2.2.2.2.2 (w_t.2.2.2.2.1 - w_t.2.2.2.2.1 / w_t.2.1 * w_t.2.1).toNatClampNeg))))
set_option maxHeartbeats 4000000 in
set_option maxRecDepth 100000 in
theorem b_X5_whose_0 {p : Program} {l : Launch} {e : Env} {s : State} {m : MethodId} {args : Array Value} {below : List Frame} {meth : Method} {c : Code} {D : va_G} {cy : Nat → ClassId} {A : Nat → Prop} {q_t : Nat} {q_t_kind : Nat} {q_t_grief : Nat} {q_t_bears : Nat} {q_t_rota : Nat} {w_t : s_W} {res : Int32}     (C0 : cx_C cX5_whose ((some .int)) 1 RX5 (.code yX5_whose cX5_whose 1 ((some .int)) :: wg_L) p s m args meth c D cy A)  (h : B_X5_whose_0 w_t = some res) {H : Heap} {locs : List Loc} {ls : Array Slot} (hP : va_P D vwCl (wc_X5_whose cy q_t q_t_kind q_t_grief q_t_bears q_t_rota w_t) H) (hD : va_D A (wc_X5_whose cy q_t q_t_kind q_t_grief q_t_bears q_t_rota w_t)) (hS : va_S A s.heap H locs) (hl : lv_has ls 1 [(0, .ref q_t)]) : W p l e rm_X5_whose s m args below meth c H locs 0 0 (qq_X5_whose below args s D cy A q_t q_t_kind q_t_grief q_t_bears q_t_rota w_t res) (F0 m 0 ls []) := by
  obtain ⟨hx, hb, hr, hml, hown, hts, hK, hlocks, hA⟩ := id C0
  unfold B_X5_whose_0 at h
  refine lv_aload_n hx hb dX5_whose_0 rfl (lv_at hl 0 rfl) ?_
  refine va_get (D := D) (ci := 5) (v := .int w_t.2.1) (C := RX5) (T := TX5) (N := 11) hx hb hts (fun w hw => List.mem_cons_of_mem _ (uw_X5 w hw)) hown hK.1 hP 0 rfl rfl 5 (by decide) (hts _ (List.mem_cons_of_mem _ k_44)) (fun _ h9 => h9) rfl dX5_whose_1 ?_
  refine lv_if_le (tgt := 24) hx hb dX5_whose_4 (by decide) (fun c4 => ?_) (fun c4 => ?_)
  · replace h := it_p c4 h
    refine lv_bipush (v := (-4)) hx hb dX5_whose_24 (by decide) ?_
    obtain rfl := Option.some.inj h
    exact W.iret (v := (-4)) hx hb hr (fun tt ht hW => ⟨⟨(-4), (), rfl, rfl, by rw [ht]; exact hP, kk_warm hW hK, hD⟩, hS.F ht⟩) hS.2.2 dX5_whose_26
  · replace h := it_n c4 h
    refine lv_aload_n hx hb dX5_whose_7 rfl (lv_at hl 0 rfl) ?_
    refine va_get (D := D) (ci := 5) (v := .ref q_t_rota) (C := RX5) (T := TX5) (N := 11) hx hb hts (fun w hw => List.mem_cons_of_mem _ (uw_X5 w hw)) hown hK.1 hP 0 rfl rfl 3 (by decide) (hts _ (List.mem_cons_of_mem _ k_38)) (fun _ h9 => h9) rfl dX5_whose_8 ?_
    refine lv_aload_n hx hb dX5_whose_11 rfl (lv_at hl 0 rfl) ?_
    refine va_get (D := D) (ci := 5) (v := .int w_t.2.2.2.2.1) (C := RX5) (T := TX5) (N := 11) hx hb hts (fun w hw => List.mem_cons_of_mem _ (uw_X5 w hw)) hown hK.1 hP 0 rfl rfl 8 (by decide) (hts _ (List.mem_cons_of_mem _ k_53)) (fun _ h9 => h9) rfl dX5_whose_12 ?_
    refine lv_aload_n hx hb dX5_whose_15 rfl (lv_at hl 0 rfl) ?_
    refine va_get (D := D) (ci := 5) (v := .int w_t.2.1) (C := RX5) (T := TX5) (N := 11) hx hb hts (fun w hw => List.mem_cons_of_mem _ (uw_X5 w hw)) hown hK.1 hP 0 rfl rfl 5 (by decide) (hts _ (List.mem_cons_of_mem _ k_44)) (fun _ h9 => h9) rfl dX5_whose_16 ?_
    obtain ⟨hz1, h⟩ := gz_d h
    refine lv_irem hx hb dX5_whose_19 hz1 ?_
    obtain ⟨hi2, h⟩ := gi_d h
    refine va_iald hx hb hK.1 hP 4 1 rfl rfl hi2 dX5_whose_20 ?_
    refine lv_goto (tgt := 26) hx hb dX5_whose_21 (by decide) ?_
    obtain rfl := Option.some.inj h
    exact W.iret (v := (w_t.2.2.2.2.2.2.2.2.2.2 (w_t.2.2.2.2.1 - w_t.2.2.2.2.1 / w_t.2.1 * w_t.2.1).toNatClampNeg)) hx hb hr (fun tt ht hW => ⟨⟨(w_t.2.2.2.2.2.2.2.2.2.2 (w_t.2.2.2.2.1 - w_t.2.2.2.2.1 / w_t.2.1 * w_t.2.1).toNatClampNeg), (), rfl, rfl, by rw [ht]; exact hP, kk_warm hW hK, hD⟩, hS.F ht⟩) hS.2.2 dX5_whose_26
def M_X5_whose  (w_t : s_W)    : Option (Int32) := B_X5_whose_0 w_t
set_option maxHeartbeats 4000000 in
set_option maxRecDepth 100000 in
theorem c_X5_whose (l : Launch) (D : va_G) (cy : Nat → ClassId) (sz : Nat) (q_t : Nat) (q_t_kind : Nat) (q_t_grief : Nat) (q_t_bears : Nat) (q_t_rota : Nat) (w_t : s_W)   {res : Int32} (h : M_X5_whose w_t = some res) : ct_i l yX5_whose (.code yX5_whose cX5_whose 1 ((some .int)) :: wg_L) rm_X5_whose D cy sz (wc_X5_whose cy q_t q_t_kind q_t_grief q_t_bears q_t_rota w_t) [.ref q_t] (fun r (_ : Unit) => r = res) (fun (u : Unit) => wc_X5_whose cy q_t q_t_kind q_t_grief q_t_bears q_t_rota w_t) := by
  refine Met.ofW (cc := cX5_whose) (maxL := 1) (ret := (some .int)) (by decide) rfl ?_
  intro p e s m args below meth c s₁ B hml hv
  obtain ⟨rfl, hsz, hP, hK, hD0⟩ := hv
  subst hsz
  have hD := hD0.self (sz := s.heap.size)
  have hl := lv_entry ([.ref q_t]) (n := 1) (Nat.le_of_ble_eq_true rfl)
  rw [lg_entry_eq]
  have C0 : cx_C cX5_whose ((some .int)) 1 RX5 (.code yX5_whose cX5_whose 1 ((some .int)) :: wg_L) p s m [.ref q_t].toArray meth c D cy (va_A (wc_X5_whose cy q_t q_t_kind q_t_grief q_t_bears q_t_rota w_t) s.heap.size) := ⟨B.exec, B.bytes, B.returns, hml, findClass_of_methodNamed B.named, atoms_spec (ws := .code yX5_whose cX5_whose 1 ((some .int)) :: wg_L) B.pre, hK, B.notSynchronized, fun q h => Or.inr h⟩
  exact b_X5_whose_0 C0 h hP hD va_S.rf (lv_sub hl [0] rfl)
/-! ### BarrowGrief$World.hand(I)I -/
abbrev wc_X5_hand (cy : Nat → ClassId) : va_W := []
abbrev rm_X5_hand : Room := { frames := 0, cells := 0, slots := 0, locals := 0 }
abbrev qq_X5_hand (below : List Frame) (args : Array Value) (s : State) (D : va_G) (cy : Nat → ClassId) (A : Nat → Prop)  (res : Int32) : State → Prop := MQ below (va_Qi (fun r (_ : Unit) => r = res) (fun u t => st_B D cy A ((fun (u : Unit) => wc_X5_hand cy ) u) t) A) args s 0 0 A
def B_X5_hand_0     (v0 : Int32) : Option (Int32) := if v0 = 1 then (some 8) else (if v0 = 2 then (some 2) else (if v0 = 3 then (some 5) else (some 4)))
set_option maxHeartbeats 4000000 in
set_option maxRecDepth 100000 in
theorem b_X5_hand_0 {p : Program} {l : Launch} {e : Env} {s : State} {m : MethodId} {args : Array Value} {below : List Frame} {meth : Method} {c : Code} {D : va_G} {cy : Nat → ClassId} {A : Nat → Prop}  {res : Int32}    {v0 : Int32} (C0 : cx_C cX5_hand ((some .int)) 1 RX5 (.code yX5_hand cX5_hand 1 ((some .int)) :: wg_L) p s m args meth c D cy A)  (h : B_X5_hand_0 v0 = some res) {H : Heap} {locs : List Loc} {ls : Array Slot} (hP : va_P D vwCl (wc_X5_hand cy ) H) (hD : va_D A (wc_X5_hand cy )) (hS : va_S A s.heap H locs) (hl : lv_has ls 1 [(0, .int v0)]) : W p l e rm_X5_hand s m args below meth c H locs 0 0 (qq_X5_hand below args s D cy A  res) (F0 m 0 ls []) := by
  obtain ⟨hx, hb, hr, hml, hown, hts, hK, hlocks, hA⟩ := id C0
  unfold B_X5_hand_0 at h
  refine lv_iload_n hx hb dX5_hand_0 rfl (lv_at hl 0 rfl) ?_
  by_cases c1_1 : v0 = 1
  · replace h := it_p c1_1 h
    refine lv_tableIn (tgt := 28) hx hb dX5_hand_1 (by rw [c1_1]; decide) (by rw [c1_1]; decide) (by rw [c1_1]; rfl) (by decide) ?_
    refine lv_bipush (v := 8) hx hb dX5_hand_28 (by decide) ?_
    obtain rfl := Option.some.inj h
    exact W.iret (v := 8) hx hb hr (fun tt ht hW => ⟨⟨8, (), rfl, rfl, by rw [ht]; exact hP, kk_warm hW hK, hD⟩, hS.F ht⟩) hS.2.2 dX5_hand_30
  replace h := it_n c1_1 h
  by_cases c1_2 : v0 = 2
  · replace h := it_p c1_2 h
    refine lv_tableIn (tgt := 31) hx hb dX5_hand_1 (by rw [c1_2]; decide) (by rw [c1_2]; decide) (by rw [c1_2]; rfl) (by decide) ?_
    refine lv_iconst (v := 2) hx hb dX5_hand_31 (by decide) ?_
    obtain rfl := Option.some.inj h
    exact W.iret (v := 2) hx hb hr (fun tt ht hW => ⟨⟨2, (), rfl, rfl, by rw [ht]; exact hP, kk_warm hW hK, hD⟩, hS.F ht⟩) hS.2.2 dX5_hand_32
  replace h := it_n c1_2 h
  by_cases c1_3 : v0 = 3
  · replace h := it_p c1_3 h
    refine lv_tableIn (tgt := 33) hx hb dX5_hand_1 (by rw [c1_3]; decide) (by rw [c1_3]; decide) (by rw [c1_3]; rfl) (by decide) ?_
    refine lv_iconst (v := 5) hx hb dX5_hand_33 (by decide) ?_
    obtain rfl := Option.some.inj h
    exact W.iret (v := 5) hx hb hr (fun tt ht hW => ⟨⟨5, (), rfl, rfl, by rw [ht]; exact hP, kk_warm hW hK, hD⟩, hS.F ht⟩) hS.2.2 dX5_hand_34
  replace h := it_n c1_3 h
  have n1_1 := sw_ne 1 (by decide) c1_1
  have n1_2 := sw_ne 2 (by decide) c1_2
  have n1_3 := sw_ne 3 (by decide) c1_3
  refine lv_tableOut (tgt := 35) hx hb dX5_hand_1 (by omega) (by decide) ?_
  refine lv_iconst (v := 4) hx hb dX5_hand_35 (by decide) ?_
  obtain rfl := Option.some.inj h
  exact W.iret (v := 4) hx hb hr (fun tt ht hW => ⟨⟨4, (), rfl, rfl, by rw [ht]; exact hP, kk_warm hW hK, hD⟩, hS.F ht⟩) hS.2.2 dX5_hand_36
def M_X5_hand     (v0 : Int32) : Option (Int32) := B_X5_hand_0 v0
set_option maxHeartbeats 4000000 in
set_option maxRecDepth 100000 in
theorem c_X5_hand (l : Launch) (D : va_G) (cy : Nat → ClassId) (sz : Nat)  (v0 : Int32)  {res : Int32} (h : M_X5_hand v0 = some res) : ct_i l yX5_hand (.code yX5_hand cX5_hand 1 ((some .int)) :: wg_L) rm_X5_hand D cy sz (wc_X5_hand cy ) [.int v0] (fun r (_ : Unit) => r = res) (fun (u : Unit) => wc_X5_hand cy ) := by
  refine Met.ofW (cc := cX5_hand) (maxL := 1) (ret := (some .int)) (by decide) rfl ?_
  intro p e s m args below meth c s₁ B hml hv
  obtain ⟨rfl, hsz, hP, hK, hD0⟩ := hv
  subst hsz
  have hD := hD0.self (sz := s.heap.size)
  have hl := lv_entry ([.int v0]) (n := 1) (Nat.le_of_ble_eq_true rfl)
  rw [lg_entry_eq]
  have C0 : cx_C cX5_hand ((some .int)) 1 RX5 (.code yX5_hand cX5_hand 1 ((some .int)) :: wg_L) p s m [.int v0].toArray meth c D cy (va_A (wc_X5_hand cy ) s.heap.size) := ⟨B.exec, B.bytes, B.returns, hml, findClass_of_methodNamed B.named, atoms_spec (ws := .code yX5_hand cX5_hand 1 ((some .int)) :: wg_L) B.pre, hK, B.notSynchronized, fun q h => Or.inr h⟩
  exact b_X5_hand_0 C0 h hP hD va_S.rf (lv_sub hl [0] rfl)
/-! ### BarrowGrief$World.heals(II)I -/
abbrev wc_X5_heals (cy : Nat → ClassId) : va_W := []
abbrev rm_X5_heals : Room := { frames := 1, cells := 0, slots := 0, locals := 21 }
abbrev qq_X5_heals (below : List Frame) (args : Array Value) (s : State) (D : va_G) (cy : Nat → ClassId) (A : Nat → Prop)  (res : Int32) : State → Prop := MQ below (va_Qi (fun r (_ : Unit) => r = res) (fun u t => st_B D cy A ((fun (u : Unit) => wc_X5_heals cy ) u) t) A) args s 0 0 A
def B_X5_heals_0     (v0 : Int32) (v1 : Int32) : Option (Int32) := nm_v (v1 / 4) (fun v2_3 => nm_v (v2_3 / 2) (fun v3_7 => if v0 = 1 then (some v3_7) else (if v0 = 2 then (some (if v1 < (v2_3 + 1) then v1 else (v2_3 + 1))) else (if v0 = 3 then (some (if v1 < ((2 * v3_7) + 1) then v1 else ((2 * v3_7) + 1))) else (some v2_3)))))
set_option maxHeartbeats 4000000 in
set_option maxRecDepth 100000 in
theorem b_X5_heals_0 {p : Program} {l : Launch} {e : Env} {s : State} {m : MethodId} {args : Array Value} {below : List Frame} {meth : Method} {c : Code} {D : va_G} {cy : Nat → ClassId} {A : Nat → Prop}  {res : Int32}    {v0 : Int32} {v1 : Int32} (C0 : cx_C cX5_heals ((some .int)) 4 RX5 (.code yX5_heals cX5_heals 4 ((some .int)) :: wg_L) p s m args meth c D cy A)  (h : B_X5_heals_0 v0 v1 = some res) {H : Heap} {locs : List Loc} {ls : Array Slot} (hP : va_P D vwCl (wc_X5_heals cy ) H) (hD : va_D A (wc_X5_heals cy )) (hS : va_S A s.heap H locs) (hl : lv_has ls 4 [(0, .int v0), (1, .int v1)]) : W p l e rm_X5_heals s m args below meth c H locs 0 0 (qq_X5_heals below args s D cy A  res) (F0 m 0 ls []) := by
  obtain ⟨hx, hb, hr, hml, hown, hts, hK, hlocks, hA⟩ := id C0
  unfold B_X5_heals_0 at h
  refine lv_iload_n hx hb dX5_heals_0 rfl (lv_at hl 1 rfl) ?_
  refine lv_iconst (v := 4) hx hb dX5_heals_1 (by decide) ?_
  refine lv_idiv hx hb dX5_heals_2 (by decide) ?_
  refine lv_topi (fun v2_3 ev2_3 => ?_)
  replace h := nm_d ev2_3 h
  refine lv_istore_n (lv' := [(2, .int v2_3), (0, .int v0), (1, .int v1)]) hx hb dX5_heals_3 rfl hl (by decide) rfl (fun ls hl => ?_)
  refine lv_iload_n hx hb dX5_heals_4 rfl (lv_at hl 0 rfl) ?_
  refine lv_iconst (v := 2) hx hb dX5_heals_5 (by decide) ?_
  refine lv_idiv hx hb dX5_heals_6 (by decide) ?_
  refine lv_topi (fun v3_7 ev3_7 => ?_)
  replace h := nm_d ev3_7 h
  refine lv_istore_n (lv' := [(3, .int v3_7), (2, .int v2_3), (0, .int v0), (1, .int v1)]) hx hb dX5_heals_7 rfl hl (by decide) rfl (fun ls hl => ?_)
  refine lv_iload_n hx hb dX5_heals_8 rfl (lv_at hl 2 rfl) ?_
  by_cases c9_1 : v0 = 1
  · replace h := it_p c9_1 h
    refine lv_tableIn (tgt := 36) hx hb dX5_heals_9 (by rw [c9_1]; decide) (by rw [c9_1]; decide) (by rw [c9_1]; rfl) (by decide) ?_
    refine lv_iload_n hx hb dX5_heals_36 rfl (lv_at hl 0 rfl) ?_
    obtain rfl := Option.some.inj h
    exact W.iret (v := v3_7) hx hb hr (fun tt ht hW => ⟨⟨v3_7, (), rfl, rfl, by rw [ht]; exact hP, kk_warm hW hK, hD⟩, hS.F ht⟩) hS.2.2 dX5_heals_37
  replace h := it_n c9_1 h
  by_cases c9_2 : v0 = 2
  · replace h := it_p c9_2 h
    refine lv_tableIn (tgt := 38) hx hb dX5_heals_9 (by rw [c9_2]; decide) (by rw [c9_2]; decide) (by rw [c9_2]; rfl) (by decide) ?_
    refine lv_iload_n hx hb dX5_heals_38 rfl (lv_at hl 1 rfl) ?_
    refine lv_iconst (v := 1) hx hb dX5_heals_39 (by decide) ?_
    refine lv_iadd hx hb dX5_heals_40 ?_
    refine lv_iload_n hx hb dX5_heals_41 rfl (lv_at hl 3 rfl) ?_
    refine va_mmin (own := RX5) hx hb (by rw [hml]; exact hl.1.symm) hown (hts _ (List.mem_cons_of_mem _ k_418)) (hts _ (List.mem_cons_of_mem _ k_419)) (hts _ (List.mem_cons_of_mem _ k_14)) (hts _ (List.mem_cons_of_mem _ k_420)) (by decide) (Nat.le_of_ble_eq_true rfl) (by decide) (by decide) dX5_heals_42 ?_
    obtain rfl := Option.some.inj h
    exact W.iret (v := (if v1 < (v2_3 + 1) then v1 else (v2_3 + 1))) hx hb hr (fun tt ht hW => ⟨⟨(if v1 < (v2_3 + 1) then v1 else (v2_3 + 1)), (), rfl, rfl, by rw [ht]; exact hP, kk_warm hW hK, hD⟩, hS.F ht⟩) hS.2.2 dX5_heals_45
  replace h := it_n c9_2 h
  by_cases c9_3 : v0 = 3
  · replace h := it_p c9_3 h
    refine lv_tableIn (tgt := 46) hx hb dX5_heals_9 (by rw [c9_3]; decide) (by rw [c9_3]; decide) (by rw [c9_3]; rfl) (by decide) ?_
    refine lv_iconst (v := 2) hx hb dX5_heals_46 (by decide) ?_
    refine lv_iload_n hx hb dX5_heals_47 rfl (lv_at hl 0 rfl) ?_
    refine lv_imul hx hb dX5_heals_48 ?_
    refine lv_iconst (v := 1) hx hb dX5_heals_49 (by decide) ?_
    refine lv_iadd hx hb dX5_heals_50 ?_
    refine lv_iload_n hx hb dX5_heals_51 rfl (lv_at hl 3 rfl) ?_
    refine va_mmin (own := RX5) hx hb (by rw [hml]; exact hl.1.symm) hown (hts _ (List.mem_cons_of_mem _ k_418)) (hts _ (List.mem_cons_of_mem _ k_419)) (hts _ (List.mem_cons_of_mem _ k_14)) (hts _ (List.mem_cons_of_mem _ k_420)) (by decide) (Nat.le_of_ble_eq_true rfl) (by decide) (by decide) dX5_heals_52 ?_
    obtain rfl := Option.some.inj h
    exact W.iret (v := (if v1 < ((2 * v3_7) + 1) then v1 else ((2 * v3_7) + 1))) hx hb hr (fun tt ht hW => ⟨⟨(if v1 < ((2 * v3_7) + 1) then v1 else ((2 * v3_7) + 1)), (), rfl, rfl, by rw [ht]; exact hP, kk_warm hW hK, hD⟩, hS.F ht⟩) hS.2.2 dX5_heals_55
  replace h := it_n c9_3 h
  have n9_1 := sw_ne 1 (by decide) c9_1
  have n9_2 := sw_ne 2 (by decide) c9_2
  have n9_3 := sw_ne 3 (by decide) c9_3
  refine lv_tableOut (tgt := 56) hx hb dX5_heals_9 (by omega) (by decide) ?_
  refine lv_iload_n hx hb dX5_heals_56 rfl (lv_at hl 1 rfl) ?_
  obtain rfl := Option.some.inj h
  exact W.iret (v := v2_3) hx hb hr (fun tt ht hW => ⟨⟨v2_3, (), rfl, rfl, by rw [ht]; exact hP, kk_warm hW hK, hD⟩, hS.F ht⟩) hS.2.2 dX5_heals_57
def M_X5_heals     (v0 : Int32) (v1 : Int32) : Option (Int32) := B_X5_heals_0 v0 v1
set_option maxHeartbeats 4000000 in
set_option maxRecDepth 100000 in
theorem c_X5_heals (l : Launch) (D : va_G) (cy : Nat → ClassId) (sz : Nat)  (v0 : Int32) (v1 : Int32)  {res : Int32} (h : M_X5_heals v0 v1 = some res) : ct_i l yX5_heals (.code yX5_heals cX5_heals 4 ((some .int)) :: wg_L) rm_X5_heals D cy sz (wc_X5_heals cy ) [.int v0, .int v1] (fun r (_ : Unit) => r = res) (fun (u : Unit) => wc_X5_heals cy ) := by
  refine Met.ofW (cc := cX5_heals) (maxL := 4) (ret := (some .int)) (by decide) rfl ?_
  intro p e s m args below meth c s₁ B hml hv
  obtain ⟨rfl, hsz, hP, hK, hD0⟩ := hv
  subst hsz
  have hD := hD0.self (sz := s.heap.size)
  have hl := lv_entry ([.int v0, .int v1]) (n := 4) (Nat.le_of_ble_eq_true rfl)
  rw [lg_entry_eq]
  have C0 : cx_C cX5_heals ((some .int)) 4 RX5 (.code yX5_heals cX5_heals 4 ((some .int)) :: wg_L) p s m [.int v0, .int v1].toArray meth c D cy (va_A (wc_X5_heals cy ) s.heap.size) := ⟨B.exec, B.bytes, B.returns, hml, findClass_of_methodNamed B.named, atoms_spec (ws := .code yX5_heals cX5_heals 4 ((some .int)) :: wg_L) B.pre, hK, B.notSynchronized, fun q h => Or.inr h⟩
  exact b_X5_heals_0 C0 h hP hD va_S.rf (lv_sub hl [0, 1] rfl)
/-! ### BarrowGrief$World.grieve(II)V -/
abbrev wc_X5_grieve (cy : Nat → ClassId) (q_t q_t_kind q_t_grief q_t_bears q_t_rota : Nat) (w_t : s_W) : va_W := [(q_t, .inr (5, [.ref q_t_kind, .ref q_t_grief, .ref q_t_bears, .ref q_t_rota, .int w_t.1, .int w_t.2.1, .int w_t.2.2.1, .int w_t.2.2.2.1, .int w_t.2.2.2.2.1, .int w_t.2.2.2.2.2.1, .int w_t.2.2.2.2.2.2.1])), (q_t_kind, .inl (cy 1, 5, .inl w_t.2.2.2.2.2.2.2.1)), (q_t_grief, .inl (cy 1, 5, .inl w_t.2.2.2.2.2.2.2.2.1)), (q_t_bears, .inl (cy 1, 5, .inl w_t.2.2.2.2.2.2.2.2.2.1)), (q_t_rota, .inl (cy 1, 8, .inl w_t.2.2.2.2.2.2.2.2.2.2))]
abbrev rm_X5_grieve : Room := { frames := 1, cells := 0, slots := 0, locals := 21 }
abbrev qq_X5_grieve (below : List Frame) (args : Array Value) (s : State) (D : va_G) (cy : Nat → ClassId) (A : Nat → Prop) (q_t : Nat) (q_t_kind : Nat) (q_t_grief : Nat) (q_t_bears : Nat) (q_t_rota : Nat) (res : s_W) : State → Prop := MQ below (va_Qv (fun (u : s_W) => u = res) (fun u t => st_B D cy A ((fun (u : s_W) => wc_X5_grieve cy q_t q_t_kind q_t_grief q_t_bears q_t_rota u) u) t) A) args s 0 0 A
def B_X5_grieve_0    (w_t : s_W) (v1 : Int32) (v2 : Int32) : Option (s_W) := (M_X5_has w_t v1).bind (fun u2 => if u2 = 0 then (some w_t) else (gi_n v1 5 (nm_v (if 99 < ((w_t.2.2.2.2.2.2.2.2.1 v1.toNatClampNeg) + v2) then 99 else ((w_t.2.2.2.2.2.2.2.2.1 v1.toNatClampNeg) + v2)) (fun z26 => gi_n v1 5 (some (w_t.1, w_t.2.1, w_t.2.2.1, w_t.2.2.2.1, w_t.2.2.2.2.1, w_t.2.2.2.2.2.1, w_t.2.2.2.2.2.2.1, w_t.2.2.2.2.2.2.2.1, (upd w_t.2.2.2.2.2.2.2.2.1 v1.toNatClampNeg z26), w_t.2.2.2.2.2.2.2.2.2.1, w_t.2.2.2.2.2.2.2.2.2.2))))))
set_option maxHeartbeats 4000000 in
set_option maxRecDepth 100000 in
theorem b_X5_grieve_0 {p : Program} {l : Launch} {e : Env} {s : State} {m : MethodId} {args : Array Value} {below : List Frame} {meth : Method} {c : Code} {D : va_G} {cy : Nat → ClassId} {A : Nat → Prop} {q_t : Nat} {q_t_kind : Nat} {q_t_grief : Nat} {q_t_bears : Nat} {q_t_rota : Nat} {res : s_W}   {w_t : s_W} {v1 : Int32} {v2 : Int32} (C0 : cx_C cX5_grieve (none) 3 RX5 (.code yX5_grieve cX5_grieve 3 (none) :: wg_L) p s m args meth c D cy A)  (h : B_X5_grieve_0 w_t v1 v2 = some res) {H : Heap} {locs : List Loc} {ls : Array Slot} (hP : va_P D vwCl (wc_X5_grieve cy q_t q_t_kind q_t_grief q_t_bears q_t_rota w_t) H) (hD : va_D A (wc_X5_grieve cy q_t q_t_kind q_t_grief q_t_bears q_t_rota w_t)) (hS : va_S A s.heap H locs) (hl : lv_has ls 3 [(0, .ref q_t), (1, .int v1), (2, .int v2)]) : W p l e rm_X5_grieve s m args below meth c H locs 0 0 (qq_X5_grieve below args s D cy A q_t q_t_kind q_t_grief q_t_bears q_t_rota res) (F0 m 0 ls []) := by
  obtain ⟨hx, hb, hr, hml, hown, hts, hK, hlocks, hA⟩ := id C0
  unfold B_X5_grieve_0 at h
  refine lv_aload_n hx hb dX5_grieve_0 rfl (lv_at hl 0 rfl) ?_
  refine lv_iload_n hx hb dX5_grieve_1 rfl (lv_at hl 1 rfl) ?_
  obtain ⟨u2, hc2, h⟩ := bd_d h
  have hPc := hP.sub (ws' := wc_X5_has cy q_t q_t_kind q_t_grief q_t_bears q_t_rota w_t) [0, 1, 2, 3, 4] rfl
  have hDc := hD.sub (ws' := wc_X5_has cy q_t q_t_kind q_t_grief q_t_bears q_t_rota w_t) [0, 1, 2, 3, 4] (by decide) rfl
  refine cl_i (fun (u : Unit) => wc_X5_grieve cy q_t q_t_kind q_t_grief q_t_bears q_t_rota w_t) (va_runV (As := [.int v1]) (rest := []) (C := RX5) ⟨hx, hb, hml, hown, hts⟩ (c_X5_has l D cy H.size q_t q_t_kind q_t_grief q_t_bears q_t_rota w_t v1 hc2) ⟨callB_of 1 hts (wg_in k_376) rfl rfl rfl (hts _ (List.mem_cons_of_mem _ k_2)) (hts _ (List.mem_cons_of_mem _ k_433)) (by decide +kernel) ⟨by decide, by decide⟩, (hts _ (List.mem_cons_of_mem _ k_374)), (hts _ (List.mem_cons_of_mem _ k_375))⟩ ⟨st_blind, va_recv hK.1 hPc (ci := 5) (q0 := 0) rfl rfl, fun U hU hW => st_pre hK hPc hDc hU hW⟩ rfl rfl hl.1 rfl (lv_room (Nat.le_of_ble_eq_true rfl)) dX5_grieve_2 ⟨by decide, by decide⟩) hP hD hS hA [0, 1, 2, 3, 4] [] [0, 1, 2, 3, 4] rfl rfl (by decide) (by decide) (by decide) (fun _ => rfl) (fun r u H locs hw hP hD hS => ?_)
  obtain rfl := hw.symm
  refine lv_if_eq (tgt := 27) hx hb dX5_grieve_5 (by decide) (fun c5 => ?_) (fun c5 => ?_)
  · replace h := it_p c5 h
    obtain rfl := Option.some.inj h
    exact W.vret hx hb hr (fun tt ht hW => ⟨⟨w_t, rfl, rfl, by rw [ht]; exact hP, kk_warm hW hK, hD⟩, hS.F ht⟩) hS.2.2 dX5_grieve_27
  · replace h := it_n c5 h
    refine lv_aload_n hx hb dX5_grieve_8 rfl (lv_at hl 0 rfl) ?_
    refine va_get (D := D) (ci := 5) (v := .ref q_t_grief) (C := RX5) (T := TX5) (N := 11) hx hb hts (fun w hw => List.mem_cons_of_mem _ (uw_X5 w hw)) hown hK.1 hP 0 rfl rfl 1 (by decide) (hts _ (List.mem_cons_of_mem _ k_33)) (fun _ h9 => h9) rfl dX5_grieve_9 ?_
    refine lv_iload_n hx hb dX5_grieve_12 rfl (lv_at hl 1 rfl) ?_
    refine lv_aload_n hx hb dX5_grieve_13 rfl (lv_at hl 0 rfl) ?_
    refine va_get (D := D) (ci := 5) (v := .ref q_t_grief) (C := RX5) (T := TX5) (N := 11) hx hb hts (fun w hw => List.mem_cons_of_mem _ (uw_X5 w hw)) hown hK.1 hP 0 rfl rfl 1 (by decide) (hts _ (List.mem_cons_of_mem _ k_33)) (fun _ h9 => h9) rfl dX5_grieve_14 ?_
    refine lv_iload_n hx hb dX5_grieve_17 rfl (lv_at hl 1 rfl) ?_
    obtain ⟨hi1, h⟩ := gi_d h
    refine va_iald hx hb hK.1 hP 2 1 rfl rfl hi1 dX5_grieve_18 ?_
    refine lv_iload_n hx hb dX5_grieve_19 rfl (lv_at hl 2 rfl) ?_
    refine lv_iadd hx hb dX5_grieve_20 ?_
    refine lv_bipush (v := 99) hx hb dX5_grieve_21 (by decide) ?_
    refine va_mmin (own := RX5) hx hb (by rw [hml]; exact hl.1.symm) hown (hts _ (List.mem_cons_of_mem _ k_418)) (hts _ (List.mem_cons_of_mem _ k_419)) (hts _ (List.mem_cons_of_mem _ k_14)) (hts _ (List.mem_cons_of_mem _ k_420)) (by decide) (Nat.le_of_ble_eq_true rfl) (by decide) (by decide) dX5_grieve_23 ?_
    refine lv_topi (fun z26 ez26 => ?_)
    replace h := nm_d ez26 h
    obtain ⟨hi2, h⟩ := gi_d h
    refine va_iast hx hb hK.1 hP hD hS 2 1 rfl rfl hi2 dX5_grieve_26 (fun H locs hP hD hS => ?_)
    have hP : va_P D vwCl (wc_X5_grieve cy q_t q_t_kind q_t_grief q_t_bears q_t_rota (w_t.1, w_t.2.1, w_t.2.2.1, w_t.2.2.2.1, w_t.2.2.2.2.1, w_t.2.2.2.2.2.1, w_t.2.2.2.2.2.2.1, w_t.2.2.2.2.2.2.2.1, (upd w_t.2.2.2.2.2.2.2.2.1 v1.toNatClampNeg z26), w_t.2.2.2.2.2.2.2.2.2.1, w_t.2.2.2.2.2.2.2.2.2.2)) H := hP
    have hD : va_D A (wc_X5_grieve cy q_t q_t_kind q_t_grief q_t_bears q_t_rota (w_t.1, w_t.2.1, w_t.2.2.1, w_t.2.2.2.1, w_t.2.2.2.2.1, w_t.2.2.2.2.2.1, w_t.2.2.2.2.2.2.1, w_t.2.2.2.2.2.2.2.1, (upd w_t.2.2.2.2.2.2.2.2.1 v1.toNatClampNeg z26), w_t.2.2.2.2.2.2.2.2.2.1, w_t.2.2.2.2.2.2.2.2.2.2)) := hD
    obtain rfl := Option.some.inj h
    exact W.vret hx hb hr (fun tt ht hW => ⟨⟨(w_t.1, w_t.2.1, w_t.2.2.1, w_t.2.2.2.1, w_t.2.2.2.2.1, w_t.2.2.2.2.2.1, w_t.2.2.2.2.2.2.1, w_t.2.2.2.2.2.2.2.1, (upd w_t.2.2.2.2.2.2.2.2.1 v1.toNatClampNeg z26), w_t.2.2.2.2.2.2.2.2.2.1, w_t.2.2.2.2.2.2.2.2.2.2), rfl, rfl, by rw [ht]; exact hP, kk_warm hW hK, hD⟩, hS.F ht⟩) hS.2.2 dX5_grieve_27
def M_X5_grieve    (w_t : s_W) (v1 : Int32) (v2 : Int32) : Option (s_W) := B_X5_grieve_0 w_t v1 v2
set_option maxHeartbeats 4000000 in
set_option maxRecDepth 100000 in
theorem c_X5_grieve (l : Launch) (D : va_G) (cy : Nat → ClassId) (sz : Nat) (q_t : Nat) (q_t_kind : Nat) (q_t_grief : Nat) (q_t_bears : Nat) (q_t_rota : Nat) (w_t : s_W) (v1 : Int32) (v2 : Int32)  {res : s_W} (h : M_X5_grieve w_t v1 v2 = some res) : ct_v l yX5_grieve (.code yX5_grieve cX5_grieve 3 (none) :: wg_L) rm_X5_grieve D cy sz (wc_X5_grieve cy q_t q_t_kind q_t_grief q_t_bears q_t_rota w_t) [.ref q_t, .int v1, .int v2] (fun (u : s_W) => u = res) (fun (u : s_W) => wc_X5_grieve cy q_t q_t_kind q_t_grief q_t_bears q_t_rota u) := by
  refine Met.ofW (cc := cX5_grieve) (maxL := 3) (ret := none) (by decide) rfl ?_
  intro p e s m args below meth c s₁ B hml hv
  obtain ⟨rfl, hsz, hP, hK, hD0⟩ := hv
  subst hsz
  have hD := hD0.self (sz := s.heap.size)
  have hl := lv_entry ([.ref q_t, .int v1, .int v2]) (n := 3) (Nat.le_of_ble_eq_true rfl)
  rw [lg_entry_eq]
  have C0 : cx_C cX5_grieve (none) 3 RX5 (.code yX5_grieve cX5_grieve 3 (none) :: wg_L) p s m [.ref q_t, .int v1, .int v2].toArray meth c D cy (va_A (wc_X5_grieve cy q_t q_t_kind q_t_grief q_t_bears q_t_rota w_t) s.heap.size) := ⟨B.exec, B.bytes, B.returns, hml, findClass_of_methodNamed B.named, atoms_spec (ws := .code yX5_grieve cX5_grieve 3 (none) :: wg_L) B.pre, hK, B.notSynchronized, fun q h => Or.inr h⟩
  exact b_X5_grieve_0 C0 h hP hD va_S.rf (lv_sub hl [0, 1, 2] rfl)
/-! ### BarrowGrief$World.spill(II)V -/
abbrev wc_X5_spill (cy : Nat → ClassId) (q_t q_t_kind q_t_grief q_t_bears q_t_rota : Nat) (w_t : s_W) : va_W := [(q_t, .inr (5, [.ref q_t_kind, .ref q_t_grief, .ref q_t_bears, .ref q_t_rota, .int w_t.1, .int w_t.2.1, .int w_t.2.2.1, .int w_t.2.2.2.1, .int w_t.2.2.2.2.1, .int w_t.2.2.2.2.2.1, .int w_t.2.2.2.2.2.2.1])), (q_t_kind, .inl (cy 1, 5, .inl w_t.2.2.2.2.2.2.2.1)), (q_t_grief, .inl (cy 1, 5, .inl w_t.2.2.2.2.2.2.2.2.1)), (q_t_bears, .inl (cy 1, 5, .inl w_t.2.2.2.2.2.2.2.2.2.1)), (q_t_rota, .inl (cy 1, 8, .inl w_t.2.2.2.2.2.2.2.2.2.2))]
abbrev rm_X5_spill : Room := { frames := 2, cells := 0, slots := 0, locals := 43 }
abbrev qq_X5_spill (below : List Frame) (args : Array Value) (s : State) (D : va_G) (cy : Nat → ClassId) (A : Nat → Prop) (q_t : Nat) (q_t_kind : Nat) (q_t_grief : Nat) (q_t_bears : Nat) (q_t_rota : Nat) (res : s_W) : State → Prop := MQ below (va_Qv (fun (u : s_W) => u = res) (fun u t => st_B D cy A ((fun (u : s_W) => wc_X5_spill cy q_t q_t_kind q_t_grief q_t_bears q_t_rota u) u) t) A) args s 0 0 A
def B_X5_spill_38 (k15 : s_W → Int32 → Int32 → Int32 → Option (s_W))  (f : Nat) (w_t : s_W) (v2 : Int32) (v4 : Int32) (x0 : Int32) : Option (s_W) := gi_n x0 5 (nm_v (if 99 < ((w_t.2.2.2.2.2.2.2.2.1 x0.toNatClampNeg) + 1) then 99 else ((w_t.2.2.2.2.2.2.2.2.1 x0.toNatClampNeg) + 1)) (fun z57 => gi_n x0 5 (k15 (w_t.1, w_t.2.1, w_t.2.2.1, w_t.2.2.2.1, w_t.2.2.2.2.1, w_t.2.2.2.2.2.1, w_t.2.2.2.2.2.2.1, w_t.2.2.2.2.2.2.2.1, (upd w_t.2.2.2.2.2.2.2.2.1 x0.toNatClampNeg z57), w_t.2.2.2.2.2.2.2.2.2.1, w_t.2.2.2.2.2.2.2.2.2.2) v2 x0 (v4 + 1))))
set_option maxHeartbeats 4000000 in
set_option maxRecDepth 100000 in
theorem b_X5_spill_38 {p : Program} {l : Launch} {e : Env} {s : State} {m : MethodId} {args : Array Value} {below : List Frame} {meth : Method} {c : Code} {D : va_G} {cy : Nat → ClassId} {A : Nat → Prop} {q_t : Nat} {q_t_kind : Nat} {q_t_grief : Nat} {q_t_bears : Nat} {q_t_rota : Nat} {res : s_W} {k15 : s_W → Int32 → Int32 → Int32 → Option (s_W)} {f : Nat} {w_t : s_W} {v2 : Int32} {v4 : Int32} {x0 : Int32} (C0 : cx_C cX5_spill (none) 5 RX5 (.code yX5_spill cX5_spill 5 (none) :: wg_L) p s m args meth c D cy A) (hk15 : ∀ (w_t : s_W) (v2 : Int32) (v3 : Int32) (v4 : Int32), k15 w_t v2 v3 v4 = some res → ∀ (H : Heap) (locs : List Loc) (ls : Array Slot), va_P D vwCl (wc_X5_spill cy q_t q_t_kind q_t_grief q_t_bears q_t_rota w_t) H → va_D A (wc_X5_spill cy q_t q_t_kind q_t_grief q_t_bears q_t_rota w_t) → va_S A s.heap H locs → lv_has ls 5 [(0, .ref q_t), (2, .int v2), (3, .int v3), (4, .int v4)] → W p l e rm_X5_spill s m args below meth c H locs 0 0 (qq_X5_spill below args s D cy A q_t q_t_kind q_t_grief q_t_bears q_t_rota res) (F0 m 15 ls [])) (h : B_X5_spill_38 k15 f w_t v2 v4 x0 = some res) {H : Heap} {locs : List Loc} {ls : Array Slot} (hP : va_P D vwCl (wc_X5_spill cy q_t q_t_kind q_t_grief q_t_bears q_t_rota w_t) H) (hD : va_D A (wc_X5_spill cy q_t q_t_kind q_t_grief q_t_bears q_t_rota w_t)) (hS : va_S A s.heap H locs) (hl : lv_has ls 5 [(0, .ref q_t), (2, .int v2), (4, .int v4)]) : W p l e rm_X5_spill s m args below meth c H locs 0 0 (qq_X5_spill below args s D cy A q_t q_t_kind q_t_grief q_t_bears q_t_rota res) (F0 m 38 ls [.int x0]) := by
  obtain ⟨hx, hb, hr, hml, hown, hts, hK, hlocks, hA⟩ := id C0
  unfold B_X5_spill_38 at h
  refine lv_istore_n (lv' := [(3, .int x0), (0, .ref q_t), (2, .int v2), (4, .int v4)]) hx hb dX5_spill_38 rfl hl (by decide) rfl (fun ls hl => ?_)
  refine lv_aload_n hx hb dX5_spill_39 rfl (lv_at hl 1 rfl) ?_
  refine va_get (D := D) (ci := 5) (v := .ref q_t_grief) (C := RX5) (T := TX5) (N := 11) hx hb hts (fun w hw => List.mem_cons_of_mem _ (uw_X5 w hw)) hown hK.1 hP 0 rfl rfl 1 (by decide) (hts _ (List.mem_cons_of_mem _ k_33)) (fun _ h9 => h9) rfl dX5_spill_40 ?_
  refine lv_iload_n hx hb dX5_spill_43 rfl (lv_at hl 0 rfl) ?_
  refine lv_aload_n hx hb dX5_spill_44 rfl (lv_at hl 1 rfl) ?_
  refine va_get (D := D) (ci := 5) (v := .ref q_t_grief) (C := RX5) (T := TX5) (N := 11) hx hb hts (fun w hw => List.mem_cons_of_mem _ (uw_X5 w hw)) hown hK.1 hP 0 rfl rfl 1 (by decide) (hts _ (List.mem_cons_of_mem _ k_33)) (fun _ h9 => h9) rfl dX5_spill_45 ?_
  refine lv_iload_n hx hb dX5_spill_48 rfl (lv_at hl 0 rfl) ?_
  obtain ⟨hi1, h⟩ := gi_d h
  refine va_iald hx hb hK.1 hP 2 1 rfl rfl hi1 dX5_spill_49 ?_
  refine lv_iconst (v := 1) hx hb dX5_spill_50 (by decide) ?_
  refine lv_iadd hx hb dX5_spill_51 ?_
  refine lv_bipush (v := 99) hx hb dX5_spill_52 (by decide) ?_
  refine va_mmin (own := RX5) hx hb (by rw [hml]; exact hl.1.symm) hown (hts _ (List.mem_cons_of_mem _ k_418)) (hts _ (List.mem_cons_of_mem _ k_419)) (hts _ (List.mem_cons_of_mem _ k_14)) (hts _ (List.mem_cons_of_mem _ k_420)) (by decide) (Nat.le_of_ble_eq_true rfl) (by decide) (by decide) dX5_spill_54 ?_
  refine lv_topi (fun z57 ez57 => ?_)
  replace h := nm_d ez57 h
  obtain ⟨hi2, h⟩ := gi_d h
  refine va_iast hx hb hK.1 hP hD hS 2 1 rfl rfl hi2 dX5_spill_57 (fun H locs hP hD hS => ?_)
  have hP : va_P D vwCl (wc_X5_spill cy q_t q_t_kind q_t_grief q_t_bears q_t_rota (w_t.1, w_t.2.1, w_t.2.2.1, w_t.2.2.2.1, w_t.2.2.2.2.1, w_t.2.2.2.2.2.1, w_t.2.2.2.2.2.2.1, w_t.2.2.2.2.2.2.2.1, (upd w_t.2.2.2.2.2.2.2.2.1 x0.toNatClampNeg z57), w_t.2.2.2.2.2.2.2.2.2.1, w_t.2.2.2.2.2.2.2.2.2.2)) H := hP
  have hD : va_D A (wc_X5_spill cy q_t q_t_kind q_t_grief q_t_bears q_t_rota (w_t.1, w_t.2.1, w_t.2.2.1, w_t.2.2.2.1, w_t.2.2.2.2.1, w_t.2.2.2.2.2.1, w_t.2.2.2.2.2.2.1, w_t.2.2.2.2.2.2.2.1, (upd w_t.2.2.2.2.2.2.2.2.1 x0.toNatClampNeg z57), w_t.2.2.2.2.2.2.2.2.2.1, w_t.2.2.2.2.2.2.2.2.2.2)) := hD
  refine lv_iinc (v := (v4 + 1)) (lv' := [(4, .int (v4 + 1)), (3, .int x0), (0, .ref q_t), (2, .int v2)]) hx hb dX5_spill_58 hl (k := 3) rfl (by rfl) (by decide) rfl (fun ls hl => ?_)
  refine lv_goto (tgt := 15) hx hb dX5_spill_61 (by decide) ?_
  exact hk15 _ _ _ _ h _ _ _ hP hD hS (lv_sub hl [2, 3, 1, 0] rfl)
def B_X5_spill_15 (k15 : s_W → Int32 → Int32 → Int32 → Option (s_W))  (f : Nat) (w_t : s_W) (v2 : Int32) (v3 : Int32) (v4 : Int32) : Option (s_W) := if v2 ≤ v4 then (some w_t) else (if w_t.1 ≤ (v3 + 1) then (B_X5_spill_38 k15 f w_t v2 v4 0) else (B_X5_spill_38 k15 f w_t v2 v4 (v3 + 1)))
set_option maxHeartbeats 4000000 in
set_option maxRecDepth 100000 in
theorem b_X5_spill_15 {p : Program} {l : Launch} {e : Env} {s : State} {m : MethodId} {args : Array Value} {below : List Frame} {meth : Method} {c : Code} {D : va_G} {cy : Nat → ClassId} {A : Nat → Prop} {q_t : Nat} {q_t_kind : Nat} {q_t_grief : Nat} {q_t_bears : Nat} {q_t_rota : Nat} {res : s_W} {k15 : s_W → Int32 → Int32 → Int32 → Option (s_W)} {f : Nat} {w_t : s_W} {v2 : Int32} {v3 : Int32} {v4 : Int32} (C0 : cx_C cX5_spill (none) 5 RX5 (.code yX5_spill cX5_spill 5 (none) :: wg_L) p s m args meth c D cy A) (hk15 : ∀ (w_t : s_W) (v2 : Int32) (v3 : Int32) (v4 : Int32), k15 w_t v2 v3 v4 = some res → ∀ (H : Heap) (locs : List Loc) (ls : Array Slot), va_P D vwCl (wc_X5_spill cy q_t q_t_kind q_t_grief q_t_bears q_t_rota w_t) H → va_D A (wc_X5_spill cy q_t q_t_kind q_t_grief q_t_bears q_t_rota w_t) → va_S A s.heap H locs → lv_has ls 5 [(0, .ref q_t), (2, .int v2), (3, .int v3), (4, .int v4)] → W p l e rm_X5_spill s m args below meth c H locs 0 0 (qq_X5_spill below args s D cy A q_t q_t_kind q_t_grief q_t_bears q_t_rota res) (F0 m 15 ls [])) (h : B_X5_spill_15 k15 f w_t v2 v3 v4 = some res) {H : Heap} {locs : List Loc} {ls : Array Slot} (hP : va_P D vwCl (wc_X5_spill cy q_t q_t_kind q_t_grief q_t_bears q_t_rota w_t) H) (hD : va_D A (wc_X5_spill cy q_t q_t_kind q_t_grief q_t_bears q_t_rota w_t)) (hS : va_S A s.heap H locs) (hl : lv_has ls 5 [(0, .ref q_t), (2, .int v2), (3, .int v3), (4, .int v4)]) : W p l e rm_X5_spill s m args below meth c H locs 0 0 (qq_X5_spill below args s D cy A q_t q_t_kind q_t_grief q_t_bears q_t_rota res) (F0 m 15 ls []) := by
  obtain ⟨hx, hb, hr, hml, hown, hts, hK, hlocks, hA⟩ := id C0
  unfold B_X5_spill_15 at h
  refine lv_iload hx hb dX5_spill_15 (lv_at hl 3 rfl) ?_
  refine lv_iload_n hx hb dX5_spill_17 rfl (lv_at hl 1 rfl) ?_
  refine lv_icmp_ge (tgt := 64) hx hb dX5_spill_18 (by decide) (fun c18 => ?_) (fun c18 => ?_)
  · replace h := it_p c18 h
    obtain rfl := Option.some.inj h
    exact W.vret hx hb hr (fun tt ht hW => ⟨⟨w_t, rfl, rfl, by rw [ht]; exact hP, kk_warm hW hK, hD⟩, hS.F ht⟩) hS.2.2 dX5_spill_64
  · replace h := it_n c18 h
    refine lv_iload_n hx hb dX5_spill_21 rfl (lv_at hl 2 rfl) ?_
    refine lv_iconst (v := 1) hx hb dX5_spill_22 (by decide) ?_
    refine lv_iadd hx hb dX5_spill_23 ?_
    refine lv_aload_n hx hb dX5_spill_24 rfl (lv_at hl 0 rfl) ?_
    refine va_get (D := D) (ci := 5) (v := .int w_t.1) (C := RX5) (T := TX5) (N := 11) hx hb hts (fun w hw => List.mem_cons_of_mem _ (uw_X5 w hw)) hown hK.1 hP 0 rfl rfl 4 (by decide) (hts _ (List.mem_cons_of_mem _ k_41)) (fun _ h9 => h9) rfl dX5_spill_25 ?_
    refine lv_icmp_ge (tgt := 37) hx hb dX5_spill_28 (by decide) (fun c28 => ?_) (fun c28 => ?_)
    · replace h := it_p c28 h
      refine lv_iconst (v := 0) hx hb dX5_spill_37 (by decide) ?_
      exact b_X5_spill_38 C0 hk15 h hP hD hS (lv_sub hl [0, 1, 3] rfl)
    · replace h := it_n c28 h
      refine lv_iload_n hx hb dX5_spill_31 rfl (lv_at hl 2 rfl) ?_
      refine lv_iconst (v := 1) hx hb dX5_spill_32 (by decide) ?_
      refine lv_iadd hx hb dX5_spill_33 ?_
      refine lv_goto (tgt := 38) hx hb dX5_spill_34 (by decide) ?_
      exact b_X5_spill_38 C0 hk15 h hP hD hS (lv_sub hl [0, 1, 3] rfl)
def M_X5_spill_15   : Nat → s_W → Int32 → Int32 → Int32 → Option (s_W)
  | 0, _, _, _, _ => none
  | f + 1, w_t, v2, v3, v4 => B_X5_spill_15 (M_X5_spill_15 f) f w_t v2 v3 v4
theorem t_X5_spill_15 {p : Program} {l : Launch} {e : Env} {s : State} {m : MethodId} {args : Array Value} {below : List Frame} {meth : Method} {c : Code} {D : va_G} {cy : Nat → ClassId} {A : Nat → Prop} {q_t : Nat} {q_t_kind : Nat} {q_t_grief : Nat} {q_t_bears : Nat} {q_t_rota : Nat} {res : s_W}  (C0 : cx_C cX5_spill (none) 5 RX5 (.code yX5_spill cX5_spill 5 (none) :: wg_L) p s m args meth c D cy A)  : ∀ (f : Nat) (w_t : s_W) (v2 : Int32) (v3 : Int32) (v4 : Int32), M_X5_spill_15 f w_t v2 v3 v4 = some res → ∀ (H : Heap) (locs : List Loc) (ls : Array Slot), va_P D vwCl (wc_X5_spill cy q_t q_t_kind q_t_grief q_t_bears q_t_rota w_t) H → va_D A (wc_X5_spill cy q_t q_t_kind q_t_grief q_t_bears q_t_rota w_t) → va_S A s.heap H locs → lv_has ls 5 [(0, .ref q_t), (2, .int v2), (3, .int v3), (4, .int v4)] → W p l e rm_X5_spill s m args below meth c H locs 0 0 (qq_X5_spill below args s D cy A q_t q_t_kind q_t_grief q_t_bears q_t_rota res) (F0 m 15 ls []) := by
  intro f
  induction f with
  | zero =>
    intro _ _ _ _ h
    exact absurd (show (none : Option (s_W)) = some res from h) (fun q => by cases q)
  | succ f ih =>
    intro w_t v2 v3 v4 h H locs ls hP hD hS hl
    have h : B_X5_spill_15 (M_X5_spill_15 f) f w_t v2 v3 v4 = some res := h
    exact b_X5_spill_15 C0 ih h hP hD hS hl
def B_X5_spill_0   (f : Nat) (w_t : s_W) (v1 : Int32) (v2 : Int32) : Option (s_W) := nm_v (w_t.2.2.2.2.2.2.1 + v2) (fun z7 => M_X5_spill_15 f (w_t.1, w_t.2.1, w_t.2.2.1, w_t.2.2.2.1, w_t.2.2.2.2.1, w_t.2.2.2.2.2.1, z7, w_t.2.2.2.2.2.2.2.1, w_t.2.2.2.2.2.2.2.2.1, w_t.2.2.2.2.2.2.2.2.2.1, w_t.2.2.2.2.2.2.2.2.2.2) v2 v1 0)
set_option maxHeartbeats 4000000 in
set_option maxRecDepth 100000 in
theorem b_X5_spill_0 {p : Program} {l : Launch} {e : Env} {s : State} {m : MethodId} {args : Array Value} {below : List Frame} {meth : Method} {c : Code} {D : va_G} {cy : Nat → ClassId} {A : Nat → Prop} {q_t : Nat} {q_t_kind : Nat} {q_t_grief : Nat} {q_t_bears : Nat} {q_t_rota : Nat} {res : s_W}  {f : Nat} {w_t : s_W} {v1 : Int32} {v2 : Int32} (C0 : cx_C cX5_spill (none) 5 RX5 (.code yX5_spill cX5_spill 5 (none) :: wg_L) p s m args meth c D cy A)  (h : B_X5_spill_0 f w_t v1 v2 = some res) {H : Heap} {locs : List Loc} {ls : Array Slot} (hP : va_P D vwCl (wc_X5_spill cy q_t q_t_kind q_t_grief q_t_bears q_t_rota w_t) H) (hD : va_D A (wc_X5_spill cy q_t q_t_kind q_t_grief q_t_bears q_t_rota w_t)) (hS : va_S A s.heap H locs) (hl : lv_has ls 5 [(0, .ref q_t), (1, .int v1), (2, .int v2)]) : W p l e rm_X5_spill s m args below meth c H locs 0 0 (qq_X5_spill below args s D cy A q_t q_t_kind q_t_grief q_t_bears q_t_rota res) (F0 m 0 ls []) := by
  obtain ⟨hx, hb, hr, hml, hown, hts, hK, hlocks, hA⟩ := id C0
  unfold B_X5_spill_0 at h
  refine lv_aload_n hx hb dX5_spill_0 rfl (lv_at hl 0 rfl) ?_
  refine lv_dup hx hb dX5_spill_1 rfl ?_
  refine va_get (D := D) (ci := 5) (v := .int w_t.2.2.2.2.2.2.1) (C := RX5) (T := TX5) (N := 11) hx hb hts (fun w hw => List.mem_cons_of_mem _ (uw_X5 w hw)) hown hK.1 hP 0 rfl rfl 10 (by decide) (hts _ (List.mem_cons_of_mem _ k_57)) (fun _ h9 => h9) rfl dX5_spill_2 ?_
  refine lv_iload_n hx hb dX5_spill_5 rfl (lv_at hl 2 rfl) ?_
  refine lv_iadd hx hb dX5_spill_6 ?_
  refine lv_topi (fun z7 ez7 => ?_)
  replace h := nm_d ez7 h
  refine va_put (D := D) (ci := 5) (v := .int z7) (ty := .int) (C := RX5) (T := TX5) (N := 11) hx hb hts (fun w hw => List.mem_cons_of_mem _ (uw_X5 w hw)) tyX5 tyX5_ok nmX5 hown hK.1 hP hD hS 0 rfl rfl 10 (by decide) (hts _ (List.mem_cons_of_mem _ k_57)) (fun _ h9 => h9) rfl (by decide +kernel) rfl rfl (Nat.le_of_ble_eq_true rfl) dX5_spill_7 (fun H locs hP hD hS => ?_)
  have hP : va_P D vwCl (wc_X5_spill cy q_t q_t_kind q_t_grief q_t_bears q_t_rota (w_t.1, w_t.2.1, w_t.2.2.1, w_t.2.2.2.1, w_t.2.2.2.2.1, w_t.2.2.2.2.2.1, z7, w_t.2.2.2.2.2.2.2.1, w_t.2.2.2.2.2.2.2.2.1, w_t.2.2.2.2.2.2.2.2.2.1, w_t.2.2.2.2.2.2.2.2.2.2)) H := hP
  have hD : va_D A (wc_X5_spill cy q_t q_t_kind q_t_grief q_t_bears q_t_rota (w_t.1, w_t.2.1, w_t.2.2.1, w_t.2.2.2.1, w_t.2.2.2.2.1, w_t.2.2.2.2.2.1, z7, w_t.2.2.2.2.2.2.2.1, w_t.2.2.2.2.2.2.2.2.1, w_t.2.2.2.2.2.2.2.2.2.1, w_t.2.2.2.2.2.2.2.2.2.2)) := hD
  refine lv_iload_n hx hb dX5_spill_10 rfl (lv_at hl 1 rfl) ?_
  refine lv_istore_n (lv' := [(3, .int v1), (0, .ref q_t), (1, .int v1), (2, .int v2)]) hx hb dX5_spill_11 rfl hl (by decide) rfl (fun ls hl => ?_)
  refine lv_iconst (v := 0) hx hb dX5_spill_12 (by decide) ?_
  refine lv_istore (lv' := [(4, .int 0), (3, .int v1), (0, .ref q_t), (1, .int v1), (2, .int v2)]) hx hb dX5_spill_13 hl (by decide) rfl (fun ls hl => ?_)
  exact t_X5_spill_15 C0 _ _ _ _ _ h _ _ _ hP hD hS (lv_sub hl [2, 4, 1, 0] rfl)
def M_X5_spill   (f : Nat) (w_t : s_W) (v1 : Int32) (v2 : Int32) : Option (s_W) := B_X5_spill_0 f w_t v1 v2
set_option maxHeartbeats 4000000 in
set_option maxRecDepth 100000 in
theorem c_X5_spill (l : Launch) (D : va_G) (cy : Nat → ClassId) (sz : Nat) (q_t : Nat) (q_t_kind : Nat) (q_t_grief : Nat) (q_t_bears : Nat) (q_t_rota : Nat) (w_t : s_W) (v1 : Int32) (v2 : Int32) {f : Nat} {res : s_W} (h : M_X5_spill f w_t v1 v2 = some res) : ct_v l yX5_spill (.code yX5_spill cX5_spill 5 (none) :: wg_L) rm_X5_spill D cy sz (wc_X5_spill cy q_t q_t_kind q_t_grief q_t_bears q_t_rota w_t) [.ref q_t, .int v1, .int v2] (fun (u : s_W) => u = res) (fun (u : s_W) => wc_X5_spill cy q_t q_t_kind q_t_grief q_t_bears q_t_rota u) := by
  refine Met.ofW (cc := cX5_spill) (maxL := 5) (ret := none) (by decide) rfl ?_
  intro p e s m args below meth c s₁ B hml hv
  obtain ⟨rfl, hsz, hP, hK, hD0⟩ := hv
  subst hsz
  have hD := hD0.self (sz := s.heap.size)
  have hl := lv_entry ([.ref q_t, .int v1, .int v2]) (n := 5) (Nat.le_of_ble_eq_true rfl)
  rw [lg_entry_eq]
  have C0 : cx_C cX5_spill (none) 5 RX5 (.code yX5_spill cX5_spill 5 (none) :: wg_L) p s m [.ref q_t, .int v1, .int v2].toArray meth c D cy (va_A (wc_X5_spill cy q_t q_t_kind q_t_grief q_t_bears q_t_rota w_t) s.heap.size) := ⟨B.exec, B.bytes, B.returns, hml, findClass_of_methodNamed B.named, atoms_spec (ws := .code yX5_spill cX5_spill 5 (none) :: wg_L) B.pre, hK, B.notSynchronized, fun q h => Or.inr h⟩
  exact b_X5_spill_0 C0 h hP hD va_S.rf (lv_sub hl [0, 1, 2] rfl)
/-! ### BarrowGrief$World.wheel(I)V -/
abbrev wc_X5_wheel (cy : Nat → ClassId) (q_t q_t_kind q_t_grief q_t_bears q_t_rota : Nat) (w_t : s_W) : va_W := [(q_t, .inr (5, [.ref q_t_kind, .ref q_t_grief, .ref q_t_bears, .ref q_t_rota, .int w_t.1, .int w_t.2.1, .int w_t.2.2.1, .int w_t.2.2.2.1, .int w_t.2.2.2.2.1, .int w_t.2.2.2.2.2.1, .int w_t.2.2.2.2.2.2.1])), (q_t_kind, .inl (cy 1, 5, .inl w_t.2.2.2.2.2.2.2.1)), (q_t_grief, .inl (cy 1, 5, .inl w_t.2.2.2.2.2.2.2.2.1)), (q_t_bears, .inl (cy 1, 5, .inl w_t.2.2.2.2.2.2.2.2.2.1)), (q_t_rota, .inl (cy 1, 8, .inl w_t.2.2.2.2.2.2.2.2.2.2))]
abbrev rm_X5_wheel : Room := { frames := 3, cells := 0, slots := 0, locals := 67 }
abbrev qq_X5_wheel (below : List Frame) (args : Array Value) (s : State) (D : va_G) (cy : Nat → ClassId) (A : Nat → Prop) (q_t : Nat) (q_t_kind : Nat) (q_t_grief : Nat) (q_t_bears : Nat) (q_t_rota : Nat) (res : s_W) : State → Prop := MQ below (va_Qv (fun (u : s_W) => u = res) (fun u t => st_B D cy A ((fun (u : s_W) => wc_X5_wheel cy q_t q_t_kind q_t_grief q_t_bears q_t_rota u) u) t) A) args s 0 0 A
def B_X5_wheel_0   (f : Nat) (w_t : s_W) (v1 : Int32) : Option (s_W) := (M_X5_has w_t v1).bind (fun u2 => if u2 = 0 then (some w_t) else (gi_n v1 5 ((M_X5_hand (w_t.2.2.2.2.2.2.2.1 v1.toNatClampNeg)).bind (fun u15 => gi_n v1 5 (nm_v (if (if (w_t.2.2.1 - w_t.2.2.2.1) < 0 then 0 else (w_t.2.2.1 - w_t.2.2.2.1)) < (if (w_t.2.2.2.2.2.2.2.2.1 v1.toNatClampNeg) < u15 then (w_t.2.2.2.2.2.2.2.2.1 v1.toNatClampNeg) else u15) then (if (w_t.2.2.1 - w_t.2.2.2.1) < 0 then 0 else (w_t.2.2.1 - w_t.2.2.2.1)) else (if (w_t.2.2.2.2.2.2.2.2.1 v1.toNatClampNeg) < u15 then (w_t.2.2.2.2.2.2.2.2.1 v1.toNatClampNeg) else u15)) (fun v2_43 => gi_n v1 5 (nm_v ((w_t.2.2.2.2.2.2.2.2.1 v1.toNatClampNeg) - v2_43) (fun z53 => gi_n v1 5 (nm_v (w_t.2.2.2.1 + v2_43) (fun z61 => gi_n v1 5 ((M_X5_heals (w_t.2.2.2.2.2.2.2.1 v1.toNatClampNeg) z61).bind (fun u74 => nm_v (z61 - u74) (fun z85 => nm_v (w_t.2.2.2.2.2.1 + u74) (fun z95 => gi_n v1 5 (if z85 ≤ (w_t.2.2.2.2.2.2.2.2.2.1 v1.toNatClampNeg) then (some (w_t.1, w_t.2.1, w_t.2.2.1, z85, w_t.2.2.2.2.1, z95, w_t.2.2.2.2.2.2.1, w_t.2.2.2.2.2.2.2.1, (upd w_t.2.2.2.2.2.2.2.2.1 v1.toNatClampNeg z53), w_t.2.2.2.2.2.2.2.2.2.1, w_t.2.2.2.2.2.2.2.2.2.2)) else (gi_n v1 5 ((M_X5_spill f (w_t.1, w_t.2.1, w_t.2.2.1, z85, w_t.2.2.2.2.1, z95, w_t.2.2.2.2.2.2.1, w_t.2.2.2.2.2.2.2.1, (upd w_t.2.2.2.2.2.2.2.2.1 v1.toNatClampNeg z53), w_t.2.2.2.2.2.2.2.2.2.1, w_t.2.2.2.2.2.2.2.2.2.2) v1 (z85 - (w_t.2.2.2.2.2.2.2.2.2.1 v1.toNatClampNeg))).bind (fun u124 => gi_n v1 5 (nm_v (u124.2.2.2.2.2.2.2.2.2.1 v1.toNatClampNeg) (fun z134 => some (u124.1, u124.2.1, u124.2.2.1, z134, u124.2.2.2.2.1, u124.2.2.2.2.2.1, u124.2.2.2.2.2.2.1, u124.2.2.2.2.2.2.2.1, u124.2.2.2.2.2.2.2.2.1, u124.2.2.2.2.2.2.2.2.2.1, u124.2.2.2.2.2.2.2.2.2.2)))))))))))))))))))))
set_option maxHeartbeats 4000000 in
set_option maxRecDepth 100000 in
theorem b_X5_wheel_0 {p : Program} {l : Launch} {e : Env} {s : State} {m : MethodId} {args : Array Value} {below : List Frame} {meth : Method} {c : Code} {D : va_G} {cy : Nat → ClassId} {A : Nat → Prop} {q_t : Nat} {q_t_kind : Nat} {q_t_grief : Nat} {q_t_bears : Nat} {q_t_rota : Nat} {res : s_W}  {f : Nat} {w_t : s_W} {v1 : Int32} (C0 : cx_C cX5_wheel (none) 4 RX5 (.code yX5_wheel cX5_wheel 4 (none) :: wg_L) p s m args meth c D cy A)  (h : B_X5_wheel_0 f w_t v1 = some res) {H : Heap} {locs : List Loc} {ls : Array Slot} (hP : va_P D vwCl (wc_X5_wheel cy q_t q_t_kind q_t_grief q_t_bears q_t_rota w_t) H) (hD : va_D A (wc_X5_wheel cy q_t q_t_kind q_t_grief q_t_bears q_t_rota w_t)) (hS : va_S A s.heap H locs) (hl : lv_has ls 4 [(0, .ref q_t), (1, .int v1)]) : W p l e rm_X5_wheel s m args below meth c H locs 0 0 (qq_X5_wheel below args s D cy A q_t q_t_kind q_t_grief q_t_bears q_t_rota res) (F0 m 0 ls []) := by
  obtain ⟨hx, hb, hr, hml, hown, hts, hK, hlocks, hA⟩ := id C0
  unfold B_X5_wheel_0 at h
  refine lv_aload_n hx hb dX5_wheel_0 rfl (lv_at hl 0 rfl) ?_
  refine lv_iload_n hx hb dX5_wheel_1 rfl (lv_at hl 1 rfl) ?_
  obtain ⟨u2, hc2, h⟩ := bd_d h
  have hPc := hP.sub (ws' := wc_X5_has cy q_t q_t_kind q_t_grief q_t_bears q_t_rota w_t) [0, 1, 2, 3, 4] rfl
  have hDc := hD.sub (ws' := wc_X5_has cy q_t q_t_kind q_t_grief q_t_bears q_t_rota w_t) [0, 1, 2, 3, 4] (by decide) rfl
  refine cl_i (fun (u : Unit) => wc_X5_wheel cy q_t q_t_kind q_t_grief q_t_bears q_t_rota w_t) (va_runV (As := [.int v1]) (rest := []) (C := RX5) ⟨hx, hb, hml, hown, hts⟩ (c_X5_has l D cy H.size q_t q_t_kind q_t_grief q_t_bears q_t_rota w_t v1 hc2) ⟨callB_of 1 hts (wg_in k_376) rfl rfl rfl (hts _ (List.mem_cons_of_mem _ k_2)) (hts _ (List.mem_cons_of_mem _ k_433)) (by decide +kernel) ⟨by decide, by decide⟩, (hts _ (List.mem_cons_of_mem _ k_374)), (hts _ (List.mem_cons_of_mem _ k_375))⟩ ⟨st_blind, va_recv hK.1 hPc (ci := 5) (q0 := 0) rfl rfl, fun U hU hW => st_pre hK hPc hDc hU hW⟩ rfl rfl hl.1 rfl (lv_room (Nat.le_of_ble_eq_true rfl)) dX5_wheel_2 ⟨by decide, by decide⟩) hP hD hS hA [0, 1, 2, 3, 4] [] [0, 1, 2, 3, 4] rfl rfl (by decide) (by decide) (by decide) (fun _ => rfl) (fun r u H locs hw hP hD hS => ?_)
  obtain rfl := hw.symm
  refine lv_if_ne (tgt := 9) hx hb dX5_wheel_5 (by decide) (fun c5 => ?_) (fun c5 => ?_)
  · replace h := it_n c5 h
    refine lv_aload_n hx hb dX5_wheel_9 rfl (lv_at hl 0 rfl) ?_
    refine va_get (D := D) (ci := 5) (v := .ref q_t_kind) (C := RX5) (T := TX5) (N := 11) hx hb hts (fun w hw => List.mem_cons_of_mem _ (uw_X5 w hw)) hown hK.1 hP 0 rfl rfl 0 (by decide) (hts _ (List.mem_cons_of_mem _ k_31)) (fun _ h9 => h9) rfl dX5_wheel_10 ?_
    refine lv_iload_n hx hb dX5_wheel_13 rfl (lv_at hl 1 rfl) ?_
    obtain ⟨hi1, h⟩ := gi_d h
    refine va_iald hx hb hK.1 hP 1 1 rfl rfl hi1 dX5_wheel_14 ?_
    obtain ⟨u15, hc15, h⟩ := bd_d h
    have hPc := hP.sub (ws' := wc_X5_hand cy ) [] rfl
    have hDc := hD.sub (ws' := wc_X5_hand cy ) [] (by decide) rfl
    refine cl_i (fun (u : Unit) => wc_X5_wheel cy q_t q_t_kind q_t_grief q_t_bears q_t_rota w_t) (va_runS (As := [.int (w_t.2.2.2.2.2.2.2.1 v1.toNatClampNeg)]) (rest := []) ⟨hx, hb, hml, hown, hts⟩ (c_X5_hand l D cy H.size (w_t.2.2.2.2.2.2.2.1 v1.toNatClampNeg) hc15) ⟨callB_of 1 hts (wg_in k_410) rfl rfl rfl (hts _ (List.mem_cons_of_mem _ k_2)) (hts _ (List.mem_cons_of_mem _ k_469)) (by decide +kernel) ⟨by decide, by decide⟩, (hts _ (List.mem_cons_of_mem _ k_409))⟩ ⟨st_blind, fun U hU hW => st_pre hK hPc hDc hU hW⟩ rfl rfl hl.1 rfl (lv_room (Nat.le_of_ble_eq_true rfl)) dX5_wheel_15 ⟨by decide, by decide⟩) hP hD hS hA [] [0, 1, 2, 3, 4] [0, 1, 2, 3, 4] rfl rfl (by decide) (by decide) (by decide) (fun _ => rfl) (fun r u H locs hw hP hD hS => ?_)
    obtain rfl := hw.symm
    refine lv_aload_n hx hb dX5_wheel_18 rfl (lv_at hl 0 rfl) ?_
    refine va_get (D := D) (ci := 5) (v := .ref q_t_grief) (C := RX5) (T := TX5) (N := 11) hx hb hts (fun w hw => List.mem_cons_of_mem _ (uw_X5 w hw)) hown hK.1 hP 0 rfl rfl 1 (by decide) (hts _ (List.mem_cons_of_mem _ k_33)) (fun _ h9 => h9) rfl dX5_wheel_19 ?_
    refine lv_iload_n hx hb dX5_wheel_22 rfl (lv_at hl 1 rfl) ?_
    obtain ⟨hi2, h⟩ := gi_d h
    refine va_iald hx hb hK.1 hP 2 1 rfl rfl hi2 dX5_wheel_23 ?_
    refine va_mmin (own := RX5) hx hb (by rw [hml]; exact hl.1.symm) hown (hts _ (List.mem_cons_of_mem _ k_418)) (hts _ (List.mem_cons_of_mem _ k_419)) (hts _ (List.mem_cons_of_mem _ k_14)) (hts _ (List.mem_cons_of_mem _ k_420)) (by decide) (Nat.le_of_ble_eq_true rfl) (by decide) (by decide) dX5_wheel_24 ?_
    refine lv_aload_n hx hb dX5_wheel_27 rfl (lv_at hl 0 rfl) ?_
    refine va_get (D := D) (ci := 5) (v := .int w_t.2.2.1) (C := RX5) (T := TX5) (N := 11) hx hb hts (fun w hw => List.mem_cons_of_mem _ (uw_X5 w hw)) hown hK.1 hP 0 rfl rfl 6 (by decide) (hts _ (List.mem_cons_of_mem _ k_47)) (fun _ h9 => h9) rfl dX5_wheel_28 ?_
    refine lv_aload_n hx hb dX5_wheel_31 rfl (lv_at hl 0 rfl) ?_
    refine va_get (D := D) (ci := 5) (v := .int w_t.2.2.2.1) (C := RX5) (T := TX5) (N := 11) hx hb hts (fun w hw => List.mem_cons_of_mem _ (uw_X5 w hw)) hown hK.1 hP 0 rfl rfl 7 (by decide) (hts _ (List.mem_cons_of_mem _ k_50)) (fun _ h9 => h9) rfl dX5_wheel_32 ?_
    refine lv_isub hx hb dX5_wheel_35 ?_
    refine lv_iconst (v := 0) hx hb dX5_wheel_36 (by decide) ?_
    refine va_mmax (own := RX5) hx hb (by rw [hml]; exact hl.1.symm) hown (hts _ (List.mem_cons_of_mem _ k_470)) (hts _ (List.mem_cons_of_mem _ k_471)) (hts _ (List.mem_cons_of_mem _ k_14)) (hts _ (List.mem_cons_of_mem _ k_472)) (by decide) (Nat.le_of_ble_eq_true rfl) (by decide) (by decide) dX5_wheel_37 ?_
    refine va_mmin (own := RX5) hx hb (by rw [hml]; exact hl.1.symm) hown (hts _ (List.mem_cons_of_mem _ k_418)) (hts _ (List.mem_cons_of_mem _ k_419)) (hts _ (List.mem_cons_of_mem _ k_14)) (hts _ (List.mem_cons_of_mem _ k_420)) (by decide) (Nat.le_of_ble_eq_true rfl) (by decide) (by decide) dX5_wheel_40 ?_
    refine lv_topi (fun v2_43 ev2_43 => ?_)
    replace h := nm_d ev2_43 h
    refine lv_istore_n (lv' := [(2, .int v2_43), (0, .ref q_t), (1, .int v1)]) hx hb dX5_wheel_43 rfl hl (by decide) rfl (fun ls hl => ?_)
    refine lv_aload_n hx hb dX5_wheel_44 rfl (lv_at hl 1 rfl) ?_
    refine va_get (D := D) (ci := 5) (v := .ref q_t_grief) (C := RX5) (T := TX5) (N := 11) hx hb hts (fun w hw => List.mem_cons_of_mem _ (uw_X5 w hw)) hown hK.1 hP 0 rfl rfl 1 (by decide) (hts _ (List.mem_cons_of_mem _ k_33)) (fun _ h9 => h9) rfl dX5_wheel_45 ?_
    refine lv_iload_n hx hb dX5_wheel_48 rfl (lv_at hl 2 rfl) ?_
    refine lv_dup2_11 hx hb dX5_wheel_49 rfl rfl ?_
    obtain ⟨hi3, h⟩ := gi_d h
    refine va_iald hx hb hK.1 hP 2 1 rfl rfl hi3 dX5_wheel_50 ?_
    refine lv_iload_n hx hb dX5_wheel_51 rfl (lv_at hl 0 rfl) ?_
    refine lv_isub hx hb dX5_wheel_52 ?_
    refine lv_topi (fun z53 ez53 => ?_)
    replace h := nm_d ez53 h
    obtain ⟨hi4, h⟩ := gi_d h
    refine va_iast hx hb hK.1 hP hD hS 2 1 rfl rfl hi4 dX5_wheel_53 (fun H locs hP hD hS => ?_)
    have hP : va_P D vwCl (wc_X5_wheel cy q_t q_t_kind q_t_grief q_t_bears q_t_rota (w_t.1, w_t.2.1, w_t.2.2.1, w_t.2.2.2.1, w_t.2.2.2.2.1, w_t.2.2.2.2.2.1, w_t.2.2.2.2.2.2.1, w_t.2.2.2.2.2.2.2.1, (upd w_t.2.2.2.2.2.2.2.2.1 v1.toNatClampNeg z53), w_t.2.2.2.2.2.2.2.2.2.1, w_t.2.2.2.2.2.2.2.2.2.2)) H := hP
    have hD : va_D A (wc_X5_wheel cy q_t q_t_kind q_t_grief q_t_bears q_t_rota (w_t.1, w_t.2.1, w_t.2.2.1, w_t.2.2.2.1, w_t.2.2.2.2.1, w_t.2.2.2.2.2.1, w_t.2.2.2.2.2.2.1, w_t.2.2.2.2.2.2.2.1, (upd w_t.2.2.2.2.2.2.2.2.1 v1.toNatClampNeg z53), w_t.2.2.2.2.2.2.2.2.2.1, w_t.2.2.2.2.2.2.2.2.2.2)) := hD
    refine lv_aload_n hx hb dX5_wheel_54 rfl (lv_at hl 1 rfl) ?_
    refine lv_dup hx hb dX5_wheel_55 rfl ?_
    refine va_get (D := D) (ci := 5) (v := .int w_t.2.2.2.1) (C := RX5) (T := TX5) (N := 11) hx hb hts (fun w hw => List.mem_cons_of_mem _ (uw_X5 w hw)) hown hK.1 hP 0 rfl rfl 7 (by decide) (hts _ (List.mem_cons_of_mem _ k_50)) (fun _ h9 => h9) rfl dX5_wheel_56 ?_
    refine lv_iload_n hx hb dX5_wheel_59 rfl (lv_at hl 0 rfl) ?_
    refine lv_iadd hx hb dX5_wheel_60 ?_
    refine lv_topi (fun z61 ez61 => ?_)
    replace h := nm_d ez61 h
    refine va_put (D := D) (ci := 5) (v := .int z61) (ty := .int) (C := RX5) (T := TX5) (N := 11) hx hb hts (fun w hw => List.mem_cons_of_mem _ (uw_X5 w hw)) tyX5 tyX5_ok nmX5 hown hK.1 hP hD hS 0 rfl rfl 7 (by decide) (hts _ (List.mem_cons_of_mem _ k_50)) (fun _ h9 => h9) rfl (by decide +kernel) rfl rfl (Nat.le_of_ble_eq_true rfl) dX5_wheel_61 (fun H locs hP hD hS => ?_)
    have hP : va_P D vwCl (wc_X5_wheel cy q_t q_t_kind q_t_grief q_t_bears q_t_rota (w_t.1, w_t.2.1, w_t.2.2.1, z61, w_t.2.2.2.2.1, w_t.2.2.2.2.2.1, w_t.2.2.2.2.2.2.1, w_t.2.2.2.2.2.2.2.1, (upd w_t.2.2.2.2.2.2.2.2.1 v1.toNatClampNeg z53), w_t.2.2.2.2.2.2.2.2.2.1, w_t.2.2.2.2.2.2.2.2.2.2)) H := hP
    have hD : va_D A (wc_X5_wheel cy q_t q_t_kind q_t_grief q_t_bears q_t_rota (w_t.1, w_t.2.1, w_t.2.2.1, z61, w_t.2.2.2.2.1, w_t.2.2.2.2.2.1, w_t.2.2.2.2.2.2.1, w_t.2.2.2.2.2.2.2.1, (upd w_t.2.2.2.2.2.2.2.2.1 v1.toNatClampNeg z53), w_t.2.2.2.2.2.2.2.2.2.1, w_t.2.2.2.2.2.2.2.2.2.2)) := hD
    refine lv_aload_n hx hb dX5_wheel_64 rfl (lv_at hl 1 rfl) ?_
    refine va_get (D := D) (ci := 5) (v := .ref q_t_kind) (C := RX5) (T := TX5) (N := 11) hx hb hts (fun w hw => List.mem_cons_of_mem _ (uw_X5 w hw)) hown hK.1 hP 0 rfl rfl 0 (by decide) (hts _ (List.mem_cons_of_mem _ k_31)) (fun _ h9 => h9) rfl dX5_wheel_65 ?_
    refine lv_iload_n hx hb dX5_wheel_68 rfl (lv_at hl 2 rfl) ?_
    obtain ⟨hi5, h⟩ := gi_d h
    refine va_iald hx hb hK.1 hP 1 1 rfl rfl hi5 dX5_wheel_69 ?_
    refine lv_aload_n hx hb dX5_wheel_70 rfl (lv_at hl 1 rfl) ?_
    refine va_get (D := D) (ci := 5) (v := .int z61) (C := RX5) (T := TX5) (N := 11) hx hb hts (fun w hw => List.mem_cons_of_mem _ (uw_X5 w hw)) hown hK.1 hP 0 rfl rfl 7 (by decide) (hts _ (List.mem_cons_of_mem _ k_50)) (fun _ h9 => h9) rfl dX5_wheel_71 ?_
    obtain ⟨u74, hc74, h⟩ := bd_d h
    have hPc := hP.sub (ws' := wc_X5_heals cy ) [] rfl
    have hDc := hD.sub (ws' := wc_X5_heals cy ) [] (by decide) rfl
    refine cl_i (fun (u : Unit) => wc_X5_wheel cy q_t q_t_kind q_t_grief q_t_bears q_t_rota (w_t.1, w_t.2.1, w_t.2.2.1, z61, w_t.2.2.2.2.1, w_t.2.2.2.2.2.1, w_t.2.2.2.2.2.2.1, w_t.2.2.2.2.2.2.2.1, (upd w_t.2.2.2.2.2.2.2.2.1 v1.toNatClampNeg z53), w_t.2.2.2.2.2.2.2.2.2.1, w_t.2.2.2.2.2.2.2.2.2.2)) (va_runS (As := [.int (w_t.2.2.2.2.2.2.2.1 v1.toNatClampNeg), .int z61]) (rest := []) ⟨hx, hb, hml, hown, hts⟩ (c_X5_heals l D cy H.size (w_t.2.2.2.2.2.2.2.1 v1.toNatClampNeg) z61 hc74) ⟨callB_of 2 hts (wg_in k_417) rfl rfl rfl (hts _ (List.mem_cons_of_mem _ k_2)) (hts _ (List.mem_cons_of_mem _ k_473)) (by decide +kernel) ⟨by decide, by decide⟩, (hts _ (List.mem_cons_of_mem _ k_416))⟩ ⟨st_blind, fun U hU hW => st_pre hK hPc hDc hU hW⟩ rfl rfl hl.1 rfl (lv_room (Nat.le_of_ble_eq_true rfl)) dX5_wheel_74 ⟨by decide, by decide⟩) hP hD hS hA [] [0, 1, 2, 3, 4] [0, 1, 2, 3, 4] rfl rfl (by decide) (by decide) (by decide) (fun _ => rfl) (fun r u H locs hw hP hD hS => ?_)
    obtain rfl := hw.symm
    refine lv_istore_n (lv' := [(3, .int u74), (2, .int v2_43), (0, .ref q_t), (1, .int v1)]) hx hb dX5_wheel_77 rfl hl (by decide) rfl (fun ls hl => ?_)
    refine lv_aload_n hx hb dX5_wheel_78 rfl (lv_at hl 2 rfl) ?_
    refine lv_dup hx hb dX5_wheel_79 rfl ?_
    refine va_get (D := D) (ci := 5) (v := .int z61) (C := RX5) (T := TX5) (N := 11) hx hb hts (fun w hw => List.mem_cons_of_mem _ (uw_X5 w hw)) hown hK.1 hP 0 rfl rfl 7 (by decide) (hts _ (List.mem_cons_of_mem _ k_50)) (fun _ h9 => h9) rfl dX5_wheel_80 ?_
    refine lv_iload_n hx hb dX5_wheel_83 rfl (lv_at hl 0 rfl) ?_
    refine lv_isub hx hb dX5_wheel_84 ?_
    refine lv_topi (fun z85 ez85 => ?_)
    replace h := nm_d ez85 h
    refine va_put (D := D) (ci := 5) (v := .int z85) (ty := .int) (C := RX5) (T := TX5) (N := 11) hx hb hts (fun w hw => List.mem_cons_of_mem _ (uw_X5 w hw)) tyX5 tyX5_ok nmX5 hown hK.1 hP hD hS 0 rfl rfl 7 (by decide) (hts _ (List.mem_cons_of_mem _ k_50)) (fun _ h9 => h9) rfl (by decide +kernel) rfl rfl (Nat.le_of_ble_eq_true rfl) dX5_wheel_85 (fun H locs hP hD hS => ?_)
    have hP : va_P D vwCl (wc_X5_wheel cy q_t q_t_kind q_t_grief q_t_bears q_t_rota (w_t.1, w_t.2.1, w_t.2.2.1, z85, w_t.2.2.2.2.1, w_t.2.2.2.2.2.1, w_t.2.2.2.2.2.2.1, w_t.2.2.2.2.2.2.2.1, (upd w_t.2.2.2.2.2.2.2.2.1 v1.toNatClampNeg z53), w_t.2.2.2.2.2.2.2.2.2.1, w_t.2.2.2.2.2.2.2.2.2.2)) H := hP
    have hD : va_D A (wc_X5_wheel cy q_t q_t_kind q_t_grief q_t_bears q_t_rota (w_t.1, w_t.2.1, w_t.2.2.1, z85, w_t.2.2.2.2.1, w_t.2.2.2.2.2.1, w_t.2.2.2.2.2.2.1, w_t.2.2.2.2.2.2.2.1, (upd w_t.2.2.2.2.2.2.2.2.1 v1.toNatClampNeg z53), w_t.2.2.2.2.2.2.2.2.2.1, w_t.2.2.2.2.2.2.2.2.2.2)) := hD
    refine lv_aload_n hx hb dX5_wheel_88 rfl (lv_at hl 2 rfl) ?_
    refine lv_dup hx hb dX5_wheel_89 rfl ?_
    refine va_get (D := D) (ci := 5) (v := .int w_t.2.2.2.2.2.1) (C := RX5) (T := TX5) (N := 11) hx hb hts (fun w hw => List.mem_cons_of_mem _ (uw_X5 w hw)) hown hK.1 hP 0 rfl rfl 9 (by decide) (hts _ (List.mem_cons_of_mem _ k_55)) (fun _ h9 => h9) rfl dX5_wheel_90 ?_
    refine lv_iload_n hx hb dX5_wheel_93 rfl (lv_at hl 0 rfl) ?_
    refine lv_iadd hx hb dX5_wheel_94 ?_
    refine lv_topi (fun z95 ez95 => ?_)
    replace h := nm_d ez95 h
    refine va_put (D := D) (ci := 5) (v := .int z95) (ty := .int) (C := RX5) (T := TX5) (N := 11) hx hb hts (fun w hw => List.mem_cons_of_mem _ (uw_X5 w hw)) tyX5 tyX5_ok nmX5 hown hK.1 hP hD hS 0 rfl rfl 9 (by decide) (hts _ (List.mem_cons_of_mem _ k_55)) (fun _ h9 => h9) rfl (by decide +kernel) rfl rfl (Nat.le_of_ble_eq_true rfl) dX5_wheel_95 (fun H locs hP hD hS => ?_)
    have hP : va_P D vwCl (wc_X5_wheel cy q_t q_t_kind q_t_grief q_t_bears q_t_rota (w_t.1, w_t.2.1, w_t.2.2.1, z85, w_t.2.2.2.2.1, z95, w_t.2.2.2.2.2.2.1, w_t.2.2.2.2.2.2.2.1, (upd w_t.2.2.2.2.2.2.2.2.1 v1.toNatClampNeg z53), w_t.2.2.2.2.2.2.2.2.2.1, w_t.2.2.2.2.2.2.2.2.2.2)) H := hP
    have hD : va_D A (wc_X5_wheel cy q_t q_t_kind q_t_grief q_t_bears q_t_rota (w_t.1, w_t.2.1, w_t.2.2.1, z85, w_t.2.2.2.2.1, z95, w_t.2.2.2.2.2.2.1, w_t.2.2.2.2.2.2.2.1, (upd w_t.2.2.2.2.2.2.2.2.1 v1.toNatClampNeg z53), w_t.2.2.2.2.2.2.2.2.2.1, w_t.2.2.2.2.2.2.2.2.2.2)) := hD
    refine lv_aload_n hx hb dX5_wheel_98 rfl (lv_at hl 2 rfl) ?_
    refine va_get (D := D) (ci := 5) (v := .int z85) (C := RX5) (T := TX5) (N := 11) hx hb hts (fun w hw => List.mem_cons_of_mem _ (uw_X5 w hw)) hown hK.1 hP 0 rfl rfl 7 (by decide) (hts _ (List.mem_cons_of_mem _ k_50)) (fun _ h9 => h9) rfl dX5_wheel_99 ?_
    refine lv_aload_n hx hb dX5_wheel_102 rfl (lv_at hl 2 rfl) ?_
    refine va_get (D := D) (ci := 5) (v := .ref q_t_bears) (C := RX5) (T := TX5) (N := 11) hx hb hts (fun w hw => List.mem_cons_of_mem _ (uw_X5 w hw)) hown hK.1 hP 0 rfl rfl 2 (by decide) (hts _ (List.mem_cons_of_mem _ k_36)) (fun _ h9 => h9) rfl dX5_wheel_103 ?_
    refine lv_iload_n hx hb dX5_wheel_106 rfl (lv_at hl 3 rfl) ?_
    obtain ⟨hi6, h⟩ := gi_d h
    refine va_iald hx hb hK.1 hP 3 1 rfl rfl hi6 dX5_wheel_107 ?_
    refine lv_icmp_le (tgt := 137) hx hb dX5_wheel_108 (by decide) (fun c108 => ?_) (fun c108 => ?_)
    · replace h := it_p c108 h
      obtain rfl := Option.some.inj h
      exact W.vret hx hb hr (fun tt ht hW => ⟨⟨(w_t.1, w_t.2.1, w_t.2.2.1, z85, w_t.2.2.2.2.1, z95, w_t.2.2.2.2.2.2.1, w_t.2.2.2.2.2.2.2.1, (upd w_t.2.2.2.2.2.2.2.2.1 v1.toNatClampNeg z53), w_t.2.2.2.2.2.2.2.2.2.1, w_t.2.2.2.2.2.2.2.2.2.2), rfl, rfl, by rw [ht]; exact hP, kk_warm hW hK, hD⟩, hS.F ht⟩) hS.2.2 dX5_wheel_137
    · replace h := it_n c108 h
      refine lv_aload_n hx hb dX5_wheel_111 rfl (lv_at hl 2 rfl) ?_
      refine lv_iload_n hx hb dX5_wheel_112 rfl (lv_at hl 3 rfl) ?_
      refine lv_aload_n hx hb dX5_wheel_113 rfl (lv_at hl 2 rfl) ?_
      refine va_get (D := D) (ci := 5) (v := .int z85) (C := RX5) (T := TX5) (N := 11) hx hb hts (fun w hw => List.mem_cons_of_mem _ (uw_X5 w hw)) hown hK.1 hP 0 rfl rfl 7 (by decide) (hts _ (List.mem_cons_of_mem _ k_50)) (fun _ h9 => h9) rfl dX5_wheel_114 ?_
      refine lv_aload_n hx hb dX5_wheel_117 rfl (lv_at hl 2 rfl) ?_
      refine va_get (D := D) (ci := 5) (v := .ref q_t_bears) (C := RX5) (T := TX5) (N := 11) hx hb hts (fun w hw => List.mem_cons_of_mem _ (uw_X5 w hw)) hown hK.1 hP 0 rfl rfl 2 (by decide) (hts _ (List.mem_cons_of_mem _ k_36)) (fun _ h9 => h9) rfl dX5_wheel_118 ?_
      refine lv_iload_n hx hb dX5_wheel_121 rfl (lv_at hl 3 rfl) ?_
      obtain ⟨hi7, h⟩ := gi_d h
      refine va_iald hx hb hK.1 hP 3 1 rfl rfl hi7 dX5_wheel_122 ?_
      refine lv_isub hx hb dX5_wheel_123 ?_
      obtain ⟨u124, hc124, h⟩ := bd_d h
      have hPc := hP.sub (ws' := wc_X5_spill cy q_t q_t_kind q_t_grief q_t_bears q_t_rota (w_t.1, w_t.2.1, w_t.2.2.1, z85, w_t.2.2.2.2.1, z95, w_t.2.2.2.2.2.2.1, w_t.2.2.2.2.2.2.2.1, (upd w_t.2.2.2.2.2.2.2.2.1 v1.toNatClampNeg z53), w_t.2.2.2.2.2.2.2.2.2.1, w_t.2.2.2.2.2.2.2.2.2.2)) [0, 1, 2, 3, 4] rfl
      have hDc := hD.sub (ws' := wc_X5_spill cy q_t q_t_kind q_t_grief q_t_bears q_t_rota (w_t.1, w_t.2.1, w_t.2.2.1, z85, w_t.2.2.2.2.1, z95, w_t.2.2.2.2.2.2.1, w_t.2.2.2.2.2.2.2.1, (upd w_t.2.2.2.2.2.2.2.2.1 v1.toNatClampNeg z53), w_t.2.2.2.2.2.2.2.2.2.1, w_t.2.2.2.2.2.2.2.2.2.2)) [0, 1, 2, 3, 4] (by decide) rfl
      refine cl_v (fun (u : s_W) => wc_X5_wheel cy q_t q_t_kind q_t_grief q_t_bears q_t_rota u) (va_runV (As := [.int v1, .int (z85 - (w_t.2.2.2.2.2.2.2.2.2.1 v1.toNatClampNeg))]) (rest := []) (C := RX5) ⟨hx, hb, hml, hown, hts⟩ (c_X5_spill l D cy H.size q_t q_t_kind q_t_grief q_t_bears q_t_rota (w_t.1, w_t.2.1, w_t.2.2.1, z85, w_t.2.2.2.2.1, z95, w_t.2.2.2.2.2.2.1, w_t.2.2.2.2.2.2.2.1, (upd w_t.2.2.2.2.2.2.2.2.1 v1.toNatClampNeg z53), w_t.2.2.2.2.2.2.2.2.2.1, w_t.2.2.2.2.2.2.2.2.2.2) v1 (z85 - (w_t.2.2.2.2.2.2.2.2.2.1 v1.toNatClampNeg)) hc124) ⟨callB_of 2 hts (wg_in k_477) rfl rfl rfl (hts _ (List.mem_cons_of_mem _ k_2)) (hts _ (List.mem_cons_of_mem _ k_474)) (by decide +kernel) ⟨by decide, by decide⟩, (hts _ (List.mem_cons_of_mem _ k_476)), (hts _ (List.mem_cons_of_mem _ ks_11))⟩ ⟨st_blind, va_recv hK.1 hPc (ci := 5) (q0 := 0) rfl rfl, fun U hU hW => st_pre hK hPc hDc hU hW⟩ rfl rfl hl.1 rfl (lv_room (Nat.le_of_ble_eq_true rfl)) dX5_wheel_124 ⟨by decide, by decide⟩) hP hD hS hA [0, 1, 2, 3, 4] [] [0, 1, 2, 3, 4] rfl rfl (by decide) (by decide) (by decide) (fun _ => rfl) (fun u H locs hw hP hD hS => ?_)
      obtain rfl := hw.symm
      have hP : va_P D vwCl (wc_X5_wheel cy q_t q_t_kind q_t_grief q_t_bears q_t_rota u124) H := hP
      have hD : va_D A (wc_X5_wheel cy q_t q_t_kind q_t_grief q_t_bears q_t_rota u124) := hD
      refine lv_aload_n hx hb dX5_wheel_127 rfl (lv_at hl 2 rfl) ?_
      refine lv_aload_n hx hb dX5_wheel_128 rfl (lv_at hl 2 rfl) ?_
      refine va_get (D := D) (ci := 5) (v := .ref q_t_bears) (C := RX5) (T := TX5) (N := 11) hx hb hts (fun w hw => List.mem_cons_of_mem _ (uw_X5 w hw)) hown hK.1 hP 0 rfl rfl 2 (by decide) (hts _ (List.mem_cons_of_mem _ k_36)) (fun _ h9 => h9) rfl dX5_wheel_129 ?_
      refine lv_iload_n hx hb dX5_wheel_132 rfl (lv_at hl 3 rfl) ?_
      obtain ⟨hi8, h⟩ := gi_d h
      refine va_iald hx hb hK.1 hP 3 1 rfl rfl hi8 dX5_wheel_133 ?_
      refine lv_topi (fun z134 ez134 => ?_)
      replace h := nm_d ez134 h
      refine va_put (D := D) (ci := 5) (v := .int z134) (ty := .int) (C := RX5) (T := TX5) (N := 11) hx hb hts (fun w hw => List.mem_cons_of_mem _ (uw_X5 w hw)) tyX5 tyX5_ok nmX5 hown hK.1 hP hD hS 0 rfl rfl 7 (by decide) (hts _ (List.mem_cons_of_mem _ k_50)) (fun _ h9 => h9) rfl (by decide +kernel) rfl rfl (Nat.le_of_ble_eq_true rfl) dX5_wheel_134 (fun H locs hP hD hS => ?_)
      have hP : va_P D vwCl (wc_X5_wheel cy q_t q_t_kind q_t_grief q_t_bears q_t_rota (u124.1, u124.2.1, u124.2.2.1, z134, u124.2.2.2.2.1, u124.2.2.2.2.2.1, u124.2.2.2.2.2.2.1, u124.2.2.2.2.2.2.2.1, u124.2.2.2.2.2.2.2.2.1, u124.2.2.2.2.2.2.2.2.2.1, u124.2.2.2.2.2.2.2.2.2.2)) H := hP
      have hD : va_D A (wc_X5_wheel cy q_t q_t_kind q_t_grief q_t_bears q_t_rota (u124.1, u124.2.1, u124.2.2.1, z134, u124.2.2.2.2.1, u124.2.2.2.2.2.1, u124.2.2.2.2.2.2.1, u124.2.2.2.2.2.2.2.1, u124.2.2.2.2.2.2.2.2.1, u124.2.2.2.2.2.2.2.2.2.1, u124.2.2.2.2.2.2.2.2.2.2)) := hD
      obtain rfl := Option.some.inj h
      exact W.vret hx hb hr (fun tt ht hW => ⟨⟨(u124.1, u124.2.1, u124.2.2.1, z134, u124.2.2.2.2.1, u124.2.2.2.2.2.1, u124.2.2.2.2.2.2.1, u124.2.2.2.2.2.2.2.1, u124.2.2.2.2.2.2.2.2.1, u124.2.2.2.2.2.2.2.2.2.1, u124.2.2.2.2.2.2.2.2.2.2), rfl, rfl, by rw [ht]; exact hP, kk_warm hW hK, hD⟩, hS.F ht⟩) hS.2.2 dX5_wheel_137
  · replace h := it_p c5 h
    obtain rfl := Option.some.inj h
    exact W.vret hx hb hr (fun tt ht hW => ⟨⟨w_t, rfl, rfl, by rw [ht]; exact hP, kk_warm hW hK, hD⟩, hS.F ht⟩) hS.2.2 dX5_wheel_8
def M_X5_wheel   (f : Nat) (w_t : s_W) (v1 : Int32) : Option (s_W) := B_X5_wheel_0 f w_t v1
set_option maxHeartbeats 4000000 in
set_option maxRecDepth 100000 in
theorem c_X5_wheel (l : Launch) (D : va_G) (cy : Nat → ClassId) (sz : Nat) (q_t : Nat) (q_t_kind : Nat) (q_t_grief : Nat) (q_t_bears : Nat) (q_t_rota : Nat) (w_t : s_W) (v1 : Int32) {f : Nat} {res : s_W} (h : M_X5_wheel f w_t v1 = some res) : ct_v l yX5_wheel (.code yX5_wheel cX5_wheel 4 (none) :: wg_L) rm_X5_wheel D cy sz (wc_X5_wheel cy q_t q_t_kind q_t_grief q_t_bears q_t_rota w_t) [.ref q_t, .int v1] (fun (u : s_W) => u = res) (fun (u : s_W) => wc_X5_wheel cy q_t q_t_kind q_t_grief q_t_bears q_t_rota u) := by
  refine Met.ofW (cc := cX5_wheel) (maxL := 4) (ret := none) (by decide) rfl ?_
  intro p e s m args below meth c s₁ B hml hv
  obtain ⟨rfl, hsz, hP, hK, hD0⟩ := hv
  subst hsz
  have hD := hD0.self (sz := s.heap.size)
  have hl := lv_entry ([.ref q_t, .int v1]) (n := 4) (Nat.le_of_ble_eq_true rfl)
  rw [lg_entry_eq]
  have C0 : cx_C cX5_wheel (none) 4 RX5 (.code yX5_wheel cX5_wheel 4 (none) :: wg_L) p s m [.ref q_t, .int v1].toArray meth c D cy (va_A (wc_X5_wheel cy q_t q_t_kind q_t_grief q_t_bears q_t_rota w_t) s.heap.size) := ⟨B.exec, B.bytes, B.returns, hml, findClass_of_methodNamed B.named, atoms_spec (ws := .code yX5_wheel cX5_wheel 4 (none) :: wg_L) B.pre, hK, B.notSynchronized, fun q h => Or.inr h⟩
  exact b_X5_wheel_0 C0 h hP hD va_S.rf (lv_sub hl [0, 1] rfl)
/-! ### BarrowGrief$World.passOne()V -/
abbrev wc_X5_passOne (cy : Nat → ClassId) (q_t q_t_kind q_t_grief q_t_bears q_t_rota : Nat) (w_t : s_W) : va_W := [(q_t, .inr (5, [.ref q_t_kind, .ref q_t_grief, .ref q_t_bears, .ref q_t_rota, .int w_t.1, .int w_t.2.1, .int w_t.2.2.1, .int w_t.2.2.2.1, .int w_t.2.2.2.2.1, .int w_t.2.2.2.2.2.1, .int w_t.2.2.2.2.2.2.1])), (q_t_kind, .inl (cy 1, 5, .inl w_t.2.2.2.2.2.2.2.1)), (q_t_grief, .inl (cy 1, 5, .inl w_t.2.2.2.2.2.2.2.2.1)), (q_t_bears, .inl (cy 1, 5, .inl w_t.2.2.2.2.2.2.2.2.2.1)), (q_t_rota, .inl (cy 1, 8, .inl w_t.2.2.2.2.2.2.2.2.2.2))]
abbrev rm_X5_passOne : Room := { frames := 4, cells := 0, slots := 0, locals := 90 }
abbrev qq_X5_passOne (below : List Frame) (args : Array Value) (s : State) (D : va_G) (cy : Nat → ClassId) (A : Nat → Prop) (q_t : Nat) (q_t_kind : Nat) (q_t_grief : Nat) (q_t_bears : Nat) (q_t_rota : Nat) (res : s_W) : State → Prop := MQ below (va_Qv (fun (u : s_W) => u = res) (fun u t => st_B D cy A ((fun (u : s_W) => wc_X5_passOne cy q_t q_t_kind q_t_grief q_t_bears q_t_rota u) u) t) A) args s 0 0 A
def B_X5_passOne_0   (f : Nat) (w_t : s_W)  : Option (s_W) := (M_X5_whose w_t).bind (fun u2 => (M_X5_wheel f w_t u2).bind (fun u5 => nm_v (u5.2.2.2.2.1 + 1) (fun z15 => some (u5.1, u5.2.1, u5.2.2.1, u5.2.2.2.1, z15, u5.2.2.2.2.2.1, u5.2.2.2.2.2.2.1, u5.2.2.2.2.2.2.2.1, u5.2.2.2.2.2.2.2.2.1, u5.2.2.2.2.2.2.2.2.2.1, u5.2.2.2.2.2.2.2.2.2.2))))
set_option maxHeartbeats 4000000 in
set_option maxRecDepth 100000 in
theorem b_X5_passOne_0 {p : Program} {l : Launch} {e : Env} {s : State} {m : MethodId} {args : Array Value} {below : List Frame} {meth : Method} {c : Code} {D : va_G} {cy : Nat → ClassId} {A : Nat → Prop} {q_t : Nat} {q_t_kind : Nat} {q_t_grief : Nat} {q_t_bears : Nat} {q_t_rota : Nat} {res : s_W}  {f : Nat} {w_t : s_W}  (C0 : cx_C cX5_passOne (none) 1 RX5 (.code yX5_passOne cX5_passOne 1 (none) :: wg_L) p s m args meth c D cy A)  (h : B_X5_passOne_0 f w_t = some res) {H : Heap} {locs : List Loc} {ls : Array Slot} (hP : va_P D vwCl (wc_X5_passOne cy q_t q_t_kind q_t_grief q_t_bears q_t_rota w_t) H) (hD : va_D A (wc_X5_passOne cy q_t q_t_kind q_t_grief q_t_bears q_t_rota w_t)) (hS : va_S A s.heap H locs) (hl : lv_has ls 1 [(0, .ref q_t)]) : W p l e rm_X5_passOne s m args below meth c H locs 0 0 (qq_X5_passOne below args s D cy A q_t q_t_kind q_t_grief q_t_bears q_t_rota res) (F0 m 0 ls []) := by
  obtain ⟨hx, hb, hr, hml, hown, hts, hK, hlocks, hA⟩ := id C0
  unfold B_X5_passOne_0 at h
  refine lv_aload_n hx hb dX5_passOne_0 rfl (lv_at hl 0 rfl) ?_
  refine lv_aload_n hx hb dX5_passOne_1 rfl (lv_at hl 0 rfl) ?_
  obtain ⟨u2, hc2, h⟩ := bd_d h
  have hPc := hP.sub (ws' := wc_X5_whose cy q_t q_t_kind q_t_grief q_t_bears q_t_rota w_t) [0, 1, 2, 3, 4] rfl
  have hDc := hD.sub (ws' := wc_X5_whose cy q_t q_t_kind q_t_grief q_t_bears q_t_rota w_t) [0, 1, 2, 3, 4] (by decide) rfl
  refine cl_i (fun (u : Unit) => wc_X5_passOne cy q_t q_t_kind q_t_grief q_t_bears q_t_rota w_t) (va_runV (As := []) (rest := [.ref q_t]) (C := RX5) ⟨hx, hb, hml, hown, hts⟩ (c_X5_whose l D cy H.size q_t q_t_kind q_t_grief q_t_bears q_t_rota w_t hc2) ⟨callB_of 0 hts (wg_in k_402) rfl rfl rfl (hts _ (List.mem_cons_of_mem _ k_2)) (hts _ (List.mem_cons_of_mem _ k_464)) (by decide +kernel) ⟨by decide, by decide⟩, (hts _ (List.mem_cons_of_mem _ k_400)), (hts _ (List.mem_cons_of_mem _ k_401))⟩ ⟨st_blind, va_recv hK.1 hPc (ci := 5) (q0 := 0) rfl rfl, fun U hU hW => st_pre hK hPc hDc hU hW⟩ rfl rfl hl.1 rfl (lv_room (Nat.le_of_ble_eq_true rfl)) dX5_passOne_2 ⟨by decide, by decide⟩) hP hD hS hA [0, 1, 2, 3, 4] [] [0, 1, 2, 3, 4] rfl rfl (by decide) (by decide) (by decide) (fun _ => rfl) (fun r u H locs hw hP hD hS => ?_)
  obtain rfl := hw.symm
  obtain ⟨u5, hc5, h⟩ := bd_d h
  have hPc := hP.sub (ws' := wc_X5_wheel cy q_t q_t_kind q_t_grief q_t_bears q_t_rota w_t) [0, 1, 2, 3, 4] rfl
  have hDc := hD.sub (ws' := wc_X5_wheel cy q_t q_t_kind q_t_grief q_t_bears q_t_rota w_t) [0, 1, 2, 3, 4] (by decide) rfl
  refine cl_v (fun (u : s_W) => wc_X5_passOne cy q_t q_t_kind q_t_grief q_t_bears q_t_rota u) (va_runV (As := [.int u2]) (rest := []) (C := RX5) ⟨hx, hb, hml, hown, hts⟩ (c_X5_wheel l D cy H.size q_t q_t_kind q_t_grief q_t_bears q_t_rota w_t u2 hc5) ⟨callB_of 1 hts (wg_in k_468) rfl rfl rfl (hts _ (List.mem_cons_of_mem _ k_2)) (hts _ (List.mem_cons_of_mem _ k_465)) (by decide +kernel) ⟨by decide, by decide⟩, (hts _ (List.mem_cons_of_mem _ k_466)), (hts _ (List.mem_cons_of_mem _ k_467))⟩ ⟨st_blind, va_recv hK.1 hPc (ci := 5) (q0 := 0) rfl rfl, fun U hU hW => st_pre hK hPc hDc hU hW⟩ rfl rfl hl.1 rfl (lv_room (Nat.le_of_ble_eq_true rfl)) dX5_passOne_5 ⟨by decide, by decide⟩) hP hD hS hA [0, 1, 2, 3, 4] [] [0, 1, 2, 3, 4] rfl rfl (by decide) (by decide) (by decide) (fun _ => rfl) (fun u H locs hw hP hD hS => ?_)
  obtain rfl := hw.symm
  have hP : va_P D vwCl (wc_X5_passOne cy q_t q_t_kind q_t_grief q_t_bears q_t_rota u5) H := hP
  have hD : va_D A (wc_X5_passOne cy q_t q_t_kind q_t_grief q_t_bears q_t_rota u5) := hD
  refine lv_aload_n hx hb dX5_passOne_8 rfl (lv_at hl 0 rfl) ?_
  refine lv_dup hx hb dX5_passOne_9 rfl ?_
  refine va_get (D := D) (ci := 5) (v := .int u5.2.2.2.2.1) (C := RX5) (T := TX5) (N := 11) hx hb hts (fun w hw => List.mem_cons_of_mem _ (uw_X5 w hw)) hown hK.1 hP 0 rfl rfl 8 (by decide) (hts _ (List.mem_cons_of_mem _ k_53)) (fun _ h9 => h9) rfl dX5_passOne_10 ?_
  refine lv_iconst (v := 1) hx hb dX5_passOne_13 (by decide) ?_
  refine lv_iadd hx hb dX5_passOne_14 ?_
  refine lv_topi (fun z15 ez15 => ?_)
  replace h := nm_d ez15 h
  refine va_put (D := D) (ci := 5) (v := .int z15) (ty := .int) (C := RX5) (T := TX5) (N := 11) hx hb hts (fun w hw => List.mem_cons_of_mem _ (uw_X5 w hw)) tyX5 tyX5_ok nmX5 hown hK.1 hP hD hS 0 rfl rfl 8 (by decide) (hts _ (List.mem_cons_of_mem _ k_53)) (fun _ h9 => h9) rfl (by decide +kernel) rfl rfl (Nat.le_of_ble_eq_true rfl) dX5_passOne_15 (fun H locs hP hD hS => ?_)
  have hP : va_P D vwCl (wc_X5_passOne cy q_t q_t_kind q_t_grief q_t_bears q_t_rota (u5.1, u5.2.1, u5.2.2.1, u5.2.2.2.1, z15, u5.2.2.2.2.2.1, u5.2.2.2.2.2.2.1, u5.2.2.2.2.2.2.2.1, u5.2.2.2.2.2.2.2.2.1, u5.2.2.2.2.2.2.2.2.2.1, u5.2.2.2.2.2.2.2.2.2.2)) H := hP
  have hD : va_D A (wc_X5_passOne cy q_t q_t_kind q_t_grief q_t_bears q_t_rota (u5.1, u5.2.1, u5.2.2.1, u5.2.2.2.1, z15, u5.2.2.2.2.2.1, u5.2.2.2.2.2.2.1, u5.2.2.2.2.2.2.2.1, u5.2.2.2.2.2.2.2.2.1, u5.2.2.2.2.2.2.2.2.2.1, u5.2.2.2.2.2.2.2.2.2.2)) := hD
  obtain rfl := Option.some.inj h
  exact W.vret hx hb hr (fun tt ht hW => ⟨⟨(u5.1, u5.2.1, u5.2.2.1, u5.2.2.2.1, z15, u5.2.2.2.2.2.1, u5.2.2.2.2.2.2.1, u5.2.2.2.2.2.2.2.1, u5.2.2.2.2.2.2.2.2.1, u5.2.2.2.2.2.2.2.2.2.1, u5.2.2.2.2.2.2.2.2.2.2), rfl, rfl, by rw [ht]; exact hP, kk_warm hW hK, hD⟩, hS.F ht⟩) hS.2.2 dX5_passOne_18
def M_X5_passOne   (f : Nat) (w_t : s_W)  : Option (s_W) := B_X5_passOne_0 f w_t
set_option maxHeartbeats 4000000 in
set_option maxRecDepth 100000 in
theorem c_X5_passOne (l : Launch) (D : va_G) (cy : Nat → ClassId) (sz : Nat) (q_t : Nat) (q_t_kind : Nat) (q_t_grief : Nat) (q_t_bears : Nat) (q_t_rota : Nat) (w_t : s_W)  {f : Nat} {res : s_W} (h : M_X5_passOne f w_t = some res) : ct_v l yX5_passOne (.code yX5_passOne cX5_passOne 1 (none) :: wg_L) rm_X5_passOne D cy sz (wc_X5_passOne cy q_t q_t_kind q_t_grief q_t_bears q_t_rota w_t) [.ref q_t] (fun (u : s_W) => u = res) (fun (u : s_W) => wc_X5_passOne cy q_t q_t_kind q_t_grief q_t_bears q_t_rota u) := by
  refine Met.ofW (cc := cX5_passOne) (maxL := 1) (ret := none) (by decide) rfl ?_
  intro p e s m args below meth c s₁ B hml hv
  obtain ⟨rfl, hsz, hP, hK, hD0⟩ := hv
  subst hsz
  have hD := hD0.self (sz := s.heap.size)
  have hl := lv_entry ([.ref q_t]) (n := 1) (Nat.le_of_ble_eq_true rfl)
  rw [lg_entry_eq]
  have C0 : cx_C cX5_passOne (none) 1 RX5 (.code yX5_passOne cX5_passOne 1 (none) :: wg_L) p s m [.ref q_t].toArray meth c D cy (va_A (wc_X5_passOne cy q_t q_t_kind q_t_grief q_t_bears q_t_rota w_t) s.heap.size) := ⟨B.exec, B.bytes, B.returns, hml, findClass_of_methodNamed B.named, atoms_spec (ws := .code yX5_passOne cX5_passOne 1 (none) :: wg_L) B.pre, hK, B.notSynchronized, fun q h => Or.inr h⟩
  exact b_X5_passOne_0 C0 h hP hD va_S.rf (lv_sub hl [0] rfl)
/-! ### BarrowGrief$World.become(LBarrowGrief$World;)V -/
abbrev wc_X5_become (cy : Nat → ClassId) (q_t q_t_kind q_t_grief q_t_bears q_t_rota q_a1 q_a1_kind q_a1_grief q_a1_bears q_a1_rota : Nat) (w_t : s_W) (w_a1 : s_W) : va_W := [(q_t, .inr (5, [.ref q_t_kind, .ref q_t_grief, .ref q_t_bears, .ref q_t_rota, .int w_t.1, .int w_t.2.1, .int w_t.2.2.1, .int w_t.2.2.2.1, .int w_t.2.2.2.2.1, .int w_t.2.2.2.2.2.1, .int w_t.2.2.2.2.2.2.1])), (q_t_kind, .inl (cy 1, 5, .inl w_t.2.2.2.2.2.2.2.1)), (q_t_grief, .inl (cy 1, 5, .inl w_t.2.2.2.2.2.2.2.2.1)), (q_t_bears, .inl (cy 1, 5, .inl w_t.2.2.2.2.2.2.2.2.2.1)), (q_t_rota, .inl (cy 1, 8, .inl w_t.2.2.2.2.2.2.2.2.2.2)), (q_a1, .inr (5, [.ref q_a1_kind, .ref q_a1_grief, .ref q_a1_bears, .ref q_a1_rota, .int w_a1.1, .int w_a1.2.1, .int w_a1.2.2.1, .int w_a1.2.2.2.1, .int w_a1.2.2.2.2.1, .int w_a1.2.2.2.2.2.1, .int w_a1.2.2.2.2.2.2.1])), (q_a1_kind, .inl (cy 1, 5, .inl w_a1.2.2.2.2.2.2.2.1)), (q_a1_grief, .inl (cy 1, 5, .inl w_a1.2.2.2.2.2.2.2.2.1)), (q_a1_bears, .inl (cy 1, 5, .inl w_a1.2.2.2.2.2.2.2.2.2.1)), (q_a1_rota, .inl (cy 1, 8, .inl w_a1.2.2.2.2.2.2.2.2.2.2))]
abbrev rm_X5_become : Room := { frames := 1, cells := 0, slots := 0, locals := 40 }
abbrev qq_X5_become (below : List Frame) (args : Array Value) (s : State) (D : va_G) (cy : Nat → ClassId) (A : Nat → Prop) (q_t : Nat) (q_t_kind : Nat) (q_t_grief : Nat) (q_t_bears : Nat) (q_t_rota : Nat) (q_a1 : Nat) (q_a1_kind : Nat) (q_a1_grief : Nat) (q_a1_bears : Nat) (q_a1_rota : Nat) (w_a1 : s_W) (res : s_W) : State → Prop := MQ below (va_Qv (fun (u : s_W) => u = res) (fun u t => st_B D cy A ((fun (u : s_W) => wc_X5_become cy q_t q_t_kind q_t_grief q_t_bears q_t_rota q_a1 q_a1_kind q_a1_grief q_a1_bears q_a1_rota u w_a1) u) t) A) args s 0 0 A
def B_X5_become_0  (w_a1 : s_W)  (w_t : s_W)  : Option (s_W) := some (w_a1.1, w_a1.2.1, w_a1.2.2.1, w_a1.2.2.2.1, w_a1.2.2.2.2.1, 0, 0, (va_cpy w_a1.2.2.2.2.2.2.2.1 w_t.2.2.2.2.2.2.2.1 (0 : Int32).toNatClampNeg (0 : Int32).toNatClampNeg (5 : Int32).toNatClampNeg), (va_cpy w_a1.2.2.2.2.2.2.2.2.1 w_t.2.2.2.2.2.2.2.2.1 (0 : Int32).toNatClampNeg (0 : Int32).toNatClampNeg (5 : Int32).toNatClampNeg), (va_cpy w_a1.2.2.2.2.2.2.2.2.2.1 w_t.2.2.2.2.2.2.2.2.2.1 (0 : Int32).toNatClampNeg (0 : Int32).toNatClampNeg (5 : Int32).toNatClampNeg), (va_cpy w_a1.2.2.2.2.2.2.2.2.2.2 w_t.2.2.2.2.2.2.2.2.2.2 (0 : Int32).toNatClampNeg (0 : Int32).toNatClampNeg (8 : Int32).toNatClampNeg))
set_option maxHeartbeats 4000000 in
set_option maxRecDepth 100000 in
theorem b_X5_become_0 {p : Program} {l : Launch} {e : Env} {s : State} {m : MethodId} {args : Array Value} {below : List Frame} {meth : Method} {c : Code} {D : va_G} {cy : Nat → ClassId} {A : Nat → Prop} {q_t : Nat} {q_t_kind : Nat} {q_t_grief : Nat} {q_t_bears : Nat} {q_t_rota : Nat} {q_a1 : Nat} {q_a1_kind : Nat} {q_a1_grief : Nat} {q_a1_bears : Nat} {q_a1_rota : Nat} {w_a1 : s_W} {res : s_W}   {w_t : s_W}  (C0 : cx_C cX5_become (none) 2 RX5 (.code yX5_become cX5_become 2 (none) :: wg_L) p s m args meth c D cy A)  (h : B_X5_become_0 w_a1 w_t = some res) {H : Heap} {locs : List Loc} {ls : Array Slot} (hP : va_P D vwCl (wc_X5_become cy q_t q_t_kind q_t_grief q_t_bears q_t_rota q_a1 q_a1_kind q_a1_grief q_a1_bears q_a1_rota w_t w_a1) H) (hD : va_D A (wc_X5_become cy q_t q_t_kind q_t_grief q_t_bears q_t_rota q_a1 q_a1_kind q_a1_grief q_a1_bears q_a1_rota w_t w_a1)) (hS : va_S A s.heap H locs) (hl : lv_has ls 2 [(0, .ref q_t), (1, .ref q_a1)]) : W p l e rm_X5_become s m args below meth c H locs 0 0 (qq_X5_become below args s D cy A q_t q_t_kind q_t_grief q_t_bears q_t_rota q_a1 q_a1_kind q_a1_grief q_a1_bears q_a1_rota w_a1 res) (F0 m 0 ls []) := by
  obtain ⟨hx, hb, hr, hml, hown, hts, hK, hlocks, hA⟩ := id C0
  unfold B_X5_become_0 at h
  refine lv_aload_n hx hb dX5_become_0 rfl (lv_at hl 1 rfl) ?_
  refine va_get (D := D) (ci := 5) (v := .ref q_a1_kind) (C := RX5) (T := TX5) (N := 11) hx hb hts (fun w hw => List.mem_cons_of_mem _ (uw_X5 w hw)) hown hK.1 hP 5 rfl rfl 0 (by decide) (hts _ (List.mem_cons_of_mem _ k_31)) (fun _ h9 => h9) rfl dX5_become_1 ?_
  refine lv_iconst (v := 0) hx hb dX5_become_4 (by decide) ?_
  refine lv_aload_n hx hb dX5_become_5 rfl (lv_at hl 0 rfl) ?_
  refine va_get (D := D) (ci := 5) (v := .ref q_t_kind) (C := RX5) (T := TX5) (N := 11) hx hb hts (fun w hw => List.mem_cons_of_mem _ (uw_X5 w hw)) hown hK.1 hP 0 rfl rfl 0 (by decide) (hts _ (List.mem_cons_of_mem _ k_31)) (fun _ h9 => h9) rfl dX5_become_6 ?_
  refine lv_iconst (v := 0) hx hb dX5_become_9 (by decide) ?_
  refine lv_iconst (v := 5) hx hb dX5_become_10 (by decide) ?_
  refine va_copyi (own := RX5) hx hb (by rw [hml]; exact hl.1.symm) hown (hts _ (List.mem_cons_of_mem _ k_381)) (hts _ (List.mem_cons_of_mem _ k_383)) (hts _ (List.mem_cons_of_mem _ k_382)) (hts _ (List.mem_cons_of_mem _ k_13)) hK.1 hP hD hS 6 1 1 1 rfl rfl rfl rfl rfl (by decide) (by decide) (by decide) (by decide) (by decide) (fun _ _ => rfl) (by decide) (by decide +kernel) dX5_become_11 (fun H locs hP hD hS => ?_)
  have hP : va_P D vwCl (wc_X5_become cy q_t q_t_kind q_t_grief q_t_bears q_t_rota q_a1 q_a1_kind q_a1_grief q_a1_bears q_a1_rota (w_t.1, w_t.2.1, w_t.2.2.1, w_t.2.2.2.1, w_t.2.2.2.2.1, w_t.2.2.2.2.2.1, w_t.2.2.2.2.2.2.1, (va_cpy w_a1.2.2.2.2.2.2.2.1 w_t.2.2.2.2.2.2.2.1 (0 : Int32).toNatClampNeg (0 : Int32).toNatClampNeg (5 : Int32).toNatClampNeg), w_t.2.2.2.2.2.2.2.2.1, w_t.2.2.2.2.2.2.2.2.2.1, w_t.2.2.2.2.2.2.2.2.2.2) w_a1) H := hP
  have hD : va_D A (wc_X5_become cy q_t q_t_kind q_t_grief q_t_bears q_t_rota q_a1 q_a1_kind q_a1_grief q_a1_bears q_a1_rota (w_t.1, w_t.2.1, w_t.2.2.1, w_t.2.2.2.1, w_t.2.2.2.2.1, w_t.2.2.2.2.2.1, w_t.2.2.2.2.2.2.1, (va_cpy w_a1.2.2.2.2.2.2.2.1 w_t.2.2.2.2.2.2.2.1 (0 : Int32).toNatClampNeg (0 : Int32).toNatClampNeg (5 : Int32).toNatClampNeg), w_t.2.2.2.2.2.2.2.2.1, w_t.2.2.2.2.2.2.2.2.2.1, w_t.2.2.2.2.2.2.2.2.2.2) w_a1) := hD
  refine lv_aload_n hx hb dX5_become_14 rfl (lv_at hl 1 rfl) ?_
  refine va_get (D := D) (ci := 5) (v := .ref q_a1_grief) (C := RX5) (T := TX5) (N := 11) hx hb hts (fun w hw => List.mem_cons_of_mem _ (uw_X5 w hw)) hown hK.1 hP 5 rfl rfl 1 (by decide) (hts _ (List.mem_cons_of_mem _ k_33)) (fun _ h9 => h9) rfl dX5_become_15 ?_
  refine lv_iconst (v := 0) hx hb dX5_become_18 (by decide) ?_
  refine lv_aload_n hx hb dX5_become_19 rfl (lv_at hl 0 rfl) ?_
  refine va_get (D := D) (ci := 5) (v := .ref q_t_grief) (C := RX5) (T := TX5) (N := 11) hx hb hts (fun w hw => List.mem_cons_of_mem _ (uw_X5 w hw)) hown hK.1 hP 0 rfl rfl 1 (by decide) (hts _ (List.mem_cons_of_mem _ k_33)) (fun _ h9 => h9) rfl dX5_become_20 ?_
  refine lv_iconst (v := 0) hx hb dX5_become_23 (by decide) ?_
  refine lv_iconst (v := 5) hx hb dX5_become_24 (by decide) ?_
  refine va_copyi (own := RX5) hx hb (by rw [hml]; exact hl.1.symm) hown (hts _ (List.mem_cons_of_mem _ k_381)) (hts _ (List.mem_cons_of_mem _ k_383)) (hts _ (List.mem_cons_of_mem _ k_382)) (hts _ (List.mem_cons_of_mem _ k_13)) hK.1 hP hD hS 7 2 1 1 rfl rfl rfl rfl rfl (by decide) (by decide) (by decide) (by decide) (by decide) (fun _ _ => rfl) (by decide) (by decide +kernel) dX5_become_25 (fun H locs hP hD hS => ?_)
  have hP : va_P D vwCl (wc_X5_become cy q_t q_t_kind q_t_grief q_t_bears q_t_rota q_a1 q_a1_kind q_a1_grief q_a1_bears q_a1_rota (w_t.1, w_t.2.1, w_t.2.2.1, w_t.2.2.2.1, w_t.2.2.2.2.1, w_t.2.2.2.2.2.1, w_t.2.2.2.2.2.2.1, (va_cpy w_a1.2.2.2.2.2.2.2.1 w_t.2.2.2.2.2.2.2.1 (0 : Int32).toNatClampNeg (0 : Int32).toNatClampNeg (5 : Int32).toNatClampNeg), (va_cpy w_a1.2.2.2.2.2.2.2.2.1 w_t.2.2.2.2.2.2.2.2.1 (0 : Int32).toNatClampNeg (0 : Int32).toNatClampNeg (5 : Int32).toNatClampNeg), w_t.2.2.2.2.2.2.2.2.2.1, w_t.2.2.2.2.2.2.2.2.2.2) w_a1) H := hP
  have hD : va_D A (wc_X5_become cy q_t q_t_kind q_t_grief q_t_bears q_t_rota q_a1 q_a1_kind q_a1_grief q_a1_bears q_a1_rota (w_t.1, w_t.2.1, w_t.2.2.1, w_t.2.2.2.1, w_t.2.2.2.2.1, w_t.2.2.2.2.2.1, w_t.2.2.2.2.2.2.1, (va_cpy w_a1.2.2.2.2.2.2.2.1 w_t.2.2.2.2.2.2.2.1 (0 : Int32).toNatClampNeg (0 : Int32).toNatClampNeg (5 : Int32).toNatClampNeg), (va_cpy w_a1.2.2.2.2.2.2.2.2.1 w_t.2.2.2.2.2.2.2.2.1 (0 : Int32).toNatClampNeg (0 : Int32).toNatClampNeg (5 : Int32).toNatClampNeg), w_t.2.2.2.2.2.2.2.2.2.1, w_t.2.2.2.2.2.2.2.2.2.2) w_a1) := hD
  refine lv_aload_n hx hb dX5_become_28 rfl (lv_at hl 1 rfl) ?_
  refine va_get (D := D) (ci := 5) (v := .ref q_a1_bears) (C := RX5) (T := TX5) (N := 11) hx hb hts (fun w hw => List.mem_cons_of_mem _ (uw_X5 w hw)) hown hK.1 hP 5 rfl rfl 2 (by decide) (hts _ (List.mem_cons_of_mem _ k_36)) (fun _ h9 => h9) rfl dX5_become_29 ?_
  refine lv_iconst (v := 0) hx hb dX5_become_32 (by decide) ?_
  refine lv_aload_n hx hb dX5_become_33 rfl (lv_at hl 0 rfl) ?_
  refine va_get (D := D) (ci := 5) (v := .ref q_t_bears) (C := RX5) (T := TX5) (N := 11) hx hb hts (fun w hw => List.mem_cons_of_mem _ (uw_X5 w hw)) hown hK.1 hP 0 rfl rfl 2 (by decide) (hts _ (List.mem_cons_of_mem _ k_36)) (fun _ h9 => h9) rfl dX5_become_34 ?_
  refine lv_iconst (v := 0) hx hb dX5_become_37 (by decide) ?_
  refine lv_iconst (v := 5) hx hb dX5_become_38 (by decide) ?_
  refine va_copyi (own := RX5) hx hb (by rw [hml]; exact hl.1.symm) hown (hts _ (List.mem_cons_of_mem _ k_381)) (hts _ (List.mem_cons_of_mem _ k_383)) (hts _ (List.mem_cons_of_mem _ k_382)) (hts _ (List.mem_cons_of_mem _ k_13)) hK.1 hP hD hS 8 3 1 1 rfl rfl rfl rfl rfl (by decide) (by decide) (by decide) (by decide) (by decide) (fun _ _ => rfl) (by decide) (by decide +kernel) dX5_become_39 (fun H locs hP hD hS => ?_)
  have hP : va_P D vwCl (wc_X5_become cy q_t q_t_kind q_t_grief q_t_bears q_t_rota q_a1 q_a1_kind q_a1_grief q_a1_bears q_a1_rota (w_t.1, w_t.2.1, w_t.2.2.1, w_t.2.2.2.1, w_t.2.2.2.2.1, w_t.2.2.2.2.2.1, w_t.2.2.2.2.2.2.1, (va_cpy w_a1.2.2.2.2.2.2.2.1 w_t.2.2.2.2.2.2.2.1 (0 : Int32).toNatClampNeg (0 : Int32).toNatClampNeg (5 : Int32).toNatClampNeg), (va_cpy w_a1.2.2.2.2.2.2.2.2.1 w_t.2.2.2.2.2.2.2.2.1 (0 : Int32).toNatClampNeg (0 : Int32).toNatClampNeg (5 : Int32).toNatClampNeg), (va_cpy w_a1.2.2.2.2.2.2.2.2.2.1 w_t.2.2.2.2.2.2.2.2.2.1 (0 : Int32).toNatClampNeg (0 : Int32).toNatClampNeg (5 : Int32).toNatClampNeg), w_t.2.2.2.2.2.2.2.2.2.2) w_a1) H := hP
  have hD : va_D A (wc_X5_become cy q_t q_t_kind q_t_grief q_t_bears q_t_rota q_a1 q_a1_kind q_a1_grief q_a1_bears q_a1_rota (w_t.1, w_t.2.1, w_t.2.2.1, w_t.2.2.2.1, w_t.2.2.2.2.1, w_t.2.2.2.2.2.1, w_t.2.2.2.2.2.2.1, (va_cpy w_a1.2.2.2.2.2.2.2.1 w_t.2.2.2.2.2.2.2.1 (0 : Int32).toNatClampNeg (0 : Int32).toNatClampNeg (5 : Int32).toNatClampNeg), (va_cpy w_a1.2.2.2.2.2.2.2.2.1 w_t.2.2.2.2.2.2.2.2.1 (0 : Int32).toNatClampNeg (0 : Int32).toNatClampNeg (5 : Int32).toNatClampNeg), (va_cpy w_a1.2.2.2.2.2.2.2.2.2.1 w_t.2.2.2.2.2.2.2.2.2.1 (0 : Int32).toNatClampNeg (0 : Int32).toNatClampNeg (5 : Int32).toNatClampNeg), w_t.2.2.2.2.2.2.2.2.2.2) w_a1) := hD
  refine lv_aload_n hx hb dX5_become_42 rfl (lv_at hl 1 rfl) ?_
  refine va_get (D := D) (ci := 5) (v := .ref q_a1_rota) (C := RX5) (T := TX5) (N := 11) hx hb hts (fun w hw => List.mem_cons_of_mem _ (uw_X5 w hw)) hown hK.1 hP 5 rfl rfl 3 (by decide) (hts _ (List.mem_cons_of_mem _ k_38)) (fun _ h9 => h9) rfl dX5_become_43 ?_
  refine lv_iconst (v := 0) hx hb dX5_become_46 (by decide) ?_
  refine lv_aload_n hx hb dX5_become_47 rfl (lv_at hl 0 rfl) ?_
  refine va_get (D := D) (ci := 5) (v := .ref q_t_rota) (C := RX5) (T := TX5) (N := 11) hx hb hts (fun w hw => List.mem_cons_of_mem _ (uw_X5 w hw)) hown hK.1 hP 0 rfl rfl 3 (by decide) (hts _ (List.mem_cons_of_mem _ k_38)) (fun _ h9 => h9) rfl dX5_become_48 ?_
  refine lv_iconst (v := 0) hx hb dX5_become_51 (by decide) ?_
  refine lv_bipush (v := 8) hx hb dX5_become_52 (by decide) ?_
  refine va_copyi (own := RX5) hx hb (by rw [hml]; exact hl.1.symm) hown (hts _ (List.mem_cons_of_mem _ k_381)) (hts _ (List.mem_cons_of_mem _ k_383)) (hts _ (List.mem_cons_of_mem _ k_382)) (hts _ (List.mem_cons_of_mem _ k_13)) hK.1 hP hD hS 9 4 1 1 rfl rfl rfl rfl rfl (by decide) (by decide) (by decide) (by decide) (by decide) (fun _ _ => rfl) (by decide) (by decide +kernel) dX5_become_54 (fun H locs hP hD hS => ?_)
  have hP : va_P D vwCl (wc_X5_become cy q_t q_t_kind q_t_grief q_t_bears q_t_rota q_a1 q_a1_kind q_a1_grief q_a1_bears q_a1_rota (w_t.1, w_t.2.1, w_t.2.2.1, w_t.2.2.2.1, w_t.2.2.2.2.1, w_t.2.2.2.2.2.1, w_t.2.2.2.2.2.2.1, (va_cpy w_a1.2.2.2.2.2.2.2.1 w_t.2.2.2.2.2.2.2.1 (0 : Int32).toNatClampNeg (0 : Int32).toNatClampNeg (5 : Int32).toNatClampNeg), (va_cpy w_a1.2.2.2.2.2.2.2.2.1 w_t.2.2.2.2.2.2.2.2.1 (0 : Int32).toNatClampNeg (0 : Int32).toNatClampNeg (5 : Int32).toNatClampNeg), (va_cpy w_a1.2.2.2.2.2.2.2.2.2.1 w_t.2.2.2.2.2.2.2.2.2.1 (0 : Int32).toNatClampNeg (0 : Int32).toNatClampNeg (5 : Int32).toNatClampNeg), (va_cpy w_a1.2.2.2.2.2.2.2.2.2.2 w_t.2.2.2.2.2.2.2.2.2.2 (0 : Int32).toNatClampNeg (0 : Int32).toNatClampNeg (8 : Int32).toNatClampNeg)) w_a1) H := hP
  have hD : va_D A (wc_X5_become cy q_t q_t_kind q_t_grief q_t_bears q_t_rota q_a1 q_a1_kind q_a1_grief q_a1_bears q_a1_rota (w_t.1, w_t.2.1, w_t.2.2.1, w_t.2.2.2.1, w_t.2.2.2.2.1, w_t.2.2.2.2.2.1, w_t.2.2.2.2.2.2.1, (va_cpy w_a1.2.2.2.2.2.2.2.1 w_t.2.2.2.2.2.2.2.1 (0 : Int32).toNatClampNeg (0 : Int32).toNatClampNeg (5 : Int32).toNatClampNeg), (va_cpy w_a1.2.2.2.2.2.2.2.2.1 w_t.2.2.2.2.2.2.2.2.1 (0 : Int32).toNatClampNeg (0 : Int32).toNatClampNeg (5 : Int32).toNatClampNeg), (va_cpy w_a1.2.2.2.2.2.2.2.2.2.1 w_t.2.2.2.2.2.2.2.2.2.1 (0 : Int32).toNatClampNeg (0 : Int32).toNatClampNeg (5 : Int32).toNatClampNeg), (va_cpy w_a1.2.2.2.2.2.2.2.2.2.2 w_t.2.2.2.2.2.2.2.2.2.2 (0 : Int32).toNatClampNeg (0 : Int32).toNatClampNeg (8 : Int32).toNatClampNeg)) w_a1) := hD
  refine lv_aload_n hx hb dX5_become_57 rfl (lv_at hl 0 rfl) ?_
  refine lv_aload_n hx hb dX5_become_58 rfl (lv_at hl 1 rfl) ?_
  refine va_get (D := D) (ci := 5) (v := .int w_a1.1) (C := RX5) (T := TX5) (N := 11) hx hb hts (fun w hw => List.mem_cons_of_mem _ (uw_X5 w hw)) hown hK.1 hP 5 rfl rfl 4 (by decide) (hts _ (List.mem_cons_of_mem _ k_41)) (fun _ h9 => h9) rfl dX5_become_59 ?_
  refine va_put (D := D) (ci := 5) (v := .int w_a1.1) (ty := .int) (C := RX5) (T := TX5) (N := 11) hx hb hts (fun w hw => List.mem_cons_of_mem _ (uw_X5 w hw)) tyX5 tyX5_ok nmX5 hown hK.1 hP hD hS 0 rfl rfl 4 (by decide) (hts _ (List.mem_cons_of_mem _ k_41)) (fun _ h9 => h9) rfl (by decide +kernel) rfl rfl (Nat.le_of_ble_eq_true rfl) dX5_become_62 (fun H locs hP hD hS => ?_)
  have hP : va_P D vwCl (wc_X5_become cy q_t q_t_kind q_t_grief q_t_bears q_t_rota q_a1 q_a1_kind q_a1_grief q_a1_bears q_a1_rota (w_a1.1, w_t.2.1, w_t.2.2.1, w_t.2.2.2.1, w_t.2.2.2.2.1, w_t.2.2.2.2.2.1, w_t.2.2.2.2.2.2.1, (va_cpy w_a1.2.2.2.2.2.2.2.1 w_t.2.2.2.2.2.2.2.1 (0 : Int32).toNatClampNeg (0 : Int32).toNatClampNeg (5 : Int32).toNatClampNeg), (va_cpy w_a1.2.2.2.2.2.2.2.2.1 w_t.2.2.2.2.2.2.2.2.1 (0 : Int32).toNatClampNeg (0 : Int32).toNatClampNeg (5 : Int32).toNatClampNeg), (va_cpy w_a1.2.2.2.2.2.2.2.2.2.1 w_t.2.2.2.2.2.2.2.2.2.1 (0 : Int32).toNatClampNeg (0 : Int32).toNatClampNeg (5 : Int32).toNatClampNeg), (va_cpy w_a1.2.2.2.2.2.2.2.2.2.2 w_t.2.2.2.2.2.2.2.2.2.2 (0 : Int32).toNatClampNeg (0 : Int32).toNatClampNeg (8 : Int32).toNatClampNeg)) w_a1) H := hP
  have hD : va_D A (wc_X5_become cy q_t q_t_kind q_t_grief q_t_bears q_t_rota q_a1 q_a1_kind q_a1_grief q_a1_bears q_a1_rota (w_a1.1, w_t.2.1, w_t.2.2.1, w_t.2.2.2.1, w_t.2.2.2.2.1, w_t.2.2.2.2.2.1, w_t.2.2.2.2.2.2.1, (va_cpy w_a1.2.2.2.2.2.2.2.1 w_t.2.2.2.2.2.2.2.1 (0 : Int32).toNatClampNeg (0 : Int32).toNatClampNeg (5 : Int32).toNatClampNeg), (va_cpy w_a1.2.2.2.2.2.2.2.2.1 w_t.2.2.2.2.2.2.2.2.1 (0 : Int32).toNatClampNeg (0 : Int32).toNatClampNeg (5 : Int32).toNatClampNeg), (va_cpy w_a1.2.2.2.2.2.2.2.2.2.1 w_t.2.2.2.2.2.2.2.2.2.1 (0 : Int32).toNatClampNeg (0 : Int32).toNatClampNeg (5 : Int32).toNatClampNeg), (va_cpy w_a1.2.2.2.2.2.2.2.2.2.2 w_t.2.2.2.2.2.2.2.2.2.2 (0 : Int32).toNatClampNeg (0 : Int32).toNatClampNeg (8 : Int32).toNatClampNeg)) w_a1) := hD
  refine lv_aload_n hx hb dX5_become_65 rfl (lv_at hl 0 rfl) ?_
  refine lv_aload_n hx hb dX5_become_66 rfl (lv_at hl 1 rfl) ?_
  refine va_get (D := D) (ci := 5) (v := .int w_a1.2.1) (C := RX5) (T := TX5) (N := 11) hx hb hts (fun w hw => List.mem_cons_of_mem _ (uw_X5 w hw)) hown hK.1 hP 5 rfl rfl 5 (by decide) (hts _ (List.mem_cons_of_mem _ k_44)) (fun _ h9 => h9) rfl dX5_become_67 ?_
  refine va_put (D := D) (ci := 5) (v := .int w_a1.2.1) (ty := .int) (C := RX5) (T := TX5) (N := 11) hx hb hts (fun w hw => List.mem_cons_of_mem _ (uw_X5 w hw)) tyX5 tyX5_ok nmX5 hown hK.1 hP hD hS 0 rfl rfl 5 (by decide) (hts _ (List.mem_cons_of_mem _ k_44)) (fun _ h9 => h9) rfl (by decide +kernel) rfl rfl (Nat.le_of_ble_eq_true rfl) dX5_become_70 (fun H locs hP hD hS => ?_)
  have hP : va_P D vwCl (wc_X5_become cy q_t q_t_kind q_t_grief q_t_bears q_t_rota q_a1 q_a1_kind q_a1_grief q_a1_bears q_a1_rota (w_a1.1, w_a1.2.1, w_t.2.2.1, w_t.2.2.2.1, w_t.2.2.2.2.1, w_t.2.2.2.2.2.1, w_t.2.2.2.2.2.2.1, (va_cpy w_a1.2.2.2.2.2.2.2.1 w_t.2.2.2.2.2.2.2.1 (0 : Int32).toNatClampNeg (0 : Int32).toNatClampNeg (5 : Int32).toNatClampNeg), (va_cpy w_a1.2.2.2.2.2.2.2.2.1 w_t.2.2.2.2.2.2.2.2.1 (0 : Int32).toNatClampNeg (0 : Int32).toNatClampNeg (5 : Int32).toNatClampNeg), (va_cpy w_a1.2.2.2.2.2.2.2.2.2.1 w_t.2.2.2.2.2.2.2.2.2.1 (0 : Int32).toNatClampNeg (0 : Int32).toNatClampNeg (5 : Int32).toNatClampNeg), (va_cpy w_a1.2.2.2.2.2.2.2.2.2.2 w_t.2.2.2.2.2.2.2.2.2.2 (0 : Int32).toNatClampNeg (0 : Int32).toNatClampNeg (8 : Int32).toNatClampNeg)) w_a1) H := hP
  have hD : va_D A (wc_X5_become cy q_t q_t_kind q_t_grief q_t_bears q_t_rota q_a1 q_a1_kind q_a1_grief q_a1_bears q_a1_rota (w_a1.1, w_a1.2.1, w_t.2.2.1, w_t.2.2.2.1, w_t.2.2.2.2.1, w_t.2.2.2.2.2.1, w_t.2.2.2.2.2.2.1, (va_cpy w_a1.2.2.2.2.2.2.2.1 w_t.2.2.2.2.2.2.2.1 (0 : Int32).toNatClampNeg (0 : Int32).toNatClampNeg (5 : Int32).toNatClampNeg), (va_cpy w_a1.2.2.2.2.2.2.2.2.1 w_t.2.2.2.2.2.2.2.2.1 (0 : Int32).toNatClampNeg (0 : Int32).toNatClampNeg (5 : Int32).toNatClampNeg), (va_cpy w_a1.2.2.2.2.2.2.2.2.2.1 w_t.2.2.2.2.2.2.2.2.2.1 (0 : Int32).toNatClampNeg (0 : Int32).toNatClampNeg (5 : Int32).toNatClampNeg), (va_cpy w_a1.2.2.2.2.2.2.2.2.2.2 w_t.2.2.2.2.2.2.2.2.2.2 (0 : Int32).toNatClampNeg (0 : Int32).toNatClampNeg (8 : Int32).toNatClampNeg)) w_a1) := hD
  refine lv_aload_n hx hb dX5_become_73 rfl (lv_at hl 0 rfl) ?_
  refine lv_aload_n hx hb dX5_become_74 rfl (lv_at hl 1 rfl) ?_
  refine va_get (D := D) (ci := 5) (v := .int w_a1.2.2.1) (C := RX5) (T := TX5) (N := 11) hx hb hts (fun w hw => List.mem_cons_of_mem _ (uw_X5 w hw)) hown hK.1 hP 5 rfl rfl 6 (by decide) (hts _ (List.mem_cons_of_mem _ k_47)) (fun _ h9 => h9) rfl dX5_become_75 ?_
  refine va_put (D := D) (ci := 5) (v := .int w_a1.2.2.1) (ty := .int) (C := RX5) (T := TX5) (N := 11) hx hb hts (fun w hw => List.mem_cons_of_mem _ (uw_X5 w hw)) tyX5 tyX5_ok nmX5 hown hK.1 hP hD hS 0 rfl rfl 6 (by decide) (hts _ (List.mem_cons_of_mem _ k_47)) (fun _ h9 => h9) rfl (by decide +kernel) rfl rfl (Nat.le_of_ble_eq_true rfl) dX5_become_78 (fun H locs hP hD hS => ?_)
  have hP : va_P D vwCl (wc_X5_become cy q_t q_t_kind q_t_grief q_t_bears q_t_rota q_a1 q_a1_kind q_a1_grief q_a1_bears q_a1_rota (w_a1.1, w_a1.2.1, w_a1.2.2.1, w_t.2.2.2.1, w_t.2.2.2.2.1, w_t.2.2.2.2.2.1, w_t.2.2.2.2.2.2.1, (va_cpy w_a1.2.2.2.2.2.2.2.1 w_t.2.2.2.2.2.2.2.1 (0 : Int32).toNatClampNeg (0 : Int32).toNatClampNeg (5 : Int32).toNatClampNeg), (va_cpy w_a1.2.2.2.2.2.2.2.2.1 w_t.2.2.2.2.2.2.2.2.1 (0 : Int32).toNatClampNeg (0 : Int32).toNatClampNeg (5 : Int32).toNatClampNeg), (va_cpy w_a1.2.2.2.2.2.2.2.2.2.1 w_t.2.2.2.2.2.2.2.2.2.1 (0 : Int32).toNatClampNeg (0 : Int32).toNatClampNeg (5 : Int32).toNatClampNeg), (va_cpy w_a1.2.2.2.2.2.2.2.2.2.2 w_t.2.2.2.2.2.2.2.2.2.2 (0 : Int32).toNatClampNeg (0 : Int32).toNatClampNeg (8 : Int32).toNatClampNeg)) w_a1) H := hP
  have hD : va_D A (wc_X5_become cy q_t q_t_kind q_t_grief q_t_bears q_t_rota q_a1 q_a1_kind q_a1_grief q_a1_bears q_a1_rota (w_a1.1, w_a1.2.1, w_a1.2.2.1, w_t.2.2.2.1, w_t.2.2.2.2.1, w_t.2.2.2.2.2.1, w_t.2.2.2.2.2.2.1, (va_cpy w_a1.2.2.2.2.2.2.2.1 w_t.2.2.2.2.2.2.2.1 (0 : Int32).toNatClampNeg (0 : Int32).toNatClampNeg (5 : Int32).toNatClampNeg), (va_cpy w_a1.2.2.2.2.2.2.2.2.1 w_t.2.2.2.2.2.2.2.2.1 (0 : Int32).toNatClampNeg (0 : Int32).toNatClampNeg (5 : Int32).toNatClampNeg), (va_cpy w_a1.2.2.2.2.2.2.2.2.2.1 w_t.2.2.2.2.2.2.2.2.2.1 (0 : Int32).toNatClampNeg (0 : Int32).toNatClampNeg (5 : Int32).toNatClampNeg), (va_cpy w_a1.2.2.2.2.2.2.2.2.2.2 w_t.2.2.2.2.2.2.2.2.2.2 (0 : Int32).toNatClampNeg (0 : Int32).toNatClampNeg (8 : Int32).toNatClampNeg)) w_a1) := hD
  refine lv_aload_n hx hb dX5_become_81 rfl (lv_at hl 0 rfl) ?_
  refine lv_aload_n hx hb dX5_become_82 rfl (lv_at hl 1 rfl) ?_
  refine va_get (D := D) (ci := 5) (v := .int w_a1.2.2.2.1) (C := RX5) (T := TX5) (N := 11) hx hb hts (fun w hw => List.mem_cons_of_mem _ (uw_X5 w hw)) hown hK.1 hP 5 rfl rfl 7 (by decide) (hts _ (List.mem_cons_of_mem _ k_50)) (fun _ h9 => h9) rfl dX5_become_83 ?_
  refine va_put (D := D) (ci := 5) (v := .int w_a1.2.2.2.1) (ty := .int) (C := RX5) (T := TX5) (N := 11) hx hb hts (fun w hw => List.mem_cons_of_mem _ (uw_X5 w hw)) tyX5 tyX5_ok nmX5 hown hK.1 hP hD hS 0 rfl rfl 7 (by decide) (hts _ (List.mem_cons_of_mem _ k_50)) (fun _ h9 => h9) rfl (by decide +kernel) rfl rfl (Nat.le_of_ble_eq_true rfl) dX5_become_86 (fun H locs hP hD hS => ?_)
  have hP : va_P D vwCl (wc_X5_become cy q_t q_t_kind q_t_grief q_t_bears q_t_rota q_a1 q_a1_kind q_a1_grief q_a1_bears q_a1_rota (w_a1.1, w_a1.2.1, w_a1.2.2.1, w_a1.2.2.2.1, w_t.2.2.2.2.1, w_t.2.2.2.2.2.1, w_t.2.2.2.2.2.2.1, (va_cpy w_a1.2.2.2.2.2.2.2.1 w_t.2.2.2.2.2.2.2.1 (0 : Int32).toNatClampNeg (0 : Int32).toNatClampNeg (5 : Int32).toNatClampNeg), (va_cpy w_a1.2.2.2.2.2.2.2.2.1 w_t.2.2.2.2.2.2.2.2.1 (0 : Int32).toNatClampNeg (0 : Int32).toNatClampNeg (5 : Int32).toNatClampNeg), (va_cpy w_a1.2.2.2.2.2.2.2.2.2.1 w_t.2.2.2.2.2.2.2.2.2.1 (0 : Int32).toNatClampNeg (0 : Int32).toNatClampNeg (5 : Int32).toNatClampNeg), (va_cpy w_a1.2.2.2.2.2.2.2.2.2.2 w_t.2.2.2.2.2.2.2.2.2.2 (0 : Int32).toNatClampNeg (0 : Int32).toNatClampNeg (8 : Int32).toNatClampNeg)) w_a1) H := hP
  have hD : va_D A (wc_X5_become cy q_t q_t_kind q_t_grief q_t_bears q_t_rota q_a1 q_a1_kind q_a1_grief q_a1_bears q_a1_rota (w_a1.1, w_a1.2.1, w_a1.2.2.1, w_a1.2.2.2.1, w_t.2.2.2.2.1, w_t.2.2.2.2.2.1, w_t.2.2.2.2.2.2.1, (va_cpy w_a1.2.2.2.2.2.2.2.1 w_t.2.2.2.2.2.2.2.1 (0 : Int32).toNatClampNeg (0 : Int32).toNatClampNeg (5 : Int32).toNatClampNeg), (va_cpy w_a1.2.2.2.2.2.2.2.2.1 w_t.2.2.2.2.2.2.2.2.1 (0 : Int32).toNatClampNeg (0 : Int32).toNatClampNeg (5 : Int32).toNatClampNeg), (va_cpy w_a1.2.2.2.2.2.2.2.2.2.1 w_t.2.2.2.2.2.2.2.2.2.1 (0 : Int32).toNatClampNeg (0 : Int32).toNatClampNeg (5 : Int32).toNatClampNeg), (va_cpy w_a1.2.2.2.2.2.2.2.2.2.2 w_t.2.2.2.2.2.2.2.2.2.2 (0 : Int32).toNatClampNeg (0 : Int32).toNatClampNeg (8 : Int32).toNatClampNeg)) w_a1) := hD
  refine lv_aload_n hx hb dX5_become_89 rfl (lv_at hl 0 rfl) ?_
  refine lv_aload_n hx hb dX5_become_90 rfl (lv_at hl 1 rfl) ?_
  refine va_get (D := D) (ci := 5) (v := .int w_a1.2.2.2.2.1) (C := RX5) (T := TX5) (N := 11) hx hb hts (fun w hw => List.mem_cons_of_mem _ (uw_X5 w hw)) hown hK.1 hP 5 rfl rfl 8 (by decide) (hts _ (List.mem_cons_of_mem _ k_53)) (fun _ h9 => h9) rfl dX5_become_91 ?_
  refine va_put (D := D) (ci := 5) (v := .int w_a1.2.2.2.2.1) (ty := .int) (C := RX5) (T := TX5) (N := 11) hx hb hts (fun w hw => List.mem_cons_of_mem _ (uw_X5 w hw)) tyX5 tyX5_ok nmX5 hown hK.1 hP hD hS 0 rfl rfl 8 (by decide) (hts _ (List.mem_cons_of_mem _ k_53)) (fun _ h9 => h9) rfl (by decide +kernel) rfl rfl (Nat.le_of_ble_eq_true rfl) dX5_become_94 (fun H locs hP hD hS => ?_)
  have hP : va_P D vwCl (wc_X5_become cy q_t q_t_kind q_t_grief q_t_bears q_t_rota q_a1 q_a1_kind q_a1_grief q_a1_bears q_a1_rota (w_a1.1, w_a1.2.1, w_a1.2.2.1, w_a1.2.2.2.1, w_a1.2.2.2.2.1, w_t.2.2.2.2.2.1, w_t.2.2.2.2.2.2.1, (va_cpy w_a1.2.2.2.2.2.2.2.1 w_t.2.2.2.2.2.2.2.1 (0 : Int32).toNatClampNeg (0 : Int32).toNatClampNeg (5 : Int32).toNatClampNeg), (va_cpy w_a1.2.2.2.2.2.2.2.2.1 w_t.2.2.2.2.2.2.2.2.1 (0 : Int32).toNatClampNeg (0 : Int32).toNatClampNeg (5 : Int32).toNatClampNeg), (va_cpy w_a1.2.2.2.2.2.2.2.2.2.1 w_t.2.2.2.2.2.2.2.2.2.1 (0 : Int32).toNatClampNeg (0 : Int32).toNatClampNeg (5 : Int32).toNatClampNeg), (va_cpy w_a1.2.2.2.2.2.2.2.2.2.2 w_t.2.2.2.2.2.2.2.2.2.2 (0 : Int32).toNatClampNeg (0 : Int32).toNatClampNeg (8 : Int32).toNatClampNeg)) w_a1) H := hP
  have hD : va_D A (wc_X5_become cy q_t q_t_kind q_t_grief q_t_bears q_t_rota q_a1 q_a1_kind q_a1_grief q_a1_bears q_a1_rota (w_a1.1, w_a1.2.1, w_a1.2.2.1, w_a1.2.2.2.1, w_a1.2.2.2.2.1, w_t.2.2.2.2.2.1, w_t.2.2.2.2.2.2.1, (va_cpy w_a1.2.2.2.2.2.2.2.1 w_t.2.2.2.2.2.2.2.1 (0 : Int32).toNatClampNeg (0 : Int32).toNatClampNeg (5 : Int32).toNatClampNeg), (va_cpy w_a1.2.2.2.2.2.2.2.2.1 w_t.2.2.2.2.2.2.2.2.1 (0 : Int32).toNatClampNeg (0 : Int32).toNatClampNeg (5 : Int32).toNatClampNeg), (va_cpy w_a1.2.2.2.2.2.2.2.2.2.1 w_t.2.2.2.2.2.2.2.2.2.1 (0 : Int32).toNatClampNeg (0 : Int32).toNatClampNeg (5 : Int32).toNatClampNeg), (va_cpy w_a1.2.2.2.2.2.2.2.2.2.2 w_t.2.2.2.2.2.2.2.2.2.2 (0 : Int32).toNatClampNeg (0 : Int32).toNatClampNeg (8 : Int32).toNatClampNeg)) w_a1) := hD
  refine lv_aload_n hx hb dX5_become_97 rfl (lv_at hl 0 rfl) ?_
  refine lv_iconst (v := 0) hx hb dX5_become_98 (by decide) ?_
  refine va_put (D := D) (ci := 5) (v := .int 0) (ty := .int) (C := RX5) (T := TX5) (N := 11) hx hb hts (fun w hw => List.mem_cons_of_mem _ (uw_X5 w hw)) tyX5 tyX5_ok nmX5 hown hK.1 hP hD hS 0 rfl rfl 9 (by decide) (hts _ (List.mem_cons_of_mem _ k_55)) (fun _ h9 => h9) rfl (by decide +kernel) rfl rfl (Nat.le_of_ble_eq_true rfl) dX5_become_99 (fun H locs hP hD hS => ?_)
  have hP : va_P D vwCl (wc_X5_become cy q_t q_t_kind q_t_grief q_t_bears q_t_rota q_a1 q_a1_kind q_a1_grief q_a1_bears q_a1_rota (w_a1.1, w_a1.2.1, w_a1.2.2.1, w_a1.2.2.2.1, w_a1.2.2.2.2.1, 0, w_t.2.2.2.2.2.2.1, (va_cpy w_a1.2.2.2.2.2.2.2.1 w_t.2.2.2.2.2.2.2.1 (0 : Int32).toNatClampNeg (0 : Int32).toNatClampNeg (5 : Int32).toNatClampNeg), (va_cpy w_a1.2.2.2.2.2.2.2.2.1 w_t.2.2.2.2.2.2.2.2.1 (0 : Int32).toNatClampNeg (0 : Int32).toNatClampNeg (5 : Int32).toNatClampNeg), (va_cpy w_a1.2.2.2.2.2.2.2.2.2.1 w_t.2.2.2.2.2.2.2.2.2.1 (0 : Int32).toNatClampNeg (0 : Int32).toNatClampNeg (5 : Int32).toNatClampNeg), (va_cpy w_a1.2.2.2.2.2.2.2.2.2.2 w_t.2.2.2.2.2.2.2.2.2.2 (0 : Int32).toNatClampNeg (0 : Int32).toNatClampNeg (8 : Int32).toNatClampNeg)) w_a1) H := hP
  have hD : va_D A (wc_X5_become cy q_t q_t_kind q_t_grief q_t_bears q_t_rota q_a1 q_a1_kind q_a1_grief q_a1_bears q_a1_rota (w_a1.1, w_a1.2.1, w_a1.2.2.1, w_a1.2.2.2.1, w_a1.2.2.2.2.1, 0, w_t.2.2.2.2.2.2.1, (va_cpy w_a1.2.2.2.2.2.2.2.1 w_t.2.2.2.2.2.2.2.1 (0 : Int32).toNatClampNeg (0 : Int32).toNatClampNeg (5 : Int32).toNatClampNeg), (va_cpy w_a1.2.2.2.2.2.2.2.2.1 w_t.2.2.2.2.2.2.2.2.1 (0 : Int32).toNatClampNeg (0 : Int32).toNatClampNeg (5 : Int32).toNatClampNeg), (va_cpy w_a1.2.2.2.2.2.2.2.2.2.1 w_t.2.2.2.2.2.2.2.2.2.1 (0 : Int32).toNatClampNeg (0 : Int32).toNatClampNeg (5 : Int32).toNatClampNeg), (va_cpy w_a1.2.2.2.2.2.2.2.2.2.2 w_t.2.2.2.2.2.2.2.2.2.2 (0 : Int32).toNatClampNeg (0 : Int32).toNatClampNeg (8 : Int32).toNatClampNeg)) w_a1) := hD
  refine lv_aload_n hx hb dX5_become_102 rfl (lv_at hl 0 rfl) ?_
  refine lv_iconst (v := 0) hx hb dX5_become_103 (by decide) ?_
  refine va_put (D := D) (ci := 5) (v := .int 0) (ty := .int) (C := RX5) (T := TX5) (N := 11) hx hb hts (fun w hw => List.mem_cons_of_mem _ (uw_X5 w hw)) tyX5 tyX5_ok nmX5 hown hK.1 hP hD hS 0 rfl rfl 10 (by decide) (hts _ (List.mem_cons_of_mem _ k_57)) (fun _ h9 => h9) rfl (by decide +kernel) rfl rfl (Nat.le_of_ble_eq_true rfl) dX5_become_104 (fun H locs hP hD hS => ?_)
  have hP : va_P D vwCl (wc_X5_become cy q_t q_t_kind q_t_grief q_t_bears q_t_rota q_a1 q_a1_kind q_a1_grief q_a1_bears q_a1_rota (w_a1.1, w_a1.2.1, w_a1.2.2.1, w_a1.2.2.2.1, w_a1.2.2.2.2.1, 0, 0, (va_cpy w_a1.2.2.2.2.2.2.2.1 w_t.2.2.2.2.2.2.2.1 (0 : Int32).toNatClampNeg (0 : Int32).toNatClampNeg (5 : Int32).toNatClampNeg), (va_cpy w_a1.2.2.2.2.2.2.2.2.1 w_t.2.2.2.2.2.2.2.2.1 (0 : Int32).toNatClampNeg (0 : Int32).toNatClampNeg (5 : Int32).toNatClampNeg), (va_cpy w_a1.2.2.2.2.2.2.2.2.2.1 w_t.2.2.2.2.2.2.2.2.2.1 (0 : Int32).toNatClampNeg (0 : Int32).toNatClampNeg (5 : Int32).toNatClampNeg), (va_cpy w_a1.2.2.2.2.2.2.2.2.2.2 w_t.2.2.2.2.2.2.2.2.2.2 (0 : Int32).toNatClampNeg (0 : Int32).toNatClampNeg (8 : Int32).toNatClampNeg)) w_a1) H := hP
  have hD : va_D A (wc_X5_become cy q_t q_t_kind q_t_grief q_t_bears q_t_rota q_a1 q_a1_kind q_a1_grief q_a1_bears q_a1_rota (w_a1.1, w_a1.2.1, w_a1.2.2.1, w_a1.2.2.2.1, w_a1.2.2.2.2.1, 0, 0, (va_cpy w_a1.2.2.2.2.2.2.2.1 w_t.2.2.2.2.2.2.2.1 (0 : Int32).toNatClampNeg (0 : Int32).toNatClampNeg (5 : Int32).toNatClampNeg), (va_cpy w_a1.2.2.2.2.2.2.2.2.1 w_t.2.2.2.2.2.2.2.2.1 (0 : Int32).toNatClampNeg (0 : Int32).toNatClampNeg (5 : Int32).toNatClampNeg), (va_cpy w_a1.2.2.2.2.2.2.2.2.2.1 w_t.2.2.2.2.2.2.2.2.2.1 (0 : Int32).toNatClampNeg (0 : Int32).toNatClampNeg (5 : Int32).toNatClampNeg), (va_cpy w_a1.2.2.2.2.2.2.2.2.2.2 w_t.2.2.2.2.2.2.2.2.2.2 (0 : Int32).toNatClampNeg (0 : Int32).toNatClampNeg (8 : Int32).toNatClampNeg)) w_a1) := hD
  obtain rfl := Option.some.inj h
  exact W.vret hx hb hr (fun tt ht hW => ⟨⟨(w_a1.1, w_a1.2.1, w_a1.2.2.1, w_a1.2.2.2.1, w_a1.2.2.2.2.1, 0, 0, (va_cpy w_a1.2.2.2.2.2.2.2.1 w_t.2.2.2.2.2.2.2.1 (0 : Int32).toNatClampNeg (0 : Int32).toNatClampNeg (5 : Int32).toNatClampNeg), (va_cpy w_a1.2.2.2.2.2.2.2.2.1 w_t.2.2.2.2.2.2.2.2.1 (0 : Int32).toNatClampNeg (0 : Int32).toNatClampNeg (5 : Int32).toNatClampNeg), (va_cpy w_a1.2.2.2.2.2.2.2.2.2.1 w_t.2.2.2.2.2.2.2.2.2.1 (0 : Int32).toNatClampNeg (0 : Int32).toNatClampNeg (5 : Int32).toNatClampNeg), (va_cpy w_a1.2.2.2.2.2.2.2.2.2.2 w_t.2.2.2.2.2.2.2.2.2.2 (0 : Int32).toNatClampNeg (0 : Int32).toNatClampNeg (8 : Int32).toNatClampNeg)), rfl, rfl, by rw [ht]; exact hP, kk_warm hW hK, hD⟩, hS.F ht⟩) hS.2.2 dX5_become_107
def M_X5_become  (w_a1 : s_W)  (w_t : s_W)  : Option (s_W) := B_X5_become_0 w_a1 w_t
set_option maxHeartbeats 4000000 in
set_option maxRecDepth 100000 in
theorem c_X5_become (l : Launch) (D : va_G) (cy : Nat → ClassId) (sz : Nat) (q_t : Nat) (q_t_kind : Nat) (q_t_grief : Nat) (q_t_bears : Nat) (q_t_rota : Nat) (q_a1 : Nat) (q_a1_kind : Nat) (q_a1_grief : Nat) (q_a1_bears : Nat) (q_a1_rota : Nat) (w_t : s_W) (w_a1 : s_W)   {res : s_W} (h : M_X5_become w_a1 w_t = some res) : ct_v l yX5_become (.code yX5_become cX5_become 2 (none) :: wg_L) rm_X5_become D cy sz (wc_X5_become cy q_t q_t_kind q_t_grief q_t_bears q_t_rota q_a1 q_a1_kind q_a1_grief q_a1_bears q_a1_rota w_t w_a1) [.ref q_t, .ref q_a1] (fun (u : s_W) => u = res) (fun (u : s_W) => wc_X5_become cy q_t q_t_kind q_t_grief q_t_bears q_t_rota q_a1 q_a1_kind q_a1_grief q_a1_bears q_a1_rota u w_a1) := by
  refine Met.ofW (cc := cX5_become) (maxL := 2) (ret := none) (by decide) rfl ?_
  intro p e s m args below meth c s₁ B hml hv
  obtain ⟨rfl, hsz, hP, hK, hD0⟩ := hv
  subst hsz
  have hD := hD0.self (sz := s.heap.size)
  have hl := lv_entry ([.ref q_t, .ref q_a1]) (n := 2) (Nat.le_of_ble_eq_true rfl)
  rw [lg_entry_eq]
  have C0 : cx_C cX5_become (none) 2 RX5 (.code yX5_become cX5_become 2 (none) :: wg_L) p s m [.ref q_t, .ref q_a1].toArray meth c D cy (va_A (wc_X5_become cy q_t q_t_kind q_t_grief q_t_bears q_t_rota q_a1 q_a1_kind q_a1_grief q_a1_bears q_a1_rota w_t w_a1) s.heap.size) := ⟨B.exec, B.bytes, B.returns, hml, findClass_of_methodNamed B.named, atoms_spec (ws := .code yX5_become cX5_become 2 (none) :: wg_L) B.pre, hK, B.notSynchronized, fun q h => Or.inr h⟩
  exact b_X5_become_0 C0 h hP hD va_S.rf (lv_sub hl [0, 1] rfl)
/-! ### BarrowGrief$World.mayAlter(III)Z -/
abbrev wc_X5_mayAlter (cy : Nat → ClassId) (q_t q_t_kind q_t_grief q_t_bears q_t_rota : Nat) (w_t : s_W) : va_W := [(q_t, .inr (5, [.ref q_t_kind, .ref q_t_grief, .ref q_t_bears, .ref q_t_rota, .int w_t.1, .int w_t.2.1, .int w_t.2.2.1, .int w_t.2.2.2.1, .int w_t.2.2.2.2.1, .int w_t.2.2.2.2.2.1, .int w_t.2.2.2.2.2.2.1])), (q_t_kind, .inl (cy 1, 5, .inl w_t.2.2.2.2.2.2.2.1)), (q_t_grief, .inl (cy 1, 5, .inl w_t.2.2.2.2.2.2.2.2.1)), (q_t_bears, .inl (cy 1, 5, .inl w_t.2.2.2.2.2.2.2.2.2.1)), (q_t_rota, .inl (cy 1, 8, .inl w_t.2.2.2.2.2.2.2.2.2.2))]
abbrev rm_X5_mayAlter : Room := { frames := 1, cells := 0, slots := 0, locals := 22 }
abbrev qq_X5_mayAlter (below : List Frame) (args : Array Value) (s : State) (D : va_G) (cy : Nat → ClassId) (A : Nat → Prop) (q_t : Nat) (q_t_kind : Nat) (q_t_grief : Nat) (q_t_bears : Nat) (q_t_rota : Nat) (w_t : s_W) (res : Int32) : State → Prop := MQ below (va_Qi (fun r (_ : Unit) => r = res) (fun u t => st_B D cy A ((fun (u : Unit) => wc_X5_mayAlter cy q_t q_t_kind q_t_grief q_t_bears q_t_rota w_t) u) t) A) args s 0 0 A
def B_X5_mayAlter_0  (w_t : s_W)   (v1 : Int32) (v2 : Int32) (v3 : Int32) : Option (Int32) := (M_X5_has w_t v1).bind (fun u2 => if u2 = 0 then (some 0) else (if v2 = 0 then ((M_X6_within v3 0 3).bind (fun u39 => gq_b u39 (some u39))) else (if v2 = 1 then ((M_X6_within v3 0 99).bind (fun u47 => gq_b u47 (some u47))) else (if v2 = 2 then ((M_X6_within v3 1 99).bind (fun u55 => gq_b u55 (some u55))) else (some 0)))))
set_option maxHeartbeats 4000000 in
set_option maxRecDepth 100000 in
theorem b_X5_mayAlter_0 {p : Program} {l : Launch} {e : Env} {s : State} {m : MethodId} {args : Array Value} {below : List Frame} {meth : Method} {c : Code} {D : va_G} {cy : Nat → ClassId} {A : Nat → Prop} {q_t : Nat} {q_t_kind : Nat} {q_t_grief : Nat} {q_t_bears : Nat} {q_t_rota : Nat} {w_t : s_W} {res : Int32}    {v1 : Int32} {v2 : Int32} {v3 : Int32} (C0 : cx_C cX5_mayAlter ((some .boolean)) 4 RX5 (.code yX5_mayAlter cX5_mayAlter 4 ((some .boolean)) :: wg_L) p s m args meth c D cy A)  (h : B_X5_mayAlter_0 w_t v1 v2 v3 = some res) {H : Heap} {locs : List Loc} {ls : Array Slot} (hP : va_P D vwCl (wc_X5_mayAlter cy q_t q_t_kind q_t_grief q_t_bears q_t_rota w_t) H) (hD : va_D A (wc_X5_mayAlter cy q_t q_t_kind q_t_grief q_t_bears q_t_rota w_t)) (hS : va_S A s.heap H locs) (hl : lv_has ls 4 [(0, .ref q_t), (1, .int v1), (2, .int v2), (3, .int v3)]) : W p l e rm_X5_mayAlter s m args below meth c H locs 0 0 (qq_X5_mayAlter below args s D cy A q_t q_t_kind q_t_grief q_t_bears q_t_rota w_t res) (F0 m 0 ls []) := by
  obtain ⟨hx, hb, hr, hml, hown, hts, hK, hlocks, hA⟩ := id C0
  unfold B_X5_mayAlter_0 at h
  refine lv_aload_n hx hb dX5_mayAlter_0 rfl (lv_at hl 0 rfl) ?_
  refine lv_iload_n hx hb dX5_mayAlter_1 rfl (lv_at hl 1 rfl) ?_
  obtain ⟨u2, hc2, h⟩ := bd_d h
  have hPc := hP.sub (ws' := wc_X5_has cy q_t q_t_kind q_t_grief q_t_bears q_t_rota w_t) [0, 1, 2, 3, 4] rfl
  have hDc := hD.sub (ws' := wc_X5_has cy q_t q_t_kind q_t_grief q_t_bears q_t_rota w_t) [0, 1, 2, 3, 4] (by decide) rfl
  refine cl_i (fun (u : Unit) => wc_X5_mayAlter cy q_t q_t_kind q_t_grief q_t_bears q_t_rota w_t) (va_runV (As := [.int v1]) (rest := []) (C := RX5) ⟨hx, hb, hml, hown, hts⟩ (c_X5_has l D cy H.size q_t q_t_kind q_t_grief q_t_bears q_t_rota w_t v1 hc2) ⟨callB_of 1 hts (wg_in k_376) rfl rfl rfl (hts _ (List.mem_cons_of_mem _ k_2)) (hts _ (List.mem_cons_of_mem _ k_433)) (by decide +kernel) ⟨by decide, by decide⟩, (hts _ (List.mem_cons_of_mem _ k_374)), (hts _ (List.mem_cons_of_mem _ k_375))⟩ ⟨st_blind, va_recv hK.1 hPc (ci := 5) (q0 := 0) rfl rfl, fun U hU hW => st_pre hK hPc hDc hU hW⟩ rfl rfl hl.1 rfl (lv_room (Nat.le_of_ble_eq_true rfl)) dX5_mayAlter_2 ⟨by decide, by decide⟩) hP hD hS hA [0, 1, 2, 3, 4] [] [0, 1, 2, 3, 4] rfl rfl (by decide) (by decide) (by decide) (fun _ => rfl) (fun r u H locs hw hP hD hS => ?_)
  obtain rfl := hw.symm
  refine lv_if_ne (tgt := 10) hx hb dX5_mayAlter_5 (by decide) (fun c5 => ?_) (fun c5 => ?_)
  · replace h := it_n c5 h
    refine lv_iload_n hx hb dX5_mayAlter_10 rfl (lv_at hl 2 rfl) ?_
    by_cases c11_0 : v2 = 0
    · replace h := it_p c11_0 h
      refine lv_tableIn (tgt := 36) hx hb dX5_mayAlter_11 (by rw [c11_0]; decide) (by rw [c11_0]; decide) (by rw [c11_0]; rfl) (by decide) ?_
      refine lv_iload_n hx hb dX5_mayAlter_36 rfl (lv_at hl 3 rfl) ?_
      refine lv_iconst (v := 0) hx hb dX5_mayAlter_37 (by decide) ?_
      refine lv_iconst (v := 3) hx hb dX5_mayAlter_38 (by decide) ?_
      obtain ⟨u39, hc39, h⟩ := bd_d h
      have hPc := hP.sub (ws' := wc_X6_within cy ) [] rfl
      have hDc := hD.sub (ws' := wc_X6_within cy ) [] (by decide) rfl
      refine cl_i (fun (u : Unit) => wc_X5_mayAlter cy q_t q_t_kind q_t_grief q_t_bears q_t_rota w_t) (va_runSN (As := [.int v3, .int 0, .int 3]) (rest := []) ⟨hx, hb, hml, hown, hts⟩ (c_X6_within l D cy H.size v3 0 3 hc39) ⟨va_cnB 3 hts (wg_in k_242) rfl rfl rfl hK.2.2 (hts _ (List.mem_cons_of_mem _ k_1)) (by decide +kernel) ⟨by decide, by decide⟩, (hts _ (List.mem_cons_of_mem _ k_241)), trivial⟩ ⟨st_blind, fun U hU hW => st_pre hK hPc hDc hU hW⟩ rfl rfl hl.1 rfl (lv_room (Nat.le_of_ble_eq_true rfl)) dX5_mayAlter_39 ⟨by decide, by decide⟩) hP hD hS hA [] [0, 1, 2, 3, 4] [0, 1, 2, 3, 4] rfl rfl (by decide) (by decide) (by decide) (fun _ => rfl) (fun r u H locs hw hP hD hS => ?_)
      obtain rfl := hw.symm
      obtain ⟨hz1, h⟩ := gq_d h
      obtain rfl := Option.some.inj h
      exact W.zret (v := u39) hx hb hr hz1.1 (fun tt ht hW => ⟨⟨u39, (), rfl, rfl, by rw [ht]; exact hP, kk_warm hW hK, hD⟩, hS.F ht⟩) hS.2.2 dX5_mayAlter_42
    replace h := it_n c11_0 h
    by_cases c11_1 : v2 = 1
    · replace h := it_p c11_1 h
      refine lv_tableIn (tgt := 43) hx hb dX5_mayAlter_11 (by rw [c11_1]; decide) (by rw [c11_1]; decide) (by rw [c11_1]; rfl) (by decide) ?_
      refine lv_iload_n hx hb dX5_mayAlter_43 rfl (lv_at hl 3 rfl) ?_
      refine lv_iconst (v := 0) hx hb dX5_mayAlter_44 (by decide) ?_
      refine lv_bipush (v := 99) hx hb dX5_mayAlter_45 (by decide) ?_
      obtain ⟨u47, hc47, h⟩ := bd_d h
      have hPc := hP.sub (ws' := wc_X6_within cy ) [] rfl
      have hDc := hD.sub (ws' := wc_X6_within cy ) [] (by decide) rfl
      refine cl_i (fun (u : Unit) => wc_X5_mayAlter cy q_t q_t_kind q_t_grief q_t_bears q_t_rota w_t) (va_runSN (As := [.int v3, .int 0, .int 99]) (rest := []) ⟨hx, hb, hml, hown, hts⟩ (c_X6_within l D cy H.size v3 0 99 hc47) ⟨va_cnB 3 hts (wg_in k_242) rfl rfl rfl hK.2.2 (hts _ (List.mem_cons_of_mem _ k_1)) (by decide +kernel) ⟨by decide, by decide⟩, (hts _ (List.mem_cons_of_mem _ k_241)), trivial⟩ ⟨st_blind, fun U hU hW => st_pre hK hPc hDc hU hW⟩ rfl rfl hl.1 rfl (lv_room (Nat.le_of_ble_eq_true rfl)) dX5_mayAlter_47 ⟨by decide, by decide⟩) hP hD hS hA [] [0, 1, 2, 3, 4] [0, 1, 2, 3, 4] rfl rfl (by decide) (by decide) (by decide) (fun _ => rfl) (fun r u H locs hw hP hD hS => ?_)
      obtain rfl := hw.symm
      obtain ⟨hz2, h⟩ := gq_d h
      obtain rfl := Option.some.inj h
      exact W.zret (v := u47) hx hb hr hz2.1 (fun tt ht hW => ⟨⟨u47, (), rfl, rfl, by rw [ht]; exact hP, kk_warm hW hK, hD⟩, hS.F ht⟩) hS.2.2 dX5_mayAlter_50
    replace h := it_n c11_1 h
    by_cases c11_2 : v2 = 2
    · replace h := it_p c11_2 h
      refine lv_tableIn (tgt := 51) hx hb dX5_mayAlter_11 (by rw [c11_2]; decide) (by rw [c11_2]; decide) (by rw [c11_2]; rfl) (by decide) ?_
      refine lv_iload_n hx hb dX5_mayAlter_51 rfl (lv_at hl 3 rfl) ?_
      refine lv_iconst (v := 1) hx hb dX5_mayAlter_52 (by decide) ?_
      refine lv_bipush (v := 99) hx hb dX5_mayAlter_53 (by decide) ?_
      obtain ⟨u55, hc55, h⟩ := bd_d h
      have hPc := hP.sub (ws' := wc_X6_within cy ) [] rfl
      have hDc := hD.sub (ws' := wc_X6_within cy ) [] (by decide) rfl
      refine cl_i (fun (u : Unit) => wc_X5_mayAlter cy q_t q_t_kind q_t_grief q_t_bears q_t_rota w_t) (va_runSN (As := [.int v3, .int 1, .int 99]) (rest := []) ⟨hx, hb, hml, hown, hts⟩ (c_X6_within l D cy H.size v3 1 99 hc55) ⟨va_cnB 3 hts (wg_in k_242) rfl rfl rfl hK.2.2 (hts _ (List.mem_cons_of_mem _ k_1)) (by decide +kernel) ⟨by decide, by decide⟩, (hts _ (List.mem_cons_of_mem _ k_241)), trivial⟩ ⟨st_blind, fun U hU hW => st_pre hK hPc hDc hU hW⟩ rfl rfl hl.1 rfl (lv_room (Nat.le_of_ble_eq_true rfl)) dX5_mayAlter_55 ⟨by decide, by decide⟩) hP hD hS hA [] [0, 1, 2, 3, 4] [0, 1, 2, 3, 4] rfl rfl (by decide) (by decide) (by decide) (fun _ => rfl) (fun r u H locs hw hP hD hS => ?_)
      obtain rfl := hw.symm
      obtain ⟨hz3, h⟩ := gq_d h
      obtain rfl := Option.some.inj h
      exact W.zret (v := u55) hx hb hr hz3.1 (fun tt ht hW => ⟨⟨u55, (), rfl, rfl, by rw [ht]; exact hP, kk_warm hW hK, hD⟩, hS.F ht⟩) hS.2.2 dX5_mayAlter_58
    replace h := it_n c11_2 h
    have n11_0 := sw_ne 0 (by decide) c11_0
    have n11_1 := sw_ne 1 (by decide) c11_1
    have n11_2 := sw_ne 2 (by decide) c11_2
    refine lv_tableOut (tgt := 59) hx hb dX5_mayAlter_11 (by omega) (by decide) ?_
    refine lv_iconst (v := 0) hx hb dX5_mayAlter_59 (by decide) ?_
    obtain rfl := Option.some.inj h
    exact W.zret (v := 0) hx hb hr (by decide) (fun tt ht hW => ⟨⟨0, (), rfl, rfl, by rw [ht]; exact hP, kk_warm hW hK, hD⟩, hS.F ht⟩) hS.2.2 dX5_mayAlter_60
  · replace h := it_p c5 h
    refine lv_iconst (v := 0) hx hb dX5_mayAlter_8 (by decide) ?_
    obtain rfl := Option.some.inj h
    exact W.zret (v := 0) hx hb hr (by decide) (fun tt ht hW => ⟨⟨0, (), rfl, rfl, by rw [ht]; exact hP, kk_warm hW hK, hD⟩, hS.F ht⟩) hS.2.2 dX5_mayAlter_9
def M_X5_mayAlter  (w_t : s_W)   (v1 : Int32) (v2 : Int32) (v3 : Int32) : Option (Int32) := B_X5_mayAlter_0 w_t v1 v2 v3
set_option maxHeartbeats 4000000 in
set_option maxRecDepth 100000 in
theorem c_X5_mayAlter (l : Launch) (D : va_G) (cy : Nat → ClassId) (sz : Nat) (q_t : Nat) (q_t_kind : Nat) (q_t_grief : Nat) (q_t_bears : Nat) (q_t_rota : Nat) (w_t : s_W) (v1 : Int32) (v2 : Int32) (v3 : Int32)  {res : Int32} (h : M_X5_mayAlter w_t v1 v2 v3 = some res) : ct_i l yX5_mayAlter (.code yX5_mayAlter cX5_mayAlter 4 ((some .boolean)) :: wg_L) rm_X5_mayAlter D cy sz (wc_X5_mayAlter cy q_t q_t_kind q_t_grief q_t_bears q_t_rota w_t) [.ref q_t, .int v1, .int v2, .int v3] (fun r (_ : Unit) => r = res) (fun (u : Unit) => wc_X5_mayAlter cy q_t q_t_kind q_t_grief q_t_bears q_t_rota w_t) := by
  refine Met.ofW (cc := cX5_mayAlter) (maxL := 4) (ret := (some .boolean)) (by decide) rfl ?_
  intro p e s m args below meth c s₁ B hml hv
  obtain ⟨rfl, hsz, hP, hK, hD0⟩ := hv
  subst hsz
  have hD := hD0.self (sz := s.heap.size)
  have hl := lv_entry ([.ref q_t, .int v1, .int v2, .int v3]) (n := 4) (Nat.le_of_ble_eq_true rfl)
  rw [lg_entry_eq]
  have C0 : cx_C cX5_mayAlter ((some .boolean)) 4 RX5 (.code yX5_mayAlter cX5_mayAlter 4 ((some .boolean)) :: wg_L) p s m [.ref q_t, .int v1, .int v2, .int v3].toArray meth c D cy (va_A (wc_X5_mayAlter cy q_t q_t_kind q_t_grief q_t_bears q_t_rota w_t) s.heap.size) := ⟨B.exec, B.bytes, B.returns, hml, findClass_of_methodNamed B.named, atoms_spec (ws := .code yX5_mayAlter cX5_mayAlter 4 ((some .boolean)) :: wg_L) B.pre, hK, B.notSynchronized, fun q h => Or.inr h⟩
  exact b_X5_mayAlter_0 C0 h hP hD va_S.rf (lv_sub hl [0, 1, 2, 3] rfl)
/-! ### BarrowGrief$World.dropTurn(I)V -/
abbrev wc_X5_dropTurn (cy : Nat → ClassId) (q_t q_t_kind q_t_grief q_t_bears q_t_rota : Nat) (w_t : s_W) : va_W := [(q_t, .inr (5, [.ref q_t_kind, .ref q_t_grief, .ref q_t_bears, .ref q_t_rota, .int w_t.1, .int w_t.2.1, .int w_t.2.2.1, .int w_t.2.2.2.1, .int w_t.2.2.2.2.1, .int w_t.2.2.2.2.2.1, .int w_t.2.2.2.2.2.2.1])), (q_t_kind, .inl (cy 1, 5, .inl w_t.2.2.2.2.2.2.2.1)), (q_t_grief, .inl (cy 1, 5, .inl w_t.2.2.2.2.2.2.2.2.1)), (q_t_bears, .inl (cy 1, 5, .inl w_t.2.2.2.2.2.2.2.2.2.1)), (q_t_rota, .inl (cy 1, 8, .inl w_t.2.2.2.2.2.2.2.2.2.2))]
abbrev rm_X5_dropTurn : Room := { frames := 0, cells := 0, slots := 0, locals := 0 }
abbrev qq_X5_dropTurn (below : List Frame) (args : Array Value) (s : State) (D : va_G) (cy : Nat → ClassId) (A : Nat → Prop) (q_t : Nat) (q_t_kind : Nat) (q_t_grief : Nat) (q_t_bears : Nat) (q_t_rota : Nat) (res : s_W) : State → Prop := MQ below (va_Qv (fun (u : s_W) => u = res) (fun u t => st_B D cy A ((fun (u : s_W) => wc_X5_dropTurn cy q_t q_t_kind q_t_grief q_t_bears q_t_rota u) u) t) A) args s 0 0 A
def B_X5_dropTurn_4 (k4 : s_W → Int32 → Option (s_W))  (f : Nat) (w_t : s_W) (v2 : Int32) : Option (s_W) := if w_t.2.1 ≤ v2 then (nm_v (w_t.2.1 - 1) (fun z39 => some (w_t.1, z39, w_t.2.2.1, w_t.2.2.2.1, w_t.2.2.2.2.1, w_t.2.2.2.2.2.1, w_t.2.2.2.2.2.2.1, w_t.2.2.2.2.2.2.2.1, w_t.2.2.2.2.2.2.2.2.1, w_t.2.2.2.2.2.2.2.2.2.1, w_t.2.2.2.2.2.2.2.2.2.2))) else (gi_n v2 8 (nm_v (w_t.2.2.2.2.2.2.2.2.2.2 v2.toNatClampNeg) (fun z25 => gi_n (v2 - 1) 8 (k4 (w_t.1, w_t.2.1, w_t.2.2.1, w_t.2.2.2.1, w_t.2.2.2.2.1, w_t.2.2.2.2.2.1, w_t.2.2.2.2.2.2.1, w_t.2.2.2.2.2.2.2.1, w_t.2.2.2.2.2.2.2.2.1, w_t.2.2.2.2.2.2.2.2.2.1, (upd w_t.2.2.2.2.2.2.2.2.2.2 (v2 - 1).toNatClampNeg z25)) (v2 + 1)))))
set_option maxHeartbeats 4000000 in
set_option maxRecDepth 100000 in
theorem b_X5_dropTurn_4 {p : Program} {l : Launch} {e : Env} {s : State} {m : MethodId} {args : Array Value} {below : List Frame} {meth : Method} {c : Code} {D : va_G} {cy : Nat → ClassId} {A : Nat → Prop} {q_t : Nat} {q_t_kind : Nat} {q_t_grief : Nat} {q_t_bears : Nat} {q_t_rota : Nat} {res : s_W} {k4 : s_W → Int32 → Option (s_W)} {f : Nat} {w_t : s_W} {v2 : Int32} (C0 : cx_C cX5_dropTurn (none) 3 RX5 (.code yX5_dropTurn cX5_dropTurn 3 (none) :: wg_L) p s m args meth c D cy A) (hk4 : ∀ (w_t : s_W) (v2 : Int32), k4 w_t v2 = some res → ∀ (H : Heap) (locs : List Loc) (ls : Array Slot), va_P D vwCl (wc_X5_dropTurn cy q_t q_t_kind q_t_grief q_t_bears q_t_rota w_t) H → va_D A (wc_X5_dropTurn cy q_t q_t_kind q_t_grief q_t_bears q_t_rota w_t) → va_S A s.heap H locs → lv_has ls 3 [(0, .ref q_t), (2, .int v2)] → W p l e rm_X5_dropTurn s m args below meth c H locs 0 0 (qq_X5_dropTurn below args s D cy A q_t q_t_kind q_t_grief q_t_bears q_t_rota res) (F0 m 4 ls [])) (h : B_X5_dropTurn_4 k4 f w_t v2 = some res) {H : Heap} {locs : List Loc} {ls : Array Slot} (hP : va_P D vwCl (wc_X5_dropTurn cy q_t q_t_kind q_t_grief q_t_bears q_t_rota w_t) H) (hD : va_D A (wc_X5_dropTurn cy q_t q_t_kind q_t_grief q_t_bears q_t_rota w_t)) (hS : va_S A s.heap H locs) (hl : lv_has ls 3 [(0, .ref q_t), (2, .int v2)]) : W p l e rm_X5_dropTurn s m args below meth c H locs 0 0 (qq_X5_dropTurn below args s D cy A q_t q_t_kind q_t_grief q_t_bears q_t_rota res) (F0 m 4 ls []) := by
  obtain ⟨hx, hb, hr, hml, hown, hts, hK, hlocks, hA⟩ := id C0
  unfold B_X5_dropTurn_4 at h
  refine lv_iload_n hx hb dX5_dropTurn_4 rfl (lv_at hl 1 rfl) ?_
  refine lv_aload_n hx hb dX5_dropTurn_5 rfl (lv_at hl 0 rfl) ?_
  refine va_get (D := D) (ci := 5) (v := .int w_t.2.1) (C := RX5) (T := TX5) (N := 11) hx hb hts (fun w hw => List.mem_cons_of_mem _ (uw_X5 w hw)) hown hK.1 hP 0 rfl rfl 5 (by decide) (hts _ (List.mem_cons_of_mem _ k_44)) (fun _ h9 => h9) rfl dX5_dropTurn_6 ?_
  refine lv_icmp_ge (tgt := 32) hx hb dX5_dropTurn_9 (by decide) (fun c9 => ?_) (fun c9 => ?_)
  · replace h := it_p c9 h
    refine lv_aload_n hx hb dX5_dropTurn_32 rfl (lv_at hl 0 rfl) ?_
    refine lv_dup hx hb dX5_dropTurn_33 rfl ?_
    refine va_get (D := D) (ci := 5) (v := .int w_t.2.1) (C := RX5) (T := TX5) (N := 11) hx hb hts (fun w hw => List.mem_cons_of_mem _ (uw_X5 w hw)) hown hK.1 hP 0 rfl rfl 5 (by decide) (hts _ (List.mem_cons_of_mem _ k_44)) (fun _ h9 => h9) rfl dX5_dropTurn_34 ?_
    refine lv_iconst (v := 1) hx hb dX5_dropTurn_37 (by decide) ?_
    refine lv_isub hx hb dX5_dropTurn_38 ?_
    refine lv_topi (fun z39 ez39 => ?_)
    replace h := nm_d ez39 h
    refine va_put (D := D) (ci := 5) (v := .int z39) (ty := .int) (C := RX5) (T := TX5) (N := 11) hx hb hts (fun w hw => List.mem_cons_of_mem _ (uw_X5 w hw)) tyX5 tyX5_ok nmX5 hown hK.1 hP hD hS 0 rfl rfl 5 (by decide) (hts _ (List.mem_cons_of_mem _ k_44)) (fun _ h9 => h9) rfl (by decide +kernel) rfl rfl (Nat.le_of_ble_eq_true rfl) dX5_dropTurn_39 (fun H locs hP hD hS => ?_)
    have hP : va_P D vwCl (wc_X5_dropTurn cy q_t q_t_kind q_t_grief q_t_bears q_t_rota (w_t.1, z39, w_t.2.2.1, w_t.2.2.2.1, w_t.2.2.2.2.1, w_t.2.2.2.2.2.1, w_t.2.2.2.2.2.2.1, w_t.2.2.2.2.2.2.2.1, w_t.2.2.2.2.2.2.2.2.1, w_t.2.2.2.2.2.2.2.2.2.1, w_t.2.2.2.2.2.2.2.2.2.2)) H := hP
    have hD : va_D A (wc_X5_dropTurn cy q_t q_t_kind q_t_grief q_t_bears q_t_rota (w_t.1, z39, w_t.2.2.1, w_t.2.2.2.1, w_t.2.2.2.2.1, w_t.2.2.2.2.2.1, w_t.2.2.2.2.2.2.1, w_t.2.2.2.2.2.2.2.1, w_t.2.2.2.2.2.2.2.2.1, w_t.2.2.2.2.2.2.2.2.2.1, w_t.2.2.2.2.2.2.2.2.2.2)) := hD
    obtain rfl := Option.some.inj h
    exact W.vret hx hb hr (fun tt ht hW => ⟨⟨(w_t.1, z39, w_t.2.2.1, w_t.2.2.2.1, w_t.2.2.2.2.1, w_t.2.2.2.2.2.1, w_t.2.2.2.2.2.2.1, w_t.2.2.2.2.2.2.2.1, w_t.2.2.2.2.2.2.2.2.1, w_t.2.2.2.2.2.2.2.2.2.1, w_t.2.2.2.2.2.2.2.2.2.2), rfl, rfl, by rw [ht]; exact hP, kk_warm hW hK, hD⟩, hS.F ht⟩) hS.2.2 dX5_dropTurn_42
  · replace h := it_n c9 h
    refine lv_aload_n hx hb dX5_dropTurn_12 rfl (lv_at hl 0 rfl) ?_
    refine va_get (D := D) (ci := 5) (v := .ref q_t_rota) (C := RX5) (T := TX5) (N := 11) hx hb hts (fun w hw => List.mem_cons_of_mem _ (uw_X5 w hw)) hown hK.1 hP 0 rfl rfl 3 (by decide) (hts _ (List.mem_cons_of_mem _ k_38)) (fun _ h9 => h9) rfl dX5_dropTurn_13 ?_
    refine lv_iload_n hx hb dX5_dropTurn_16 rfl (lv_at hl 1 rfl) ?_
    refine lv_iconst (v := 1) hx hb dX5_dropTurn_17 (by decide) ?_
    refine lv_isub hx hb dX5_dropTurn_18 ?_
    refine lv_aload_n hx hb dX5_dropTurn_19 rfl (lv_at hl 0 rfl) ?_
    refine va_get (D := D) (ci := 5) (v := .ref q_t_rota) (C := RX5) (T := TX5) (N := 11) hx hb hts (fun w hw => List.mem_cons_of_mem _ (uw_X5 w hw)) hown hK.1 hP 0 rfl rfl 3 (by decide) (hts _ (List.mem_cons_of_mem _ k_38)) (fun _ h9 => h9) rfl dX5_dropTurn_20 ?_
    refine lv_iload_n hx hb dX5_dropTurn_23 rfl (lv_at hl 1 rfl) ?_
    obtain ⟨hi1, h⟩ := gi_d h
    refine va_iald hx hb hK.1 hP 4 1 rfl rfl hi1 dX5_dropTurn_24 ?_
    refine lv_topi (fun z25 ez25 => ?_)
    replace h := nm_d ez25 h
    obtain ⟨hi2, h⟩ := gi_d h
    refine va_iast hx hb hK.1 hP hD hS 4 1 rfl rfl hi2 dX5_dropTurn_25 (fun H locs hP hD hS => ?_)
    have hP : va_P D vwCl (wc_X5_dropTurn cy q_t q_t_kind q_t_grief q_t_bears q_t_rota (w_t.1, w_t.2.1, w_t.2.2.1, w_t.2.2.2.1, w_t.2.2.2.2.1, w_t.2.2.2.2.2.1, w_t.2.2.2.2.2.2.1, w_t.2.2.2.2.2.2.2.1, w_t.2.2.2.2.2.2.2.2.1, w_t.2.2.2.2.2.2.2.2.2.1, (upd w_t.2.2.2.2.2.2.2.2.2.2 (v2 - 1).toNatClampNeg z25))) H := hP
    have hD : va_D A (wc_X5_dropTurn cy q_t q_t_kind q_t_grief q_t_bears q_t_rota (w_t.1, w_t.2.1, w_t.2.2.1, w_t.2.2.2.1, w_t.2.2.2.2.1, w_t.2.2.2.2.2.1, w_t.2.2.2.2.2.2.1, w_t.2.2.2.2.2.2.2.1, w_t.2.2.2.2.2.2.2.2.1, w_t.2.2.2.2.2.2.2.2.2.1, (upd w_t.2.2.2.2.2.2.2.2.2.2 (v2 - 1).toNatClampNeg z25))) := hD
    refine lv_iinc (v := (v2 + 1)) (lv' := [(2, .int (v2 + 1)), (0, .ref q_t)]) hx hb dX5_dropTurn_26 hl (k := 1) rfl (by rfl) (by decide) rfl (fun ls hl => ?_)
    refine lv_goto (tgt := 4) hx hb dX5_dropTurn_29 (by decide) ?_
    exact hk4 _ _ h _ _ _ hP hD hS (lv_sub hl [1, 0] rfl)
def M_X5_dropTurn_4   : Nat → s_W → Int32 → Option (s_W)
  | 0, _, _ => none
  | f + 1, w_t, v2 => B_X5_dropTurn_4 (M_X5_dropTurn_4 f) f w_t v2
theorem t_X5_dropTurn_4 {p : Program} {l : Launch} {e : Env} {s : State} {m : MethodId} {args : Array Value} {below : List Frame} {meth : Method} {c : Code} {D : va_G} {cy : Nat → ClassId} {A : Nat → Prop} {q_t : Nat} {q_t_kind : Nat} {q_t_grief : Nat} {q_t_bears : Nat} {q_t_rota : Nat} {res : s_W}  (C0 : cx_C cX5_dropTurn (none) 3 RX5 (.code yX5_dropTurn cX5_dropTurn 3 (none) :: wg_L) p s m args meth c D cy A)  : ∀ (f : Nat) (w_t : s_W) (v2 : Int32), M_X5_dropTurn_4 f w_t v2 = some res → ∀ (H : Heap) (locs : List Loc) (ls : Array Slot), va_P D vwCl (wc_X5_dropTurn cy q_t q_t_kind q_t_grief q_t_bears q_t_rota w_t) H → va_D A (wc_X5_dropTurn cy q_t q_t_kind q_t_grief q_t_bears q_t_rota w_t) → va_S A s.heap H locs → lv_has ls 3 [(0, .ref q_t), (2, .int v2)] → W p l e rm_X5_dropTurn s m args below meth c H locs 0 0 (qq_X5_dropTurn below args s D cy A q_t q_t_kind q_t_grief q_t_bears q_t_rota res) (F0 m 4 ls []) := by
  intro f
  induction f with
  | zero =>
    intro _ _ h
    exact absurd (show (none : Option (s_W)) = some res from h) (fun q => by cases q)
  | succ f ih =>
    intro w_t v2 h H locs ls hP hD hS hl
    have h : B_X5_dropTurn_4 (M_X5_dropTurn_4 f) f w_t v2 = some res := h
    exact b_X5_dropTurn_4 C0 ih h hP hD hS hl
def B_X5_dropTurn_0   (f : Nat) (w_t : s_W) (v1 : Int32) : Option (s_W) := nm_v (v1 + 1) (fun v2_3 => M_X5_dropTurn_4 f w_t v2_3)
set_option maxHeartbeats 4000000 in
set_option maxRecDepth 100000 in
theorem b_X5_dropTurn_0 {p : Program} {l : Launch} {e : Env} {s : State} {m : MethodId} {args : Array Value} {below : List Frame} {meth : Method} {c : Code} {D : va_G} {cy : Nat → ClassId} {A : Nat → Prop} {q_t : Nat} {q_t_kind : Nat} {q_t_grief : Nat} {q_t_bears : Nat} {q_t_rota : Nat} {res : s_W}  {f : Nat} {w_t : s_W} {v1 : Int32} (C0 : cx_C cX5_dropTurn (none) 3 RX5 (.code yX5_dropTurn cX5_dropTurn 3 (none) :: wg_L) p s m args meth c D cy A)  (h : B_X5_dropTurn_0 f w_t v1 = some res) {H : Heap} {locs : List Loc} {ls : Array Slot} (hP : va_P D vwCl (wc_X5_dropTurn cy q_t q_t_kind q_t_grief q_t_bears q_t_rota w_t) H) (hD : va_D A (wc_X5_dropTurn cy q_t q_t_kind q_t_grief q_t_bears q_t_rota w_t)) (hS : va_S A s.heap H locs) (hl : lv_has ls 3 [(0, .ref q_t), (1, .int v1)]) : W p l e rm_X5_dropTurn s m args below meth c H locs 0 0 (qq_X5_dropTurn below args s D cy A q_t q_t_kind q_t_grief q_t_bears q_t_rota res) (F0 m 0 ls []) := by
  obtain ⟨hx, hb, hr, hml, hown, hts, hK, hlocks, hA⟩ := id C0
  unfold B_X5_dropTurn_0 at h
  refine lv_iload_n hx hb dX5_dropTurn_0 rfl (lv_at hl 1 rfl) ?_
  refine lv_iconst (v := 1) hx hb dX5_dropTurn_1 (by decide) ?_
  refine lv_iadd hx hb dX5_dropTurn_2 ?_
  refine lv_topi (fun v2_3 ev2_3 => ?_)
  replace h := nm_d ev2_3 h
  refine lv_istore_n (lv' := [(2, .int v2_3), (0, .ref q_t), (1, .int v1)]) hx hb dX5_dropTurn_3 rfl hl (by decide) rfl (fun ls hl => ?_)
  exact t_X5_dropTurn_4 C0 _ _ _ h _ _ _ hP hD hS (lv_sub hl [1, 0] rfl)
def M_X5_dropTurn   (f : Nat) (w_t : s_W) (v1 : Int32) : Option (s_W) := B_X5_dropTurn_0 f w_t v1
set_option maxHeartbeats 4000000 in
set_option maxRecDepth 100000 in
theorem c_X5_dropTurn (l : Launch) (D : va_G) (cy : Nat → ClassId) (sz : Nat) (q_t : Nat) (q_t_kind : Nat) (q_t_grief : Nat) (q_t_bears : Nat) (q_t_rota : Nat) (w_t : s_W) (v1 : Int32) {f : Nat} {res : s_W} (h : M_X5_dropTurn f w_t v1 = some res) : ct_v l yX5_dropTurn (.code yX5_dropTurn cX5_dropTurn 3 (none) :: wg_L) rm_X5_dropTurn D cy sz (wc_X5_dropTurn cy q_t q_t_kind q_t_grief q_t_bears q_t_rota w_t) [.ref q_t, .int v1] (fun (u : s_W) => u = res) (fun (u : s_W) => wc_X5_dropTurn cy q_t q_t_kind q_t_grief q_t_bears q_t_rota u) := by
  refine Met.ofW (cc := cX5_dropTurn) (maxL := 3) (ret := none) (by decide) rfl ?_
  intro p e s m args below meth c s₁ B hml hv
  obtain ⟨rfl, hsz, hP, hK, hD0⟩ := hv
  subst hsz
  have hD := hD0.self (sz := s.heap.size)
  have hl := lv_entry ([.ref q_t, .int v1]) (n := 3) (Nat.le_of_ble_eq_true rfl)
  rw [lg_entry_eq]
  have C0 : cx_C cX5_dropTurn (none) 3 RX5 (.code yX5_dropTurn cX5_dropTurn 3 (none) :: wg_L) p s m [.ref q_t, .int v1].toArray meth c D cy (va_A (wc_X5_dropTurn cy q_t q_t_kind q_t_grief q_t_bears q_t_rota w_t) s.heap.size) := ⟨B.exec, B.bytes, B.returns, hml, findClass_of_methodNamed B.named, atoms_spec (ws := .code yX5_dropTurn cX5_dropTurn 3 (none) :: wg_L) B.pre, hK, B.notSynchronized, fun q h => Or.inr h⟩
  exact b_X5_dropTurn_0 C0 h hP hD va_S.rf (lv_sub hl [0, 1] rfl)
/-! ### BarrowGrief$World.turnsOf(I)I -/
abbrev wc_X5_turnsOf (cy : Nat → ClassId) (q_t q_t_kind q_t_grief q_t_bears q_t_rota : Nat) (w_t : s_W) : va_W := [(q_t, .inr (5, [.ref q_t_kind, .ref q_t_grief, .ref q_t_bears, .ref q_t_rota, .int w_t.1, .int w_t.2.1, .int w_t.2.2.1, .int w_t.2.2.2.1, .int w_t.2.2.2.2.1, .int w_t.2.2.2.2.2.1, .int w_t.2.2.2.2.2.2.1])), (q_t_kind, .inl (cy 1, 5, .inl w_t.2.2.2.2.2.2.2.1)), (q_t_grief, .inl (cy 1, 5, .inl w_t.2.2.2.2.2.2.2.2.1)), (q_t_bears, .inl (cy 1, 5, .inl w_t.2.2.2.2.2.2.2.2.2.1)), (q_t_rota, .inl (cy 1, 8, .inl w_t.2.2.2.2.2.2.2.2.2.2))]
abbrev rm_X5_turnsOf : Room := { frames := 0, cells := 0, slots := 0, locals := 0 }
abbrev qq_X5_turnsOf (below : List Frame) (args : Array Value) (s : State) (D : va_G) (cy : Nat → ClassId) (A : Nat → Prop) (q_t : Nat) (q_t_kind : Nat) (q_t_grief : Nat) (q_t_bears : Nat) (q_t_rota : Nat) (w_t : s_W) (res : Int32) : State → Prop := MQ below (va_Qi (fun r (_ : Unit) => r = res) (fun u t => st_B D cy A ((fun (u : Unit) => wc_X5_turnsOf cy q_t q_t_kind q_t_grief q_t_bears q_t_rota w_t) u) t) A) args s 0 0 A
def B_X5_turnsOf_25 (k4 : Int32 → Int32 → Int32 → Option (Int32)) (w_t : s_W) (f : Nat)  (v1 : Int32) (v2 : Int32) (v3 : Int32) : Option (Int32) := k4 v1 v2 (v3 + 1)
set_option maxHeartbeats 4000000 in
set_option maxRecDepth 100000 in
theorem b_X5_turnsOf_25 {p : Program} {l : Launch} {e : Env} {s : State} {m : MethodId} {args : Array Value} {below : List Frame} {meth : Method} {c : Code} {D : va_G} {cy : Nat → ClassId} {A : Nat → Prop} {q_t : Nat} {q_t_kind : Nat} {q_t_grief : Nat} {q_t_bears : Nat} {q_t_rota : Nat} {w_t : s_W} {res : Int32} {k4 : Int32 → Int32 → Int32 → Option (Int32)} {f : Nat}  {v1 : Int32} {v2 : Int32} {v3 : Int32} (C0 : cx_C cX5_turnsOf ((some .int)) 4 RX5 (.code yX5_turnsOf cX5_turnsOf 4 ((some .int)) :: wg_L) p s m args meth c D cy A) (hk4 : ∀  (v1 : Int32) (v2 : Int32) (v3 : Int32), k4 v1 v2 v3 = some res → ∀ (H : Heap) (locs : List Loc) (ls : Array Slot), va_P D vwCl (wc_X5_turnsOf cy q_t q_t_kind q_t_grief q_t_bears q_t_rota w_t) H → va_D A (wc_X5_turnsOf cy q_t q_t_kind q_t_grief q_t_bears q_t_rota w_t) → va_S A s.heap H locs → lv_has ls 4 [(0, .ref q_t), (1, .int v1), (2, .int v2), (3, .int v3)] → W p l e rm_X5_turnsOf s m args below meth c H locs 0 0 (qq_X5_turnsOf below args s D cy A q_t q_t_kind q_t_grief q_t_bears q_t_rota w_t res) (F0 m 4 ls [])) (h : B_X5_turnsOf_25 k4 w_t f v1 v2 v3 = some res) {H : Heap} {locs : List Loc} {ls : Array Slot} (hP : va_P D vwCl (wc_X5_turnsOf cy q_t q_t_kind q_t_grief q_t_bears q_t_rota w_t) H) (hD : va_D A (wc_X5_turnsOf cy q_t q_t_kind q_t_grief q_t_bears q_t_rota w_t)) (hS : va_S A s.heap H locs) (hl : lv_has ls 4 [(0, .ref q_t), (1, .int v1), (2, .int v2), (3, .int v3)]) : W p l e rm_X5_turnsOf s m args below meth c H locs 0 0 (qq_X5_turnsOf below args s D cy A q_t q_t_kind q_t_grief q_t_bears q_t_rota w_t res) (F0 m 25 ls []) := by
  obtain ⟨hx, hb, hr, hml, hown, hts, hK, hlocks, hA⟩ := id C0
  unfold B_X5_turnsOf_25 at h
  refine lv_iinc (v := (v3 + 1)) (lv' := [(3, .int (v3 + 1)), (0, .ref q_t), (1, .int v1), (2, .int v2)]) hx hb dX5_turnsOf_25 hl (k := 3) rfl (by rfl) (by decide) rfl (fun ls hl => ?_)
  refine lv_goto (tgt := 4) hx hb dX5_turnsOf_28 (by decide) ?_
  exact hk4 _ _ _ h _ _ _ hP hD hS (lv_sub hl [1, 2, 3, 0] rfl)
def B_X5_turnsOf_4 (k4 : Int32 → Int32 → Int32 → Option (Int32)) (w_t : s_W) (f : Nat)  (v1 : Int32) (v2 : Int32) (v3 : Int32) : Option (Int32) := if w_t.2.1 ≤ v3 then (some v2) else (gi_n v3 8 (if (w_t.2.2.2.2.2.2.2.2.2.2 v3.toNatClampNeg) = v1 then (B_X5_turnsOf_25 k4 w_t f v1 (v2 + 1) v3) else (B_X5_turnsOf_25 k4 w_t f v1 v2 v3)))
set_option maxHeartbeats 4000000 in
set_option maxRecDepth 100000 in
theorem b_X5_turnsOf_4 {p : Program} {l : Launch} {e : Env} {s : State} {m : MethodId} {args : Array Value} {below : List Frame} {meth : Method} {c : Code} {D : va_G} {cy : Nat → ClassId} {A : Nat → Prop} {q_t : Nat} {q_t_kind : Nat} {q_t_grief : Nat} {q_t_bears : Nat} {q_t_rota : Nat} {w_t : s_W} {res : Int32} {k4 : Int32 → Int32 → Int32 → Option (Int32)} {f : Nat}  {v1 : Int32} {v2 : Int32} {v3 : Int32} (C0 : cx_C cX5_turnsOf ((some .int)) 4 RX5 (.code yX5_turnsOf cX5_turnsOf 4 ((some .int)) :: wg_L) p s m args meth c D cy A) (hk4 : ∀  (v1 : Int32) (v2 : Int32) (v3 : Int32), k4 v1 v2 v3 = some res → ∀ (H : Heap) (locs : List Loc) (ls : Array Slot), va_P D vwCl (wc_X5_turnsOf cy q_t q_t_kind q_t_grief q_t_bears q_t_rota w_t) H → va_D A (wc_X5_turnsOf cy q_t q_t_kind q_t_grief q_t_bears q_t_rota w_t) → va_S A s.heap H locs → lv_has ls 4 [(0, .ref q_t), (1, .int v1), (2, .int v2), (3, .int v3)] → W p l e rm_X5_turnsOf s m args below meth c H locs 0 0 (qq_X5_turnsOf below args s D cy A q_t q_t_kind q_t_grief q_t_bears q_t_rota w_t res) (F0 m 4 ls [])) (h : B_X5_turnsOf_4 k4 w_t f v1 v2 v3 = some res) {H : Heap} {locs : List Loc} {ls : Array Slot} (hP : va_P D vwCl (wc_X5_turnsOf cy q_t q_t_kind q_t_grief q_t_bears q_t_rota w_t) H) (hD : va_D A (wc_X5_turnsOf cy q_t q_t_kind q_t_grief q_t_bears q_t_rota w_t)) (hS : va_S A s.heap H locs) (hl : lv_has ls 4 [(0, .ref q_t), (1, .int v1), (2, .int v2), (3, .int v3)]) : W p l e rm_X5_turnsOf s m args below meth c H locs 0 0 (qq_X5_turnsOf below args s D cy A q_t q_t_kind q_t_grief q_t_bears q_t_rota w_t res) (F0 m 4 ls []) := by
  obtain ⟨hx, hb, hr, hml, hown, hts, hK, hlocks, hA⟩ := id C0
  unfold B_X5_turnsOf_4 at h
  refine lv_iload_n hx hb dX5_turnsOf_4 rfl (lv_at hl 3 rfl) ?_
  refine lv_aload_n hx hb dX5_turnsOf_5 rfl (lv_at hl 0 rfl) ?_
  refine va_get (D := D) (ci := 5) (v := .int w_t.2.1) (C := RX5) (T := TX5) (N := 11) hx hb hts (fun w hw => List.mem_cons_of_mem _ (uw_X5 w hw)) hown hK.1 hP 0 rfl rfl 5 (by decide) (hts _ (List.mem_cons_of_mem _ k_44)) (fun _ h9 => h9) rfl dX5_turnsOf_6 ?_
  refine lv_icmp_ge (tgt := 31) hx hb dX5_turnsOf_9 (by decide) (fun c9 => ?_) (fun c9 => ?_)
  · replace h := it_p c9 h
    refine lv_iload_n hx hb dX5_turnsOf_31 rfl (lv_at hl 2 rfl) ?_
    obtain rfl := Option.some.inj h
    exact W.iret (v := v2) hx hb hr (fun tt ht hW => ⟨⟨v2, (), rfl, rfl, by rw [ht]; exact hP, kk_warm hW hK, hD⟩, hS.F ht⟩) hS.2.2 dX5_turnsOf_32
  · replace h := it_n c9 h
    refine lv_aload_n hx hb dX5_turnsOf_12 rfl (lv_at hl 0 rfl) ?_
    refine va_get (D := D) (ci := 5) (v := .ref q_t_rota) (C := RX5) (T := TX5) (N := 11) hx hb hts (fun w hw => List.mem_cons_of_mem _ (uw_X5 w hw)) hown hK.1 hP 0 rfl rfl 3 (by decide) (hts _ (List.mem_cons_of_mem _ k_38)) (fun _ h9 => h9) rfl dX5_turnsOf_13 ?_
    refine lv_iload_n hx hb dX5_turnsOf_16 rfl (lv_at hl 3 rfl) ?_
    obtain ⟨hi1, h⟩ := gi_d h
    refine va_iald hx hb hK.1 hP 4 1 rfl rfl hi1 dX5_turnsOf_17 ?_
    refine lv_iload_n hx hb dX5_turnsOf_18 rfl (lv_at hl 1 rfl) ?_
    refine lv_icmp_ne (tgt := 25) hx hb dX5_turnsOf_19 (by decide) (fun c19 => ?_) (fun c19 => ?_)
    · replace h := it_n c19 h
      exact b_X5_turnsOf_25 C0 hk4 h hP hD hS (lv_sub hl [0, 1, 2, 3] rfl)
    · replace h := it_p c19 h
      refine lv_iinc (v := (v2 + 1)) (lv' := [(2, .int (v2 + 1)), (0, .ref q_t), (1, .int v1), (3, .int v3)]) hx hb dX5_turnsOf_22 hl (k := 2) rfl (by rfl) (by decide) rfl (fun ls hl => ?_)
      exact b_X5_turnsOf_25 C0 hk4 h hP hD hS (lv_sub hl [1, 2, 0, 3] rfl)
def M_X5_turnsOf_4  (w_t : s_W) : Nat → Int32 → Int32 → Int32 → Option (Int32)
  | 0, _, _, _ => none
  | f + 1, v1, v2, v3 => B_X5_turnsOf_4 (M_X5_turnsOf_4 w_t f) w_t f v1 v2 v3
theorem t_X5_turnsOf_4 {p : Program} {l : Launch} {e : Env} {s : State} {m : MethodId} {args : Array Value} {below : List Frame} {meth : Method} {c : Code} {D : va_G} {cy : Nat → ClassId} {A : Nat → Prop} {q_t : Nat} {q_t_kind : Nat} {q_t_grief : Nat} {q_t_bears : Nat} {q_t_rota : Nat} {w_t : s_W} {res : Int32}  (C0 : cx_C cX5_turnsOf ((some .int)) 4 RX5 (.code yX5_turnsOf cX5_turnsOf 4 ((some .int)) :: wg_L) p s m args meth c D cy A)  : ∀ (f : Nat)  (v1 : Int32) (v2 : Int32) (v3 : Int32), M_X5_turnsOf_4 w_t f v1 v2 v3 = some res → ∀ (H : Heap) (locs : List Loc) (ls : Array Slot), va_P D vwCl (wc_X5_turnsOf cy q_t q_t_kind q_t_grief q_t_bears q_t_rota w_t) H → va_D A (wc_X5_turnsOf cy q_t q_t_kind q_t_grief q_t_bears q_t_rota w_t) → va_S A s.heap H locs → lv_has ls 4 [(0, .ref q_t), (1, .int v1), (2, .int v2), (3, .int v3)] → W p l e rm_X5_turnsOf s m args below meth c H locs 0 0 (qq_X5_turnsOf below args s D cy A q_t q_t_kind q_t_grief q_t_bears q_t_rota w_t res) (F0 m 4 ls []) := by
  intro f
  induction f with
  | zero =>
    intro _ _ _ h
    exact absurd (show (none : Option (Int32)) = some res from h) (fun q => by cases q)
  | succ f ih =>
    intro v1 v2 v3 h H locs ls hP hD hS hl
    have h : B_X5_turnsOf_4 (M_X5_turnsOf_4 w_t f) w_t f v1 v2 v3 = some res := h
    exact b_X5_turnsOf_4 C0 ih h hP hD hS hl
def B_X5_turnsOf_0  (w_t : s_W) (f : Nat)  (v1 : Int32) : Option (Int32) := M_X5_turnsOf_4 w_t f v1 0 0
set_option maxHeartbeats 4000000 in
set_option maxRecDepth 100000 in
theorem b_X5_turnsOf_0 {p : Program} {l : Launch} {e : Env} {s : State} {m : MethodId} {args : Array Value} {below : List Frame} {meth : Method} {c : Code} {D : va_G} {cy : Nat → ClassId} {A : Nat → Prop} {q_t : Nat} {q_t_kind : Nat} {q_t_grief : Nat} {q_t_bears : Nat} {q_t_rota : Nat} {w_t : s_W} {res : Int32}  {f : Nat}  {v1 : Int32} (C0 : cx_C cX5_turnsOf ((some .int)) 4 RX5 (.code yX5_turnsOf cX5_turnsOf 4 ((some .int)) :: wg_L) p s m args meth c D cy A)  (h : B_X5_turnsOf_0 w_t f v1 = some res) {H : Heap} {locs : List Loc} {ls : Array Slot} (hP : va_P D vwCl (wc_X5_turnsOf cy q_t q_t_kind q_t_grief q_t_bears q_t_rota w_t) H) (hD : va_D A (wc_X5_turnsOf cy q_t q_t_kind q_t_grief q_t_bears q_t_rota w_t)) (hS : va_S A s.heap H locs) (hl : lv_has ls 4 [(0, .ref q_t), (1, .int v1)]) : W p l e rm_X5_turnsOf s m args below meth c H locs 0 0 (qq_X5_turnsOf below args s D cy A q_t q_t_kind q_t_grief q_t_bears q_t_rota w_t res) (F0 m 0 ls []) := by
  obtain ⟨hx, hb, hr, hml, hown, hts, hK, hlocks, hA⟩ := id C0
  unfold B_X5_turnsOf_0 at h
  refine lv_iconst (v := 0) hx hb dX5_turnsOf_0 (by decide) ?_
  refine lv_istore_n (lv' := [(2, .int 0), (0, .ref q_t), (1, .int v1)]) hx hb dX5_turnsOf_1 rfl hl (by decide) rfl (fun ls hl => ?_)
  refine lv_iconst (v := 0) hx hb dX5_turnsOf_2 (by decide) ?_
  refine lv_istore_n (lv' := [(3, .int 0), (2, .int 0), (0, .ref q_t), (1, .int v1)]) hx hb dX5_turnsOf_3 rfl hl (by decide) rfl (fun ls hl => ?_)
  exact t_X5_turnsOf_4 C0 _ _ _ _ h _ _ _ hP hD hS (lv_sub hl [2, 3, 1, 0] rfl)
def M_X5_turnsOf  (w_t : s_W) (f : Nat)  (v1 : Int32) : Option (Int32) := B_X5_turnsOf_0 w_t f v1
set_option maxHeartbeats 4000000 in
set_option maxRecDepth 100000 in
theorem c_X5_turnsOf (l : Launch) (D : va_G) (cy : Nat → ClassId) (sz : Nat) (q_t : Nat) (q_t_kind : Nat) (q_t_grief : Nat) (q_t_bears : Nat) (q_t_rota : Nat) (w_t : s_W) (v1 : Int32) {f : Nat} {res : Int32} (h : M_X5_turnsOf w_t f v1 = some res) : ct_i l yX5_turnsOf (.code yX5_turnsOf cX5_turnsOf 4 ((some .int)) :: wg_L) rm_X5_turnsOf D cy sz (wc_X5_turnsOf cy q_t q_t_kind q_t_grief q_t_bears q_t_rota w_t) [.ref q_t, .int v1] (fun r (_ : Unit) => r = res) (fun (u : Unit) => wc_X5_turnsOf cy q_t q_t_kind q_t_grief q_t_bears q_t_rota w_t) := by
  refine Met.ofW (cc := cX5_turnsOf) (maxL := 4) (ret := (some .int)) (by decide) rfl ?_
  intro p e s m args below meth c s₁ B hml hv
  obtain ⟨rfl, hsz, hP, hK, hD0⟩ := hv
  subst hsz
  have hD := hD0.self (sz := s.heap.size)
  have hl := lv_entry ([.ref q_t, .int v1]) (n := 4) (Nat.le_of_ble_eq_true rfl)
  rw [lg_entry_eq]
  have C0 : cx_C cX5_turnsOf ((some .int)) 4 RX5 (.code yX5_turnsOf cX5_turnsOf 4 ((some .int)) :: wg_L) p s m [.ref q_t, .int v1].toArray meth c D cy (va_A (wc_X5_turnsOf cy q_t q_t_kind q_t_grief q_t_bears q_t_rota w_t) s.heap.size) := ⟨B.exec, B.bytes, B.returns, hml, findClass_of_methodNamed B.named, atoms_spec (ws := .code yX5_turnsOf cX5_turnsOf 4 ((some .int)) :: wg_L) B.pre, hK, B.notSynchronized, fun q h => Or.inr h⟩
  exact b_X5_turnsOf_0 C0 h hP hD va_S.rf (lv_sub hl [0, 1] rfl)
/-! ### BarrowGrief$World.sum([II)I -/
abbrev wc_X5_sum (cy : Nat → ClassId) (q_a0 : Nat) (n_a0 : Nat) (a0 : Nat → Int32) : va_W := [(q_a0, .inl (cy 1, n_a0, .inl a0))]
abbrev rm_X5_sum : Room := { frames := 0, cells := 0, slots := 0, locals := 0 }
abbrev qq_X5_sum (below : List Frame) (args : Array Value) (s : State) (D : va_G) (cy : Nat → ClassId) (A : Nat → Prop) (q_a0 : Nat) (n_a0 : Nat) (a0 : Nat → Int32) (res : Int32) : State → Prop := MQ below (va_Qi (fun r (_ : Unit) => r = res) (fun u t => st_B D cy A ((fun (u : Unit) => wc_X5_sum cy q_a0 n_a0 a0) u) t) A) args s 0 0 A
def B_X5_sum_4 (k4 : Int32 → Int32 → Int32 → Option (Int32)) (n_a0 : Nat) (a0 : Nat → Int32) (f : Nat)  (v1 : Int32) (v2 : Int32) (v3 : Int32) : Option (Int32) := if v1 ≤ v3 then (some v2) else (gi_n v3 n_a0 (nm_v (v2 + (a0 v3.toNatClampNeg)) (fun v2_14 => k4 v1 v2_14 (v3 + 1))))
set_option maxHeartbeats 4000000 in
set_option maxRecDepth 100000 in
theorem b_X5_sum_4 {p : Program} {l : Launch} {e : Env} {s : State} {m : MethodId} {args : Array Value} {below : List Frame} {meth : Method} {c : Code} {D : va_G} {cy : Nat → ClassId} {A : Nat → Prop} {q_a0 : Nat} {n_a0 : Nat} {a0 : Nat → Int32} {res : Int32} {k4 : Int32 → Int32 → Int32 → Option (Int32)} {f : Nat}  {v1 : Int32} {v2 : Int32} {v3 : Int32} (C0 : cx_C cX5_sum ((some .int)) 4 RX5 (.code yX5_sum cX5_sum 4 ((some .int)) :: wg_L) p s m args meth c D cy A) (hk4 : ∀  (v1 : Int32) (v2 : Int32) (v3 : Int32), k4 v1 v2 v3 = some res → ∀ (H : Heap) (locs : List Loc) (ls : Array Slot), va_P D vwCl (wc_X5_sum cy q_a0 n_a0 a0) H → va_D A (wc_X5_sum cy q_a0 n_a0 a0) → va_S A s.heap H locs → lv_has ls 4 [(0, .ref q_a0), (1, .int v1), (2, .int v2), (3, .int v3)] → W p l e rm_X5_sum s m args below meth c H locs 0 0 (qq_X5_sum below args s D cy A q_a0 n_a0 a0 res) (F0 m 4 ls [])) (h : B_X5_sum_4 k4 n_a0 a0 f v1 v2 v3 = some res) {H : Heap} {locs : List Loc} {ls : Array Slot} (hP : va_P D vwCl (wc_X5_sum cy q_a0 n_a0 a0) H) (hD : va_D A (wc_X5_sum cy q_a0 n_a0 a0)) (hS : va_S A s.heap H locs) (hl : lv_has ls 4 [(0, .ref q_a0), (1, .int v1), (2, .int v2), (3, .int v3)]) : W p l e rm_X5_sum s m args below meth c H locs 0 0 (qq_X5_sum below args s D cy A q_a0 n_a0 a0 res) (F0 m 4 ls []) := by
  obtain ⟨hx, hb, hr, hml, hown, hts, hK, hlocks, hA⟩ := id C0
  unfold B_X5_sum_4 at h
  refine lv_iload_n hx hb dX5_sum_4 rfl (lv_at hl 3 rfl) ?_
  refine lv_iload_n hx hb dX5_sum_5 rfl (lv_at hl 1 rfl) ?_
  refine lv_icmp_ge (tgt := 21) hx hb dX5_sum_6 (by decide) (fun c6 => ?_) (fun c6 => ?_)
  · replace h := it_p c6 h
    refine lv_iload_n hx hb dX5_sum_21 rfl (lv_at hl 2 rfl) ?_
    obtain rfl := Option.some.inj h
    exact W.iret (v := v2) hx hb hr (fun tt ht hW => ⟨⟨v2, (), rfl, rfl, by rw [ht]; exact hP, kk_warm hW hK, hD⟩, hS.F ht⟩) hS.2.2 dX5_sum_22
  · replace h := it_n c6 h
    refine lv_iload_n hx hb dX5_sum_9 rfl (lv_at hl 2 rfl) ?_
    refine lv_aload_n hx hb dX5_sum_10 rfl (lv_at hl 0 rfl) ?_
    refine lv_iload_n hx hb dX5_sum_11 rfl (lv_at hl 3 rfl) ?_
    obtain ⟨hi1, h⟩ := gi_d h
    refine va_iald hx hb hK.1 hP 0 1 rfl rfl hi1 dX5_sum_12 ?_
    refine lv_iadd hx hb dX5_sum_13 ?_
    refine lv_topi (fun v2_14 ev2_14 => ?_)
    replace h := nm_d ev2_14 h
    refine lv_istore_n (lv' := [(2, .int v2_14), (0, .ref q_a0), (1, .int v1), (3, .int v3)]) hx hb dX5_sum_14 rfl hl (by decide) rfl (fun ls hl => ?_)
    refine lv_iinc (v := (v3 + 1)) (lv' := [(3, .int (v3 + 1)), (2, .int v2_14), (0, .ref q_a0), (1, .int v1)]) hx hb dX5_sum_15 hl (k := 3) rfl (by rfl) (by decide) rfl (fun ls hl => ?_)
    refine lv_goto (tgt := 4) hx hb dX5_sum_18 (by decide) ?_
    exact hk4 _ _ _ h _ _ _ hP hD hS (lv_sub hl [2, 3, 1, 0] rfl)
def M_X5_sum_4  (n_a0 : Nat) (a0 : Nat → Int32) : Nat → Int32 → Int32 → Int32 → Option (Int32)
  | 0, _, _, _ => none
  | f + 1, v1, v2, v3 => B_X5_sum_4 (M_X5_sum_4 n_a0 a0 f) n_a0 a0 f v1 v2 v3
theorem t_X5_sum_4 {p : Program} {l : Launch} {e : Env} {s : State} {m : MethodId} {args : Array Value} {below : List Frame} {meth : Method} {c : Code} {D : va_G} {cy : Nat → ClassId} {A : Nat → Prop} {q_a0 : Nat} {n_a0 : Nat} {a0 : Nat → Int32} {res : Int32}  (C0 : cx_C cX5_sum ((some .int)) 4 RX5 (.code yX5_sum cX5_sum 4 ((some .int)) :: wg_L) p s m args meth c D cy A)  : ∀ (f : Nat)  (v1 : Int32) (v2 : Int32) (v3 : Int32), M_X5_sum_4 n_a0 a0 f v1 v2 v3 = some res → ∀ (H : Heap) (locs : List Loc) (ls : Array Slot), va_P D vwCl (wc_X5_sum cy q_a0 n_a0 a0) H → va_D A (wc_X5_sum cy q_a0 n_a0 a0) → va_S A s.heap H locs → lv_has ls 4 [(0, .ref q_a0), (1, .int v1), (2, .int v2), (3, .int v3)] → W p l e rm_X5_sum s m args below meth c H locs 0 0 (qq_X5_sum below args s D cy A q_a0 n_a0 a0 res) (F0 m 4 ls []) := by
  intro f
  induction f with
  | zero =>
    intro _ _ _ h
    exact absurd (show (none : Option (Int32)) = some res from h) (fun q => by cases q)
  | succ f ih =>
    intro v1 v2 v3 h H locs ls hP hD hS hl
    have h : B_X5_sum_4 (M_X5_sum_4 n_a0 a0 f) n_a0 a0 f v1 v2 v3 = some res := h
    exact b_X5_sum_4 C0 ih h hP hD hS hl
def B_X5_sum_0  (n_a0 : Nat) (a0 : Nat → Int32) (f : Nat)  (v1 : Int32) : Option (Int32) := M_X5_sum_4 n_a0 a0 f v1 0 0
set_option maxHeartbeats 4000000 in
set_option maxRecDepth 100000 in
theorem b_X5_sum_0 {p : Program} {l : Launch} {e : Env} {s : State} {m : MethodId} {args : Array Value} {below : List Frame} {meth : Method} {c : Code} {D : va_G} {cy : Nat → ClassId} {A : Nat → Prop} {q_a0 : Nat} {n_a0 : Nat} {a0 : Nat → Int32} {res : Int32}  {f : Nat}  {v1 : Int32} (C0 : cx_C cX5_sum ((some .int)) 4 RX5 (.code yX5_sum cX5_sum 4 ((some .int)) :: wg_L) p s m args meth c D cy A)  (h : B_X5_sum_0 n_a0 a0 f v1 = some res) {H : Heap} {locs : List Loc} {ls : Array Slot} (hP : va_P D vwCl (wc_X5_sum cy q_a0 n_a0 a0) H) (hD : va_D A (wc_X5_sum cy q_a0 n_a0 a0)) (hS : va_S A s.heap H locs) (hl : lv_has ls 4 [(0, .ref q_a0), (1, .int v1)]) : W p l e rm_X5_sum s m args below meth c H locs 0 0 (qq_X5_sum below args s D cy A q_a0 n_a0 a0 res) (F0 m 0 ls []) := by
  obtain ⟨hx, hb, hr, hml, hown, hts, hK, hlocks, hA⟩ := id C0
  unfold B_X5_sum_0 at h
  refine lv_iconst (v := 0) hx hb dX5_sum_0 (by decide) ?_
  refine lv_istore_n (lv' := [(2, .int 0), (0, .ref q_a0), (1, .int v1)]) hx hb dX5_sum_1 rfl hl (by decide) rfl (fun ls hl => ?_)
  refine lv_iconst (v := 0) hx hb dX5_sum_2 (by decide) ?_
  refine lv_istore_n (lv' := [(3, .int 0), (2, .int 0), (0, .ref q_a0), (1, .int v1)]) hx hb dX5_sum_3 rfl hl (by decide) rfl (fun ls hl => ?_)
  exact t_X5_sum_4 C0 _ _ _ _ h _ _ _ hP hD hS (lv_sub hl [2, 3, 1, 0] rfl)
def M_X5_sum  (n_a0 : Nat) (a0 : Nat → Int32) (f : Nat)  (v1 : Int32) : Option (Int32) := B_X5_sum_0 n_a0 a0 f v1
set_option maxHeartbeats 4000000 in
set_option maxRecDepth 100000 in
theorem c_X5_sum (l : Launch) (D : va_G) (cy : Nat → ClassId) (sz : Nat) (q_a0 : Nat) (n_a0 : Nat) (a0 : Nat → Int32) (v1 : Int32) {f : Nat} {res : Int32} (h : M_X5_sum n_a0 a0 f v1 = some res) : ct_i l yX5_sum (.code yX5_sum cX5_sum 4 ((some .int)) :: wg_L) rm_X5_sum D cy sz (wc_X5_sum cy q_a0 n_a0 a0) [.ref q_a0, .int v1] (fun r (_ : Unit) => r = res) (fun (u : Unit) => wc_X5_sum cy q_a0 n_a0 a0) := by
  refine Met.ofW (cc := cX5_sum) (maxL := 4) (ret := (some .int)) (by decide) rfl ?_
  intro p e s m args below meth c s₁ B hml hv
  obtain ⟨rfl, hsz, hP, hK, hD0⟩ := hv
  subst hsz
  have hD := hD0.self (sz := s.heap.size)
  have hl := lv_entry ([.ref q_a0, .int v1]) (n := 4) (Nat.le_of_ble_eq_true rfl)
  rw [lg_entry_eq]
  have C0 : cx_C cX5_sum ((some .int)) 4 RX5 (.code yX5_sum cX5_sum 4 ((some .int)) :: wg_L) p s m [.ref q_a0, .int v1].toArray meth c D cy (va_A (wc_X5_sum cy q_a0 n_a0 a0) s.heap.size) := ⟨B.exec, B.bytes, B.returns, hml, findClass_of_methodNamed B.named, atoms_spec (ws := .code yX5_sum cX5_sum 4 ((some .int)) :: wg_L) B.pre, hK, B.notSynchronized, fun q h => Or.inr h⟩
  exact b_X5_sum_0 C0 h hP hD va_S.rf (lv_sub hl [0, 1] rfl)
/-! ### BarrowGrief$World.all()I -/
abbrev wc_X5_all (cy : Nat → ClassId) (q_t q_t_kind q_t_grief q_t_bears q_t_rota : Nat) (w_t : s_W) : va_W := [(q_t, .inr (5, [.ref q_t_kind, .ref q_t_grief, .ref q_t_bears, .ref q_t_rota, .int w_t.1, .int w_t.2.1, .int w_t.2.2.1, .int w_t.2.2.2.1, .int w_t.2.2.2.2.1, .int w_t.2.2.2.2.2.1, .int w_t.2.2.2.2.2.2.1])), (q_t_kind, .inl (cy 1, 5, .inl w_t.2.2.2.2.2.2.2.1)), (q_t_grief, .inl (cy 1, 5, .inl w_t.2.2.2.2.2.2.2.2.1)), (q_t_bears, .inl (cy 1, 5, .inl w_t.2.2.2.2.2.2.2.2.2.1)), (q_t_rota, .inl (cy 1, 8, .inl w_t.2.2.2.2.2.2.2.2.2.2))]
abbrev rm_X5_all : Room := { frames := 1, cells := 0, slots := 0, locals := 23 }
abbrev qq_X5_all (below : List Frame) (args : Array Value) (s : State) (D : va_G) (cy : Nat → ClassId) (A : Nat → Prop) (q_t : Nat) (q_t_kind : Nat) (q_t_grief : Nat) (q_t_bears : Nat) (q_t_rota : Nat) (w_t : s_W) (res : Int32) : State → Prop := MQ below (va_Qi (fun r (_ : Unit) => r = res) (fun u t => st_B D cy A ((fun (u : Unit) => wc_X5_all cy q_t q_t_kind q_t_grief q_t_bears q_t_rota w_t) u) t) A) args s 0 0 A
def B_X5_all_0  (w_t : s_W) (f : Nat)   : Option (Int32) := (M_X5_sum 5 w_t.2.2.2.2.2.2.2.2.1 f w_t.1).bind (fun u8 => some (u8 + w_t.2.2.2.1))
set_option maxHeartbeats 4000000 in
set_option maxRecDepth 100000 in
theorem b_X5_all_0 {p : Program} {l : Launch} {e : Env} {s : State} {m : MethodId} {args : Array Value} {below : List Frame} {meth : Method} {c : Code} {D : va_G} {cy : Nat → ClassId} {A : Nat → Prop} {q_t : Nat} {q_t_kind : Nat} {q_t_grief : Nat} {q_t_bears : Nat} {q_t_rota : Nat} {w_t : s_W} {res : Int32}  {f : Nat}   (C0 : cx_C cX5_all ((some .int)) 1 RX5 (.code yX5_all cX5_all 1 ((some .int)) :: wg_L) p s m args meth c D cy A)  (h : B_X5_all_0 w_t f = some res) {H : Heap} {locs : List Loc} {ls : Array Slot} (hP : va_P D vwCl (wc_X5_all cy q_t q_t_kind q_t_grief q_t_bears q_t_rota w_t) H) (hD : va_D A (wc_X5_all cy q_t q_t_kind q_t_grief q_t_bears q_t_rota w_t)) (hS : va_S A s.heap H locs) (hl : lv_has ls 1 [(0, .ref q_t)]) : W p l e rm_X5_all s m args below meth c H locs 0 0 (qq_X5_all below args s D cy A q_t q_t_kind q_t_grief q_t_bears q_t_rota w_t res) (F0 m 0 ls []) := by
  obtain ⟨hx, hb, hr, hml, hown, hts, hK, hlocks, hA⟩ := id C0
  unfold B_X5_all_0 at h
  refine lv_aload_n hx hb dX5_all_0 rfl (lv_at hl 0 rfl) ?_
  refine va_get (D := D) (ci := 5) (v := .ref q_t_grief) (C := RX5) (T := TX5) (N := 11) hx hb hts (fun w hw => List.mem_cons_of_mem _ (uw_X5 w hw)) hown hK.1 hP 0 rfl rfl 1 (by decide) (hts _ (List.mem_cons_of_mem _ k_33)) (fun _ h9 => h9) rfl dX5_all_1 ?_
  refine lv_aload_n hx hb dX5_all_4 rfl (lv_at hl 0 rfl) ?_
  refine va_get (D := D) (ci := 5) (v := .int w_t.1) (C := RX5) (T := TX5) (N := 11) hx hb hts (fun w hw => List.mem_cons_of_mem _ (uw_X5 w hw)) hown hK.1 hP 0 rfl rfl 4 (by decide) (hts _ (List.mem_cons_of_mem _ k_41)) (fun _ h9 => h9) rfl dX5_all_5 ?_
  obtain ⟨u8, hc8, h⟩ := bd_d h
  have hPc := hP.sub (ws' := wc_X5_sum cy q_t_grief 5 w_t.2.2.2.2.2.2.2.2.1) [2] rfl
  have hDc := hD.sub (ws' := wc_X5_sum cy q_t_grief 5 w_t.2.2.2.2.2.2.2.2.1) [2] (by decide) rfl
  refine cl_i (fun (u : Unit) => wc_X5_all cy q_t q_t_kind q_t_grief q_t_bears q_t_rota w_t) (va_runS (As := [.ref q_t_grief, .int w_t.1]) (rest := []) ⟨hx, hb, hml, hown, hts⟩ (c_X5_sum l D cy H.size q_t_grief 5 w_t.2.2.2.2.2.2.2.2.1 w_t.1 hc8) ⟨callB_of 2 hts (wg_in k_398) rfl rfl rfl (hts _ (List.mem_cons_of_mem _ k_2)) (hts _ (List.mem_cons_of_mem _ k_396)) (by decide +kernel) ⟨by decide, by decide⟩, (hts _ (List.mem_cons_of_mem _ k_397))⟩ ⟨st_blind, fun U hU hW => st_pre hK hPc hDc hU hW⟩ rfl rfl hl.1 rfl (lv_room (Nat.le_of_ble_eq_true rfl)) dX5_all_8 ⟨by decide, by decide⟩) hP hD hS hA [2] [0, 1, 3, 4] [0, 1, 4, 2, 3] rfl rfl (by decide) (by decide) (by decide) (fun _ => rfl) (fun r u H locs hw hP hD hS => ?_)
  obtain rfl := hw.symm
  refine lv_aload_n hx hb dX5_all_11 rfl (lv_at hl 0 rfl) ?_
  refine va_get (D := D) (ci := 5) (v := .int w_t.2.2.2.1) (C := RX5) (T := TX5) (N := 11) hx hb hts (fun w hw => List.mem_cons_of_mem _ (uw_X5 w hw)) hown hK.1 hP 0 rfl rfl 7 (by decide) (hts _ (List.mem_cons_of_mem _ k_50)) (fun _ h9 => h9) rfl dX5_all_12 ?_
  refine lv_iadd hx hb dX5_all_15 ?_
  obtain rfl := Option.some.inj h
  exact W.iret (v := (u8 + w_t.2.2.2.1)) hx hb hr (fun tt ht hW => ⟨⟨(u8 + w_t.2.2.2.1), (), rfl, rfl, by rw [ht]; exact hP, kk_warm hW hK, hD⟩, hS.F ht⟩) hS.2.2 dX5_all_16
def M_X5_all  (w_t : s_W) (f : Nat)   : Option (Int32) := B_X5_all_0 w_t f
set_option maxHeartbeats 4000000 in
set_option maxRecDepth 100000 in
theorem c_X5_all (l : Launch) (D : va_G) (cy : Nat → ClassId) (sz : Nat) (q_t : Nat) (q_t_kind : Nat) (q_t_grief : Nat) (q_t_bears : Nat) (q_t_rota : Nat) (w_t : s_W)  {f : Nat} {res : Int32} (h : M_X5_all w_t f = some res) : ct_i l yX5_all (.code yX5_all cX5_all 1 ((some .int)) :: wg_L) rm_X5_all D cy sz (wc_X5_all cy q_t q_t_kind q_t_grief q_t_bears q_t_rota w_t) [.ref q_t] (fun r (_ : Unit) => r = res) (fun (u : Unit) => wc_X5_all cy q_t q_t_kind q_t_grief q_t_bears q_t_rota w_t) := by
  refine Met.ofW (cc := cX5_all) (maxL := 1) (ret := (some .int)) (by decide) rfl ?_
  intro p e s m args below meth c s₁ B hml hv
  obtain ⟨rfl, hsz, hP, hK, hD0⟩ := hv
  subst hsz
  have hD := hD0.self (sz := s.heap.size)
  have hl := lv_entry ([.ref q_t]) (n := 1) (Nat.le_of_ble_eq_true rfl)
  rw [lg_entry_eq]
  have C0 : cx_C cX5_all ((some .int)) 1 RX5 (.code yX5_all cX5_all 1 ((some .int)) :: wg_L) p s m [.ref q_t].toArray meth c D cy (va_A (wc_X5_all cy q_t q_t_kind q_t_grief q_t_bears q_t_rota w_t) s.heap.size) := ⟨B.exec, B.bytes, B.returns, hml, findClass_of_methodNamed B.named, atoms_spec (ws := .code yX5_all cX5_all 1 ((some .int)) :: wg_L) B.pre, hK, B.notSynchronized, fun q h => Or.inr h⟩
  exact b_X5_all_0 C0 h hP hD va_S.rf (lv_sub hl [0] rfl)
/-! ### BarrowGrief$World.pass(I)V -/
abbrev wc_X5_pass (cy : Nat → ClassId) (q_t q_t_kind q_t_grief q_t_bears q_t_rota : Nat) (w_t : s_W) : va_W := [(q_t, .inr (5, [.ref q_t_kind, .ref q_t_grief, .ref q_t_bears, .ref q_t_rota, .int w_t.1, .int w_t.2.1, .int w_t.2.2.1, .int w_t.2.2.2.1, .int w_t.2.2.2.2.1, .int w_t.2.2.2.2.2.1, .int w_t.2.2.2.2.2.2.1])), (q_t_kind, .inl (cy 1, 5, .inl w_t.2.2.2.2.2.2.2.1)), (q_t_grief, .inl (cy 1, 5, .inl w_t.2.2.2.2.2.2.2.2.1)), (q_t_bears, .inl (cy 1, 5, .inl w_t.2.2.2.2.2.2.2.2.2.1)), (q_t_rota, .inl (cy 1, 8, .inl w_t.2.2.2.2.2.2.2.2.2.2))]
abbrev rm_X5_pass : Room := { frames := 5, cells := 0, slots := 0, locals := 110 }
abbrev qq_X5_pass (below : List Frame) (args : Array Value) (s : State) (D : va_G) (cy : Nat → ClassId) (A : Nat → Prop) (q_t : Nat) (q_t_kind : Nat) (q_t_grief : Nat) (q_t_bears : Nat) (q_t_rota : Nat) (res : s_W) : State → Prop := MQ below (va_Qv (fun (u : s_W) => u = res) (fun u t => st_B D cy A ((fun (u : s_W) => wc_X5_pass cy q_t q_t_kind q_t_grief q_t_bears q_t_rota u) u) t) A) args s 0 0 A
def B_X5_pass_12 (k12 : s_W → Int32 → Int32 → Option (s_W))  (f : Nat) (w_t : s_W) (v1 : Int32) (v2 : Int32) : Option (s_W) := if v1 ≤ v2 then (some w_t) else ((M_X5_passOne f w_t).bind (fun u18 => k12 u18 v1 (v2 + 1)))
set_option maxHeartbeats 4000000 in
set_option maxRecDepth 100000 in
theorem b_X5_pass_12 {p : Program} {l : Launch} {e : Env} {s : State} {m : MethodId} {args : Array Value} {below : List Frame} {meth : Method} {c : Code} {D : va_G} {cy : Nat → ClassId} {A : Nat → Prop} {q_t : Nat} {q_t_kind : Nat} {q_t_grief : Nat} {q_t_bears : Nat} {q_t_rota : Nat} {res : s_W} {k12 : s_W → Int32 → Int32 → Option (s_W)} {f : Nat} {w_t : s_W} {v1 : Int32} {v2 : Int32} (C0 : cx_C cX5_pass (none) 3 RX5 (.code yX5_pass cX5_pass 3 (none) :: wg_L) p s m args meth c D cy A) (hk12 : ∀ (w_t : s_W) (v1 : Int32) (v2 : Int32), k12 w_t v1 v2 = some res → ∀ (H : Heap) (locs : List Loc) (ls : Array Slot), va_P D vwCl (wc_X5_pass cy q_t q_t_kind q_t_grief q_t_bears q_t_rota w_t) H → va_D A (wc_X5_pass cy q_t q_t_kind q_t_grief q_t_bears q_t_rota w_t) → va_S A s.heap H locs → lv_has ls 3 [(0, .ref q_t), (1, .int v1), (2, .int v2)] → W p l e rm_X5_pass s m args below meth c H locs 0 0 (qq_X5_pass below args s D cy A q_t q_t_kind q_t_grief q_t_bears q_t_rota res) (F0 m 12 ls [])) (h : B_X5_pass_12 k12 f w_t v1 v2 = some res) {H : Heap} {locs : List Loc} {ls : Array Slot} (hP : va_P D vwCl (wc_X5_pass cy q_t q_t_kind q_t_grief q_t_bears q_t_rota w_t) H) (hD : va_D A (wc_X5_pass cy q_t q_t_kind q_t_grief q_t_bears q_t_rota w_t)) (hS : va_S A s.heap H locs) (hl : lv_has ls 3 [(0, .ref q_t), (1, .int v1), (2, .int v2)]) : W p l e rm_X5_pass s m args below meth c H locs 0 0 (qq_X5_pass below args s D cy A q_t q_t_kind q_t_grief q_t_bears q_t_rota res) (F0 m 12 ls []) := by
  obtain ⟨hx, hb, hr, hml, hown, hts, hK, hlocks, hA⟩ := id C0
  unfold B_X5_pass_12 at h
  refine lv_iload_n hx hb dX5_pass_12 rfl (lv_at hl 2 rfl) ?_
  refine lv_iload_n hx hb dX5_pass_13 rfl (lv_at hl 1 rfl) ?_
  refine lv_icmp_ge (tgt := 27) hx hb dX5_pass_14 (by decide) (fun c14 => ?_) (fun c14 => ?_)
  · replace h := it_p c14 h
    obtain rfl := Option.some.inj h
    exact W.vret hx hb hr (fun tt ht hW => ⟨⟨w_t, rfl, rfl, by rw [ht]; exact hP, kk_warm hW hK, hD⟩, hS.F ht⟩) hS.2.2 dX5_pass_27
  · replace h := it_n c14 h
    refine lv_aload_n hx hb dX5_pass_17 rfl (lv_at hl 0 rfl) ?_
    obtain ⟨u18, hc18, h⟩ := bd_d h
    have hPc := hP.sub (ws' := wc_X5_passOne cy q_t q_t_kind q_t_grief q_t_bears q_t_rota w_t) [0, 1, 2, 3, 4] rfl
    have hDc := hD.sub (ws' := wc_X5_passOne cy q_t q_t_kind q_t_grief q_t_bears q_t_rota w_t) [0, 1, 2, 3, 4] (by decide) rfl
    refine cl_v (fun (u : s_W) => wc_X5_pass cy q_t q_t_kind q_t_grief q_t_bears q_t_rota u) (va_runV (As := []) (rest := []) (C := RX5) ⟨hx, hb, hml, hown, hts⟩ (c_X5_passOne l D cy H.size q_t q_t_kind q_t_grief q_t_bears q_t_rota w_t hc18) ⟨callB_of 0 hts (wg_in k_463) rfl rfl rfl (hts _ (List.mem_cons_of_mem _ k_2)) (hts _ (List.mem_cons_of_mem _ k_460)) (by decide +kernel) ⟨by decide, by decide⟩, (hts _ (List.mem_cons_of_mem _ k_461)), (hts _ (List.mem_cons_of_mem _ k_462))⟩ ⟨st_blind, va_recv hK.1 hPc (ci := 5) (q0 := 0) rfl rfl, fun U hU hW => st_pre hK hPc hDc hU hW⟩ rfl rfl hl.1 rfl (lv_room (Nat.le_of_ble_eq_true rfl)) dX5_pass_18 ⟨by decide, by decide⟩) hP hD hS hA [0, 1, 2, 3, 4] [] [0, 1, 2, 3, 4] rfl rfl (by decide) (by decide) (by decide) (fun _ => rfl) (fun u H locs hw hP hD hS => ?_)
    obtain rfl := hw.symm
    have hP : va_P D vwCl (wc_X5_pass cy q_t q_t_kind q_t_grief q_t_bears q_t_rota u18) H := hP
    have hD : va_D A (wc_X5_pass cy q_t q_t_kind q_t_grief q_t_bears q_t_rota u18) := hD
    refine lv_iinc (v := (v2 + 1)) (lv' := [(2, .int (v2 + 1)), (0, .ref q_t), (1, .int v1)]) hx hb dX5_pass_21 hl (k := 2) rfl (by rfl) (by decide) rfl (fun ls hl => ?_)
    refine lv_goto (tgt := 12) hx hb dX5_pass_24 (by decide) ?_
    exact hk12 _ _ _ h _ _ _ hP hD hS (lv_sub hl [1, 2, 0] rfl)
def M_X5_pass_12   : Nat → s_W → Int32 → Int32 → Option (s_W)
  | 0, _, _, _ => none
  | f + 1, w_t, v1, v2 => B_X5_pass_12 (M_X5_pass_12 f) f w_t v1 v2
theorem t_X5_pass_12 {p : Program} {l : Launch} {e : Env} {s : State} {m : MethodId} {args : Array Value} {below : List Frame} {meth : Method} {c : Code} {D : va_G} {cy : Nat → ClassId} {A : Nat → Prop} {q_t : Nat} {q_t_kind : Nat} {q_t_grief : Nat} {q_t_bears : Nat} {q_t_rota : Nat} {res : s_W}  (C0 : cx_C cX5_pass (none) 3 RX5 (.code yX5_pass cX5_pass 3 (none) :: wg_L) p s m args meth c D cy A)  : ∀ (f : Nat) (w_t : s_W) (v1 : Int32) (v2 : Int32), M_X5_pass_12 f w_t v1 v2 = some res → ∀ (H : Heap) (locs : List Loc) (ls : Array Slot), va_P D vwCl (wc_X5_pass cy q_t q_t_kind q_t_grief q_t_bears q_t_rota w_t) H → va_D A (wc_X5_pass cy q_t q_t_kind q_t_grief q_t_bears q_t_rota w_t) → va_S A s.heap H locs → lv_has ls 3 [(0, .ref q_t), (1, .int v1), (2, .int v2)] → W p l e rm_X5_pass s m args below meth c H locs 0 0 (qq_X5_pass below args s D cy A q_t q_t_kind q_t_grief q_t_bears q_t_rota res) (F0 m 12 ls []) := by
  intro f
  induction f with
  | zero =>
    intro _ _ _ h
    exact absurd (show (none : Option (s_W)) = some res from h) (fun q => by cases q)
  | succ f ih =>
    intro w_t v1 v2 h H locs ls hP hD hS hl
    have h : B_X5_pass_12 (M_X5_pass_12 f) f w_t v1 v2 = some res := h
    exact b_X5_pass_12 C0 ih h hP hD hS hl
def B_X5_pass_0   (f : Nat) (w_t : s_W) (v1 : Int32) : Option (s_W) := M_X5_pass_12 f (w_t.1, w_t.2.1, w_t.2.2.1, w_t.2.2.2.1, w_t.2.2.2.2.1, 0, 0, w_t.2.2.2.2.2.2.2.1, w_t.2.2.2.2.2.2.2.2.1, w_t.2.2.2.2.2.2.2.2.2.1, w_t.2.2.2.2.2.2.2.2.2.2) v1 0
set_option maxHeartbeats 4000000 in
set_option maxRecDepth 100000 in
theorem b_X5_pass_0 {p : Program} {l : Launch} {e : Env} {s : State} {m : MethodId} {args : Array Value} {below : List Frame} {meth : Method} {c : Code} {D : va_G} {cy : Nat → ClassId} {A : Nat → Prop} {q_t : Nat} {q_t_kind : Nat} {q_t_grief : Nat} {q_t_bears : Nat} {q_t_rota : Nat} {res : s_W}  {f : Nat} {w_t : s_W} {v1 : Int32} (C0 : cx_C cX5_pass (none) 3 RX5 (.code yX5_pass cX5_pass 3 (none) :: wg_L) p s m args meth c D cy A)  (h : B_X5_pass_0 f w_t v1 = some res) {H : Heap} {locs : List Loc} {ls : Array Slot} (hP : va_P D vwCl (wc_X5_pass cy q_t q_t_kind q_t_grief q_t_bears q_t_rota w_t) H) (hD : va_D A (wc_X5_pass cy q_t q_t_kind q_t_grief q_t_bears q_t_rota w_t)) (hS : va_S A s.heap H locs) (hl : lv_has ls 3 [(0, .ref q_t), (1, .int v1)]) : W p l e rm_X5_pass s m args below meth c H locs 0 0 (qq_X5_pass below args s D cy A q_t q_t_kind q_t_grief q_t_bears q_t_rota res) (F0 m 0 ls []) := by
  obtain ⟨hx, hb, hr, hml, hown, hts, hK, hlocks, hA⟩ := id C0
  unfold B_X5_pass_0 at h
  refine lv_aload_n hx hb dX5_pass_0 rfl (lv_at hl 0 rfl) ?_
  refine lv_iconst (v := 0) hx hb dX5_pass_1 (by decide) ?_
  refine va_put (D := D) (ci := 5) (v := .int 0) (ty := .int) (C := RX5) (T := TX5) (N := 11) hx hb hts (fun w hw => List.mem_cons_of_mem _ (uw_X5 w hw)) tyX5 tyX5_ok nmX5 hown hK.1 hP hD hS 0 rfl rfl 9 (by decide) (hts _ (List.mem_cons_of_mem _ k_55)) (fun _ h9 => h9) rfl (by decide +kernel) rfl rfl (Nat.le_of_ble_eq_true rfl) dX5_pass_2 (fun H locs hP hD hS => ?_)
  have hP : va_P D vwCl (wc_X5_pass cy q_t q_t_kind q_t_grief q_t_bears q_t_rota (w_t.1, w_t.2.1, w_t.2.2.1, w_t.2.2.2.1, w_t.2.2.2.2.1, 0, w_t.2.2.2.2.2.2.1, w_t.2.2.2.2.2.2.2.1, w_t.2.2.2.2.2.2.2.2.1, w_t.2.2.2.2.2.2.2.2.2.1, w_t.2.2.2.2.2.2.2.2.2.2)) H := hP
  have hD : va_D A (wc_X5_pass cy q_t q_t_kind q_t_grief q_t_bears q_t_rota (w_t.1, w_t.2.1, w_t.2.2.1, w_t.2.2.2.1, w_t.2.2.2.2.1, 0, w_t.2.2.2.2.2.2.1, w_t.2.2.2.2.2.2.2.1, w_t.2.2.2.2.2.2.2.2.1, w_t.2.2.2.2.2.2.2.2.2.1, w_t.2.2.2.2.2.2.2.2.2.2)) := hD
  refine lv_aload_n hx hb dX5_pass_5 rfl (lv_at hl 0 rfl) ?_
  refine lv_iconst (v := 0) hx hb dX5_pass_6 (by decide) ?_
  refine va_put (D := D) (ci := 5) (v := .int 0) (ty := .int) (C := RX5) (T := TX5) (N := 11) hx hb hts (fun w hw => List.mem_cons_of_mem _ (uw_X5 w hw)) tyX5 tyX5_ok nmX5 hown hK.1 hP hD hS 0 rfl rfl 10 (by decide) (hts _ (List.mem_cons_of_mem _ k_57)) (fun _ h9 => h9) rfl (by decide +kernel) rfl rfl (Nat.le_of_ble_eq_true rfl) dX5_pass_7 (fun H locs hP hD hS => ?_)
  have hP : va_P D vwCl (wc_X5_pass cy q_t q_t_kind q_t_grief q_t_bears q_t_rota (w_t.1, w_t.2.1, w_t.2.2.1, w_t.2.2.2.1, w_t.2.2.2.2.1, 0, 0, w_t.2.2.2.2.2.2.2.1, w_t.2.2.2.2.2.2.2.2.1, w_t.2.2.2.2.2.2.2.2.2.1, w_t.2.2.2.2.2.2.2.2.2.2)) H := hP
  have hD : va_D A (wc_X5_pass cy q_t q_t_kind q_t_grief q_t_bears q_t_rota (w_t.1, w_t.2.1, w_t.2.2.1, w_t.2.2.2.1, w_t.2.2.2.2.1, 0, 0, w_t.2.2.2.2.2.2.2.1, w_t.2.2.2.2.2.2.2.2.1, w_t.2.2.2.2.2.2.2.2.2.1, w_t.2.2.2.2.2.2.2.2.2.2)) := hD
  refine lv_iconst (v := 0) hx hb dX5_pass_10 (by decide) ?_
  refine lv_istore_n (lv' := [(2, .int 0), (0, .ref q_t), (1, .int v1)]) hx hb dX5_pass_11 rfl hl (by decide) rfl (fun ls hl => ?_)
  exact t_X5_pass_12 C0 _ _ _ _ h _ _ _ hP hD hS (lv_sub hl [1, 2, 0] rfl)
def M_X5_pass   (f : Nat) (w_t : s_W) (v1 : Int32) : Option (s_W) := B_X5_pass_0 f w_t v1
set_option maxHeartbeats 4000000 in
set_option maxRecDepth 100000 in
theorem c_X5_pass (l : Launch) (D : va_G) (cy : Nat → ClassId) (sz : Nat) (q_t : Nat) (q_t_kind : Nat) (q_t_grief : Nat) (q_t_bears : Nat) (q_t_rota : Nat) (w_t : s_W) (v1 : Int32) {f : Nat} {res : s_W} (h : M_X5_pass f w_t v1 = some res) : ct_v l yX5_pass (.code yX5_pass cX5_pass 3 (none) :: wg_L) rm_X5_pass D cy sz (wc_X5_pass cy q_t q_t_kind q_t_grief q_t_bears q_t_rota w_t) [.ref q_t, .int v1] (fun (u : s_W) => u = res) (fun (u : s_W) => wc_X5_pass cy q_t q_t_kind q_t_grief q_t_bears q_t_rota u) := by
  refine Met.ofW (cc := cX5_pass) (maxL := 3) (ret := none) (by decide) rfl ?_
  intro p e s m args below meth c s₁ B hml hv
  obtain ⟨rfl, hsz, hP, hK, hD0⟩ := hv
  subst hsz
  have hD := hD0.self (sz := s.heap.size)
  have hl := lv_entry ([.ref q_t, .int v1]) (n := 3) (Nat.le_of_ble_eq_true rfl)
  rw [lg_entry_eq]
  have C0 : cx_C cX5_pass (none) 3 RX5 (.code yX5_pass cX5_pass 3 (none) :: wg_L) p s m [.ref q_t, .int v1].toArray meth c D cy (va_A (wc_X5_pass cy q_t q_t_kind q_t_grief q_t_bears q_t_rota w_t) s.heap.size) := ⟨B.exec, B.bytes, B.returns, hml, findClass_of_methodNamed B.named, atoms_spec (ws := .code yX5_pass cX5_pass 3 (none) :: wg_L) B.pre, hK, B.notSynchronized, fun q h => Or.inr h⟩
  exact b_X5_pass_0 C0 h hP hD va_S.rf (lv_sub hl [0, 1] rfl)
/-! ### BarrowGrief$World.passDry(I)Z -/
abbrev wc_X5_passDry (cy : Nat → ClassId) (q_t q_t_kind q_t_grief q_t_bears q_t_rota : Nat) (w_t : s_W) : va_W := [(q_t, .inr (5, [.ref q_t_kind, .ref q_t_grief, .ref q_t_bears, .ref q_t_rota, .int w_t.1, .int w_t.2.1, .int w_t.2.2.1, .int w_t.2.2.2.1, .int w_t.2.2.2.2.1, .int w_t.2.2.2.2.2.1, .int w_t.2.2.2.2.2.2.1])), (q_t_kind, .inl (cy 1, 5, .inl w_t.2.2.2.2.2.2.2.1)), (q_t_grief, .inl (cy 1, 5, .inl w_t.2.2.2.2.2.2.2.2.1)), (q_t_bears, .inl (cy 1, 5, .inl w_t.2.2.2.2.2.2.2.2.2.1)), (q_t_rota, .inl (cy 1, 8, .inl w_t.2.2.2.2.2.2.2.2.2.2))]
abbrev rm_X5_passDry : Room := { frames := 5, cells := 0, slots := 0, locals := 110 }
abbrev qq_X5_passDry (below : List Frame) (args : Array Value) (s : State) (D : va_G) (cy : Nat → ClassId) (A : Nat → Prop) (q_t : Nat) (q_t_kind : Nat) (q_t_grief : Nat) (q_t_bears : Nat) (q_t_rota : Nat) (res : Int32 × s_W) : State → Prop := MQ below (va_Qi (fun r (u : s_W) => r = res.1 ∧ u = res.2) (fun u t => st_B D cy A ((fun (u : s_W) => wc_X5_passDry cy q_t q_t_kind q_t_grief q_t_bears q_t_rota u) u) t) A) args s 0 0 A
def B_X5_passDry_24   (f : Nat) (w_t : s_W)  : Option (Int32 × s_W) := if w_t.2.2.2.2.2.2.1 = 0 then (some (1, w_t)) else (some (0, w_t))
set_option maxHeartbeats 4000000 in
set_option maxRecDepth 100000 in
theorem b_X5_passDry_24 {p : Program} {l : Launch} {e : Env} {s : State} {m : MethodId} {args : Array Value} {below : List Frame} {meth : Method} {c : Code} {D : va_G} {cy : Nat → ClassId} {A : Nat → Prop} {q_t : Nat} {q_t_kind : Nat} {q_t_grief : Nat} {q_t_bears : Nat} {q_t_rota : Nat} {res : Int32 × s_W}  {f : Nat} {w_t : s_W}  (C0 : cx_C cX5_passDry ((some .boolean)) 3 RX5 (.code yX5_passDry cX5_passDry 3 ((some .boolean)) :: wg_L) p s m args meth c D cy A)  (h : B_X5_passDry_24 f w_t = some res) {H : Heap} {locs : List Loc} {ls : Array Slot} (hP : va_P D vwCl (wc_X5_passDry cy q_t q_t_kind q_t_grief q_t_bears q_t_rota w_t) H) (hD : va_D A (wc_X5_passDry cy q_t q_t_kind q_t_grief q_t_bears q_t_rota w_t)) (hS : va_S A s.heap H locs) (hl : lv_has ls 3 [(0, .ref q_t)]) : W p l e rm_X5_passDry s m args below meth c H locs 0 0 (qq_X5_passDry below args s D cy A q_t q_t_kind q_t_grief q_t_bears q_t_rota res) (F0 m 24 ls []) := by
  obtain ⟨hx, hb, hr, hml, hown, hts, hK, hlocks, hA⟩ := id C0
  unfold B_X5_passDry_24 at h
  refine lv_aload_n hx hb dX5_passDry_24 rfl (lv_at hl 0 rfl) ?_
  refine va_get (D := D) (ci := 5) (v := .int w_t.2.2.2.2.2.2.1) (C := RX5) (T := TX5) (N := 11) hx hb hts (fun w hw => List.mem_cons_of_mem _ (uw_X5 w hw)) hown hK.1 hP 0 rfl rfl 10 (by decide) (hts _ (List.mem_cons_of_mem _ k_57)) (fun _ h9 => h9) rfl dX5_passDry_25 ?_
  refine lv_if_ne (tgt := 35) hx hb dX5_passDry_28 (by decide) (fun c28 => ?_) (fun c28 => ?_)
  · replace h := it_n c28 h
    refine lv_iconst (v := 0) hx hb dX5_passDry_35 (by decide) ?_
    obtain rfl := Option.some.inj h
    exact W.zret (v := 0) hx hb hr (by decide) (fun tt ht hW => ⟨⟨0, w_t, rfl, ⟨rfl, rfl⟩, by rw [ht]; exact hP, kk_warm hW hK, hD⟩, hS.F ht⟩) hS.2.2 dX5_passDry_36
  · replace h := it_p c28 h
    refine lv_iconst (v := 1) hx hb dX5_passDry_31 (by decide) ?_
    refine lv_goto (tgt := 36) hx hb dX5_passDry_32 (by decide) ?_
    obtain rfl := Option.some.inj h
    exact W.zret (v := 1) hx hb hr (by decide) (fun tt ht hW => ⟨⟨1, w_t, rfl, ⟨rfl, rfl⟩, by rw [ht]; exact hP, kk_warm hW hK, hD⟩, hS.F ht⟩) hS.2.2 dX5_passDry_36
def B_X5_passDry_2 (k2 : s_W → Int32 → Int32 → Option (Int32 × s_W))  (f : Nat) (w_t : s_W) (v1 : Int32) (v2 : Int32) : Option (Int32 × s_W) := if v1 ≤ v2 then (B_X5_passDry_24 f w_t) else (if w_t.2.2.2.2.2.2.1 = 0 then ((M_X5_passOne f w_t).bind (fun u15 => k2 u15 v1 (v2 + 1))) else (B_X5_passDry_24 f w_t))
set_option maxHeartbeats 4000000 in
set_option maxRecDepth 100000 in
theorem b_X5_passDry_2 {p : Program} {l : Launch} {e : Env} {s : State} {m : MethodId} {args : Array Value} {below : List Frame} {meth : Method} {c : Code} {D : va_G} {cy : Nat → ClassId} {A : Nat → Prop} {q_t : Nat} {q_t_kind : Nat} {q_t_grief : Nat} {q_t_bears : Nat} {q_t_rota : Nat} {res : Int32 × s_W} {k2 : s_W → Int32 → Int32 → Option (Int32 × s_W)} {f : Nat} {w_t : s_W} {v1 : Int32} {v2 : Int32} (C0 : cx_C cX5_passDry ((some .boolean)) 3 RX5 (.code yX5_passDry cX5_passDry 3 ((some .boolean)) :: wg_L) p s m args meth c D cy A) (hk2 : ∀ (w_t : s_W) (v1 : Int32) (v2 : Int32), k2 w_t v1 v2 = some res → ∀ (H : Heap) (locs : List Loc) (ls : Array Slot), va_P D vwCl (wc_X5_passDry cy q_t q_t_kind q_t_grief q_t_bears q_t_rota w_t) H → va_D A (wc_X5_passDry cy q_t q_t_kind q_t_grief q_t_bears q_t_rota w_t) → va_S A s.heap H locs → lv_has ls 3 [(0, .ref q_t), (1, .int v1), (2, .int v2)] → W p l e rm_X5_passDry s m args below meth c H locs 0 0 (qq_X5_passDry below args s D cy A q_t q_t_kind q_t_grief q_t_bears q_t_rota res) (F0 m 2 ls [])) (h : B_X5_passDry_2 k2 f w_t v1 v2 = some res) {H : Heap} {locs : List Loc} {ls : Array Slot} (hP : va_P D vwCl (wc_X5_passDry cy q_t q_t_kind q_t_grief q_t_bears q_t_rota w_t) H) (hD : va_D A (wc_X5_passDry cy q_t q_t_kind q_t_grief q_t_bears q_t_rota w_t)) (hS : va_S A s.heap H locs) (hl : lv_has ls 3 [(0, .ref q_t), (1, .int v1), (2, .int v2)]) : W p l e rm_X5_passDry s m args below meth c H locs 0 0 (qq_X5_passDry below args s D cy A q_t q_t_kind q_t_grief q_t_bears q_t_rota res) (F0 m 2 ls []) := by
  obtain ⟨hx, hb, hr, hml, hown, hts, hK, hlocks, hA⟩ := id C0
  unfold B_X5_passDry_2 at h
  refine lv_iload_n hx hb dX5_passDry_2 rfl (lv_at hl 2 rfl) ?_
  refine lv_iload_n hx hb dX5_passDry_3 rfl (lv_at hl 1 rfl) ?_
  refine lv_icmp_ge (tgt := 24) hx hb dX5_passDry_4 (by decide) (fun c4 => ?_) (fun c4 => ?_)
  · replace h := it_p c4 h
    exact b_X5_passDry_24 C0 h hP hD hS (lv_sub hl [0] rfl)
  · replace h := it_n c4 h
    refine lv_aload_n hx hb dX5_passDry_7 rfl (lv_at hl 0 rfl) ?_
    refine va_get (D := D) (ci := 5) (v := .int w_t.2.2.2.2.2.2.1) (C := RX5) (T := TX5) (N := 11) hx hb hts (fun w hw => List.mem_cons_of_mem _ (uw_X5 w hw)) hown hK.1 hP 0 rfl rfl 10 (by decide) (hts _ (List.mem_cons_of_mem _ k_57)) (fun _ h9 => h9) rfl dX5_passDry_8 ?_
    refine lv_if_ne (tgt := 24) hx hb dX5_passDry_11 (by decide) (fun c11 => ?_) (fun c11 => ?_)
    · replace h := it_n c11 h
      exact b_X5_passDry_24 C0 h hP hD hS (lv_sub hl [0] rfl)
    · replace h := it_p c11 h
      refine lv_aload_n hx hb dX5_passDry_14 rfl (lv_at hl 0 rfl) ?_
      obtain ⟨u15, hc15, h⟩ := bd_d h
      have hPc := hP.sub (ws' := wc_X5_passOne cy q_t q_t_kind q_t_grief q_t_bears q_t_rota w_t) [0, 1, 2, 3, 4] rfl
      have hDc := hD.sub (ws' := wc_X5_passOne cy q_t q_t_kind q_t_grief q_t_bears q_t_rota w_t) [0, 1, 2, 3, 4] (by decide) rfl
      refine cl_v (fun (u : s_W) => wc_X5_passDry cy q_t q_t_kind q_t_grief q_t_bears q_t_rota u) (va_runV (As := []) (rest := []) (C := RX5) ⟨hx, hb, hml, hown, hts⟩ (c_X5_passOne l D cy H.size q_t q_t_kind q_t_grief q_t_bears q_t_rota w_t hc15) ⟨callB_of 0 hts (wg_in k_463) rfl rfl rfl (hts _ (List.mem_cons_of_mem _ k_2)) (hts _ (List.mem_cons_of_mem _ k_460)) (by decide +kernel) ⟨by decide, by decide⟩, (hts _ (List.mem_cons_of_mem _ k_461)), (hts _ (List.mem_cons_of_mem _ k_462))⟩ ⟨st_blind, va_recv hK.1 hPc (ci := 5) (q0 := 0) rfl rfl, fun U hU hW => st_pre hK hPc hDc hU hW⟩ rfl rfl hl.1 rfl (lv_room (Nat.le_of_ble_eq_true rfl)) dX5_passDry_15 ⟨by decide, by decide⟩) hP hD hS hA [0, 1, 2, 3, 4] [] [0, 1, 2, 3, 4] rfl rfl (by decide) (by decide) (by decide) (fun _ => rfl) (fun u H locs hw hP hD hS => ?_)
      obtain rfl := hw.symm
      have hP : va_P D vwCl (wc_X5_passDry cy q_t q_t_kind q_t_grief q_t_bears q_t_rota u15) H := hP
      have hD : va_D A (wc_X5_passDry cy q_t q_t_kind q_t_grief q_t_bears q_t_rota u15) := hD
      refine lv_iinc (v := (v2 + 1)) (lv' := [(2, .int (v2 + 1)), (0, .ref q_t), (1, .int v1)]) hx hb dX5_passDry_18 hl (k := 2) rfl (by rfl) (by decide) rfl (fun ls hl => ?_)
      refine lv_goto (tgt := 2) hx hb dX5_passDry_21 (by decide) ?_
      exact hk2 _ _ _ h _ _ _ hP hD hS (lv_sub hl [1, 2, 0] rfl)
def M_X5_passDry_2   : Nat → s_W → Int32 → Int32 → Option (Int32 × s_W)
  | 0, _, _, _ => none
  | f + 1, w_t, v1, v2 => B_X5_passDry_2 (M_X5_passDry_2 f) f w_t v1 v2
theorem t_X5_passDry_2 {p : Program} {l : Launch} {e : Env} {s : State} {m : MethodId} {args : Array Value} {below : List Frame} {meth : Method} {c : Code} {D : va_G} {cy : Nat → ClassId} {A : Nat → Prop} {q_t : Nat} {q_t_kind : Nat} {q_t_grief : Nat} {q_t_bears : Nat} {q_t_rota : Nat} {res : Int32 × s_W}  (C0 : cx_C cX5_passDry ((some .boolean)) 3 RX5 (.code yX5_passDry cX5_passDry 3 ((some .boolean)) :: wg_L) p s m args meth c D cy A)  : ∀ (f : Nat) (w_t : s_W) (v1 : Int32) (v2 : Int32), M_X5_passDry_2 f w_t v1 v2 = some res → ∀ (H : Heap) (locs : List Loc) (ls : Array Slot), va_P D vwCl (wc_X5_passDry cy q_t q_t_kind q_t_grief q_t_bears q_t_rota w_t) H → va_D A (wc_X5_passDry cy q_t q_t_kind q_t_grief q_t_bears q_t_rota w_t) → va_S A s.heap H locs → lv_has ls 3 [(0, .ref q_t), (1, .int v1), (2, .int v2)] → W p l e rm_X5_passDry s m args below meth c H locs 0 0 (qq_X5_passDry below args s D cy A q_t q_t_kind q_t_grief q_t_bears q_t_rota res) (F0 m 2 ls []) := by
  intro f
  induction f with
  | zero =>
    intro _ _ _ h
    exact absurd (show (none : Option (Int32 × s_W)) = some res from h) (fun q => by cases q)
  | succ f ih =>
    intro w_t v1 v2 h H locs ls hP hD hS hl
    have h : B_X5_passDry_2 (M_X5_passDry_2 f) f w_t v1 v2 = some res := h
    exact b_X5_passDry_2 C0 ih h hP hD hS hl
def B_X5_passDry_0   (f : Nat) (w_t : s_W) (v1 : Int32) : Option (Int32 × s_W) := M_X5_passDry_2 f w_t v1 0
set_option maxHeartbeats 4000000 in
set_option maxRecDepth 100000 in
theorem b_X5_passDry_0 {p : Program} {l : Launch} {e : Env} {s : State} {m : MethodId} {args : Array Value} {below : List Frame} {meth : Method} {c : Code} {D : va_G} {cy : Nat → ClassId} {A : Nat → Prop} {q_t : Nat} {q_t_kind : Nat} {q_t_grief : Nat} {q_t_bears : Nat} {q_t_rota : Nat} {res : Int32 × s_W}  {f : Nat} {w_t : s_W} {v1 : Int32} (C0 : cx_C cX5_passDry ((some .boolean)) 3 RX5 (.code yX5_passDry cX5_passDry 3 ((some .boolean)) :: wg_L) p s m args meth c D cy A)  (h : B_X5_passDry_0 f w_t v1 = some res) {H : Heap} {locs : List Loc} {ls : Array Slot} (hP : va_P D vwCl (wc_X5_passDry cy q_t q_t_kind q_t_grief q_t_bears q_t_rota w_t) H) (hD : va_D A (wc_X5_passDry cy q_t q_t_kind q_t_grief q_t_bears q_t_rota w_t)) (hS : va_S A s.heap H locs) (hl : lv_has ls 3 [(0, .ref q_t), (1, .int v1)]) : W p l e rm_X5_passDry s m args below meth c H locs 0 0 (qq_X5_passDry below args s D cy A q_t q_t_kind q_t_grief q_t_bears q_t_rota res) (F0 m 0 ls []) := by
  obtain ⟨hx, hb, hr, hml, hown, hts, hK, hlocks, hA⟩ := id C0
  unfold B_X5_passDry_0 at h
  refine lv_iconst (v := 0) hx hb dX5_passDry_0 (by decide) ?_
  refine lv_istore_n (lv' := [(2, .int 0), (0, .ref q_t), (1, .int v1)]) hx hb dX5_passDry_1 rfl hl (by decide) rfl (fun ls hl => ?_)
  exact t_X5_passDry_2 C0 _ _ _ _ h _ _ _ hP hD hS (lv_sub hl [1, 2, 0] rfl)
def M_X5_passDry   (f : Nat) (w_t : s_W) (v1 : Int32) : Option (Int32 × s_W) := B_X5_passDry_0 f w_t v1
set_option maxHeartbeats 4000000 in
set_option maxRecDepth 100000 in
theorem c_X5_passDry (l : Launch) (D : va_G) (cy : Nat → ClassId) (sz : Nat) (q_t : Nat) (q_t_kind : Nat) (q_t_grief : Nat) (q_t_bears : Nat) (q_t_rota : Nat) (w_t : s_W) (v1 : Int32) {f : Nat} {res : Int32 × s_W} (h : M_X5_passDry f w_t v1 = some res) : ct_i l yX5_passDry (.code yX5_passDry cX5_passDry 3 ((some .boolean)) :: wg_L) rm_X5_passDry D cy sz (wc_X5_passDry cy q_t q_t_kind q_t_grief q_t_bears q_t_rota w_t) [.ref q_t, .int v1] (fun r (u : s_W) => r = res.1 ∧ u = res.2) (fun (u : s_W) => wc_X5_passDry cy q_t q_t_kind q_t_grief q_t_bears q_t_rota u) := by
  refine Met.ofW (cc := cX5_passDry) (maxL := 3) (ret := (some .boolean)) (by decide) rfl ?_
  intro p e s m args below meth c s₁ B hml hv
  obtain ⟨rfl, hsz, hP, hK, hD0⟩ := hv
  subst hsz
  have hD := hD0.self (sz := s.heap.size)
  have hl := lv_entry ([.ref q_t, .int v1]) (n := 3) (Nat.le_of_ble_eq_true rfl)
  rw [lg_entry_eq]
  have C0 : cx_C cX5_passDry ((some .boolean)) 3 RX5 (.code yX5_passDry cX5_passDry 3 ((some .boolean)) :: wg_L) p s m [.ref q_t, .int v1].toArray meth c D cy (va_A (wc_X5_passDry cy q_t q_t_kind q_t_grief q_t_bears q_t_rota w_t) s.heap.size) := ⟨B.exec, B.bytes, B.returns, hml, findClass_of_methodNamed B.named, atoms_spec (ws := .code yX5_passDry cX5_passDry 3 ((some .boolean)) :: wg_L) B.pre, hK, B.notSynchronized, fun q h => Or.inr h⟩
  exact b_X5_passDry_0 C0 h hP hD va_S.rf (lv_sub hl [0, 1] rfl)
